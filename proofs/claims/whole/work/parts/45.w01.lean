def dM (a : Nat) : Bool := Nat.ble 74 a
def dC (a : Nat) : Bool := Nat.blt a 74
/-- LMModel.clearMachine()V -/
def wf_229_93 (Q : Int → hy_m → Prop) (P93 : Int → hy_m → Prop) (x1 : Int) (m : hy_m) : Prop := (2500 ≤ x1 → (Q 0 m)) ∧ (x1 < 2500 → (0 ≤ x1 ∧ x1 < 2500 ∧ (hy_r 0 (x1 + 1) ∧ (P93 (x1 + 1) (hy_u m 97 x1 (-1))))))
def wq_229_93 (x1 : Int) (m : hy_m) (Q : Int → hy_m → Prop) : Prop := wL1 hy_m (wf_229_93 Q) x1 m
def wf_229_63 (Q : Int → hy_m → Prop) (P63 : Int → hy_m → Prop) (x1 : Int) (m : hy_m) : Prop := (20 ≤ x1 → (wq_229_93 2490 m Q)) ∧ (x1 < 20 → (0 ≤ x1 ∧ x1 < 20 ∧ (0 ≤ x1 ∧ x1 < 20 ∧ (hy_r 0 (x1 + 1) ∧ (P63 (x1 + 1) (hy_u (hy_u m 95 x1 0) 96 x1 0))))))
def wq_229_63 (x1 : Int) (m : hy_m) (Q : Int → hy_m → Prop) : Prop := wL1 hy_m (wf_229_63 Q) x1 m
def wq_229 (m : hy_m) (Q : Int → hy_m → Prop) : Prop := wq_229_63 0 (hy_u (hy_u (hy_u (hy_u (hy_u (hy_u (hy_u (hy_u (hy_u (hy_u (hy_u (hy_u m 74 32 0) 74 33 0) 74 34 0) 74 35 0) 74 36 0) 74 37 0) 74 38 0) 74 42 0) 74 44 0) 74 51 0) 74 52 (-9)) 74 59 0) Q
def cs_229 : List (Nat × Nat × sFS) := []
theorem cs_229_ok : kCs dM 0 cs_229 := kCs_n
def lb_229_93 (s : sS) (Q : sQ) (P93 : Int → hy_m → Prop) (R : Int → hy_m → Prop) (x1 : Int) : Nat → Option (sL → sS → Prop) := sLb [(93, fun lv t => sG [(0, 5, 74), (1, 0, 0)] lv (ap1 (fun w1 => ∃ m', t = sM s m' ∧ P93 w1 m')))]
set_option maxRecDepth 30000 in
set_option maxHeartbeats 1000000 in
theorem wj_229_93 (Q : sQ) (R : Int → hy_m → Prop) (s : sS) (P93 : Int → hy_m → Prop) (x1 : Int) (m : hy_m) (hP93 : ∀ (z1 : Int) (m : hy_m), P93 z1 m → sRg [(0, 5, 74), (1, 0, 0)] [z1] → kX dM 0 im_m229 9 93 (sCan [(0, 5, 74), (1, 0, 0)] [z1]) [] (sM s m) Q) (hQ : ∀ x m', R x m' → Q x (sM s m')) (hr : sRg [(0, 5, 74), (1, 0, 0)] [x1]) (h : wf_229_93 R P93 x1 m) : kX dM 0 im_m229 9 93 (sCan [(0, 5, 74), (1, 0, 0)] [x1]) [] (sM s m) Q := by
  unfold wf_229_93 at h
  refine wz2_ok (cs := cs_229) (wr := []) (lb := lb_229_93 s Q P93 R x1) cs_229_ok (kLb_c (kLab (Bd := fun xs t => ap1 (fun w1 => ∃ m', t = sM s m' ∧ P93 w1 m') xs) rfl (fun xs t r1 r2 hb => by obtain ⟨w1, rfl, hb⟩ := ap1_ok hb; obtain ⟨m', rfl, hx⟩ := hb; exact hP93 _ m' hx r1)) kLb_n) (okL_can rfl hr) (fun Y hY hl => ?_)
  have l93 := hl 93 _ rfl
  refine hY _ _ _ _ (hY _ _ _ _ (?_ : Y 97 [(0, 5, true, 74), (1, 0, true, x1)] [(0, true, 2500), (0, true, x1)] (sM s m)))
  refine hY _ _ _ _ ?_
  refine And.intro (fun hc => ?_) (fun hc => ?_)
  · have h := h.1 hc
    show Y 115 [(0, 5, true, 74), (1, 0, true, x1)] [] (sM s m)
    refine hY _ _ _ _ ?_
    exact hQ 0 m h
  · have h := h.2 hc
    refine hY _ _ _ _ (hY _ _ _ _ (hY _ _ _ _ (?_ : Y 105 [(0, 5, true, 74), (1, 0, true, x1)] [(0, true, x1), (5, true, 97)] (sM s m))))
    refine hY _ _ _ _ (?_ : Y 108 [(0, 5, true, 74), (1, 0, true, x1)] [(1, true, (-1)), (0, true, x1), (5, true, 97)] (sM s m))
    refine hY _ _ _ _ ?_
    refine (And.intro h.1 (And.intro h.2.1 ?_))
    refine hY _ _ _ _ (hY _ _ _ _ (?_ : Y 93 [(1, 0, false, x1 + 1), (0, 5, true, 74)] [] (sM s (hy_u m 97 x1 (-1)))))
    refine l93 _ _ ?_
    refine And.intro h.2.2.1 ?_
    exact (Exists.intro (hy_u m 97 x1 (-1)) (And.intro rfl h.2.2.2))
theorem wk_229_93 (Q : sQ) (R : Int → hy_m → Prop) (s : sS) (x1 : Int) (hQ : ∀ x m', R x m' → Q x (sM s m')) (hr : sRg [(0, 5, 74), (1, 0, 0)] [x1]) (h : wq_229_93 x1 s.2.2.2 R) : kX dM 0 im_m229 9 93 (sCan [(0, 5, 74), (1, 0, 0)] [x1]) [] s Q :=
  h (fun x1 m => sRg [(0, 5, 74), (1, 0, 0)] [x1] → kX dM 0 im_m229 9 93 (sCan [(0, 5, 74), (1, 0, 0)] [x1]) [] (sM s m) Q) (fun x1 m h hr => wj_229_93 Q R s (fun x1 m => sRg [(0, 5, 74), (1, 0, 0)] [x1] → kX dM 0 im_m229 9 93 (sCan [(0, 5, 74), (1, 0, 0)] [x1]) [] (sM s m) Q) x1 m  (fun _ _ hp hr => hp hr) hQ hr h) hr
def lb_229_63 (s : sS) (Q : sQ) (P63 : Int → hy_m → Prop) (R : Int → hy_m → Prop) (x1 : Int) : Nat → Option (sL → sS → Prop) := sLb [(93, fun lv t => sG [(0, 5, 74), (1, 0, 0)] lv (ap1 (fun w1 => ∃ m', t = sM s m' ∧ wq_229_93 w1 m' R))), (63, fun lv t => sG [(0, 5, 74), (1, 0, 0)] lv (ap1 (fun w1 => ∃ m', t = sM s m' ∧ P63 w1 m')))]
set_option maxRecDepth 30000 in
set_option maxHeartbeats 1000000 in
theorem wj_229_63 (Q : sQ) (R : Int → hy_m → Prop) (s : sS) (P63 : Int → hy_m → Prop) (x1 : Int) (m : hy_m) (hP63 : ∀ (z1 : Int) (m : hy_m), P63 z1 m → sRg [(0, 5, 74), (1, 0, 0)] [z1] → kX dM 0 im_m229 9 63 (sCan [(0, 5, 74), (1, 0, 0)] [z1]) [] (sM s m) Q) (hQ : ∀ x m', R x m' → Q x (sM s m')) (hr : sRg [(0, 5, 74), (1, 0, 0)] [x1]) (h : wf_229_63 R P63 x1 m) : kX dM 0 im_m229 9 63 (sCan [(0, 5, 74), (1, 0, 0)] [x1]) [] (sM s m) Q := by
  unfold wf_229_63 at h
  refine wz2_ok (cs := cs_229) (wr := []) (lb := lb_229_63 s Q P63 R x1) cs_229_ok (kLb_c (kLab (Bd := fun xs t => ap1 (fun w1 => ∃ m', t = sM s m' ∧ wq_229_93 w1 m' R) xs) rfl (fun xs t r1 r2 hb => by obtain ⟨w1, rfl, hb⟩ := ap1_ok hb; obtain ⟨m', rfl, hx⟩ := hb; exact wk_229_93 Q R (sM s m') _ (fun x m'' hy => hQ x m'' hy) r1 hx)) (kLb_c (kLab (Bd := fun xs t => ap1 (fun w1 => ∃ m', t = sM s m' ∧ P63 w1 m') xs) rfl (fun xs t r1 r2 hb => by obtain ⟨w1, rfl, hb⟩ := ap1_ok hb; obtain ⟨m', rfl, hx⟩ := hb; exact hP63 _ m' hx r1)) kLb_n)) (okL_can rfl hr) (fun Y hY hl => ?_)
  have l93 := hl 93 _ rfl
  have l63 := hl 63 _ rfl
  refine hY _ _ _ _ (hY _ _ _ _ (?_ : Y 66 [(0, 5, true, 74), (1, 0, true, x1)] [(0, true, 20), (0, true, x1)] (sM s m)))
  refine hY _ _ _ _ ?_
  refine And.intro (fun hc => ?_) (fun hc => ?_)
  · have h := h.1 hc
    refine hY _ _ _ _ (hY _ _ _ _ (?_ : Y 93 [(1, 0, true, 2490), (0, 5, true, 74)] [] (sM s m)))
    refine l93 _ _ ?_
    exact (Exists.intro m (And.intro rfl h))
  · have h := h.2 hc
    refine hY _ _ _ _ (hY _ _ _ _ (hY _ _ _ _ (?_ : Y 74 [(0, 5, true, 74), (1, 0, true, x1)] [(0, true, x1), (5, true, 95)] (sM s m))))
    refine hY _ _ _ _ (?_ : Y 75 [(0, 5, true, 74), (1, 0, true, x1)] [(2, true, 0), (0, true, x1), (5, true, 95)] (sM s m))
    refine hY _ _ _ _ ?_
    refine (And.intro h.1 (And.intro h.2.1 ?_))
    refine hY _ _ _ _ (hY _ _ _ _ (hY _ _ _ _ (?_ : Y 81 [(0, 5, true, 74), (1, 0, true, x1)] [(0, true, x1), (5, true, 96)] (sM s (hy_u m 95 x1 0)))))
    refine hY _ _ _ _ (?_ : Y 82 [(0, 5, true, 74), (1, 0, true, x1)] [(2, true, 0), (0, true, x1), (5, true, 96)] (sM s (hy_u m 95 x1 0)))
    refine hY _ _ _ _ ?_
    refine (And.intro h.2.2.1 (And.intro h.2.2.2.1 ?_))
    refine hY _ _ _ _ (hY _ _ _ _ (?_ : Y 63 [(1, 0, false, x1 + 1), (0, 5, true, 74)] [] (sM s (hy_u (hy_u m 95 x1 0) 96 x1 0))))
    refine l63 _ _ ?_
    refine And.intro h.2.2.2.2.1 ?_
    exact (Exists.intro (hy_u (hy_u m 95 x1 0) 96 x1 0) (And.intro rfl h.2.2.2.2.2))
theorem wk_229_63 (Q : sQ) (R : Int → hy_m → Prop) (s : sS) (x1 : Int) (hQ : ∀ x m', R x m' → Q x (sM s m')) (hr : sRg [(0, 5, 74), (1, 0, 0)] [x1]) (h : wq_229_63 x1 s.2.2.2 R) : kX dM 0 im_m229 9 63 (sCan [(0, 5, 74), (1, 0, 0)] [x1]) [] s Q :=
  h (fun x1 m => sRg [(0, 5, 74), (1, 0, 0)] [x1] → kX dM 0 im_m229 9 63 (sCan [(0, 5, 74), (1, 0, 0)] [x1]) [] (sM s m) Q) (fun x1 m h hr => wj_229_63 Q R s (fun x1 m => sRg [(0, 5, 74), (1, 0, 0)] [x1] → kX dM 0 im_m229 9 63 (sCan [(0, 5, 74), (1, 0, 0)] [x1]) [] (sM s m) Q) x1 m  (fun _ _ hp hr => hp hr) hQ hr h) hr
def lb_229_0 (s : sS) (Q : sQ) (R : Int → hy_m → Prop) : Nat → Option (sL → sS → Prop) := sLb [(63, fun lv t => sG [(0, 5, 74), (1, 0, 0)] lv (ap1 (fun w1 => ∃ m', t = sM s m' ∧ wq_229_63 w1 m' R)))]
set_option maxRecDepth 30000 in
set_option maxHeartbeats 1000000 in
theorem wk_229_0 (Q : sQ) (R : Int → hy_m → Prop) (s : sS) (hQ : ∀ x m', R x m' → Q x (sM s m')) (hr : sRg [(0, 5, 74)] []) (h : wq_229 s.2.2.2 R) : kX dM 0 im_m229 9 0 (sCan [(0, 5, 74)] []) [] s Q := by
  unfold wq_229 at h
  refine wz2_ok (cs := cs_229) (wr := []) (lb := lb_229_0 s Q R) cs_229_ok (kLb_c (kLab (Bd := fun xs t => ap1 (fun w1 => ∃ m', t = sM s m' ∧ wq_229_63 w1 m' R) xs) rfl (fun xs t r1 r2 hb => by obtain ⟨w1, rfl, hb⟩ := ap1_ok hb; obtain ⟨m', rfl, hx⟩ := hb; exact wk_229_63 Q R (sM s m') _ (fun x m'' hy => hQ x m'' hy) r1 hx)) kLb_n) (okL_can rfl hr) (fun Y hY hl => ?_)
  have l63 := hl 63 _ rfl
  refine hY _ _ _ _ (hY _ _ _ _ (?_ : Y 2 [(0, 5, true, 74)] [(2, true, 0), (5, true, 74)] s))
  refine hY _ _ _ _ ?_
  refine hY _ _ _ _ (hY _ _ _ _ (?_ : Y 7 [(0, 5, true, 74)] [(2, true, 0), (5, true, 74)] (sM s (hy_u s.2.2.2 74 32 0))))
  refine hY _ _ _ _ ?_
  refine hY _ _ _ _ (hY _ _ _ _ (?_ : Y 12 [(0, 5, true, 74)] [(2, true, 0), (5, true, 74)] (sM s (hy_u (hy_u s.2.2.2 74 32 0) 74 33 0))))
  refine hY _ _ _ _ ?_
  refine hY _ _ _ _ (hY _ _ _ _ (?_ : Y 17 [(0, 5, true, 74)] [(2, true, 0), (5, true, 74)] (sM s (hy_u (hy_u (hy_u s.2.2.2 74 32 0) 74 33 0) 74 34 0))))
  refine hY _ _ _ _ ?_
  refine hY _ _ _ _ (hY _ _ _ _ (?_ : Y 22 [(0, 5, true, 74)] [(2, true, 0), (5, true, 74)] (sM s (hy_u (hy_u (hy_u (hy_u s.2.2.2 74 32 0) 74 33 0) 74 34 0) 74 35 0))))
  refine hY _ _ _ _ ?_
  refine hY _ _ _ _ (hY _ _ _ _ (?_ : Y 27 [(0, 5, true, 74)] [(2, true, 0), (5, true, 74)] (sM s (hy_u (hy_u (hy_u (hy_u (hy_u s.2.2.2 74 32 0) 74 33 0) 74 34 0) 74 35 0) 74 36 0))))
  refine hY _ _ _ _ ?_
  refine hY _ _ _ _ (hY _ _ _ _ (?_ : Y 32 [(0, 5, true, 74)] [(2, true, 0), (5, true, 74)] (sM s (hy_u (hy_u (hy_u (hy_u (hy_u (hy_u s.2.2.2 74 32 0) 74 33 0) 74 34 0) 74 35 0) 74 36 0) 74 37 0))))
  refine hY _ _ _ _ ?_
  refine hY _ _ _ _ (hY _ _ _ _ (?_ : Y 37 [(0, 5, true, 74)] [(2, true, 0), (5, true, 74)] (sM s (hy_u (hy_u (hy_u (hy_u (hy_u (hy_u (hy_u s.2.2.2 74 32 0) 74 33 0) 74 34 0) 74 35 0) 74 36 0) 74 37 0) 74 38 0))))
  refine hY _ _ _ _ ?_
  refine hY _ _ _ _ (hY _ _ _ _ (?_ : Y 42 [(0, 5, true, 74)] [(2, true, 0), (5, true, 74)] (sM s (hy_u (hy_u (hy_u (hy_u (hy_u (hy_u (hy_u (hy_u s.2.2.2 74 32 0) 74 33 0) 74 34 0) 74 35 0) 74 36 0) 74 37 0) 74 38 0) 74 42 0))))
  refine hY _ _ _ _ ?_
  refine hY _ _ _ _ (hY _ _ _ _ (?_ : Y 47 [(0, 5, true, 74)] [(2, true, 0), (5, true, 74)] (sM s (hy_u (hy_u (hy_u (hy_u (hy_u (hy_u (hy_u (hy_u (hy_u s.2.2.2 74 32 0) 74 33 0) 74 34 0) 74 35 0) 74 36 0) 74 37 0) 74 38 0) 74 42 0) 74 44 0))))
  refine hY _ _ _ _ ?_
  refine hY _ _ _ _ (hY _ _ _ _ (?_ : Y 53 [(0, 5, true, 74)] [(0, true, (-9)), (5, true, 74)] (sM s (hy_u (hy_u (hy_u (hy_u (hy_u (hy_u (hy_u (hy_u (hy_u (hy_u s.2.2.2 74 32 0) 74 33 0) 74 34 0) 74 35 0) 74 36 0) 74 37 0) 74 38 0) 74 42 0) 74 44 0) 74 51 0))))
  refine hY _ _ _ _ ?_
  refine hY _ _ _ _ (hY _ _ _ _ (?_ : Y 58 [(0, 5, true, 74)] [(2, true, 0), (5, true, 74)] (sM s (hy_u (hy_u (hy_u (hy_u (hy_u (hy_u (hy_u (hy_u (hy_u (hy_u (hy_u s.2.2.2 74 32 0) 74 33 0) 74 34 0) 74 35 0) 74 36 0) 74 37 0) 74 38 0) 74 42 0) 74 44 0) 74 51 0) 74 52 (-9)))))
  refine hY _ _ _ _ ?_
  refine hY _ _ _ _ (hY _ _ _ _ (?_ : Y 63 [(1, 2, true, 0), (0, 5, true, 74)] [] (sM s (hy_u (hy_u (hy_u (hy_u (hy_u (hy_u (hy_u (hy_u (hy_u (hy_u (hy_u (hy_u s.2.2.2 74 32 0) 74 33 0) 74 34 0) 74 35 0) 74 36 0) 74 37 0) 74 38 0) 74 42 0) 74 44 0) 74 51 0) 74 52 (-9)) 74 59 0))))
  refine l63 _ _ ?_
  exact (Exists.intro (hy_u (hy_u (hy_u (hy_u (hy_u (hy_u (hy_u (hy_u (hy_u (hy_u (hy_u (hy_u s.2.2.2 74 32 0) 74 33 0) 74 34 0) 74 35 0) 74 36 0) 74 37 0) 74 38 0) 74 42 0) 74 44 0) 74 51 0) 74 52 (-9)) 74 59 0) (And.intro rfl h))
def we_229 : sFf := sEf 2 [(0, 5, 74)] (fun xs s Q => ap0 (wq_229 s.2.2.2 Q) xs)
theorem we_229_ok : kS dM 1 229 9 (.inl we_229) := sEf_ok (mi := im_m229) rfl rfl rfl (fun R xs s r1 hb => by obtain ⟨rfl, hb⟩ := ap0_ok hb; exact wk_229_0 _ R s (fun x m' hx => ⟨m', rfl, hx⟩) r1 hb)
/-- LMModel.isIn(III)Z -/
def wq_170 (x0 : Int) (x1 : Int) (x2 : Int) (m : hy_m) (Q : Int → hy_m → Prop) : Prop := (x0 < x1 → (Q 0 m)) ∧ (x1 ≤ x0 → ((x2 < x0 → (Q 0 m)) ∧ (x0 ≤ x2 → (Q 1 m))))
def cs_170 : List (Nat × Nat × sFS) := []
theorem cs_170_ok : kCs dM 0 cs_170 := kCs_n
def lb_170_0 (s : sS) (Q : sQ) (R : Int → hy_m → Prop) (x0 : Int) (x1 : Int) (x2 : Int) : Nat → Option (sL → sS → Prop) := sLb []
set_option maxRecDepth 30000 in
set_option maxHeartbeats 1000000 in
theorem wk_170_0 (Q : sQ) (R : Int → hy_m → Prop) (s : sS) (x0 : Int) (x1 : Int) (x2 : Int) (hQ : ∀ x m', R x m' → Q x (sM s m')) (hr : sRg [(0, 0, 0), (1, 0, 0), (2, 0, 0)] [x0, x1, x2]) (h : wq_170 x0 x1 x2 s.2.2.2 R) : kX dM 0 im_m170 2 0 (sCan [(0, 0, 0), (1, 0, 0), (2, 0, 0)] [x0, x1, x2]) [] s Q := by
  unfold wq_170 at h
  refine wz2_ok (cs := cs_170) (wr := []) (lb := lb_170_0 s Q R x0 x1 x2) cs_170_ok kLb_n (okL_can rfl hr) (fun Y hY hl => ?_)
  refine hY _ _ _ _ (hY _ _ _ _ (?_ : Y 2 [(0, 0, true, x0), (1, 0, true, x1), (2, 0, true, x2)] [(0, true, x1), (0, true, x0)] s))
  refine hY _ _ _ _ ?_
  refine And.intro (fun hc => ?_) (fun hc => ?_)
  · have h := h.1 hc
    refine hY _ _ _ _ (?_ : Y 15 [(0, 0, true, x0), (1, 0, true, x1), (2, 0, true, x2)] [(2, true, 0)] s)
    refine hY _ _ _ _ ?_
    exact hQ 0 s.2.2.2 h
  · have h := h.2 hc
    refine hY _ _ _ _ (hY _ _ _ _ (?_ : Y 7 [(0, 0, true, x0), (1, 0, true, x1), (2, 0, true, x2)] [(0, true, x2), (0, true, x0)] s))
    refine hY _ _ _ _ ?_
    refine And.intro (fun hc => ?_) (fun hc => ?_)
    · have h := h.1 hc
      refine hY _ _ _ _ (?_ : Y 15 [(0, 0, true, x0), (1, 0, true, x1), (2, 0, true, x2)] [(2, true, 0)] s)
      refine hY _ _ _ _ ?_
      exact hQ 0 s.2.2.2 h
    · have h := h.2 hc
      refine hY _ _ _ _ (hY _ _ _ _ (?_ : Y 15 [(0, 0, true, x0), (1, 0, true, x1), (2, 0, true, x2)] [(2, true, 1)] s))
      refine hY _ _ _ _ ?_
      exact hQ 1 s.2.2.2 h
def we_170 : sFf := sEf 3 [(0, 0, 0), (1, 0, 0), (2, 0, 0)] (fun xs s Q => ap3 (fun x0 x1 x2 => wq_170 x0 x1 x2 s.2.2.2 Q) xs)
theorem we_170_ok : kS dM 1 170 2 (.inl we_170) := sEf_ok (mi := im_m170) rfl rfl rfl (fun R xs s r1 hb => by obtain ⟨x0, x1, x2, rfl, hb⟩ := ap3_ok hb; exact wk_170_0 _ R s x0 x1 x2 (fun x m' hx => ⟨m', rfl, hx⟩) r1 hb)
/-- LMModel.spelled(IIII)J -/
def wq_171 (x0 : Int) (x1 : Int) (x2 : Int) (x3 : Int) (m : hy_m) (Q : Int → hy_m → Prop) : Prop := (x2 ≠ 0 → ((x3 ≠ 0 → (hy_r 1 ((128 * ((128 * ((128 * ((128 * 0) + x0)) + x1)) + x2)) + x3) ∧ (Q ((128 * ((128 * ((128 * ((128 * 0) + x0)) + x1)) + x2)) + x3) m))) ∧ (x3 = 0 → (hy_r 1 ((128 * ((128 * ((128 * 0) + x0)) + x1)) + x2) ∧ (Q ((128 * ((128 * ((128 * 0) + x0)) + x1)) + x2) m))))) ∧ (x2 = 0 → ((x3 ≠ 0 → (hy_r 1 ((128 * ((128 * ((128 * 0) + x0)) + x1)) + x3) ∧ (Q ((128 * ((128 * ((128 * 0) + x0)) + x1)) + x3) m))) ∧ (x3 = 0 → (hy_r 1 ((128 * ((128 * 0) + x0)) + x1) ∧ (Q ((128 * ((128 * 0) + x0)) + x1) m)))))
def cs_171 : List (Nat × Nat × sFS) := []
theorem cs_171_ok : kCs dM 0 cs_171 := kCs_n
def lb_171_0 (s : sS) (Q : sQ) (R : Int → hy_m → Prop) (x0 : Int) (x1 : Int) (x2 : Int) (x3 : Int) : Nat → Option (sL → sS → Prop) := sLb []
set_option maxRecDepth 30000 in
set_option maxHeartbeats 1000000 in
theorem wk_171_0 (Q : sQ) (R : Int → hy_m → Prop) (s : sS) (x0 : Int) (x1 : Int) (x2 : Int) (x3 : Int) (hQ : ∀ x m', R x m' → Q x (sM s m')) (hr : sRg [(0, 0, 0), (1, 0, 0), (2, 0, 0), (3, 0, 0)] [x0, x1, x2, x3]) (h : wq_171 x0 x1 x2 x3 s.2.2.2 R) : kX dM 0 im_m171 1 0 (sCan [(0, 0, 0), (1, 0, 0), (2, 0, 0), (3, 0, 0)] [x0, x1, x2, x3]) [] s Q := by
  unfold wq_171 at h
  refine wz2_ok (cs := cs_171) (wr := []) (lb := lb_171_0 s Q R x0 x1 x2 x3) cs_171_ok kLb_n (okL_can rfl hr) (fun Y hY hl => ?_)
  refine hY _ _ _ _ (hY _ _ _ _ (hY _ _ _ _ (?_ : Y 6 [(4, 1, true, 0), (0, 0, true, x0), (1, 0, true, x1), (2, 0, true, x2), (3, 0, true, x3)] [(1, true, 128)] s)))
  refine hY _ _ _ _ (hY _ _ _ _ (hY _ _ _ _ (?_ : Y 10 [(4, 1, true, 0), (0, 0, true, x0), (1, 0, true, x1), (2, 0, true, x2), (3, 0, true, x3)] [(0, true, x0), (1, false, 128 * 0)] s)))
  refine hY _ _ _ _ ?_
  refine hY _ _ _ _ (hY _ _ _ _ (hY _ _ _ _ (?_ : Y 17 [(4, 1, false, (128 * 0) + x0), (0, 0, true, x0), (1, 0, true, x1), (2, 0, true, x2), (3, 0, true, x3)] [(1, true, 128)] s)))
  refine hY _ _ _ _ (hY _ _ _ _ (hY _ _ _ _ (?_ : Y 21 [(4, 1, false, (128 * 0) + x0), (0, 0, true, x0), (1, 0, true, x1), (2, 0, true, x2), (3, 0, true, x3)] [(0, true, x1), (1, false, 128 * ((128 * 0) + x0))] s)))
  refine hY _ _ _ _ ?_
  refine hY _ _ _ _ (hY _ _ _ _ (hY _ _ _ _ (?_ : Y 26 [(4, 1, false, (128 * ((128 * 0) + x0)) + x1), (0, 0, true, x0), (1, 0, true, x1), (2, 0, true, x2), (3, 0, true, x3)] [(0, true, x2)] s)))
  refine hY _ _ _ _ ?_
  refine And.intro (fun hc => ?_) (fun hc => ?_)
  · have h := h.1 hc
    refine hY _ _ _ _ (hY _ _ _ _ (hY _ _ _ _ (?_ : Y 40 [(4, 1, false, (128 * ((128 * 0) + x0)) + x1), (0, 0, true, x0), (1, 0, true, x1), (2, 0, true, x2), (3, 0, true, x3)] [(1, false, 128 * ((128 * ((128 * 0) + x0)) + x1))] s)))
    refine hY _ _ _ _ (?_ : Y 41 [(4, 1, false, (128 * ((128 * 0) + x0)) + x1), (0, 0, true, x0), (1, 0, true, x1), (2, 0, true, x2), (3, 0, true, x3)] [(0, true, x2), (1, false, 128 * ((128 * ((128 * 0) + x0)) + x1))] s)
    refine hY _ _ _ _ ?_
    refine hY _ _ _ _ (hY _ _ _ _ (hY _ _ _ _ (?_ : Y 46 [(4, 1, false, (128 * ((128 * ((128 * 0) + x0)) + x1)) + x2), (0, 0, true, x0), (1, 0, true, x1), (2, 0, true, x2), (3, 0, true, x3)] [(0, true, x3)] s)))
    refine hY _ _ _ _ ?_
    refine And.intro (fun hc => ?_) (fun hc => ?_)
    · have h := h.1 hc
      refine hY _ _ _ _ (hY _ _ _ _ (hY _ _ _ _ (?_ : Y 60 [(4, 1, false, (128 * ((128 * ((128 * 0) + x0)) + x1)) + x2), (0, 0, true, x0), (1, 0, true, x1), (2, 0, true, x2), (3, 0, true, x3)] [(1, false, 128 * ((128 * ((128 * ((128 * 0) + x0)) + x1)) + x2))] s)))
      refine hY _ _ _ _ (?_ : Y 61 [(4, 1, false, (128 * ((128 * ((128 * 0) + x0)) + x1)) + x2), (0, 0, true, x0), (1, 0, true, x1), (2, 0, true, x2), (3, 0, true, x3)] [(0, true, x3), (1, false, 128 * ((128 * ((128 * ((128 * 0) + x0)) + x1)) + x2))] s)
      refine hY _ _ _ _ ?_
      refine hY _ _ _ _ (?_ : Y 63 [(4, 1, false, (128 * ((128 * ((128 * 0) + x0)) + x1)) + x2), (0, 0, true, x0), (1, 0, true, x1), (2, 0, true, x2), (3, 0, true, x3)] [(1, false, (128 * ((128 * ((128 * ((128 * 0) + x0)) + x1)) + x2)) + x3)] s)
      refine hY _ _ _ _ ?_
      refine And.intro h.1 ?_
      exact hQ ((128 * ((128 * ((128 * ((128 * 0) + x0)) + x1)) + x2)) + x3) s.2.2.2 h.2
    · have h := h.2 hc
      refine hY _ _ _ _ (hY _ _ _ _ (?_ : Y 63 [(4, 1, false, (128 * ((128 * ((128 * 0) + x0)) + x1)) + x2), (0, 0, true, x0), (1, 0, true, x1), (2, 0, true, x2), (3, 0, true, x3)] [(1, false, (128 * ((128 * ((128 * 0) + x0)) + x1)) + x2)] s))
      refine hY _ _ _ _ ?_
      refine And.intro h.1 ?_
      exact hQ ((128 * ((128 * ((128 * 0) + x0)) + x1)) + x2) s.2.2.2 h.2
  · have h := h.2 hc
    refine hY _ _ _ _ (hY _ _ _ _ (hY _ _ _ _ (?_ : Y 45 [(4, 1, false, (128 * ((128 * 0) + x0)) + x1), (0, 0, true, x0), (1, 0, true, x1), (2, 0, true, x2), (3, 0, true, x3)] [] s)))
    refine hY _ _ _ _ (?_ : Y 46 [(4, 1, false, (128 * ((128 * 0) + x0)) + x1), (0, 0, true, x0), (1, 0, true, x1), (2, 0, true, x2), (3, 0, true, x3)] [(0, true, x3)] s)
    refine hY _ _ _ _ ?_
    refine And.intro (fun hc => ?_) (fun hc => ?_)
    · have h := h.1 hc
      refine hY _ _ _ _ (hY _ _ _ _ (hY _ _ _ _ (?_ : Y 60 [(4, 1, false, (128 * ((128 * 0) + x0)) + x1), (0, 0, true, x0), (1, 0, true, x1), (2, 0, true, x2), (3, 0, true, x3)] [(1, false, 128 * ((128 * ((128 * 0) + x0)) + x1))] s)))
      refine hY _ _ _ _ (?_ : Y 61 [(4, 1, false, (128 * ((128 * 0) + x0)) + x1), (0, 0, true, x0), (1, 0, true, x1), (2, 0, true, x2), (3, 0, true, x3)] [(0, true, x3), (1, false, 128 * ((128 * ((128 * 0) + x0)) + x1))] s)
      refine hY _ _ _ _ ?_
      refine hY _ _ _ _ (?_ : Y 63 [(4, 1, false, (128 * ((128 * 0) + x0)) + x1), (0, 0, true, x0), (1, 0, true, x1), (2, 0, true, x2), (3, 0, true, x3)] [(1, false, (128 * ((128 * ((128 * 0) + x0)) + x1)) + x3)] s)
      refine hY _ _ _ _ ?_
      refine And.intro h.1 ?_
      exact hQ ((128 * ((128 * ((128 * 0) + x0)) + x1)) + x3) s.2.2.2 h.2
    · have h := h.2 hc
      refine hY _ _ _ _ (hY _ _ _ _ (?_ : Y 63 [(4, 1, false, (128 * ((128 * 0) + x0)) + x1), (0, 0, true, x0), (1, 0, true, x1), (2, 0, true, x2), (3, 0, true, x3)] [(1, false, (128 * ((128 * 0) + x0)) + x1)] s))
      refine hY _ _ _ _ ?_
      refine And.intro h.1 ?_
      exact hQ ((128 * ((128 * 0) + x0)) + x1) s.2.2.2 h.2
def we_171 : sFf := sEf 6 [(0, 0, 0), (1, 0, 0), (2, 0, 0), (3, 0, 0)] (fun xs s Q => ap4 (fun x0 x1 x2 x3 => wq_171 x0 x1 x2 x3 s.2.2.2 Q) xs)
theorem we_171_ok : kS dM 1 171 1 (.inl we_171) := sEf_ok (mi := im_m171) rfl rfl rfl (fun R xs s r1 hb => by obtain ⟨x0, x1, x2, x3, rfl, hb⟩ := ap4_ok hb; exact wk_171_0 _ R s x0 x1 x2 x3 (fun x m' hx => ⟨m', rfl, hx⟩) r1 hb)
/-- LMModel.letter()I -/
def wq_172 (m : hy_m) (Q : Int → hy_m → Prop) : Prop := ((m 74 1) ≤ (m 74 14) → (Q 0 m)) ∧ ((m 74 14) < (m 74 1) → (0 ≤ (m 74 14) ∧ (m 74 14) < 120 ∧ (Q (m 75 (m 74 14)) m)))
def cs_172 : List (Nat × Nat × sFS) := []
theorem cs_172_ok : kCs dM 0 cs_172 := kCs_n
def lb_172_0 (s : sS) (Q : sQ) (R : Int → hy_m → Prop) : Nat → Option (sL → sS → Prop) := sLb []
set_option maxRecDepth 30000 in
set_option maxHeartbeats 1000000 in
theorem wk_172_0 (Q : sQ) (R : Int → hy_m → Prop) (s : sS) (hQ : ∀ x m', R x m' → Q x (sM s m')) (hr : sRg [(0, 5, 74)] []) (h : wq_172 s.2.2.2 R) : kX dM 0 im_m172 0 0 (sCan [(0, 5, 74)] []) [] s Q := by
  unfold wq_172 at h
  refine wz2_ok (cs := cs_172) (wr := []) (lb := lb_172_0 s Q R) cs_172_ok kLb_n (okL_can rfl hr) (fun Y hY hl => ?_)
  refine hY _ _ _ _ (hY _ _ _ _ (hY _ _ _ _ (?_ : Y 5 [(0, 5, true, 74)] [(5, true, 74), (0, true, s.2.2.2 74 14)] s)))
  refine hY _ _ _ _ (?_ : Y 8 [(0, 5, true, 74)] [(0, true, s.2.2.2 74 1), (0, true, s.2.2.2 74 14)] s)
  refine hY _ _ _ _ ?_
  refine And.intro (fun hc => ?_) (fun hc => ?_)
  · have h := h.1 hc
    refine hY _ _ _ _ (?_ : Y 24 [(0, 5, true, 74)] [(2, true, 0)] s)
    refine hY _ _ _ _ ?_
    exact hQ 0 s.2.2.2 h
  · have h := h.2 hc
    refine hY _ _ _ _ (hY _ _ _ _ (hY _ _ _ _ (?_ : Y 16 [(0, 5, true, 74)] [(5, true, 74), (5, true, 75)] s)))
    refine hY _ _ _ _ (?_ : Y 19 [(0, 5, true, 74)] [(0, true, s.2.2.2 74 14), (5, true, 75)] s)
    refine hY _ _ _ _ ?_
    refine (And.intro h.1 (And.intro h.2.1 ?_))
    refine hY _ _ _ _ (?_ : Y 24 [(0, 5, true, 74)] [(0, true, s.2.2.2 75 (s.2.2.2 74 14))] s)
    refine hY _ _ _ _ ?_
    exact hQ (s.2.2.2 75 (s.2.2.2 74 14)) s.2.2.2 h.2.2
def we_172 : sFf := sEf 1 [(0, 5, 74)] (fun xs s Q => ap0 (wq_172 s.2.2.2 Q) xs)
theorem we_172_ok : kS dM 1 172 0 (.inl we_172) := sEf_ok (mi := im_m172) rfl rfl rfl (fun R xs s r1 hb => by obtain ⟨rfl, hb⟩ := ap0_ok hb; exact wk_172_0 _ R s (fun x m' hx => ⟨m', rfl, hx⟩) r1 hb)
/-- LMModel.isSmall(I)Z -/
def wq_173 (x0 : Int) (m : hy_m) (Q : Int → hy_m → Prop) : Prop := (x0 < 97 → (Q 0 m)) ∧ (97 ≤ x0 → ((122 < x0 → (Q 0 m)) ∧ (x0 ≤ 122 → (Q 1 m))))
def cs_173 : List (Nat × Nat × sFS) := []
theorem cs_173_ok : kCs dM 0 cs_173 := kCs_n
def lb_173_0 (s : sS) (Q : sQ) (R : Int → hy_m → Prop) (x0 : Int) : Nat → Option (sL → sS → Prop) := sLb []
set_option maxRecDepth 30000 in
set_option maxHeartbeats 1000000 in
theorem wk_173_0 (Q : sQ) (R : Int → hy_m → Prop) (s : sS) (x0 : Int) (hQ : ∀ x m', R x m' → Q x (sM s m')) (hr : sRg [(0, 0, 0)] [x0]) (h : wq_173 x0 s.2.2.2 R) : kX dM 0 im_m173 2 0 (sCan [(0, 0, 0)] [x0]) [] s Q := by
  unfold wq_173 at h
  refine wz2_ok (cs := cs_173) (wr := []) (lb := lb_173_0 s Q R x0) cs_173_ok kLb_n (okL_can rfl hr) (fun Y hY hl => ?_)
  refine hY _ _ _ _ (hY _ _ _ _ (?_ : Y 3 [(0, 0, true, x0)] [(0, true, 97), (0, true, x0)] s))
  refine hY _ _ _ _ ?_
  refine And.intro (fun hc => ?_) (fun hc => ?_)
  · have h := h.1 hc
    refine hY _ _ _ _ (?_ : Y 17 [(0, 0, true, x0)] [(2, true, 0)] s)
    refine hY _ _ _ _ ?_
    exact hQ 0 s.2.2.2 h
  · have h := h.2 hc
    refine hY _ _ _ _ (hY _ _ _ _ (?_ : Y 9 [(0, 0, true, x0)] [(0, true, 122), (0, true, x0)] s))
    refine hY _ _ _ _ ?_
    refine And.intro (fun hc => ?_) (fun hc => ?_)
    · have h := h.1 hc
      refine hY _ _ _ _ (?_ : Y 17 [(0, 0, true, x0)] [(2, true, 0)] s)
      refine hY _ _ _ _ ?_
      exact hQ 0 s.2.2.2 h
    · have h := h.2 hc
      refine hY _ _ _ _ (hY _ _ _ _ (?_ : Y 17 [(0, 0, true, x0)] [(2, true, 1)] s))
      refine hY _ _ _ _ ?_
      exact hQ 1 s.2.2.2 h
def we_173 : sFf := sEf 1 [(0, 0, 0)] (fun xs s Q => ap1 (fun x0 => wq_173 x0 s.2.2.2 Q) xs)
theorem we_173_ok : kS dM 1 173 2 (.inl we_173) := sEf_ok (mi := im_m173) rfl rfl rfl (fun R xs s r1 hb => by obtain ⟨x0, rfl, hb⟩ := ap1_ok hb; exact wk_173_0 _ R s x0 (fun x m' hx => ⟨m', rfl, hx⟩) r1 hb)
/-- LMModel.isLarge(I)Z -/
def wq_174 (x0 : Int) (m : hy_m) (Q : Int → hy_m → Prop) : Prop := (x0 < 65 → (Q 0 m)) ∧ (65 ≤ x0 → ((90 < x0 → (Q 0 m)) ∧ (x0 ≤ 90 → (Q 1 m))))
def cs_174 : List (Nat × Nat × sFS) := []
theorem cs_174_ok : kCs dM 0 cs_174 := kCs_n
def lb_174_0 (s : sS) (Q : sQ) (R : Int → hy_m → Prop) (x0 : Int) : Nat → Option (sL → sS → Prop) := sLb []
set_option maxRecDepth 30000 in
set_option maxHeartbeats 1000000 in
theorem wk_174_0 (Q : sQ) (R : Int → hy_m → Prop) (s : sS) (x0 : Int) (hQ : ∀ x m', R x m' → Q x (sM s m')) (hr : sRg [(0, 0, 0)] [x0]) (h : wq_174 x0 s.2.2.2 R) : kX dM 0 im_m174 2 0 (sCan [(0, 0, 0)] [x0]) [] s Q := by
  unfold wq_174 at h
  refine wz2_ok (cs := cs_174) (wr := []) (lb := lb_174_0 s Q R x0) cs_174_ok kLb_n (okL_can rfl hr) (fun Y hY hl => ?_)
  refine hY _ _ _ _ (hY _ _ _ _ (?_ : Y 3 [(0, 0, true, x0)] [(0, true, 65), (0, true, x0)] s))
  refine hY _ _ _ _ ?_
  refine And.intro (fun hc => ?_) (fun hc => ?_)
  · have h := h.1 hc
    refine hY _ _ _ _ (?_ : Y 17 [(0, 0, true, x0)] [(2, true, 0)] s)
    refine hY _ _ _ _ ?_
    exact hQ 0 s.2.2.2 h
  · have h := h.2 hc
    refine hY _ _ _ _ (hY _ _ _ _ (?_ : Y 9 [(0, 0, true, x0)] [(0, true, 90), (0, true, x0)] s))
    refine hY _ _ _ _ ?_
    refine And.intro (fun hc => ?_) (fun hc => ?_)
    · have h := h.1 hc
      refine hY _ _ _ _ (?_ : Y 17 [(0, 0, true, x0)] [(2, true, 0)] s)
      refine hY _ _ _ _ ?_
      exact hQ 0 s.2.2.2 h
    · have h := h.2 hc
      refine hY _ _ _ _ (hY _ _ _ _ (?_ : Y 17 [(0, 0, true, x0)] [(2, true, 1)] s))
      refine hY _ _ _ _ ?_
      exact hQ 1 s.2.2.2 h
def we_174 : sFf := sEf 1 [(0, 0, 0)] (fun xs s Q => ap1 (fun x0 => wq_174 x0 s.2.2.2 Q) xs)
theorem we_174_ok : kS dM 1 174 2 (.inl we_174) := sEf_ok (mi := im_m174) rfl rfl rfl (fun R xs s r1 hb => by obtain ⟨x0, rfl, hb⟩ := ap1_ok hb; exact wk_174_0 _ R s x0 (fun x m' hx => ⟨m', rfl, hx⟩) r1 hb)
/-- LMModel.isFigure(I)Z -/
def wq_175 (x0 : Int) (m : hy_m) (Q : Int → hy_m → Prop) : Prop := (x0 < 48 → (Q 0 m)) ∧ (48 ≤ x0 → ((57 < x0 → (Q 0 m)) ∧ (x0 ≤ 57 → (Q 1 m))))
def cs_175 : List (Nat × Nat × sFS) := []
theorem cs_175_ok : kCs dM 0 cs_175 := kCs_n
def lb_175_0 (s : sS) (Q : sQ) (R : Int → hy_m → Prop) (x0 : Int) : Nat → Option (sL → sS → Prop) := sLb []
set_option maxRecDepth 30000 in
set_option maxHeartbeats 1000000 in
theorem wk_175_0 (Q : sQ) (R : Int → hy_m → Prop) (s : sS) (x0 : Int) (hQ : ∀ x m', R x m' → Q x (sM s m')) (hr : sRg [(0, 0, 0)] [x0]) (h : wq_175 x0 s.2.2.2 R) : kX dM 0 im_m175 2 0 (sCan [(0, 0, 0)] [x0]) [] s Q := by
  unfold wq_175 at h
  refine wz2_ok (cs := cs_175) (wr := []) (lb := lb_175_0 s Q R x0) cs_175_ok kLb_n (okL_can rfl hr) (fun Y hY hl => ?_)
  refine hY _ _ _ _ (hY _ _ _ _ (?_ : Y 3 [(0, 0, true, x0)] [(0, true, 48), (0, true, x0)] s))
  refine hY _ _ _ _ ?_
  refine And.intro (fun hc => ?_) (fun hc => ?_)
  · have h := h.1 hc
    refine hY _ _ _ _ (?_ : Y 17 [(0, 0, true, x0)] [(2, true, 0)] s)
    refine hY _ _ _ _ ?_
    exact hQ 0 s.2.2.2 h
  · have h := h.2 hc
    refine hY _ _ _ _ (hY _ _ _ _ (?_ : Y 9 [(0, 0, true, x0)] [(0, true, 57), (0, true, x0)] s))
    refine hY _ _ _ _ ?_
    refine And.intro (fun hc => ?_) (fun hc => ?_)
    · have h := h.1 hc
      refine hY _ _ _ _ (?_ : Y 17 [(0, 0, true, x0)] [(2, true, 0)] s)
      refine hY _ _ _ _ ?_
      exact hQ 0 s.2.2.2 h
    · have h := h.2 hc
      refine hY _ _ _ _ (hY _ _ _ _ (?_ : Y 17 [(0, 0, true, x0)] [(2, true, 1)] s))
      refine hY _ _ _ _ ?_
      exact hQ 1 s.2.2.2 h
def we_175 : sFf := sEf 1 [(0, 0, 0)] (fun xs s Q => ap1 (fun x0 => wq_175 x0 s.2.2.2 Q) xs)
theorem we_175_ok : kS dM 1 175 2 (.inl we_175) := sEf_ok (mi := im_m175) rfl rfl rfl (fun R xs s r1 hb => by obtain ⟨x0, rfl, hb⟩ := ap1_ok hb; exact wk_175_0 _ R s x0 (fun x m' hx => ⟨m', rfl, hx⟩) r1 hb)
/-- LMModel.readWord(II)V -/
def wq_176_40 (P10 : hy_m → Prop) (x1 : Int) (x2 : Int) (x3 : Int) (m : hy_m) (Q : Int → hy_m → Prop) : Prop := hy_r 0 ((m 74 14) - x3) ∧ ((x2 ≤ ((m 74 14) - x3) → (hy_r 0 ((m 74 14) + 1) ∧ (P10 (hy_u (hy_u m 74 17 (m 74 17)) 74 14 ((m 74 14) + 1))))) ∧ (((m 74 14) - x3) < x2 → (wq_172 m (fun r1 m1 => hy_r 1 ((128 * (m 74 17)) + r1) ∧ (hy_r 0 ((m1 74 14) + 1) ∧ (P10 (hy_u (hy_u m1 74 17 ((128 * (m 74 17)) + r1)) 74 14 ((m1 74 14) + 1))))))))
def wf_176_10 (x1 : Int) (x2 : Int) (x3 : Int) (Q : Int → hy_m → Prop) (P10 : hy_m → Prop) (m : hy_m) : Prop := wq_172 m (fun r1 m1 => wq_173 r1 m1 (fun r2 m2 => (r2 ≠ 0 → (wq_176_40 P10 x1 x2 x3 m2 Q)) ∧ (r2 = 0 → (wq_172 m2 (fun r3 m3 => wq_174 r3 m3 (fun r4 m4 => (r4 ≠ 0 → (wq_176_40 P10 x1 x2 x3 m4 Q)) ∧ (r4 = 0 → (wq_172 m4 (fun r5 m5 => wq_175 r5 m5 (fun r6 m6 => (r6 = 0 → (hy_r 0 ((m6 74 14) - x3) ∧ ((((m6 74 14) - x3) ≤ x2 → (Q 0 (hy_u m6 74 15 x1))) ∧ (x2 < ((m6 74 14) - x3) → (Q 0 (hy_u m6 74 15 12)))))) ∧ (r6 ≠ 0 → (wq_176_40 P10 x1 x2 x3 m6 Q))))))))))))
def wq_176_10 (x1 : Int) (x2 : Int) (x3 : Int) (m : hy_m) (Q : Int → hy_m → Prop) : Prop := wL0 hy_m (wf_176_10 x1 x2 x3 Q) m
def wq_176 (x1 : Int) (x2 : Int) (m : hy_m) (Q : Int → hy_m → Prop) : Prop := wq_176_10 x1 x2 (m 74 14) (hy_u m 74 17 0) Q
theorem wc_172_r74 (s : sS) (R : Int → hy_m → Prop) (h : wq_172 s.2.2.2 R) : we_172 [(5, true, 74)] s R := h
theorem wc_173_0t (x0 : Int) (s : sS) (R : Int → hy_m → Prop) (h : wq_173 x0 s.2.2.2 R) : we_173 [(0, true, x0)] s R := h
theorem wc_174_0t (x0 : Int) (s : sS) (R : Int → hy_m → Prop) (h : wq_174 x0 s.2.2.2 R) : we_174 [(0, true, x0)] s R := h
theorem wc_175_0t (x0 : Int) (s : sS) (R : Int → hy_m → Prop) (h : wq_175 x0 s.2.2.2 R) : we_175 [(0, true, x0)] s R := h
def cs_176 : List (Nat × Nat × sFS) := [(172, 0, .inl we_172), (173, 2, .inl we_173), (174, 2, .inl we_174), (175, 2, .inl we_175)]
theorem cs_176_ok : kCs dM 1 cs_176 := (kCs_c (Or.inl rfl) (we_172_ok.deep (by decide)) (kCs_c (Or.inr (Or.inr (Or.inl rfl))) (we_173_ok.deep (by decide)) (kCs_c (Or.inr (Or.inr (Or.inl rfl))) (we_174_ok.deep (by decide)) (kCs_c (Or.inr (Or.inr (Or.inl rfl))) (we_175_ok.deep (by decide)) kCs_n))))
def lb_176_40 (s : sS) (Q : sQ) (P10 : hy_m → Prop) (R : Int → hy_m → Prop) (x1 : Int) (x2 : Int) (x3 : Int) : Nat → Option (sL → sS → Prop) := sLb [(10, fun lv t => sG [(0, 5, 74), (1, 0, 0), (2, 0, 0), (3, 0, 0)] lv (ap3 (fun w1 w2 w3 => ∃ m', t = sM s m' ∧ w1 = x1 ∧ w2 = x2 ∧ w3 = x3 ∧ P10 m')))]
set_option maxRecDepth 30000 in
set_option maxHeartbeats 1000000 in
theorem wk_176_40 (Q : sQ) (R : Int → hy_m → Prop) (s : sS) (P10 : hy_m → Prop) (x1 : Int) (x2 : Int) (x3 : Int) (hP10 : ∀ (m : hy_m), P10 m → sRg [(0, 5, 74), (1, 0, 0), (2, 0, 0), (3, 0, 0)] [x1, x2, x3] → kX dM 1 im_m176 9 10 (sCan [(0, 5, 74), (1, 0, 0), (2, 0, 0), (3, 0, 0)] [x1, x2, x3]) [] (sM s m) Q) (hQ : ∀ x m', R x m' → Q x (sM s m')) (hr : sRg [(0, 5, 74), (1, 0, 0), (2, 0, 0), (3, 0, 0)] [x1, x2, x3]) (h : wq_176_40 P10 x1 x2 x3 s.2.2.2 R) : kX dM 1 im_m176 9 40 (sCan [(0, 5, 74), (1, 0, 0), (2, 0, 0), (3, 0, 0)] [x1, x2, x3]) [] s Q := by
  unfold wq_176_40 at h
  refine wz2_ok (cs := cs_176) (wr := []) (lb := lb_176_40 s Q P10 R x1 x2 x3) cs_176_ok (kLb_c (kLab (Bd := fun xs t => ap3 (fun w1 w2 w3 => ∃ m', t = sM s m' ∧ w1 = x1 ∧ w2 = x2 ∧ w3 = x3 ∧ P10 m') xs) rfl (fun xs t r1 r2 hb => by obtain ⟨w1, w2, w3, rfl, hb⟩ := ap3_ok hb; obtain ⟨m', rfl, rfl, rfl, rfl, hx⟩ := hb; exact hP10 m' hx r1)) kLb_n) (okL_can rfl hr) (fun Y hY hl => ?_)
  have l10 := hl 10 _ rfl
  refine hY _ _ _ _ (hY _ _ _ _ (hY _ _ _ _ (?_ : Y 45 [(0, 5, true, 74), (1, 0, true, x1), (2, 0, true, x2), (3, 0, true, x3)] [(0, true, s.2.2.2 74 14), (5, true, 74)] s)))
  refine hY _ _ _ _ (hY _ _ _ _ (hY _ _ _ _ (?_ : Y 48 [(0, 5, true, 74), (1, 0, true, x1), (2, 0, true, x2), (3, 0, true, x3)] [(0, true, x2), (0, false, (s.2.2.2 74 14) - x3), (5, true, 74)] s)))
  refine hY _ _ _ _ ?_
  refine And.intro h.1 ?_
  refine And.intro (fun hc => ?_) (fun hc => ?_)
  · have h := h.2.1 hc
    refine hY _ _ _ _ (hY _ _ _ _ (?_ : Y 72 [(0, 5, true, 74), (1, 0, true, x1), (2, 0, true, x2), (3, 0, true, x3)] [(1, true, s.2.2.2 74 17), (5, true, 74)] s))
    refine hY _ _ _ _ ?_
    refine hY _ _ _ _ (hY _ _ _ _ (hY _ _ _ _ (?_ : Y 80 [(0, 5, true, 74), (1, 0, true, x1), (2, 0, true, x2), (3, 0, true, x3)] [(0, true, s.2.2.2 74 14), (5, true, 74)] (sM s (hy_u s.2.2.2 74 17 (s.2.2.2 74 17))))))
    refine hY _ _ _ _ (hY _ _ _ _ (?_ : Y 82 [(0, 5, true, 74), (1, 0, true, x1), (2, 0, true, x2), (3, 0, true, x3)] [(0, false, (s.2.2.2 74 14) + 1), (5, true, 74)] (sM s (hy_u s.2.2.2 74 17 (s.2.2.2 74 17)))))
    refine hY _ _ _ _ ?_
    refine And.intro h.1 ?_
    refine hY _ _ _ _ (?_ : Y 10 [(0, 5, true, 74), (1, 0, true, x1), (2, 0, true, x2), (3, 0, true, x3)] [] (sM s (hy_u (hy_u s.2.2.2 74 17 (s.2.2.2 74 17)) 74 14 ((s.2.2.2 74 14) + 1))))
    refine l10 _ _ ?_
    exact (Exists.intro (hy_u (hy_u s.2.2.2 74 17 (s.2.2.2 74 17)) 74 14 ((s.2.2.2 74 14) + 1)) (And.intro rfl (And.intro rfl (And.intro rfl (And.intro rfl h.2)))))
  · have h := h.2.2 hc
    refine hY _ _ _ _ (hY _ _ _ _ (hY _ _ _ _ (?_ : Y 58 [(0, 5, true, 74), (1, 0, true, x1), (2, 0, true, x2), (3, 0, true, x3)] [(1, true, s.2.2.2 74 17), (1, true, 128), (5, true, 74)] s)))
    refine hY _ _ _ _ (hY _ _ _ _ (?_ : Y 60 [(0, 5, true, 74), (1, 0, true, x1), (2, 0, true, x2), (3, 0, true, x3)] [(5, true, 74), (1, false, 128 * (s.2.2.2 74 17)), (5, true, 74)] s))
    refine hY _ _ _ _ ?_
    refine Exists.intro _ (And.intro (wc_172_r74 _ _ h) (fun r1 m1 h => ?_))
    show Y 63 [(0, 5, true, 74), (1, 0, true, x1), (2, 0, true, x2), (3, 0, true, x3)] [(0, true, r1), (1, false, 128 * (s.2.2.2 74 17)), (5, true, 74)] (sM s m1)
    refine hY _ _ _ _ ?_
    refine hY _ _ _ _ (hY _ _ _ _ (?_ : Y 72 [(0, 5, true, 74), (1, 0, true, x1), (2, 0, true, x2), (3, 0, true, x3)] [(1, false, (128 * (s.2.2.2 74 17)) + r1), (5, true, 74)] (sM s m1)))
    refine hY _ _ _ _ ?_
    refine And.intro h.1 ?_
    refine hY _ _ _ _ (hY _ _ _ _ (hY _ _ _ _ (?_ : Y 80 [(0, 5, true, 74), (1, 0, true, x1), (2, 0, true, x2), (3, 0, true, x3)] [(0, true, m1 74 14), (5, true, 74)] (sM s (hy_u m1 74 17 ((128 * (s.2.2.2 74 17)) + r1))))))
    refine hY _ _ _ _ (hY _ _ _ _ (?_ : Y 82 [(0, 5, true, 74), (1, 0, true, x1), (2, 0, true, x2), (3, 0, true, x3)] [(0, false, (m1 74 14) + 1), (5, true, 74)] (sM s (hy_u m1 74 17 ((128 * (s.2.2.2 74 17)) + r1)))))
    refine hY _ _ _ _ ?_
    refine And.intro h.2.1 ?_
    refine hY _ _ _ _ (?_ : Y 10 [(0, 5, true, 74), (1, 0, true, x1), (2, 0, true, x2), (3, 0, true, x3)] [] (sM s (hy_u (hy_u m1 74 17 ((128 * (s.2.2.2 74 17)) + r1)) 74 14 ((m1 74 14) + 1))))
    refine l10 _ _ ?_
    exact (Exists.intro (hy_u (hy_u m1 74 17 ((128 * (s.2.2.2 74 17)) + r1)) 74 14 ((m1 74 14) + 1)) (And.intro rfl (And.intro rfl (And.intro rfl (And.intro rfl h.2.2)))))
def lb_176_10 (s : sS) (Q : sQ) (P10 : hy_m → Prop) (R : Int → hy_m → Prop) (x1 : Int) (x2 : Int) (x3 : Int) : Nat → Option (sL → sS → Prop) := sLb [(40, fun lv t => sG [(0, 5, 74), (1, 0, 0), (2, 0, 0), (3, 0, 0)] lv (ap3 (fun w1 w2 w3 => ∃ m', t = sM s m' ∧ w1 = x1 ∧ w2 = x2 ∧ w3 = x3 ∧ wq_176_40 P10 w1 w2 w3 m' R))), (10, fun lv t => sG [(0, 5, 74), (1, 0, 0), (2, 0, 0), (3, 0, 0)] lv (ap3 (fun w1 w2 w3 => ∃ m', t = sM s m' ∧ w1 = x1 ∧ w2 = x2 ∧ w3 = x3 ∧ P10 m')))]
set_option maxRecDepth 30000 in
set_option maxHeartbeats 1000000 in
theorem wj_176_10 (Q : sQ) (R : Int → hy_m → Prop) (s : sS) (P10 : hy_m → Prop) (x1 : Int) (x2 : Int) (x3 : Int) (m : hy_m) (hP10 : ∀ (m : hy_m), P10 m → sRg [(0, 5, 74), (1, 0, 0), (2, 0, 0), (3, 0, 0)] [x1, x2, x3] → kX dM 1 im_m176 9 10 (sCan [(0, 5, 74), (1, 0, 0), (2, 0, 0), (3, 0, 0)] [x1, x2, x3]) [] (sM s m) Q) (hQ : ∀ x m', R x m' → Q x (sM s m')) (hr : sRg [(0, 5, 74), (1, 0, 0), (2, 0, 0), (3, 0, 0)] [x1, x2, x3]) (h : wf_176_10 x1 x2 x3 R P10 m) : kX dM 1 im_m176 9 10 (sCan [(0, 5, 74), (1, 0, 0), (2, 0, 0), (3, 0, 0)] [x1, x2, x3]) [] (sM s m) Q := by
  unfold wf_176_10 at h
  refine wz2_ok (cs := cs_176) (wr := []) (lb := lb_176_10 s Q P10 R x1 x2 x3) cs_176_ok (kLb_c (kLab (Bd := fun xs t => ap3 (fun w1 w2 w3 => ∃ m', t = sM s m' ∧ w1 = x1 ∧ w2 = x2 ∧ w3 = x3 ∧ wq_176_40 P10 w1 w2 w3 m' R) xs) rfl (fun xs t r1 r2 hb => by obtain ⟨w1, w2, w3, rfl, hb⟩ := ap3_ok hb; obtain ⟨m', rfl, rfl, rfl, rfl, hx⟩ := hb; exact wk_176_40 Q R (sM s m') P10 _ _ _ hP10 (fun x m'' hy => hQ x m'' hy) r1 hx)) (kLb_c (kLab (Bd := fun xs t => ap3 (fun w1 w2 w3 => ∃ m', t = sM s m' ∧ w1 = x1 ∧ w2 = x2 ∧ w3 = x3 ∧ P10 m') xs) rfl (fun xs t r1 r2 hb => by obtain ⟨w1, w2, w3, rfl, hb⟩ := ap3_ok hb; obtain ⟨m', rfl, rfl, rfl, rfl, hx⟩ := hb; exact hP10 m' hx r1)) kLb_n)) (okL_can rfl hr) (fun Y hY hl => ?_)
  have l40 := hl 40 _ rfl
  have l10 := hl 10 _ rfl
  refine hY _ _ _ _ (?_ : Y 11 [(0, 5, true, 74), (1, 0, true, x1), (2, 0, true, x2), (3, 0, true, x3)] [(5, true, 74)] (sM s m))
  refine hY _ _ _ _ ?_
  refine Exists.intro _ (And.intro (wc_172_r74 _ _ h) (fun r1 m1 h => ?_))
  show Y 14 [(0, 5, true, 74), (1, 0, true, x1), (2, 0, true, x2), (3, 0, true, x3)] [(0, true, r1)] (sM s m1)
  refine hY _ _ _ _ ?_
  refine Exists.intro _ (And.intro (wc_173_0t r1 _ _ h) (fun r2 m2 h => ?_))
  show Y 17 [(0, 5, true, 74), (1, 0, true, x1), (2, 0, true, x2), (3, 0, true, x3)] [(2, true, r2)] (sM s m2)
  refine hY _ _ _ _ ?_
  refine And.intro (fun hc => ?_) (fun hc => ?_)
  · have h := h.1 hc
    show Y 40 [(0, 5, true, 74), (1, 0, true, x1), (2, 0, true, x2), (3, 0, true, x3)] [] (sM s m2)
    refine l40 _ _ ?_
    exact (Exists.intro m2 (And.intro rfl (And.intro rfl (And.intro rfl (And.intro rfl h)))))
  · have h := h.2 hc
    refine hY _ _ _ _ (?_ : Y 21 [(0, 5, true, 74), (1, 0, true, x1), (2, 0, true, x2), (3, 0, true, x3)] [(5, true, 74)] (sM s m2))
    refine hY _ _ _ _ ?_
    refine Exists.intro _ (And.intro (wc_172_r74 _ _ h) (fun r3 m3 h => ?_))
    show Y 24 [(0, 5, true, 74), (1, 0, true, x1), (2, 0, true, x2), (3, 0, true, x3)] [(0, true, r3)] (sM s m3)
    refine hY _ _ _ _ ?_
    refine Exists.intro _ (And.intro (wc_174_0t r3 _ _ h) (fun r4 m4 h => ?_))
    show Y 27 [(0, 5, true, 74), (1, 0, true, x1), (2, 0, true, x2), (3, 0, true, x3)] [(2, true, r4)] (sM s m4)
    refine hY _ _ _ _ ?_
    refine And.intro (fun hc => ?_) (fun hc => ?_)
    · have h := h.1 hc
      show Y 40 [(0, 5, true, 74), (1, 0, true, x1), (2, 0, true, x2), (3, 0, true, x3)] [] (sM s m4)
      refine l40 _ _ ?_
      exact (Exists.intro m4 (And.intro rfl (And.intro rfl (And.intro rfl (And.intro rfl h)))))
    · have h := h.2 hc
      refine hY _ _ _ _ (?_ : Y 31 [(0, 5, true, 74), (1, 0, true, x1), (2, 0, true, x2), (3, 0, true, x3)] [(5, true, 74)] (sM s m4))
      refine hY _ _ _ _ ?_
      refine Exists.intro _ (And.intro (wc_172_r74 _ _ h) (fun r5 m5 h => ?_))
      show Y 34 [(0, 5, true, 74), (1, 0, true, x1), (2, 0, true, x2), (3, 0, true, x3)] [(0, true, r5)] (sM s m5)
      refine hY _ _ _ _ ?_
      refine Exists.intro _ (And.intro (wc_175_0t r5 _ _ h) (fun r6 m6 h => ?_))
      show Y 37 [(0, 5, true, 74), (1, 0, true, x1), (2, 0, true, x2), (3, 0, true, x3)] [(2, true, r6)] (sM s m6)
      refine hY _ _ _ _ ?_
      refine And.intro (fun hc => ?_) (fun hc => ?_)
      · have h := h.1 hc
        refine hY _ _ _ _ (hY _ _ _ _ (hY _ _ _ _ (?_ : Y 93 [(0, 5, true, 74), (1, 0, true, x1), (2, 0, true, x2), (3, 0, true, x3)] [(0, true, m6 74 14), (5, true, 74)] (sM s m6))))
        refine hY _ _ _ _ (hY _ _ _ _ (hY _ _ _ _ (?_ : Y 96 [(0, 5, true, 74), (1, 0, true, x1), (2, 0, true, x2), (3, 0, true, x3)] [(0, true, x2), (0, false, (m6 74 14) - x3), (5, true, 74)] (sM s m6))))
        refine hY _ _ _ _ ?_
        refine And.intro h.1 ?_
        refine And.intro (fun hc => ?_) (fun hc => ?_)
        · have h := h.2.1 hc
          refine hY _ _ _ _ (?_ : Y 105 [(0, 5, true, 74), (1, 0, true, x1), (2, 0, true, x2), (3, 0, true, x3)] [(0, true, x1), (5, true, 74)] (sM s m6))
          refine hY _ _ _ _ ?_
          show Y 108 [(0, 5, true, 74), (1, 0, true, x1), (2, 0, true, x2), (3, 0, true, x3)] [] (sM s (hy_u m6 74 15 x1))
          refine hY _ _ _ _ ?_
          exact hQ 0 (hy_u m6 74 15 x1) h
        · have h := h.2.2 hc
          refine hY _ _ _ _ (hY _ _ _ _ (?_ : Y 105 [(0, 5, true, 74), (1, 0, true, x1), (2, 0, true, x2), (3, 0, true, x3)] [(0, true, 12), (5, true, 74)] (sM s m6)))
          refine hY _ _ _ _ ?_
          show Y 108 [(0, 5, true, 74), (1, 0, true, x1), (2, 0, true, x2), (3, 0, true, x3)] [] (sM s (hy_u m6 74 15 12))
          refine hY _ _ _ _ ?_
          exact hQ 0 (hy_u m6 74 15 12) h
      · have h := h.2 hc
        show Y 40 [(0, 5, true, 74), (1, 0, true, x1), (2, 0, true, x2), (3, 0, true, x3)] [] (sM s m6)
        refine l40 _ _ ?_
        exact (Exists.intro m6 (And.intro rfl (And.intro rfl (And.intro rfl (And.intro rfl h)))))
theorem wk_176_10 (Q : sQ) (R : Int → hy_m → Prop) (s : sS) (x1 : Int) (x2 : Int) (x3 : Int) (hQ : ∀ x m', R x m' → Q x (sM s m')) (hr : sRg [(0, 5, 74), (1, 0, 0), (2, 0, 0), (3, 0, 0)] [x1, x2, x3]) (h : wq_176_10 x1 x2 x3 s.2.2.2 R) : kX dM 1 im_m176 9 10 (sCan [(0, 5, 74), (1, 0, 0), (2, 0, 0), (3, 0, 0)] [x1, x2, x3]) [] s Q :=
  h (fun m => sRg [(0, 5, 74), (1, 0, 0), (2, 0, 0), (3, 0, 0)] [x1, x2, x3] → kX dM 1 im_m176 9 10 (sCan [(0, 5, 74), (1, 0, 0), (2, 0, 0), (3, 0, 0)] [x1, x2, x3]) [] (sM s m) Q) (fun m h hr => wj_176_10 Q R s (fun m => sRg [(0, 5, 74), (1, 0, 0), (2, 0, 0), (3, 0, 0)] [x1, x2, x3] → kX dM 1 im_m176 9 10 (sCan [(0, 5, 74), (1, 0, 0), (2, 0, 0), (3, 0, 0)] [x1, x2, x3]) [] (sM s m) Q) x1 x2 x3 m  (fun _ hp hr => hp hr) hQ hr h) hr
def lb_176_0 (s : sS) (Q : sQ) (R : Int → hy_m → Prop) (x1 : Int) (x2 : Int) : Nat → Option (sL → sS → Prop) := sLb [(10, fun lv t => sG [(0, 5, 74), (1, 0, 0), (2, 0, 0), (3, 0, 0)] lv (ap3 (fun w1 w2 w3 => ∃ m', t = sM s m' ∧ wq_176_10 w1 w2 w3 m' R)))]
set_option maxRecDepth 30000 in
set_option maxHeartbeats 1000000 in
theorem wk_176_0 (Q : sQ) (R : Int → hy_m → Prop) (s : sS) (x1 : Int) (x2 : Int) (hQ : ∀ x m', R x m' → Q x (sM s m')) (hr : sRg [(0, 5, 74), (1, 0, 0), (2, 0, 0)] [x1, x2]) (h : wq_176 x1 x2 s.2.2.2 R) : kX dM 1 im_m176 9 0 (sCan [(0, 5, 74), (1, 0, 0), (2, 0, 0)] [x1, x2]) [] s Q := by
  unfold wq_176 at h
  refine wz2_ok (cs := cs_176) (wr := []) (lb := lb_176_0 s Q R x1 x2) cs_176_ok (kLb_c (kLab (Bd := fun xs t => ap3 (fun w1 w2 w3 => ∃ m', t = sM s m' ∧ wq_176_10 w1 w2 w3 m' R) xs) rfl (fun xs t r1 r2 hb => by obtain ⟨w1, w2, w3, rfl, hb⟩ := ap3_ok hb; obtain ⟨m', rfl, hx⟩ := hb; exact wk_176_10 Q R (sM s m') _ _ _ (fun x m'' hy => hQ x m'' hy) r1 hx)) kLb_n) (okL_can rfl hr) (fun Y hY hl => ?_)
  have l10 := hl 10 _ rfl
  refine hY _ _ _ _ (hY _ _ _ _ (hY _ _ _ _ (?_ : Y 5 [(3, 0, true, s.2.2.2 74 14), (0, 5, true, 74), (1, 0, true, x1), (2, 0, true, x2)] [] s)))
  refine hY _ _ _ _ (hY _ _ _ _ (?_ : Y 7 [(3, 0, true, s.2.2.2 74 14), (0, 5, true, 74), (1, 0, true, x1), (2, 0, true, x2)] [(1, true, 0), (5, true, 74)] s))
  refine hY _ _ _ _ ?_
  show Y 10 [(3, 0, true, s.2.2.2 74 14), (0, 5, true, 74), (1, 0, true, x1), (2, 0, true, x2)] [] (sM s (hy_u s.2.2.2 74 17 0))
  refine l10 _ _ ?_
  exact (Exists.intro (hy_u s.2.2.2 74 17 0) (And.intro rfl h))
def we_176 : sFf := sEf 4 [(0, 5, 74), (1, 0, 0), (2, 0, 0)] (fun xs s Q => ap2 (fun x1 x2 => wq_176 x1 x2 s.2.2.2 Q) xs)
theorem we_176_ok : kS dM 2 176 9 (.inl we_176) := sEf_ok (mi := im_m176) rfl rfl rfl (fun R xs s r1 hb => by obtain ⟨x1, x2, rfl, hb⟩ := ap2_ok hb; exact wk_176_0 _ R s x1 x2 (fun x m' hx => ⟨m', rfl, hx⟩) r1 hb)
/-- LMModel.readInteger()V -/
def wf_177_10 (x1 : Int) (Q : Int → hy_m → Prop) (P10 : hy_m → Prop) (m : hy_m) : Prop := wq_172 m (fun r1 m1 => wq_175 r1 m1 (fun r2 m2 => (r2 = 0 → (hy_r 0 ((m2 74 14) - x1) ∧ ((((m2 74 14) - x1) ≤ 6 → (Q 0 (hy_u m2 74 15 3))) ∧ (6 < ((m2 74 14) - x1) → (Q 0 (hy_u m2 74 15 12)))))) ∧ (r2 ≠ 0 → (hy_r 0 ((m2 74 14) - x1) ∧ ((6 ≤ ((m2 74 14) - x1) → (hy_r 0 ((m2 74 14) + 1) ∧ (P10 (hy_u (hy_u m2 74 17 (m2 74 17)) 74 14 ((m2 74 14) + 1))))) ∧ (((m2 74 14) - x1) < 6 → (wq_172 m2 (fun r3 m3 => hy_r 1 (((10 * (m2 74 17)) + r3) - 48) ∧ (hy_r 0 ((m3 74 14) + 1) ∧ (P10 (hy_u (hy_u m3 74 17 (((10 * (m2 74 17)) + r3) - 48)) 74 14 ((m3 74 14) + 1))))))))))))
def wq_177_10 (x1 : Int) (m : hy_m) (Q : Int → hy_m → Prop) : Prop := wL0 hy_m (wf_177_10 x1 Q) m
def wq_177 (m : hy_m) (Q : Int → hy_m → Prop) : Prop := wq_177_10 (m 74 14) (hy_u m 74 17 0) Q
def cs_177 : List (Nat × Nat × sFS) := [(172, 0, .inl we_172), (175, 2, .inl we_175)]
theorem cs_177_ok : kCs dM 1 cs_177 := (kCs_c (Or.inl rfl) (we_172_ok.deep (by decide)) (kCs_c (Or.inr (Or.inr (Or.inl rfl))) (we_175_ok.deep (by decide)) kCs_n))
def lb_177_10 (s : sS) (Q : sQ) (P10 : hy_m → Prop) (R : Int → hy_m → Prop) (x1 : Int) : Nat → Option (sL → sS → Prop) := sLb [(10, fun lv t => sG [(0, 5, 74), (1, 0, 0)] lv (ap1 (fun w1 => ∃ m', t = sM s m' ∧ w1 = x1 ∧ P10 m')))]
set_option maxRecDepth 30000 in
set_option maxHeartbeats 1000000 in
theorem wj_177_10 (Q : sQ) (R : Int → hy_m → Prop) (s : sS) (P10 : hy_m → Prop) (x1 : Int) (m : hy_m) (hP10 : ∀ (m : hy_m), P10 m → sRg [(0, 5, 74), (1, 0, 0)] [x1] → kX dM 1 im_m177 9 10 (sCan [(0, 5, 74), (1, 0, 0)] [x1]) [] (sM s m) Q) (hQ : ∀ x m', R x m' → Q x (sM s m')) (hr : sRg [(0, 5, 74), (1, 0, 0)] [x1]) (h : wf_177_10 x1 R P10 m) : kX dM 1 im_m177 9 10 (sCan [(0, 5, 74), (1, 0, 0)] [x1]) [] (sM s m) Q := by
  unfold wf_177_10 at h
  refine wz2_ok (cs := cs_177) (wr := []) (lb := lb_177_10 s Q P10 R x1) cs_177_ok (kLb_c (kLab (Bd := fun xs t => ap1 (fun w1 => ∃ m', t = sM s m' ∧ w1 = x1 ∧ P10 m') xs) rfl (fun xs t r1 r2 hb => by obtain ⟨w1, rfl, hb⟩ := ap1_ok hb; obtain ⟨m', rfl, rfl, hx⟩ := hb; exact hP10 m' hx r1)) kLb_n) (okL_can rfl hr) (fun Y hY hl => ?_)
  have l10 := hl 10 _ rfl
  refine hY _ _ _ _ (?_ : Y 11 [(0, 5, true, 74), (1, 0, true, x1)] [(5, true, 74)] (sM s m))
  refine hY _ _ _ _ ?_
  refine Exists.intro _ (And.intro (wc_172_r74 _ _ h) (fun r1 m1 h => ?_))
  show Y 14 [(0, 5, true, 74), (1, 0, true, x1)] [(0, true, r1)] (sM s m1)
  refine hY _ _ _ _ ?_
  refine Exists.intro _ (And.intro (wc_175_0t r1 _ _ h) (fun r2 m2 h => ?_))
  show Y 17 [(0, 5, true, 74), (1, 0, true, x1)] [(2, true, r2)] (sM s m2)
  refine hY _ _ _ _ ?_
  refine And.intro (fun hc => ?_) (fun hc => ?_)
  · have h := h.1 hc
    refine hY _ _ _ _ (hY _ _ _ _ (hY _ _ _ _ (?_ : Y 78 [(0, 5, true, 74), (1, 0, true, x1)] [(0, true, m2 74 14), (5, true, 74)] (sM s m2))))
    refine hY _ _ _ _ (hY _ _ _ _ (hY _ _ _ _ (?_ : Y 82 [(0, 5, true, 74), (1, 0, true, x1)] [(0, true, 6), (0, false, (m2 74 14) - x1), (5, true, 74)] (sM s m2))))
    refine hY _ _ _ _ ?_
    refine And.intro h.1 ?_
    refine And.intro (fun hc => ?_) (fun hc => ?_)
    · have h := h.2.1 hc
      refine hY _ _ _ _ (?_ : Y 91 [(0, 5, true, 74), (1, 0, true, x1)] [(0, true, 3), (5, true, 74)] (sM s m2))
      refine hY _ _ _ _ ?_
      show Y 94 [(0, 5, true, 74), (1, 0, true, x1)] [] (sM s (hy_u m2 74 15 3))
      refine hY _ _ _ _ ?_
      exact hQ 0 (hy_u m2 74 15 3) h
    · have h := h.2.2 hc
      refine hY _ _ _ _ (hY _ _ _ _ (?_ : Y 91 [(0, 5, true, 74), (1, 0, true, x1)] [(0, true, 12), (5, true, 74)] (sM s m2)))
      refine hY _ _ _ _ ?_
      show Y 94 [(0, 5, true, 74), (1, 0, true, x1)] [] (sM s (hy_u m2 74 15 12))
      refine hY _ _ _ _ ?_
      exact hQ 0 (hy_u m2 74 15 12) h
  · have h := h.2 hc
    refine hY _ _ _ _ (hY _ _ _ _ (hY _ _ _ _ (?_ : Y 25 [(0, 5, true, 74), (1, 0, true, x1)] [(0, true, m2 74 14), (5, true, 74)] (sM s m2))))
    refine hY _ _ _ _ (hY _ _ _ _ (hY _ _ _ _ (?_ : Y 29 [(0, 5, true, 74), (1, 0, true, x1)] [(0, true, 6), (0, false, (m2 74 14) - x1), (5, true, 74)] (sM s m2))))
    refine hY _ _ _ _ ?_
    refine And.intro h.1 ?_
    refine And.intro (fun hc => ?_) (fun hc => ?_)
    · have h := h.2.1 hc
      refine hY _ _ _ _ (hY _ _ _ _ (?_ : Y 57 [(0, 5, true, 74), (1, 0, true, x1)] [(1, true, m2 74 17), (5, true, 74)] (sM s m2)))
      refine hY _ _ _ _ ?_
      refine hY _ _ _ _ (hY _ _ _ _ (hY _ _ _ _ (?_ : Y 65 [(0, 5, true, 74), (1, 0, true, x1)] [(0, true, m2 74 14), (5, true, 74)] (sM s (hy_u m2 74 17 (m2 74 17))))))
      refine hY _ _ _ _ (hY _ _ _ _ (?_ : Y 67 [(0, 5, true, 74), (1, 0, true, x1)] [(0, false, (m2 74 14) + 1), (5, true, 74)] (sM s (hy_u m2 74 17 (m2 74 17)))))
      refine hY _ _ _ _ ?_
      refine And.intro h.1 ?_
      refine hY _ _ _ _ (?_ : Y 10 [(0, 5, true, 74), (1, 0, true, x1)] [] (sM s (hy_u (hy_u m2 74 17 (m2 74 17)) 74 14 ((m2 74 14) + 1))))
      refine l10 _ _ ?_
      exact (Exists.intro (hy_u (hy_u m2 74 17 (m2 74 17)) 74 14 ((m2 74 14) + 1)) (And.intro rfl (And.intro rfl h.2)))
    · have h := h.2.2 hc
      refine hY _ _ _ _ (hY _ _ _ _ (hY _ _ _ _ (?_ : Y 39 [(0, 5, true, 74), (1, 0, true, x1)] [(1, true, m2 74 17), (1, true, 10), (5, true, 74)] (sM s m2))))
      refine hY _ _ _ _ (hY _ _ _ _ (?_ : Y 41 [(0, 5, true, 74), (1, 0, true, x1)] [(5, true, 74), (1, false, 10 * (m2 74 17)), (5, true, 74)] (sM s m2)))
      refine hY _ _ _ _ ?_
      refine Exists.intro _ (And.intro (wc_172_r74 _ _ h) (fun r3 m3 h => ?_))
      show Y 44 [(0, 5, true, 74), (1, 0, true, x1)] [(0, true, r3), (1, false, 10 * (m2 74 17)), (5, true, 74)] (sM s m3)
      refine hY _ _ _ _ ?_
      refine hY _ _ _ _ (hY _ _ _ _ (hY _ _ _ _ (?_ : Y 50 [(0, 5, true, 74), (1, 0, true, x1)] [(1, false, ((10 * (m2 74 17)) + r3) - 48), (5, true, 74)] (sM s m3))))
      refine hY _ _ _ _ (?_ : Y 57 [(0, 5, true, 74), (1, 0, true, x1)] [(1, false, ((10 * (m2 74 17)) + r3) - 48), (5, true, 74)] (sM s m3))
      refine hY _ _ _ _ ?_
      refine And.intro h.1 ?_
      refine hY _ _ _ _ (hY _ _ _ _ (hY _ _ _ _ (?_ : Y 65 [(0, 5, true, 74), (1, 0, true, x1)] [(0, true, m3 74 14), (5, true, 74)] (sM s (hy_u m3 74 17 (((10 * (m2 74 17)) + r3) - 48))))))
      refine hY _ _ _ _ (hY _ _ _ _ (?_ : Y 67 [(0, 5, true, 74), (1, 0, true, x1)] [(0, false, (m3 74 14) + 1), (5, true, 74)] (sM s (hy_u m3 74 17 (((10 * (m2 74 17)) + r3) - 48)))))
      refine hY _ _ _ _ ?_
      refine And.intro h.2.1 ?_
      refine hY _ _ _ _ (?_ : Y 10 [(0, 5, true, 74), (1, 0, true, x1)] [] (sM s (hy_u (hy_u m3 74 17 (((10 * (m2 74 17)) + r3) - 48)) 74 14 ((m3 74 14) + 1))))
      refine l10 _ _ ?_
      exact (Exists.intro (hy_u (hy_u m3 74 17 (((10 * (m2 74 17)) + r3) - 48)) 74 14 ((m3 74 14) + 1)) (And.intro rfl (And.intro rfl h.2.2)))
theorem wk_177_10 (Q : sQ) (R : Int → hy_m → Prop) (s : sS) (x1 : Int) (hQ : ∀ x m', R x m' → Q x (sM s m')) (hr : sRg [(0, 5, 74), (1, 0, 0)] [x1]) (h : wq_177_10 x1 s.2.2.2 R) : kX dM 1 im_m177 9 10 (sCan [(0, 5, 74), (1, 0, 0)] [x1]) [] s Q :=
  h (fun m => sRg [(0, 5, 74), (1, 0, 0)] [x1] → kX dM 1 im_m177 9 10 (sCan [(0, 5, 74), (1, 0, 0)] [x1]) [] (sM s m) Q) (fun m h hr => wj_177_10 Q R s (fun m => sRg [(0, 5, 74), (1, 0, 0)] [x1] → kX dM 1 im_m177 9 10 (sCan [(0, 5, 74), (1, 0, 0)] [x1]) [] (sM s m) Q) x1 m  (fun _ hp hr => hp hr) hQ hr h) hr
def lb_177_0 (s : sS) (Q : sQ) (R : Int → hy_m → Prop) : Nat → Option (sL → sS → Prop) := sLb [(10, fun lv t => sG [(0, 5, 74), (1, 0, 0)] lv (ap1 (fun w1 => ∃ m', t = sM s m' ∧ wq_177_10 w1 m' R)))]
set_option maxRecDepth 30000 in
set_option maxHeartbeats 1000000 in
theorem wk_177_0 (Q : sQ) (R : Int → hy_m → Prop) (s : sS) (hQ : ∀ x m', R x m' → Q x (sM s m')) (hr : sRg [(0, 5, 74)] []) (h : wq_177 s.2.2.2 R) : kX dM 1 im_m177 9 0 (sCan [(0, 5, 74)] []) [] s Q := by
  unfold wq_177 at h
  refine wz2_ok (cs := cs_177) (wr := []) (lb := lb_177_0 s Q R) cs_177_ok (kLb_c (kLab (Bd := fun xs t => ap1 (fun w1 => ∃ m', t = sM s m' ∧ wq_177_10 w1 m' R) xs) rfl (fun xs t r1 r2 hb => by obtain ⟨w1, rfl, hb⟩ := ap1_ok hb; obtain ⟨m', rfl, hx⟩ := hb; exact wk_177_10 Q R (sM s m') _ (fun x m'' hy => hQ x m'' hy) r1 hx)) kLb_n) (okL_can rfl hr) (fun Y hY hl => ?_)
  have l10 := hl 10 _ rfl
  refine hY _ _ _ _ (hY _ _ _ _ (hY _ _ _ _ (?_ : Y 5 [(1, 0, true, s.2.2.2 74 14), (0, 5, true, 74)] [] s)))
  refine hY _ _ _ _ (hY _ _ _ _ (?_ : Y 7 [(1, 0, true, s.2.2.2 74 14), (0, 5, true, 74)] [(1, true, 0), (5, true, 74)] s))
  refine hY _ _ _ _ ?_
  show Y 10 [(1, 0, true, s.2.2.2 74 14), (0, 5, true, 74)] [] (sM s (hy_u s.2.2.2 74 17 0))
  refine l10 _ _ ?_
  exact (Exists.intro (hy_u s.2.2.2 74 17 0) (And.intro rfl h))
def we_177 : sFf := sEf 2 [(0, 5, 74)] (fun xs s Q => ap0 (wq_177 s.2.2.2 Q) xs)
theorem we_177_ok : kS dM 2 177 9 (.inl we_177) := sEf_ok (mi := im_m177) rfl rfl rfl (fun R xs s r1 hb => by obtain ⟨rfl, hb⟩ := ap0_ok hb; exact wk_177_0 _ R s (fun x m' hx => ⟨m', rfl, hx⟩) r1 hb)
/-- LMModel.signOf(I)I -/
def wq_178 (x1 : Int) (m : hy_m) (Q : Int → hy_m → Prop) : Prop := (x1 = 40 → (Q 6 m)) ∧ (x1 ≠ 40 → ((x1 = 41 → (Q 7 m)) ∧ (x1 ≠ 41 → ((x1 = 44 → (Q 5 m)) ∧ (x1 ≠ 44 → ((x1 = 46 → (Q 4 m)) ∧ (x1 ≠ 46 → ((x1 = 91 → (Q 8 m)) ∧ (x1 ≠ 91 → ((x1 = 93 → (Q 9 m)) ∧ (x1 ≠ 93 → ((x1 = 124 → (Q 10 m)) ∧ (x1 ≠ 124 → (Q 12 m))))))))))))))
def cs_178 : List (Nat × Nat × sFS) := []
theorem cs_178_ok : kCs dM 0 cs_178 := kCs_n
def lb_178_0 (s : sS) (Q : sQ) (R : Int → hy_m → Prop) (x1 : Int) : Nat → Option (sL → sS → Prop) := sLb []
set_option maxRecDepth 30000 in
set_option maxHeartbeats 1000000 in
theorem wk_178_0 (Q : sQ) (R : Int → hy_m → Prop) (s : sS) (x1 : Int) (hQ : ∀ x m', R x m' → Q x (sM s m')) (hr : sRg [(0, 5, 74), (1, 0, 0)] [x1]) (h : wq_178 x1 s.2.2.2 R) : kX dM 0 im_m178 0 0 (sCan [(0, 5, 74), (1, 0, 0)] [x1]) [] s Q := by
  unfold wq_178 at h
  refine wz2_ok (cs := cs_178) (wr := []) (lb := lb_178_0 s Q R x1) cs_178_ok kLb_n (okL_can rfl hr) (fun Y hY hl => ?_)
  refine hY _ _ _ _ (?_ : Y 1 [(0, 5, true, 74), (1, 0, true, x1)] [(0, true, x1)] s)
  refine hY _ _ _ _ ?_
  refine And.intro (fun hc => ?_) (fun hc => ?_)
  · have h := h.1 hc
    refine hY _ _ _ _ (?_ : Y 74 [(0, 5, true, 74), (1, 0, true, x1)] [(0, true, 6)] s)
    refine hY _ _ _ _ ?_
    exact hQ 6 s.2.2.2 h
  · have h := h.2 hc
    refine And.intro (fun hc => ?_) (fun hc => ?_)
    · have h := h.1 hc
      refine hY _ _ _ _ (?_ : Y 77 [(0, 5, true, 74), (1, 0, true, x1)] [(0, true, 7)] s)
      refine hY _ _ _ _ ?_
      exact hQ 7 s.2.2.2 h
    · have h := h.2 hc
      refine And.intro (fun hc => ?_) (fun hc => ?_)
      · have h := h.1 hc
        refine hY _ _ _ _ (?_ : Y 71 [(0, 5, true, 74), (1, 0, true, x1)] [(0, true, 5)] s)
        refine hY _ _ _ _ ?_
        exact hQ 5 s.2.2.2 h
      · have h := h.2 hc
        refine And.intro (fun hc => ?_) (fun hc => ?_)
        · have h := h.1 hc
          refine hY _ _ _ _ (?_ : Y 69 [(0, 5, true, 74), (1, 0, true, x1)] [(0, true, 4)] s)
          refine hY _ _ _ _ ?_
          exact hQ 4 s.2.2.2 h
        · have h := h.2 hc
          refine And.intro (fun hc => ?_) (fun hc => ?_)
          · have h := h.1 hc
            refine hY _ _ _ _ (?_ : Y 80 [(0, 5, true, 74), (1, 0, true, x1)] [(0, true, 8)] s)
            refine hY _ _ _ _ ?_
            exact hQ 8 s.2.2.2 h
          · have h := h.2 hc
            refine And.intro (fun hc => ?_) (fun hc => ?_)
            · have h := h.1 hc
              refine hY _ _ _ _ (?_ : Y 83 [(0, 5, true, 74), (1, 0, true, x1)] [(0, true, 9)] s)
              refine hY _ _ _ _ ?_
              exact hQ 9 s.2.2.2 h
            · have h := h.2 hc
              refine And.intro (fun hc => ?_) (fun hc => ?_)
              · have h := h.1 hc
                refine hY _ _ _ _ (?_ : Y 86 [(0, 5, true, 74), (1, 0, true, x1)] [(0, true, 10)] s)
                refine hY _ _ _ _ ?_
                exact hQ 10 s.2.2.2 h
              · have h := h.2 hc
                refine hY _ _ _ _ (?_ : Y 89 [(0, 5, true, 74), (1, 0, true, x1)] [(0, true, 12)] s)
                refine hY _ _ _ _ ?_
                exact hQ 12 s.2.2.2 h
def we_178 : sFf := sEf 2 [(0, 5, 74), (1, 0, 0)] (fun xs s Q => ap1 (fun x1 => wq_178 x1 s.2.2.2 Q) xs)
theorem we_178_ok : kS dM 1 178 0 (.inl we_178) := sEf_ok (mi := im_m178) rfl rfl rfl (fun R xs s r1 hb => by obtain ⟨x1, rfl, hb⟩ := ap1_ok hb; exact wk_178_0 _ R s x1 (fun x m' hx => ⟨m', rfl, hx⟩) r1 hb)
/-- LMModel.next()V -/
def wq_179_155 (x1 : Int) (m : hy_m) (Q : Int → hy_m → Prop) : Prop := hy_r 0 ((m 74 14) + 1) ∧ (wq_178 x1 (hy_u m 74 14 ((m 74 14) + 1)) (fun r1 m1 => Q 0 (hy_u m1 74 15 r1)))
def wf_179_0 (Q : Int → hy_m → Prop) (P0 : hy_m → Prop) (m : hy_m) : Prop := wq_172 m (fun r1 m1 => (r1 ≠ 32 → (wq_172 (hy_u m1 74 16 (m1 74 14)) (fun r2 m2 => ((m2 74 14) ≠ (m2 74 1) → (wq_173 r2 m2 (fun r3 m3 => (r3 = 0 → (wq_174 r2 m3 (fun r4 m4 => (r4 = 0 → (wq_175 r2 m4 (fun r5 m5 => (r5 = 0 → ((r2 ≠ 58 → (wq_179_155 r2 m5 Q)) ∧ (r2 = 58 → (hy_r 0 ((m5 74 14) + 1) ∧ (((m5 74 1) ≤ ((m5 74 14) + 1) → (wq_179_155 r2 m5 Q)) ∧ (((m5 74 14) + 1) < (m5 74 1) → (0 ≤ ((m5 74 14) + 1) ∧ ((m5 74 14) + 1) < 120 ∧ (((m5 75 ((m5 74 14) + 1)) ≠ 45 → (wq_179_155 r2 m5 Q)) ∧ ((m5 75 ((m5 74 14) + 1)) = 45 → (hy_r 0 ((m5 74 14) + 2) ∧ (Q 0 (hy_u (hy_u m5 74 14 ((m5 74 14) + 2)) 74 15 11)))))))))))) ∧ (r5 ≠ 0 → (wq_177 m5 (fun _ m6 => Q 0 m6)))))) ∧ (r4 ≠ 0 → (wq_176 2 4 m4 (fun _ m7 => Q 0 m7)))))) ∧ (r3 ≠ 0 → (wq_176 1 6 m3 (fun _ m8 => Q 0 m8)))))) ∧ ((m2 74 14) = (m2 74 1) → (Q 0 (hy_u m2 74 15 0)))))) ∧ (r1 = 32 → (hy_r 0 ((m1 74 14) + 1) ∧ (P0 (hy_u m1 74 14 ((m1 74 14) + 1))))))
def wq_179 (m : hy_m) (Q : Int → hy_m → Prop) : Prop := wL0 hy_m (wf_179_0 Q) m
theorem wc_178_r74_0t (x1 : Int) (s : sS) (R : Int → hy_m → Prop) (h : wq_178 x1 s.2.2.2 R) : we_178 [(5, true, 74), (0, true, x1)] s R := h
theorem wc_177_r74 (s : sS) (R : Int → hy_m → Prop) (h : wq_177 s.2.2.2 R) : we_177 [(5, true, 74)] s R := h
theorem wc_176_r74_0t_0t (x1 : Int) (x2 : Int) (s : sS) (R : Int → hy_m → Prop) (h : wq_176 x1 x2 s.2.2.2 R) : we_176 [(5, true, 74), (0, true, x1), (0, true, x2)] s R := h
theorem wc_176_r74_2t_0t (x1 : Int) (x2 : Int) (s : sS) (R : Int → hy_m → Prop) (h : wq_176 x1 x2 s.2.2.2 R) : we_176 [(5, true, 74), (2, true, x1), (0, true, x2)] s R := h
def cs_179 : List (Nat × Nat × sFS) := [(172, 0, .inl we_172), (173, 2, .inl we_173), (174, 2, .inl we_174), (175, 2, .inl we_175), (176, 9, .inl we_176), (177, 9, .inl we_177), (178, 0, .inl we_178)]
theorem cs_179_ok : kCs dM 2 cs_179 := (kCs_c (Or.inl rfl) (we_172_ok.deep (by decide)) (kCs_c (Or.inr (Or.inr (Or.inl rfl))) (we_173_ok.deep (by decide)) (kCs_c (Or.inr (Or.inr (Or.inl rfl))) (we_174_ok.deep (by decide)) (kCs_c (Or.inr (Or.inr (Or.inl rfl))) (we_175_ok.deep (by decide)) (kCs_c (Or.inr (Or.inr (Or.inr (Or.inr rfl)))) (we_176_ok.deep (by decide)) (kCs_c (Or.inr (Or.inr (Or.inr (Or.inr rfl)))) (we_177_ok.deep (by decide)) (kCs_c (Or.inl rfl) (we_178_ok.deep (by decide)) kCs_n)))))))
def lb_179_155 (s : sS) (Q : sQ) (R : Int → hy_m → Prop) (x1 : Int) : Nat → Option (sL → sS → Prop) := sLb []
set_option maxRecDepth 30000 in
set_option maxHeartbeats 1000000 in
theorem wk_179_155 (Q : sQ) (R : Int → hy_m → Prop) (s : sS) (x1 : Int) (hQ : ∀ x m', R x m' → Q x (sM s m')) (hr : sRg [(0, 5, 74), (1, 0, 0)] [x1]) (h : wq_179_155 x1 s.2.2.2 R) : kX dM 2 im_m179 9 155 (sCan [(0, 5, 74), (1, 0, 0)] [x1]) [] s Q := by
  unfold wq_179_155 at h
  refine wz2_ok (cs := cs_179) (wr := []) (lb := lb_179_155 s Q R x1) cs_179_ok kLb_n (okL_can rfl hr) (fun Y hY hl => ?_)
  refine hY _ _ _ _ (hY _ _ _ _ (hY _ _ _ _ (?_ : Y 160 [(0, 5, true, 74), (1, 0, true, x1)] [(0, true, s.2.2.2 74 14), (5, true, 74)] s)))
  refine hY _ _ _ _ (hY _ _ _ _ (?_ : Y 162 [(0, 5, true, 74), (1, 0, true, x1)] [(0, false, (s.2.2.2 74 14) + 1), (5, true, 74)] s))
  refine hY _ _ _ _ ?_
  refine And.intro h.1 ?_
  refine hY _ _ _ _ (hY _ _ _ _ (hY _ _ _ _ (?_ : Y 168 [(0, 5, true, 74), (1, 0, true, x1)] [(0, true, x1), (5, true, 74), (5, true, 74)] (sM s (hy_u s.2.2.2 74 14 ((s.2.2.2 74 14) + 1))))))
  refine hY _ _ _ _ ?_
  refine Exists.intro _ (And.intro (wc_178_r74_0t x1 _ _ h.2) (fun r1 m1 h => ?_))
  show Y 171 [(0, 5, true, 74), (1, 0, true, x1)] [(0, true, r1), (5, true, 74)] (sM s m1)
  refine hY _ _ _ _ ?_
  show Y 174 [(0, 5, true, 74), (1, 0, true, x1)] [] (sM s (hy_u m1 74 15 r1))
  refine hY _ _ _ _ ?_
  exact hQ 0 (hy_u m1 74 15 r1) h
def lb_179_0 (s : sS) (Q : sQ) (P0 : hy_m → Prop) (R : Int → hy_m → Prop) : Nat → Option (sL → sS → Prop) := sLb [(155, fun lv t => sG [(0, 5, 74), (1, 0, 0)] lv (ap1 (fun w1 => ∃ m', t = sM s m' ∧ wq_179_155 w1 m' R))), (0, fun lv t => sG [(0, 5, 74)] lv (ap0 (∃ m', t = sM s m' ∧ P0 m')))]
set_option maxRecDepth 30000 in
set_option maxHeartbeats 1000000 in
theorem wj_179_0 (Q : sQ) (R : Int → hy_m → Prop) (s : sS) (P0 : hy_m → Prop) (m : hy_m) (hP0 : ∀ (m : hy_m), P0 m → sRg [(0, 5, 74)] [] → kX dM 2 im_m179 9 0 (sCan [(0, 5, 74)] []) [] (sM s m) Q) (hQ : ∀ x m', R x m' → Q x (sM s m')) (hr : sRg [(0, 5, 74)] []) (h : wf_179_0 R P0 m) : kX dM 2 im_m179 9 0 (sCan [(0, 5, 74)] []) [] (sM s m) Q := by
  unfold wf_179_0 at h
  refine wz2_ok (cs := cs_179) (wr := []) (lb := lb_179_0 s Q P0 R) cs_179_ok (kLb_c (kLab (Bd := fun xs t => ap1 (fun w1 => ∃ m', t = sM s m' ∧ wq_179_155 w1 m' R) xs) rfl (fun xs t r1 r2 hb => by obtain ⟨w1, rfl, hb⟩ := ap1_ok hb; obtain ⟨m', rfl, hx⟩ := hb; exact wk_179_155 Q R (sM s m') _ (fun x m'' hy => hQ x m'' hy) r1 hx)) (kLb_c (kLab (Bd := fun xs t => ap0 (∃ m', t = sM s m' ∧ P0 m') xs) rfl (fun xs t r1 r2 hb => by obtain ⟨rfl, hb⟩ := ap0_ok hb; obtain ⟨m', rfl, hx⟩ := hb; exact hP0 m' hx r1)) kLb_n)) (okL_can rfl hr) (fun Y hY hl => ?_)
  have l155 := hl 155 _ rfl
  have l0 := hl 0 _ rfl
  refine hY _ _ _ _ (?_ : Y 1 [(0, 5, true, 74)] [(5, true, 74)] (sM s m))
  refine hY _ _ _ _ ?_
  refine Exists.intro _ (And.intro (wc_172_r74 _ _ h) (fun r1 m1 h => ?_))
  refine hY _ _ _ _ (?_ : Y 6 [(0, 5, true, 74)] [(0, true, 32), (0, true, r1)] (sM s m1))
  refine hY _ _ _ _ ?_
  refine And.intro (fun hc => ?_) (fun hc => ?_)
  · have h := h.1 hc
    refine hY _ _ _ _ (hY _ _ _ _ (hY _ _ _ _ (?_ : Y 27 [(0, 5, true, 74)] [(0, true, m1 74 14), (5, true, 74)] (sM s m1))))
    refine hY _ _ _ _ ?_
    refine hY _ _ _ _ (?_ : Y 31 [(0, 5, true, 74)] [(5, true, 74)] (sM s (hy_u m1 74 16 (m1 74 14))))
    refine hY _ _ _ _ ?_
    refine Exists.intro _ (And.intro (wc_172_r74 _ _ h) (fun r2 m2 h => ?_))
    refine hY _ _ _ _ (hY _ _ _ _ (hY _ _ _ _ (?_ : Y 39 [(1, 0, true, r2), (0, 5, true, 74)] [(0, true, m2 74 14)] (sM s m2))))
    refine hY _ _ _ _ (hY _ _ _ _ (?_ : Y 43 [(1, 0, true, r2), (0, 5, true, 74)] [(0, true, m2 74 1), (0, true, m2 74 14)] (sM s m2)))
    refine hY _ _ _ _ ?_
    refine And.intro (fun hc => ?_) (fun hc => ?_)
    · have h := h.1 hc
      refine hY _ _ _ _ (?_ : Y 55 [(1, 0, true, r2), (0, 5, true, 74)] [(0, true, r2)] (sM s m2))
      refine hY _ _ _ _ ?_
      refine Exists.intro _ (And.intro (wc_173_0t r2 _ _ h) (fun r3 m3 h => ?_))
      show Y 58 [(1, 0, true, r2), (0, 5, true, 74)] [(2, true, r3)] (sM s m3)
      refine hY _ _ _ _ ?_
      refine And.intro (fun hc => ?_) (fun hc => ?_)
      · have h := h.1 hc
        refine hY _ _ _ _ (?_ : Y 72 [(1, 0, true, r2), (0, 5, true, 74)] [(0, true, r2)] (sM s m3))
        refine hY _ _ _ _ ?_
        refine Exists.intro _ (And.intro (wc_174_0t r2 _ _ h) (fun r4 m4 h => ?_))
        show Y 75 [(1, 0, true, r2), (0, 5, true, 74)] [(2, true, r4)] (sM s m4)
        refine hY _ _ _ _ ?_
        refine And.intro (fun hc => ?_) (fun hc => ?_)
        · have h := h.1 hc
          refine hY _ _ _ _ (?_ : Y 88 [(1, 0, true, r2), (0, 5, true, 74)] [(0, true, r2)] (sM s m4))
          refine hY _ _ _ _ ?_
          refine Exists.intro _ (And.intro (wc_175_0t r2 _ _ h) (fun r5 m5 h => ?_))
          show Y 91 [(1, 0, true, r2), (0, 5, true, 74)] [(2, true, r5)] (sM s m5)
          refine hY _ _ _ _ ?_
          refine And.intro (fun hc => ?_) (fun hc => ?_)
          · have h := h.1 hc
            refine hY _ _ _ _ (hY _ _ _ _ (?_ : Y 104 [(1, 0, true, r2), (0, 5, true, 74)] [(0, true, 58), (0, true, r2)] (sM s m5)))
            refine hY _ _ _ _ ?_
            refine And.intro (fun hc => ?_) (fun hc => ?_)
            · have h := h.1 hc
              show Y 155 [(1, 0, true, r2), (0, 5, true, 74)] [] (sM s m5)
              refine l155 _ _ ?_
              exact (Exists.intro m5 (And.intro rfl h))
            · have h := h.2 hc
              refine hY _ _ _ _ (hY _ _ _ _ (hY _ _ _ _ (?_ : Y 112 [(1, 0, true, r2), (0, 5, true, 74)] [(2, true, 1), (0, true, m5 74 14)] (sM s m5))))
              refine hY _ _ _ _ (hY _ _ _ _ (hY _ _ _ _ (?_ : Y 117 [(1, 0, true, r2), (0, 5, true, 74)] [(0, true, m5 74 1), (0, false, (m5 74 14) + 1)] (sM s m5))))
              refine hY _ _ _ _ ?_
              refine And.intro h.1 ?_
              refine And.intro (fun hc => ?_) (fun hc => ?_)
              · have h := h.2.1 hc
                show Y 155 [(1, 0, true, r2), (0, 5, true, 74)] [] (sM s m5)
                refine l155 _ _ ?_
                exact (Exists.intro m5 (And.intro rfl h))
              · have h := h.2.2 hc
                refine hY _ _ _ _ (hY _ _ _ _ (hY _ _ _ _ (?_ : Y 125 [(1, 0, true, r2), (0, 5, true, 74)] [(5, true, 74), (5, true, 75)] (sM s m5))))
                refine hY _ _ _ _ (hY _ _ _ _ (hY _ _ _ _ (?_ : Y 130 [(1, 0, true, r2), (0, 5, true, 74)] [(0, false, (m5 74 14) + 1), (5, true, 75)] (sM s m5))))
                refine hY _ _ _ _ ?_
                refine (And.intro h.1 (And.intro h.2.1 ?_))
                refine hY _ _ _ _ (?_ : Y 133 [(1, 0, true, r2), (0, 5, true, 74)] [(0, true, 45), (0, true, m5 75 ((m5 74 14) + 1))] (sM s m5))
                refine hY _ _ _ _ ?_
                refine And.intro (fun hc => ?_) (fun hc => ?_)
                · have h := h.2.2.1 hc
                  show Y 155 [(1, 0, true, r2), (0, 5, true, 74)] [] (sM s m5)
                  refine l155 _ _ ?_
                  exact (Exists.intro m5 (And.intro rfl h))
                · have h := h.2.2.2 hc
                  refine hY _ _ _ _ (hY _ _ _ _ (hY _ _ _ _ (?_ : Y 141 [(1, 0, true, r2), (0, 5, true, 74)] [(0, true, m5 74 14), (5, true, 74)] (sM s m5))))
                  refine hY _ _ _ _ (hY _ _ _ _ (?_ : Y 143 [(1, 0, true, r2), (0, 5, true, 74)] [(0, false, (m5 74 14) + 2), (5, true, 74)] (sM s m5)))
                  refine hY _ _ _ _ ?_
                  refine And.intro h.1 ?_
                  refine hY _ _ _ _ (hY _ _ _ _ (?_ : Y 149 [(1, 0, true, r2), (0, 5, true, 74)] [(0, true, 11), (5, true, 74)] (sM s (hy_u m5 74 14 ((m5 74 14) + 2)))))
                  refine hY _ _ _ _ ?_
                  refine hY _ _ _ _ (?_ : Y 174 [(1, 0, true, r2), (0, 5, true, 74)] [] (sM s (hy_u (hy_u m5 74 14 ((m5 74 14) + 2)) 74 15 11)))
                  refine hY _ _ _ _ ?_
                  exact hQ 0 (hy_u (hy_u m5 74 14 ((m5 74 14) + 2)) 74 15 11) h.2
          · have h := h.2 hc
            refine hY _ _ _ _ (?_ : Y 95 [(1, 0, true, r2), (0, 5, true, 74)] [(5, true, 74)] (sM s m5))
            refine hY _ _ _ _ ?_
            refine Exists.intro _ (And.intro (wc_177_r74 _ _ h) (fun r6 m6 h => ?_))
            refine hY _ _ _ _ (?_ : Y 174 [(1, 0, true, r2), (0, 5, true, 74)] [] (sM s m6))
            refine hY _ _ _ _ ?_
            exact hQ 0 m6 h
        · have h := h.2 hc
          refine hY _ _ _ _ (hY _ _ _ _ (hY _ _ _ _ (?_ : Y 81 [(1, 0, true, r2), (0, 5, true, 74)] [(0, true, 4), (0, true, 2), (5, true, 74)] (sM s m4))))
          refine hY _ _ _ _ ?_
          refine Exists.intro _ (And.intro (wc_176_r74_0t_0t 2 4 _ _ h) (fun r7 m7 h => ?_))
          refine hY _ _ _ _ (?_ : Y 174 [(1, 0, true, r2), (0, 5, true, 74)] [] (sM s m7))
          refine hY _ _ _ _ ?_
          exact hQ 0 m7 h
      · have h := h.2 hc
        refine hY _ _ _ _ (hY _ _ _ _ (hY _ _ _ _ (?_ : Y 65 [(1, 0, true, r2), (0, 5, true, 74)] [(0, true, 6), (2, true, 1), (5, true, 74)] (sM s m3))))
        refine hY _ _ _ _ ?_
        refine Exists.intro _ (And.intro (wc_176_r74_2t_0t 1 6 _ _ h) (fun r8 m8 h => ?_))
        refine hY _ _ _ _ (?_ : Y 174 [(1, 0, true, r2), (0, 5, true, 74)] [] (sM s m8))
        refine hY _ _ _ _ ?_
        exact hQ 0 m8 h
    · have h := h.2 hc
      refine hY _ _ _ _ (hY _ _ _ _ (?_ : Y 48 [(1, 0, true, r2), (0, 5, true, 74)] [(2, true, 0), (5, true, 74)] (sM s m2)))
      refine hY _ _ _ _ ?_
      refine hY _ _ _ _ (?_ : Y 174 [(1, 0, true, r2), (0, 5, true, 74)] [] (sM s (hy_u m2 74 15 0)))
      refine hY _ _ _ _ ?_
      exact hQ 0 (hy_u m2 74 15 0) h
  · have h := h.2 hc
    refine hY _ _ _ _ (hY _ _ _ _ (hY _ _ _ _ (?_ : Y 14 [(0, 5, true, 74)] [(0, true, m1 74 14), (5, true, 74)] (sM s m1))))
    refine hY _ _ _ _ (hY _ _ _ _ (?_ : Y 16 [(0, 5, true, 74)] [(0, false, (m1 74 14) + 1), (5, true, 74)] (sM s m1)))
    refine hY _ _ _ _ ?_
    refine And.intro h.1 ?_
    refine hY _ _ _ _ (?_ : Y 0 [(0, 5, true, 74)] [] (sM s (hy_u m1 74 14 ((m1 74 14) + 1))))
    refine l0 _ _ ?_
    exact (Exists.intro (hy_u m1 74 14 ((m1 74 14) + 1)) (And.intro rfl h.2))
theorem wk_179_0 (Q : sQ) (R : Int → hy_m → Prop) (s : sS) (hQ : ∀ x m', R x m' → Q x (sM s m')) (hr : sRg [(0, 5, 74)] []) (h : wq_179 s.2.2.2 R) : kX dM 2 im_m179 9 0 (sCan [(0, 5, 74)] []) [] s Q :=
  h (fun m => sRg [(0, 5, 74)] [] → kX dM 2 im_m179 9 0 (sCan [(0, 5, 74)] []) [] (sM s m) Q) (fun m h hr => wj_179_0 Q R s (fun m => sRg [(0, 5, 74)] [] → kX dM 2 im_m179 9 0 (sCan [(0, 5, 74)] []) [] (sM s m) Q) m  (fun _ hp hr => hp hr) hQ hr h) hr
def we_179 : sFf := sEf 2 [(0, 5, 74)] (fun xs s Q => ap0 (wq_179 s.2.2.2 Q) xs)
theorem we_179_ok : kS dM 3 179 9 (.inl we_179) := sEf_ok (mi := im_m179) rfl rfl rfl (fun R xs s r1 hb => by obtain ⟨rfl, hb⟩ := ap0_ok hb; exact wk_179_0 _ R s (fun x m' hx => ⟨m', rfl, hx⟩) r1 hb)
/-- LMModel.failsHere()I -/
def wq_180 (m : hy_m) (Q : Int → hy_m → Prop) : Prop := Q (-9) (hy_u m 74 18 (m 74 16))
def cs_180 : List (Nat × Nat × sFS) := []
theorem cs_180_ok : kCs dM 0 cs_180 := kCs_n
def lb_180_0 (s : sS) (Q : sQ) (R : Int → hy_m → Prop) : Nat → Option (sL → sS → Prop) := sLb []
set_option maxRecDepth 30000 in
set_option maxHeartbeats 1000000 in
theorem wk_180_0 (Q : sQ) (R : Int → hy_m → Prop) (s : sS) (hQ : ∀ x m', R x m' → Q x (sM s m')) (hr : sRg [(0, 5, 74)] []) (h : wq_180 s.2.2.2 R) : kX dM 0 im_m180 0 0 (sCan [(0, 5, 74)] []) [] s Q := by
  unfold wq_180 at h
  refine wz2_ok (cs := cs_180) (wr := []) (lb := lb_180_0 s Q R) cs_180_ok kLb_n (okL_can rfl hr) (fun Y hY hl => ?_)
  refine hY _ _ _ _ (hY _ _ _ _ (hY _ _ _ _ (?_ : Y 5 [(0, 5, true, 74)] [(0, true, s.2.2.2 74 16), (5, true, 74)] s)))
  refine hY _ _ _ _ ?_
  refine hY _ _ _ _ (?_ : Y 10 [(0, 5, true, 74)] [(0, true, (-9))] (sM s (hy_u s.2.2.2 74 18 (s.2.2.2 74 16))))
  refine hY _ _ _ _ ?_
  exact hQ (-9) (hy_u s.2.2.2 74 18 (s.2.2.2 74 16)) h
def we_180 : sFf := sEf 1 [(0, 5, 74)] (fun xs s Q => ap0 (wq_180 s.2.2.2 Q) xs)
theorem we_180_ok : kS dM 1 180 0 (.inl we_180) := sEf_ok (mi := im_m180) rfl rfl rfl (fun R xs s r1 hb => by obtain ⟨rfl, hb⟩ := ap0_ok hb; exact wk_180_0 _ R s (fun x m' hx => ⟨m', rfl, hx⟩) r1 hb)
/-- LMModel.node(IJ)I -/
def wq_181 (x1 : Int) (x2 : Int) (m : hy_m) (Q : Int → hy_m → Prop) : Prop := 0 ≤ (m 74 19) ∧ (m 74 19) < 28 ∧ (0 ≤ (m 74 19) ∧ (m 74 19) < 28 ∧ (0 ≤ (m 74 19) ∧ (m 74 19) < 28 ∧ (hy_r 0 ((m 80 (m 74 19)) + 1) ∧ (0 ≤ ((128 * (m 74 19)) + (m 80 (m 74 19))) ∧ ((128 * (m 74 19)) + (m 80 (m 74 19))) < 3584 ∧ (0 ≤ ((128 * (m 74 19)) + (m 80 (m 74 19))) ∧ ((128 * (m 74 19)) + (m 80 (m 74 19))) < 3584 ∧ (0 ≤ ((128 * (m 74 19)) + (m 80 (m 74 19))) ∧ ((128 * (m 74 19)) + (m 80 (m 74 19))) < 3584 ∧ (hy_r 0 ((128 * (m 74 19)) + (m 80 (m 74 19))) ∧ (Q ((128 * (m 74 19)) + (m 80 (m 74 19))) (hy_u (hy_u (hy_u (hy_u m 80 (m 74 19) ((m 80 (m 74 19)) + 1)) 76 ((128 * (m 74 19)) + (m 80 (m 74 19))) x1) 77 ((128 * (m 74 19)) + (m 80 (m 74 19))) x2) 78 ((128 * (m 74 19)) + (m 80 (m 74 19))) 0)))))))))
def cs_181 : List (Nat × Nat × sFS) := []
theorem cs_181_ok : kCs dM 0 cs_181 := kCs_n
def lb_181_0 (s : sS) (Q : sQ) (R : Int → hy_m → Prop) (x1 : Int) (x2 : Int) : Nat → Option (sL → sS → Prop) := sLb []
set_option maxRecDepth 30000 in
set_option maxHeartbeats 1000000 in
theorem wk_181_0 (Q : sQ) (R : Int → hy_m → Prop) (s : sS) (x1 : Int) (x2 : Int) (hQ : ∀ x m', R x m' → Q x (sM s m')) (hr : sRg [(0, 5, 74), (1, 0, 0), (2, 1, 0)] [x1, x2]) (h : wq_181 x1 x2 s.2.2.2 R) : kX dM 0 im_m181 0 0 (sCan [(0, 5, 74), (1, 0, 0), (2, 1, 0)] [x1, x2]) [] s Q := by
  unfold wq_181 at h
  refine wz2_ok (cs := cs_181) (wr := []) (lb := lb_181_0 s Q R x1 x2) cs_181_ok kLb_n (okL_can rfl hr) (fun Y hY hl => ?_)
  refine hY _ _ _ _ (hY _ _ _ _ (hY _ _ _ _ (?_ : Y 7 [(0, 5, true, 74), (1, 0, true, x1), (2, 1, true, x2)] [(0, true, s.2.2.2 74 19), (0, true, 128)] s)))
  refine hY _ _ _ _ (hY _ _ _ _ (hY _ _ _ _ (?_ : Y 12 [(0, 5, true, 74), (1, 0, true, x1), (2, 1, true, x2)] [(5, true, 80), (0, false, 128 * (s.2.2.2 74 19))] s)))
  refine hY _ _ _ _ (hY _ _ _ _ (?_ : Y 16 [(0, 5, true, 74), (1, 0, true, x1), (2, 1, true, x2)] [(0, true, s.2.2.2 74 19), (5, true, 80), (0, false, 128 * (s.2.2.2 74 19))] s))
  refine hY _ _ _ _ ?_
  refine (And.intro h.1 (And.intro h.2.1 ?_))
  refine hY _ _ _ _ (hY _ _ _ _ (hY _ _ _ _ (?_ : Y 21 [(4, 0, false, (128 * (s.2.2.2 74 19)) + (s.2.2.2 80 (s.2.2.2 74 19))), (0, 5, true, 74), (1, 0, true, x1), (2, 1, true, x2)] [(5, true, 74)] s)))
  refine hY _ _ _ _ (hY _ _ _ _ (hY _ _ _ _ (?_ : Y 28 [(4, 0, false, (128 * (s.2.2.2 74 19)) + (s.2.2.2 80 (s.2.2.2 74 19))), (0, 5, true, 74), (1, 0, true, x1), (2, 1, true, x2)] [(0, true, s.2.2.2 74 19), (5, true, 80)] s)))
  refine hY _ _ _ _ (?_ : Y 29 [(4, 0, false, (128 * (s.2.2.2 74 19)) + (s.2.2.2 80 (s.2.2.2 74 19))), (0, 5, true, 74), (1, 0, true, x1), (2, 1, true, x2)] [(0, true, s.2.2.2 74 19), (5, true, 80), (0, true, s.2.2.2 74 19), (5, true, 80)] s)
  refine hY _ _ _ _ ?_
  refine (And.intro h.2.2.1 (And.intro h.2.2.2.1 ?_))
  refine hY _ _ _ _ (hY _ _ _ _ (?_ : Y 32 [(4, 0, false, (128 * (s.2.2.2 74 19)) + (s.2.2.2 80 (s.2.2.2 74 19))), (0, 5, true, 74), (1, 0, true, x1), (2, 1, true, x2)] [(0, false, (s.2.2.2 80 (s.2.2.2 74 19)) + 1), (0, true, s.2.2.2 74 19), (5, true, 80)] s))
  refine hY _ _ _ _ ?_
  refine (And.intro h.2.2.2.2.1 (And.intro h.2.2.2.2.2.1 ?_))
  refine And.intro h.2.2.2.2.2.2.1 ?_
  refine hY _ _ _ _ (hY _ _ _ _ (hY _ _ _ _ (?_ : Y 39 [(4, 0, false, (128 * (s.2.2.2 74 19)) + (s.2.2.2 80 (s.2.2.2 74 19))), (0, 5, true, 74), (1, 0, true, x1), (2, 1, true, x2)] [(0, false, (128 * (s.2.2.2 74 19)) + (s.2.2.2 80 (s.2.2.2 74 19))), (5, true, 76)] (sM s (hy_u s.2.2.2 80 (s.2.2.2 74 19) ((s.2.2.2 80 (s.2.2.2 74 19)) + 1))))))
  refine hY _ _ _ _ (?_ : Y 40 [(4, 0, false, (128 * (s.2.2.2 74 19)) + (s.2.2.2 80 (s.2.2.2 74 19))), (0, 5, true, 74), (1, 0, true, x1), (2, 1, true, x2)] [(0, true, x1), (0, false, (128 * (s.2.2.2 74 19)) + (s.2.2.2 80 (s.2.2.2 74 19))), (5, true, 76)] (sM s (hy_u s.2.2.2 80 (s.2.2.2 74 19) ((s.2.2.2 80 (s.2.2.2 74 19)) + 1))))
  refine hY _ _ _ _ ?_
  refine (And.intro h.2.2.2.2.2.2.2.1 (And.intro h.2.2.2.2.2.2.2.2.1 ?_))
  refine hY _ _ _ _ (hY _ _ _ _ (hY _ _ _ _ (?_ : Y 47 [(4, 0, false, (128 * (s.2.2.2 74 19)) + (s.2.2.2 80 (s.2.2.2 74 19))), (0, 5, true, 74), (1, 0, true, x1), (2, 1, true, x2)] [(0, false, (128 * (s.2.2.2 74 19)) + (s.2.2.2 80 (s.2.2.2 74 19))), (5, true, 77)] (sM s (hy_u (hy_u s.2.2.2 80 (s.2.2.2 74 19) ((s.2.2.2 80 (s.2.2.2 74 19)) + 1)) 76 ((128 * (s.2.2.2 74 19)) + (s.2.2.2 80 (s.2.2.2 74 19))) x1)))))
  refine hY _ _ _ _ (?_ : Y 48 [(4, 0, false, (128 * (s.2.2.2 74 19)) + (s.2.2.2 80 (s.2.2.2 74 19))), (0, 5, true, 74), (1, 0, true, x1), (2, 1, true, x2)] [(1, true, x2), (0, false, (128 * (s.2.2.2 74 19)) + (s.2.2.2 80 (s.2.2.2 74 19))), (5, true, 77)] (sM s (hy_u (hy_u s.2.2.2 80 (s.2.2.2 74 19) ((s.2.2.2 80 (s.2.2.2 74 19)) + 1)) 76 ((128 * (s.2.2.2 74 19)) + (s.2.2.2 80 (s.2.2.2 74 19))) x1)))
  refine hY _ _ _ _ ?_
  refine (And.intro h.2.2.2.2.2.2.2.2.2.1 (And.intro h.2.2.2.2.2.2.2.2.2.2.1 ?_))
  refine hY _ _ _ _ (hY _ _ _ _ (hY _ _ _ _ (?_ : Y 55 [(4, 0, false, (128 * (s.2.2.2 74 19)) + (s.2.2.2 80 (s.2.2.2 74 19))), (0, 5, true, 74), (1, 0, true, x1), (2, 1, true, x2)] [(0, false, (128 * (s.2.2.2 74 19)) + (s.2.2.2 80 (s.2.2.2 74 19))), (5, true, 78)] (sM s (hy_u (hy_u (hy_u s.2.2.2 80 (s.2.2.2 74 19) ((s.2.2.2 80 (s.2.2.2 74 19)) + 1)) 76 ((128 * (s.2.2.2 74 19)) + (s.2.2.2 80 (s.2.2.2 74 19))) x1) 77 ((128 * (s.2.2.2 74 19)) + (s.2.2.2 80 (s.2.2.2 74 19))) x2)))))
  refine hY _ _ _ _ (?_ : Y 56 [(4, 0, false, (128 * (s.2.2.2 74 19)) + (s.2.2.2 80 (s.2.2.2 74 19))), (0, 5, true, 74), (1, 0, true, x1), (2, 1, true, x2)] [(2, true, 0), (0, false, (128 * (s.2.2.2 74 19)) + (s.2.2.2 80 (s.2.2.2 74 19))), (5, true, 78)] (sM s (hy_u (hy_u (hy_u s.2.2.2 80 (s.2.2.2 74 19) ((s.2.2.2 80 (s.2.2.2 74 19)) + 1)) 76 ((128 * (s.2.2.2 74 19)) + (s.2.2.2 80 (s.2.2.2 74 19))) x1) 77 ((128 * (s.2.2.2 74 19)) + (s.2.2.2 80 (s.2.2.2 74 19))) x2)))
  refine hY _ _ _ _ ?_
  refine (And.intro h.2.2.2.2.2.2.2.2.2.2.2.1 (And.intro h.2.2.2.2.2.2.2.2.2.2.2.2.1 ?_))
  have h := h.2.2.2.2.2.2.2.2.2.2.2.2.2
  refine hY _ _ _ _ (?_ : Y 59 [(4, 0, false, (128 * (s.2.2.2 74 19)) + (s.2.2.2 80 (s.2.2.2 74 19))), (0, 5, true, 74), (1, 0, true, x1), (2, 1, true, x2)] [(0, false, (128 * (s.2.2.2 74 19)) + (s.2.2.2 80 (s.2.2.2 74 19)))] (sM s (hy_u (hy_u (hy_u (hy_u s.2.2.2 80 (s.2.2.2 74 19) ((s.2.2.2 80 (s.2.2.2 74 19)) + 1)) 76 ((128 * (s.2.2.2 74 19)) + (s.2.2.2 80 (s.2.2.2 74 19))) x1) 77 ((128 * (s.2.2.2 74 19)) + (s.2.2.2 80 (s.2.2.2 74 19))) x2) 78 ((128 * (s.2.2.2 74 19)) + (s.2.2.2 80 (s.2.2.2 74 19))) 0)))
  refine hY _ _ _ _ ?_
  refine And.intro h.1 ?_
  exact hQ ((128 * (s.2.2.2 74 19)) + (s.2.2.2 80 (s.2.2.2 74 19))) (hy_u (hy_u (hy_u (hy_u s.2.2.2 80 (s.2.2.2 74 19) ((s.2.2.2 80 (s.2.2.2 74 19)) + 1)) 76 ((128 * (s.2.2.2 74 19)) + (s.2.2.2 80 (s.2.2.2 74 19))) x1) 77 ((128 * (s.2.2.2 74 19)) + (s.2.2.2 80 (s.2.2.2 74 19))) x2) 78 ((128 * (s.2.2.2 74 19)) + (s.2.2.2 80 (s.2.2.2 74 19))) 0) h.2
def we_181 : sFf := sEf 5 [(0, 5, 74), (1, 0, 0), (2, 1, 0)] (fun xs s Q => ap2 (fun x1 x2 => wq_181 x1 x2 s.2.2.2 Q) xs)
theorem we_181_ok : kS dM 1 181 0 (.inl we_181) := sEf_ok (mi := im_m181) rfl rfl rfl (fun R xs s r1 hb => by obtain ⟨x1, x2, rfl, hb⟩ := ap2_ok hb; exact wk_181_0 _ R s x1 x2 (fun x m' hx => ⟨m', rfl, hx⟩) r1 hb)
/-- LMModel.give(II)V -/
def wq_182 (x1 : Int) (x2 : Int) (m : hy_m) (Q : Int → hy_m → Prop) : Prop := 0 ≤ x1 ∧ x1 < 3584 ∧ (0 ≤ ((3 * x1) + (m 78 x1)) ∧ ((3 * x1) + (m 78 x1)) < 10752 ∧ (0 ≤ x1 ∧ x1 < 3584 ∧ (0 ≤ x1 ∧ x1 < 3584 ∧ (hy_r 0 ((m 78 x1) + 1) ∧ (0 ≤ x1 ∧ x1 < 3584 ∧ (Q 0 (hy_u (hy_u (hy_u m 79 ((3 * x1) + (m 78 x1)) x2) 78 x1 ((m 78 x1) + 1)) 76 x1 4)))))))
def cs_182 : List (Nat × Nat × sFS) := []
theorem cs_182_ok : kCs dM 0 cs_182 := kCs_n
def lb_182_0 (s : sS) (Q : sQ) (R : Int → hy_m → Prop) (x1 : Int) (x2 : Int) : Nat → Option (sL → sS → Prop) := sLb []
set_option maxRecDepth 30000 in
set_option maxHeartbeats 1000000 in
theorem wk_182_0 (Q : sQ) (R : Int → hy_m → Prop) (s : sS) (x1 : Int) (x2 : Int) (hQ : ∀ x m', R x m' → Q x (sM s m')) (hr : sRg [(0, 5, 74), (1, 0, 0), (2, 0, 0)] [x1, x2]) (h : wq_182 x1 x2 s.2.2.2 R) : kX dM 0 im_m182 9 0 (sCan [(0, 5, 74), (1, 0, 0), (2, 0, 0)] [x1, x2]) [] s Q := by
  unfold wq_182 at h
  refine wz2_ok (cs := cs_182) (wr := []) (lb := lb_182_0 s Q R x1 x2) cs_182_ok kLb_n (okL_can rfl hr) (fun Y hY hl => ?_)
  refine hY _ _ _ _ (hY _ _ _ _ (hY _ _ _ _ (?_ : Y 5 [(0, 5, true, 74), (1, 0, true, x1), (2, 0, true, x2)] [(0, true, 3), (5, true, 79)] s)))
  refine hY _ _ _ _ (hY _ _ _ _ (hY _ _ _ _ (?_ : Y 8 [(0, 5, true, 74), (1, 0, true, x1), (2, 0, true, x2)] [(5, true, 74), (0, false, 3 * x1), (5, true, 79)] s)))
  refine hY _ _ _ _ (hY _ _ _ _ (?_ : Y 12 [(0, 5, true, 74), (1, 0, true, x1), (2, 0, true, x2)] [(0, true, x1), (5, true, 78), (0, false, 3 * x1), (5, true, 79)] s))
  refine hY _ _ _ _ ?_
  refine (And.intro h.1 (And.intro h.2.1 ?_))
  refine hY _ _ _ _ (hY _ _ _ _ (?_ : Y 15 [(0, 5, true, 74), (1, 0, true, x1), (2, 0, true, x2)] [(0, true, x2), (0, false, (3 * x1) + (s.2.2.2 78 x1)), (5, true, 79)] s))
  refine hY _ _ _ _ ?_
  refine (And.intro h.2.2.1 (And.intro h.2.2.2.1 ?_))
  refine hY _ _ _ _ (hY _ _ _ _ (hY _ _ _ _ (?_ : Y 21 [(0, 5, true, 74), (1, 0, true, x1), (2, 0, true, x2)] [(0, true, x1), (5, true, 78)] (sM s (hy_u s.2.2.2 79 ((3 * x1) + (s.2.2.2 78 x1)) x2)))))
  refine hY _ _ _ _ (?_ : Y 22 [(0, 5, true, 74), (1, 0, true, x1), (2, 0, true, x2)] [(0, true, x1), (5, true, 78), (0, true, x1), (5, true, 78)] (sM s (hy_u s.2.2.2 79 ((3 * x1) + (s.2.2.2 78 x1)) x2)))
  refine hY _ _ _ _ ?_
  refine (And.intro h.2.2.2.2.1 (And.intro h.2.2.2.2.2.1 ?_))
  refine hY _ _ _ _ (hY _ _ _ _ (?_ : Y 25 [(0, 5, true, 74), (1, 0, true, x1), (2, 0, true, x2)] [(0, false, (s.2.2.2 78 x1) + 1), (0, true, x1), (5, true, 78)] (sM s (hy_u s.2.2.2 79 ((3 * x1) + (s.2.2.2 78 x1)) x2))))
  refine hY _ _ _ _ ?_
  refine (And.intro h.2.2.2.2.2.2.1 (And.intro h.2.2.2.2.2.2.2.1 ?_))
  refine And.intro h.2.2.2.2.2.2.2.2.1 ?_
  refine hY _ _ _ _ (hY _ _ _ _ (hY _ _ _ _ (?_ : Y 31 [(0, 5, true, 74), (1, 0, true, x1), (2, 0, true, x2)] [(0, true, x1), (5, true, 76)] (sM s (hy_u (hy_u s.2.2.2 79 ((3 * x1) + (s.2.2.2 78 x1)) x2) 78 x1 ((s.2.2.2 78 x1) + 1))))))
  refine hY _ _ _ _ (?_ : Y 32 [(0, 5, true, 74), (1, 0, true, x1), (2, 0, true, x2)] [(0, true, 4), (0, true, x1), (5, true, 76)] (sM s (hy_u (hy_u s.2.2.2 79 ((3 * x1) + (s.2.2.2 78 x1)) x2) 78 x1 ((s.2.2.2 78 x1) + 1))))
  refine hY _ _ _ _ ?_
  refine (And.intro h.2.2.2.2.2.2.2.2.2.1 (And.intro h.2.2.2.2.2.2.2.2.2.2.1 ?_))
  show Y 33 [(0, 5, true, 74), (1, 0, true, x1), (2, 0, true, x2)] [] (sM s (hy_u (hy_u (hy_u s.2.2.2 79 ((3 * x1) + (s.2.2.2 78 x1)) x2) 78 x1 ((s.2.2.2 78 x1) + 1)) 76 x1 4))
  refine hY _ _ _ _ ?_
  exact hQ 0 (hy_u (hy_u (hy_u s.2.2.2 79 ((3 * x1) + (s.2.2.2 78 x1)) x2) 78 x1 ((s.2.2.2 78 x1) + 1)) 76 x1 4) h.2.2.2.2.2.2.2.2.2.2.2
def we_182 : sFf := sEf 3 [(0, 5, 74), (1, 0, 0), (2, 0, 0)] (fun xs s Q => ap2 (fun x1 x2 => wq_182 x1 x2 s.2.2.2 Q) xs)
theorem we_182_ok : kS dM 1 182 9 (.inl we_182) := sEf_ok (mi := im_m182) rfl rfl rfl (fun R xs s r1 hb => by obtain ⟨x1, x2, rfl, hb⟩ := ap2_ok hb; exact wk_182_0 _ R s x1 x2 (fun x m' hx => ⟨m', rfl, hx⟩) r1 hb)
/-- LMModel.variableNode()I -/
def wq_183_30 (x1 : Int) (m : hy_m) (Q : Int → hy_m → Prop) : Prop := (x1 ≠ 8 → ((x1 ≠ (m 74 21) → (wq_181 1 x1 m (fun r1 m1 => Q r1 m1))) ∧ (x1 = (m 74 21) → (0 ≤ x1 ∧ x1 < 8 ∧ (hy_r 0 ((m 74 21) + 1) ∧ (wq_181 1 x1 (hy_u (hy_u m 87 x1 (m 74 17)) 74 21 ((m 74 21) + 1)) (fun r2 m2 => Q r2 m2))))))) ∧ (x1 = 8 → (wq_180 m (fun r3 m3 => Q r3 m3)))
def wf_183_2 (Q : Int → hy_m → Prop) (P2 : Int → hy_m → Prop) (x1 : Int) (m : hy_m) : Prop := ((m 74 21) ≤ x1 → (wq_183_30 x1 m Q)) ∧ (x1 < (m 74 21) → (0 ≤ x1 ∧ x1 < 8 ∧ (((m 87 x1) = (m 74 17) → (wq_183_30 x1 m Q)) ∧ ((m 87 x1) ≠ (m 74 17) → (hy_r 0 (x1 + 1) ∧ (P2 (x1 + 1) m))))))
def wq_183_2 (x1 : Int) (m : hy_m) (Q : Int → hy_m → Prop) : Prop := wL1 hy_m (wf_183_2 Q) x1 m
def wq_183 (m : hy_m) (Q : Int → hy_m → Prop) : Prop := wq_183_2 0 m Q
theorem wc_181_r74_2t_1t (x1 : Int) (x2 : Int) (s : sS) (R : Int → hy_m → Prop) (h : wq_181 x1 x2 s.2.2.2 R) : we_181 [(5, true, 74), (2, true, x1), (1, true, x2)] s R := h
theorem wc_180_r74 (s : sS) (R : Int → hy_m → Prop) (h : wq_180 s.2.2.2 R) : we_180 [(5, true, 74)] s R := h
def cs_183 : List (Nat × Nat × sFS) := [(180, 0, .inl we_180), (181, 0, .inl we_181)]
theorem cs_183_ok : kCs dM 1 cs_183 := (kCs_c (Or.inl rfl) (we_180_ok.deep (by decide)) (kCs_c (Or.inl rfl) (we_181_ok.deep (by decide)) kCs_n))
def lb_183_30 (s : sS) (Q : sQ) (R : Int → hy_m → Prop) (x1 : Int) : Nat → Option (sL → sS → Prop) := sLb []
set_option maxRecDepth 30000 in
set_option maxHeartbeats 1000000 in
theorem wk_183_30 (Q : sQ) (R : Int → hy_m → Prop) (s : sS) (x1 : Int) (hQ : ∀ x m', R x m' → Q x (sM s m')) (hr : sRg [(0, 5, 74), (1, 0, 0)] [x1]) (h : wq_183_30 x1 s.2.2.2 R) : kX dM 1 im_m183 0 30 (sCan [(0, 5, 74), (1, 0, 0)] [x1]) [] s Q := by
  unfold wq_183_30 at h
  refine wz2_ok (cs := cs_183) (wr := []) (lb := lb_183_30 s Q R x1) cs_183_ok kLb_n (okL_can rfl hr) (fun Y hY hl => ?_)
  refine hY _ _ _ _ (hY _ _ _ _ (?_ : Y 33 [(0, 5, true, 74), (1, 0, true, x1)] [(0, true, 8), (0, true, x1)] s))
  refine hY _ _ _ _ ?_
  refine And.intro (fun hc => ?_) (fun hc => ?_)
  · have h := h.1 hc
    refine hY _ _ _ _ (hY _ _ _ _ (hY _ _ _ _ (?_ : Y 46 [(0, 5, true, 74), (1, 0, true, x1)] [(0, true, s.2.2.2 74 21), (0, true, x1)] s)))
    refine hY _ _ _ _ ?_
    refine And.intro (fun hc => ?_) (fun hc => ?_)
    · have h := h.1 hc
      refine hY _ _ _ _ (hY _ _ _ _ (hY _ _ _ _ (?_ : Y 72 [(0, 5, true, 74), (1, 0, true, x1)] [(0, true, x1), (2, true, 1), (5, true, 74)] s)))
      refine hY _ _ _ _ ?_
      show Y 73 [(0, 5, true, 74), (1, 0, true, x1)] [(1, true, x1), (2, true, 1), (5, true, 74)] s
      refine hY _ _ _ _ ?_
      refine Exists.intro _ (And.intro (wc_181_r74_2t_1t 1 x1 _ _ h) (fun r1 m1 h => ?_))
      show Y 76 [(0, 5, true, 74), (1, 0, true, x1)] [(0, true, r1)] (sM s m1)
      refine hY _ _ _ _ ?_
      exact hQ r1 m1 h
    · have h := h.2 hc
      refine hY _ _ _ _ (hY _ _ _ _ (hY _ _ _ _ (?_ : Y 54 [(0, 5, true, 74), (1, 0, true, x1)] [(0, true, x1), (5, true, 87)] s)))
      refine hY _ _ _ _ (hY _ _ _ _ (?_ : Y 58 [(0, 5, true, 74), (1, 0, true, x1)] [(1, true, s.2.2.2 74 17), (0, true, x1), (5, true, 87)] s))
      refine hY _ _ _ _ ?_
      refine (And.intro h.1 (And.intro h.2.1 ?_))
      refine hY _ _ _ _ (hY _ _ _ _ (hY _ _ _ _ (?_ : Y 64 [(0, 5, true, 74), (1, 0, true, x1)] [(0, true, s.2.2.2 74 21), (5, true, 74)] (sM s (hy_u s.2.2.2 87 x1 (s.2.2.2 74 17))))))
      refine hY _ _ _ _ (hY _ _ _ _ (?_ : Y 66 [(0, 5, true, 74), (1, 0, true, x1)] [(0, false, (s.2.2.2 74 21) + 1), (5, true, 74)] (sM s (hy_u s.2.2.2 87 x1 (s.2.2.2 74 17)))))
      refine hY _ _ _ _ ?_
      refine And.intro h.2.2.1 ?_
      refine hY _ _ _ _ (hY _ _ _ _ (hY _ _ _ _ (?_ : Y 72 [(0, 5, true, 74), (1, 0, true, x1)] [(0, true, x1), (2, true, 1), (5, true, 74)] (sM s (hy_u (hy_u s.2.2.2 87 x1 (s.2.2.2 74 17)) 74 21 ((s.2.2.2 74 21) + 1))))))
      refine hY _ _ _ _ ?_
      show Y 73 [(0, 5, true, 74), (1, 0, true, x1)] [(1, true, x1), (2, true, 1), (5, true, 74)] (sM s (hy_u (hy_u s.2.2.2 87 x1 (s.2.2.2 74 17)) 74 21 ((s.2.2.2 74 21) + 1)))
      refine hY _ _ _ _ ?_
      refine Exists.intro _ (And.intro (wc_181_r74_2t_1t 1 x1 _ _ h.2.2.2) (fun r2 m2 h => ?_))
      show Y 76 [(0, 5, true, 74), (1, 0, true, x1)] [(0, true, r2)] (sM s m2)
      refine hY _ _ _ _ ?_
      exact hQ r2 m2 h
  · have h := h.2 hc
    refine hY _ _ _ _ (?_ : Y 37 [(0, 5, true, 74), (1, 0, true, x1)] [(5, true, 74)] s)
    refine hY _ _ _ _ ?_
    refine Exists.intro _ (And.intro (wc_180_r74 _ _ h) (fun r3 m3 h => ?_))
    show Y 40 [(0, 5, true, 74), (1, 0, true, x1)] [(0, true, r3)] (sM s m3)
    refine hY _ _ _ _ ?_
    exact hQ r3 m3 h
def lb_183_2 (s : sS) (Q : sQ) (P2 : Int → hy_m → Prop) (R : Int → hy_m → Prop) (x1 : Int) : Nat → Option (sL → sS → Prop) := sLb [(30, fun lv t => sG [(0, 5, 74), (1, 0, 0)] lv (ap1 (fun w1 => ∃ m', t = sM s m' ∧ wq_183_30 w1 m' R))), (2, fun lv t => sG [(0, 5, 74), (1, 0, 0)] lv (ap1 (fun w1 => ∃ m', t = sM s m' ∧ P2 w1 m')))]
set_option maxRecDepth 30000 in
set_option maxHeartbeats 1000000 in
theorem wj_183_2 (Q : sQ) (R : Int → hy_m → Prop) (s : sS) (P2 : Int → hy_m → Prop) (x1 : Int) (m : hy_m) (hP2 : ∀ (z1 : Int) (m : hy_m), P2 z1 m → sRg [(0, 5, 74), (1, 0, 0)] [z1] → kX dM 1 im_m183 0 2 (sCan [(0, 5, 74), (1, 0, 0)] [z1]) [] (sM s m) Q) (hQ : ∀ x m', R x m' → Q x (sM s m')) (hr : sRg [(0, 5, 74), (1, 0, 0)] [x1]) (h : wf_183_2 R P2 x1 m) : kX dM 1 im_m183 0 2 (sCan [(0, 5, 74), (1, 0, 0)] [x1]) [] (sM s m) Q := by
  unfold wf_183_2 at h
  refine wz2_ok (cs := cs_183) (wr := []) (lb := lb_183_2 s Q P2 R x1) cs_183_ok (kLb_c (kLab (Bd := fun xs t => ap1 (fun w1 => ∃ m', t = sM s m' ∧ wq_183_30 w1 m' R) xs) rfl (fun xs t r1 r2 hb => by obtain ⟨w1, rfl, hb⟩ := ap1_ok hb; obtain ⟨m', rfl, hx⟩ := hb; exact wk_183_30 Q R (sM s m') _ (fun x m'' hy => hQ x m'' hy) r1 hx)) (kLb_c (kLab (Bd := fun xs t => ap1 (fun w1 => ∃ m', t = sM s m' ∧ P2 w1 m') xs) rfl (fun xs t r1 r2 hb => by obtain ⟨w1, rfl, hb⟩ := ap1_ok hb; obtain ⟨m', rfl, hx⟩ := hb; exact hP2 _ m' hx r1)) kLb_n)) (okL_can rfl hr) (fun Y hY hl => ?_)
  have l30 := hl 30 _ rfl
  have l2 := hl 2 _ rfl
  refine hY _ _ _ _ (hY _ _ _ _ (hY _ _ _ _ (?_ : Y 7 [(0, 5, true, 74), (1, 0, true, x1)] [(0, true, m 74 21), (0, true, x1)] (sM s m))))
  refine hY _ _ _ _ ?_
  refine And.intro (fun hc => ?_) (fun hc => ?_)
  · have h := h.1 hc
    show Y 30 [(0, 5, true, 74), (1, 0, true, x1)] [] (sM s m)
    refine l30 _ _ ?_
    exact (Exists.intro m (And.intro rfl h))
  · have h := h.2 hc
    refine hY _ _ _ _ (hY _ _ _ _ (hY _ _ _ _ (?_ : Y 15 [(0, 5, true, 74), (1, 0, true, x1)] [(0, true, x1), (5, true, 87)] (sM s m))))
    refine hY _ _ _ _ ?_
    refine (And.intro h.1 (And.intro h.2.1 ?_))
    refine hY _ _ _ _ (hY _ _ _ _ (?_ : Y 20 [(0, 5, true, 74), (1, 0, true, x1)] [(1, true, m 74 17), (1, true, m 87 x1)] (sM s m)))
    refine hY _ _ _ _ ?_
    refine And.intro (fun hc => ?_) (fun hc => ?_)
    · have h := h.2.2.1 hc
      show Y 30 [(0, 5, true, 74), (1, 0, true, x1)] [] (sM s m)
      refine l30 _ _ ?_
      exact (Exists.intro m (And.intro rfl h))
    · have h := h.2.2.2 hc
      refine hY _ _ _ _ (hY _ _ _ _ (?_ : Y 2 [(1, 0, false, x1 + 1), (0, 5, true, 74)] [] (sM s m)))
      refine l2 _ _ ?_
      refine And.intro h.1 ?_
      exact (Exists.intro m (And.intro rfl h.2))
theorem wk_183_2 (Q : sQ) (R : Int → hy_m → Prop) (s : sS) (x1 : Int) (hQ : ∀ x m', R x m' → Q x (sM s m')) (hr : sRg [(0, 5, 74), (1, 0, 0)] [x1]) (h : wq_183_2 x1 s.2.2.2 R) : kX dM 1 im_m183 0 2 (sCan [(0, 5, 74), (1, 0, 0)] [x1]) [] s Q :=
  h (fun x1 m => sRg [(0, 5, 74), (1, 0, 0)] [x1] → kX dM 1 im_m183 0 2 (sCan [(0, 5, 74), (1, 0, 0)] [x1]) [] (sM s m) Q) (fun x1 m h hr => wj_183_2 Q R s (fun x1 m => sRg [(0, 5, 74), (1, 0, 0)] [x1] → kX dM 1 im_m183 0 2 (sCan [(0, 5, 74), (1, 0, 0)] [x1]) [] (sM s m) Q) x1 m  (fun _ _ hp hr => hp hr) hQ hr h) hr
def lb_183_0 (s : sS) (Q : sQ) (R : Int → hy_m → Prop) : Nat → Option (sL → sS → Prop) := sLb [(2, fun lv t => sG [(0, 5, 74), (1, 0, 0)] lv (ap1 (fun w1 => ∃ m', t = sM s m' ∧ wq_183_2 w1 m' R)))]
set_option maxRecDepth 30000 in
set_option maxHeartbeats 1000000 in
theorem wk_183_0 (Q : sQ) (R : Int → hy_m → Prop) (s : sS) (hQ : ∀ x m', R x m' → Q x (sM s m')) (hr : sRg [(0, 5, 74)] []) (h : wq_183 s.2.2.2 R) : kX dM 1 im_m183 0 0 (sCan [(0, 5, 74)] []) [] s Q := by
  unfold wq_183 at h
  refine wz2_ok (cs := cs_183) (wr := []) (lb := lb_183_0 s Q R) cs_183_ok (kLb_c (kLab (Bd := fun xs t => ap1 (fun w1 => ∃ m', t = sM s m' ∧ wq_183_2 w1 m' R) xs) rfl (fun xs t r1 r2 hb => by obtain ⟨w1, rfl, hb⟩ := ap1_ok hb; obtain ⟨m', rfl, hx⟩ := hb; exact wk_183_2 Q R (sM s m') _ (fun x m'' hy => hQ x m'' hy) r1 hx)) kLb_n) (okL_can rfl hr) (fun Y hY hl => ?_)
  have l2 := hl 2 _ rfl
  refine hY _ _ _ _ (hY _ _ _ _ (?_ : Y 2 [(1, 2, true, 0), (0, 5, true, 74)] [] s))
  refine l2 _ _ ?_
  exact (Exists.intro s.2.2.2 (And.intro rfl h))
def we_183 : sFf := sEf 2 [(0, 5, 74)] (fun xs s Q => ap0 (wq_183 s.2.2.2 Q) xs)
theorem we_183_ok : kS dM 2 183 0 (.inl we_183) := sEf_ok (mi := im_m183) rfl rfl rfl (fun R xs s r1 hb => by obtain ⟨rfl, hb⟩ := ap0_ok hb; exact wk_183_0 _ R s (fun x m' hx => ⟨m', rfl, hx⟩) r1 hb)
/-- LMModel.isBuiltIn(JI)Z -/
def wq_184 (x0 : Int) (x2 : Int) (m : hy_m) (Q : Int → hy_m → Prop) : Prop := (x2 ≠ 0 → ((x2 ≠ 1 → ((x2 ≠ 2 → (Q 0 m)) ∧ (x2 = 2 → (wq_171 115 97 109 101 m (fun r1 m1 => (x0 = r1 → (Q 1 m1)) ∧ (x0 ≠ r1 → (wq_171 108 101 115 115 m1 (fun r2 m2 => (x0 = r2 → (Q 1 m2)) ∧ (x0 ≠ r2 → (wq_171 105 115 0 0 m2 (fun r3 m3 => (x0 ≠ r3 → (Q 0 m3)) ∧ (x0 = r3 → (Q 1 m3))))))))))))) ∧ (x2 = 1 → (wq_171 99 97 108 108 m (fun r4 m4 => (x0 = r4 → (Q 1 m4)) ∧ (x0 ≠ r4 → (wq_171 110 111 116 0 m4 (fun r5 m5 => (x0 ≠ r5 → (Q 0 m5)) ∧ (x0 = r5 → (Q 1 m5)))))))))) ∧ (x2 = 0 → (wq_171 116 114 117 101 m (fun r6 m6 => (x0 = r6 → (Q 1 m6)) ∧ (x0 ≠ r6 → (wq_171 102 97 105 108 m6 (fun r7 m7 => (x0 = r7 → (Q 1 m7)) ∧ (x0 ≠ r7 → (wq_171 99 117 116 0 m7 (fun r8 m8 => (x0 ≠ r8 → (Q 0 m8)) ∧ (x0 = r8 → (Q 1 m8)))))))))))
theorem wc_171_0t_0t_0t_0t (x0 : Int) (x1 : Int) (x2 : Int) (x3 : Int) (s : sS) (R : Int → hy_m → Prop) (h : wq_171 x0 x1 x2 x3 s.2.2.2 R) : we_171 [(0, true, x0), (0, true, x1), (0, true, x2), (0, true, x3)] s R := h
theorem wc_171_0t_0t_2t_2t (x0 : Int) (x1 : Int) (x2 : Int) (x3 : Int) (s : sS) (R : Int → hy_m → Prop) (h : wq_171 x0 x1 x2 x3 s.2.2.2 R) : we_171 [(0, true, x0), (0, true, x1), (2, true, x2), (2, true, x3)] s R := h
theorem wc_171_0t_0t_0t_2t (x0 : Int) (x1 : Int) (x2 : Int) (x3 : Int) (s : sS) (R : Int → hy_m → Prop) (h : wq_171 x0 x1 x2 x3 s.2.2.2 R) : we_171 [(0, true, x0), (0, true, x1), (0, true, x2), (2, true, x3)] s R := h
def cs_184 : List (Nat × Nat × sFS) := [(171, 1, .inl we_171)]
theorem cs_184_ok : kCs dM 1 cs_184 := (kCs_c (Or.inr (Or.inl rfl)) (we_171_ok.deep (by decide)) kCs_n)
def lb_184_0 (s : sS) (Q : sQ) (R : Int → hy_m → Prop) (x0 : Int) (x2 : Int) : Nat → Option (sL → sS → Prop) := sLb []
set_option maxRecDepth 30000 in
set_option maxHeartbeats 1000000 in
theorem wk_184_0 (Q : sQ) (R : Int → hy_m → Prop) (s : sS) (x0 : Int) (x2 : Int) (hQ : ∀ x m', R x m' → Q x (sM s m')) (hr : sRg [(0, 1, 0), (2, 0, 0)] [x0, x2]) (h : wq_184 x0 x2 s.2.2.2 R) : kX dM 1 im_m184 2 0 (sCan [(0, 1, 0), (2, 0, 0)] [x0, x2]) [] s Q := by
  unfold wq_184 at h
  refine wz2_ok (cs := cs_184) (wr := []) (lb := lb_184_0 s Q R x0 x2) cs_184_ok kLb_n (okL_can rfl hr) (fun Y hY hl => ?_)
  refine hY _ _ _ _ (?_ : Y 1 [(0, 1, true, x0), (2, 0, true, x2)] [(0, true, x2)] s)
  refine hY _ _ _ _ ?_
  refine And.intro (fun hc => ?_) (fun hc => ?_)
  · have h := h.1 hc
    refine hY _ _ _ _ (hY _ _ _ _ (?_ : Y 59 [(0, 1, true, x0), (2, 0, true, x2)] [(2, true, 1), (0, true, x2)] s))
    refine hY _ _ _ _ ?_
    refine And.intro (fun hc => ?_) (fun hc => ?_)
    · have h := h.1 hc
      refine hY _ _ _ _ (hY _ _ _ _ (?_ : Y 101 [(0, 1, true, x0), (2, 0, true, x2)] [(0, true, 2), (0, true, x2)] s))
      refine hY _ _ _ _ ?_
      refine And.intro (fun hc => ?_) (fun hc => ?_)
      · have h := h.1 hc
        refine hY _ _ _ _ (?_ : Y 155 [(0, 1, true, x0), (2, 0, true, x2)] [(2, true, 0)] s)
        refine hY _ _ _ _ ?_
        exact hQ 0 s.2.2.2 h
      · have h := h.2 hc
        refine hY _ _ _ _ (hY _ _ _ _ (hY _ _ _ _ (?_ : Y 109 [(0, 1, true, x0), (2, 0, true, x2)] [(0, true, 97), (0, true, 115), (1, true, x0)] s)))
        refine hY _ _ _ _ (hY _ _ _ _ (?_ : Y 113 [(0, 1, true, x0), (2, 0, true, x2)] [(0, true, 101), (0, true, 109), (0, true, 97), (0, true, 115), (1, true, x0)] s))
        refine hY _ _ _ _ ?_
        refine Exists.intro _ (And.intro (wc_171_0t_0t_0t_0t 115 97 109 101 _ _ h) (fun r1 m1 h => ?_))
        show Y 116 [(0, 1, true, x0), (2, 0, true, x2)] [(1, true, r1), (1, true, x0)] (sM s m1)
        refine hY _ _ _ _ ?_
        refine And.intro (fun hc => ?_) (fun hc => ?_)
        · have h := h.1 hc
          refine hY _ _ _ _ (hY _ _ _ _ (?_ : Y 155 [(0, 1, true, x0), (2, 0, true, x2)] [(2, true, 1)] (sM s m1)))
          refine hY _ _ _ _ ?_
          exact hQ 1 m1 h
        · have h := h.2 hc
          refine hY _ _ _ _ (hY _ _ _ _ (hY _ _ _ _ (?_ : Y 125 [(0, 1, true, x0), (2, 0, true, x2)] [(0, true, 101), (0, true, 108), (1, true, x0)] (sM s m1))))
          refine hY _ _ _ _ (hY _ _ _ _ (?_ : Y 129 [(0, 1, true, x0), (2, 0, true, x2)] [(0, true, 115), (0, true, 115), (0, true, 101), (0, true, 108), (1, true, x0)] (sM s m1)))
          refine hY _ _ _ _ ?_
          refine Exists.intro _ (And.intro (wc_171_0t_0t_0t_0t 108 101 115 115 _ _ h) (fun r2 m2 h => ?_))
          show Y 132 [(0, 1, true, x0), (2, 0, true, x2)] [(1, true, r2), (1, true, x0)] (sM s m2)
          refine hY _ _ _ _ ?_
          refine And.intro (fun hc => ?_) (fun hc => ?_)
          · have h := h.1 hc
            refine hY _ _ _ _ (hY _ _ _ _ (?_ : Y 155 [(0, 1, true, x0), (2, 0, true, x2)] [(2, true, 1)] (sM s m2)))
            refine hY _ _ _ _ ?_
            exact hQ 1 m2 h
          · have h := h.2 hc
            refine hY _ _ _ _ (hY _ _ _ _ (hY _ _ _ _ (?_ : Y 141 [(0, 1, true, x0), (2, 0, true, x2)] [(0, true, 115), (0, true, 105), (1, true, x0)] (sM s m2))))
            refine hY _ _ _ _ (hY _ _ _ _ (?_ : Y 143 [(0, 1, true, x0), (2, 0, true, x2)] [(2, true, 0), (2, true, 0), (0, true, 115), (0, true, 105), (1, true, x0)] (sM s m2)))
            refine hY _ _ _ _ ?_
            refine Exists.intro _ (And.intro (wc_171_0t_0t_2t_2t 105 115 0 0 _ _ h) (fun r3 m3 h => ?_))
            show Y 146 [(0, 1, true, x0), (2, 0, true, x2)] [(1, true, r3), (1, true, x0)] (sM s m3)
            refine hY _ _ _ _ ?_
            refine And.intro (fun hc => ?_) (fun hc => ?_)
            · have h := h.1 hc
              refine hY _ _ _ _ (?_ : Y 155 [(0, 1, true, x0), (2, 0, true, x2)] [(2, true, 0)] (sM s m3))
              refine hY _ _ _ _ ?_
              exact hQ 0 m3 h
            · have h := h.2 hc
              refine hY _ _ _ _ (hY _ _ _ _ (?_ : Y 155 [(0, 1, true, x0), (2, 0, true, x2)] [(2, true, 1)] (sM s m3)))
              refine hY _ _ _ _ ?_
              exact hQ 1 m3 h
    · have h := h.2 hc
      refine hY _ _ _ _ (hY _ _ _ _ (hY _ _ _ _ (?_ : Y 67 [(0, 1, true, x0), (2, 0, true, x2)] [(0, true, 97), (0, true, 99), (1, true, x0)] s)))
      refine hY _ _ _ _ (hY _ _ _ _ (?_ : Y 71 [(0, 1, true, x0), (2, 0, true, x2)] [(0, true, 108), (0, true, 108), (0, true, 97), (0, true, 99), (1, true, x0)] s))
      refine hY _ _ _ _ ?_
      refine Exists.intro _ (And.intro (wc_171_0t_0t_0t_0t 99 97 108 108 _ _ h) (fun r4 m4 h => ?_))
      show Y 74 [(0, 1, true, x0), (2, 0, true, x2)] [(1, true, r4), (1, true, x0)] (sM s m4)
      refine hY _ _ _ _ ?_
      refine And.intro (fun hc => ?_) (fun hc => ?_)
      · have h := h.1 hc
        refine hY _ _ _ _ (hY _ _ _ _ (?_ : Y 98 [(0, 1, true, x0), (2, 0, true, x2)] [(2, true, 1)] (sM s m4)))
        refine hY _ _ _ _ ?_
        exact hQ 1 m4 h
      · have h := h.2 hc
        refine hY _ _ _ _ (hY _ _ _ _ (hY _ _ _ _ (?_ : Y 83 [(0, 1, true, x0), (2, 0, true, x2)] [(0, true, 111), (0, true, 110), (1, true, x0)] (sM s m4))))
        refine hY _ _ _ _ (hY _ _ _ _ (?_ : Y 86 [(0, 1, true, x0), (2, 0, true, x2)] [(2, true, 0), (0, true, 116), (0, true, 111), (0, true, 110), (1, true, x0)] (sM s m4)))
        refine hY _ _ _ _ ?_
        refine Exists.intro _ (And.intro (wc_171_0t_0t_0t_2t 110 111 116 0 _ _ h) (fun r5 m5 h => ?_))
        show Y 89 [(0, 1, true, x0), (2, 0, true, x2)] [(1, true, r5), (1, true, x0)] (sM s m5)
        refine hY _ _ _ _ ?_
        refine And.intro (fun hc => ?_) (fun hc => ?_)
        · have h := h.1 hc
          refine hY _ _ _ _ (?_ : Y 98 [(0, 1, true, x0), (2, 0, true, x2)] [(2, true, 0)] (sM s m5))
          refine hY _ _ _ _ ?_
          exact hQ 0 m5 h
        · have h := h.2 hc
          refine hY _ _ _ _ (hY _ _ _ _ (?_ : Y 98 [(0, 1, true, x0), (2, 0, true, x2)] [(2, true, 1)] (sM s m5)))
          refine hY _ _ _ _ ?_
          exact hQ 1 m5 h
  · have h := h.2 hc
    refine hY _ _ _ _ (hY _ _ _ _ (hY _ _ _ _ (?_ : Y 9 [(0, 1, true, x0), (2, 0, true, x2)] [(0, true, 114), (0, true, 116), (1, true, x0)] s)))
    refine hY _ _ _ _ (hY _ _ _ _ (?_ : Y 13 [(0, 1, true, x0), (2, 0, true, x2)] [(0, true, 101), (0, true, 117), (0, true, 114), (0, true, 116), (1, true, x0)] s))
    refine hY _ _ _ _ ?_
    refine Exists.intro _ (And.intro (wc_171_0t_0t_0t_0t 116 114 117 101 _ _ h) (fun r6 m6 h => ?_))
    show Y 16 [(0, 1, true, x0), (2, 0, true, x2)] [(1, true, r6), (1, true, x0)] (sM s m6)
    refine hY _ _ _ _ ?_
    refine And.intro (fun hc => ?_) (fun hc => ?_)
    · have h := h.1 hc
      refine hY _ _ _ _ (hY _ _ _ _ (?_ : Y 56 [(0, 1, true, x0), (2, 0, true, x2)] [(2, true, 1)] (sM s m6)))
      refine hY _ _ _ _ ?_
      exact hQ 1 m6 h
    · have h := h.2 hc
      refine hY _ _ _ _ (hY _ _ _ _ (hY _ _ _ _ (?_ : Y 25 [(0, 1, true, x0), (2, 0, true, x2)] [(0, true, 97), (0, true, 102), (1, true, x0)] (sM s m6))))
      refine hY _ _ _ _ (hY _ _ _ _ (?_ : Y 29 [(0, 1, true, x0), (2, 0, true, x2)] [(0, true, 108), (0, true, 105), (0, true, 97), (0, true, 102), (1, true, x0)] (sM s m6)))
      refine hY _ _ _ _ ?_
      refine Exists.intro _ (And.intro (wc_171_0t_0t_0t_0t 102 97 105 108 _ _ h) (fun r7 m7 h => ?_))
      show Y 32 [(0, 1, true, x0), (2, 0, true, x2)] [(1, true, r7), (1, true, x0)] (sM s m7)
      refine hY _ _ _ _ ?_
      refine And.intro (fun hc => ?_) (fun hc => ?_)
      · have h := h.1 hc
        refine hY _ _ _ _ (hY _ _ _ _ (?_ : Y 56 [(0, 1, true, x0), (2, 0, true, x2)] [(2, true, 1)] (sM s m7)))
        refine hY _ _ _ _ ?_
        exact hQ 1 m7 h
      · have h := h.2 hc
        refine hY _ _ _ _ (hY _ _ _ _ (hY _ _ _ _ (?_ : Y 41 [(0, 1, true, x0), (2, 0, true, x2)] [(0, true, 117), (0, true, 99), (1, true, x0)] (sM s m7))))
        refine hY _ _ _ _ (hY _ _ _ _ (?_ : Y 44 [(0, 1, true, x0), (2, 0, true, x2)] [(2, true, 0), (0, true, 116), (0, true, 117), (0, true, 99), (1, true, x0)] (sM s m7)))
        refine hY _ _ _ _ ?_
        refine Exists.intro _ (And.intro (wc_171_0t_0t_0t_2t 99 117 116 0 _ _ h) (fun r8 m8 h => ?_))
        show Y 47 [(0, 1, true, x0), (2, 0, true, x2)] [(1, true, r8), (1, true, x0)] (sM s m8)
        refine hY _ _ _ _ ?_
        refine And.intro (fun hc => ?_) (fun hc => ?_)
        · have h := h.1 hc
          refine hY _ _ _ _ (?_ : Y 56 [(0, 1, true, x0), (2, 0, true, x2)] [(2, true, 0)] (sM s m8))
          refine hY _ _ _ _ ?_
          exact hQ 0 m8 h
        · have h := h.2 hc
          refine hY _ _ _ _ (hY _ _ _ _ (?_ : Y 56 [(0, 1, true, x0), (2, 0, true, x2)] [(2, true, 1)] (sM s m8)))
          refine hY _ _ _ _ ?_
          exact hQ 1 m8 h
def we_184 : sFf := sEf 3 [(0, 1, 0), (2, 0, 0)] (fun xs s Q => ap2 (fun x0 x2 => wq_184 x0 x2 s.2.2.2 Q) xs)
theorem we_184_ok : kS dM 2 184 2 (.inl we_184) := sEf_ok (mi := im_m184) rfl rfl rfl (fun R xs s r1 hb => by obtain ⟨x0, x2, rfl, hb⟩ := ap2_ok hb; exact wk_184_0 _ R s x0 x2 (fun x m' hx => ⟨m', rfl, hx⟩) r1 hb)
/-- LMModel.push(II)V -/
def wq_185 (x1 : Int) (x2 : Int) (m : hy_m) (Q : Int → hy_m → Prop) : Prop := 0 ≤ (m 74 25) ∧ (m 74 25) < 130 ∧ (0 ≤ (m 74 25) ∧ (m 74 25) < 130 ∧ (0 ≤ (m 74 25) ∧ (m 74 25) < 130 ∧ (hy_r 0 ((m 74 25) + 1) ∧ (Q 0 (hy_u (hy_u (hy_u (hy_u m 88 (m 74 25) x1) 89 (m 74 25) x2) 90 (m 74 25) (-9)) 74 25 ((m 74 25) + 1))))))
def cs_185 : List (Nat × Nat × sFS) := []
theorem cs_185_ok : kCs dM 0 cs_185 := kCs_n
def lb_185_0 (s : sS) (Q : sQ) (R : Int → hy_m → Prop) (x1 : Int) (x2 : Int) : Nat → Option (sL → sS → Prop) := sLb []
set_option maxRecDepth 30000 in
set_option maxHeartbeats 1000000 in
theorem wk_185_0 (Q : sQ) (R : Int → hy_m → Prop) (s : sS) (x1 : Int) (x2 : Int) (hQ : ∀ x m', R x m' → Q x (sM s m')) (hr : sRg [(0, 5, 74), (1, 0, 0), (2, 0, 0)] [x1, x2]) (h : wq_185 x1 x2 s.2.2.2 R) : kX dM 0 im_m185 9 0 (sCan [(0, 5, 74), (1, 0, 0), (2, 0, 0)] [x1, x2]) [] s Q := by
  unfold wq_185 at h
  refine wz2_ok (cs := cs_185) (wr := []) (lb := lb_185_0 s Q R x1 x2) cs_185_ok kLb_n (okL_can rfl hr) (fun Y hY hl => ?_)
  refine hY _ _ _ _ (hY _ _ _ _ (hY _ _ _ _ (?_ : Y 5 [(0, 5, true, 74), (1, 0, true, x1), (2, 0, true, x2)] [(5, true, 74), (5, true, 88)] s)))
  refine hY _ _ _ _ (hY _ _ _ _ (?_ : Y 9 [(0, 5, true, 74), (1, 0, true, x1), (2, 0, true, x2)] [(0, true, x1), (0, true, s.2.2.2 74 25), (5, true, 88)] s))
  refine hY _ _ _ _ ?_
  refine (And.intro h.1 (And.intro h.2.1 ?_))
  refine hY _ _ _ _ (hY _ _ _ _ (hY _ _ _ _ (?_ : Y 15 [(0, 5, true, 74), (1, 0, true, x1), (2, 0, true, x2)] [(5, true, 74), (5, true, 89)] (sM s (hy_u s.2.2.2 88 (s.2.2.2 74 25) x1)))))
  refine hY _ _ _ _ (hY _ _ _ _ (?_ : Y 19 [(0, 5, true, 74), (1, 0, true, x1), (2, 0, true, x2)] [(0, true, x2), (0, true, s.2.2.2 74 25), (5, true, 89)] (sM s (hy_u s.2.2.2 88 (s.2.2.2 74 25) x1))))
  refine hY _ _ _ _ ?_
  refine (And.intro h.2.2.1 (And.intro h.2.2.2.1 ?_))
  refine hY _ _ _ _ (hY _ _ _ _ (hY _ _ _ _ (?_ : Y 25 [(0, 5, true, 74), (1, 0, true, x1), (2, 0, true, x2)] [(5, true, 74), (5, true, 90)] (sM s (hy_u (hy_u s.2.2.2 88 (s.2.2.2 74 25) x1) 89 (s.2.2.2 74 25) x2)))))
  refine hY _ _ _ _ (hY _ _ _ _ (?_ : Y 30 [(0, 5, true, 74), (1, 0, true, x1), (2, 0, true, x2)] [(0, true, (-9)), (0, true, s.2.2.2 74 25), (5, true, 90)] (sM s (hy_u (hy_u s.2.2.2 88 (s.2.2.2 74 25) x1) 89 (s.2.2.2 74 25) x2))))
  refine hY _ _ _ _ ?_
  refine (And.intro h.2.2.2.2.1 (And.intro h.2.2.2.2.2.1 ?_))
  refine hY _ _ _ _ (hY _ _ _ _ (hY _ _ _ _ (?_ : Y 36 [(0, 5, true, 74), (1, 0, true, x1), (2, 0, true, x2)] [(0, true, s.2.2.2 74 25), (5, true, 74)] (sM s (hy_u (hy_u (hy_u s.2.2.2 88 (s.2.2.2 74 25) x1) 89 (s.2.2.2 74 25) x2) 90 (s.2.2.2 74 25) (-9))))))
  refine hY _ _ _ _ (hY _ _ _ _ (?_ : Y 38 [(0, 5, true, 74), (1, 0, true, x1), (2, 0, true, x2)] [(0, false, (s.2.2.2 74 25) + 1), (5, true, 74)] (sM s (hy_u (hy_u (hy_u s.2.2.2 88 (s.2.2.2 74 25) x1) 89 (s.2.2.2 74 25) x2) 90 (s.2.2.2 74 25) (-9)))))
  refine hY _ _ _ _ ?_
  refine And.intro h.2.2.2.2.2.2.1 ?_
  show Y 41 [(0, 5, true, 74), (1, 0, true, x1), (2, 0, true, x2)] [] (sM s (hy_u (hy_u (hy_u (hy_u s.2.2.2 88 (s.2.2.2 74 25) x1) 89 (s.2.2.2 74 25) x2) 90 (s.2.2.2 74 25) (-9)) 74 25 ((s.2.2.2 74 25) + 1)))
  refine hY _ _ _ _ ?_
  exact hQ 0 (hy_u (hy_u (hy_u (hy_u s.2.2.2 88 (s.2.2.2 74 25) x1) 89 (s.2.2.2 74 25) x2) 90 (s.2.2.2 74 25) (-9)) 74 25 ((s.2.2.2 74 25) + 1)) h.2.2.2.2.2.2.2
def we_185 : sFf := sEf 3 [(0, 5, 74), (1, 0, 0), (2, 0, 0)] (fun xs s Q => ap2 (fun x1 x2 => wq_185 x1 x2 s.2.2.2 Q) xs)
theorem we_185_ok : kS dM 1 185 9 (.inl we_185) := sEf_ok (mi := im_m185) rfl rfl rfl (fun R xs s r1 hb => by obtain ⟨x1, x2, rfl, hb⟩ := ap2_ok hb; exact wk_185_0 _ R s x1 x2 (fun x m' hx => ⟨m', rfl, hx⟩) r1 hb)
/-- LMModel.beginNamed(Z)I -/
def wq_187 (x1 : Int) (m : hy_m) (Q : Int → hy_m → Prop) : Prop := wq_179 m (fun _ m1 => wq_181 3 (m 74 17) m1 (fun r2 m2 => ((m2 74 15) ≠ 6 → ((x1 = 0 → (Q r2 m2)) ∧ (x1 ≠ 0 → (wq_184 (m 74 17) 0 m2 (fun r3 m3 => (r3 = 0 → (Q r2 m3)) ∧ (r3 ≠ 0 → (Q (-9) (hy_u m3 74 18 (m 74 16))))))))) ∧ ((m2 74 15) = 6 → (wq_185 0 r2 m2 (fun _ m4 => wq_179 m4 (fun _ m5 => Q (-9) m5))))))
theorem wc_179_r74 (s : sS) (R : Int → hy_m → Prop) (h : wq_179 s.2.2.2 R) : we_179 [(5, true, 74)] s R := h
theorem wc_181_r74_0t_1t (x1 : Int) (x2 : Int) (s : sS) (R : Int → hy_m → Prop) (h : wq_181 x1 x2 s.2.2.2 R) : we_181 [(5, true, 74), (0, true, x1), (1, true, x2)] s R := h
theorem wc_184_1t_2t (x0 : Int) (x1 : Int) (s : sS) (R : Int → hy_m → Prop) (h : wq_184 x0 x1 s.2.2.2 R) : we_184 [(1, true, x0), (2, true, x1)] s R := h
theorem wc_185_r74_2t_0t (x1 : Int) (x2 : Int) (s : sS) (R : Int → hy_m → Prop) (h : wq_185 x1 x2 s.2.2.2 R) : we_185 [(5, true, 74), (2, true, x1), (0, true, x2)] s R := h
def cs_187 : List (Nat × Nat × sFS) := [(179, 9, .inl we_179), (181, 0, .inl we_181), (184, 2, .inl we_184), (185, 9, .inl we_185)]
theorem cs_187_ok : kCs dM 3 cs_187 := (kCs_c (Or.inr (Or.inr (Or.inr (Or.inr rfl)))) (we_179_ok.deep (by decide)) (kCs_c (Or.inl rfl) (we_181_ok.deep (by decide)) (kCs_c (Or.inr (Or.inr (Or.inl rfl))) (we_184_ok.deep (by decide)) (kCs_c (Or.inr (Or.inr (Or.inr (Or.inr rfl)))) (we_185_ok.deep (by decide)) kCs_n))))
def lb_187_0 (s : sS) (Q : sQ) (R : Int → hy_m → Prop) (x1 : Int) : Nat → Option (sL → sS → Prop) := sLb []
set_option maxRecDepth 30000 in
set_option maxHeartbeats 1000000 in
theorem wk_187_0 (Q : sQ) (R : Int → hy_m → Prop) (s : sS) (x1 : Int) (hQ : ∀ x m', R x m' → Q x (sM s m')) (hr : sRg [(0, 5, 74), (1, 2, 0)] [x1]) (h : wq_187 x1 s.2.2.2 R) : kX dM 3 im_m187 0 0 (sCan [(0, 5, 74), (1, 2, 0)] [x1]) [] s Q := by
  unfold wq_187 at h
  refine wz2_ok (cs := cs_187) (wr := []) (lb := lb_187_0 s Q R x1) cs_187_ok kLb_n (okL_can rfl hr) (fun Y hY hl => ?_)
  refine hY _ _ _ _ (hY _ _ _ _ (hY _ _ _ _ (?_ : Y 5 [(2, 0, true, s.2.2.2 74 16), (0, 5, true, 74), (1, 2, true, x1)] [] s)))
  refine hY _ _ _ _ (hY _ _ _ _ (hY _ _ _ _ (?_ : Y 10 [(3, 1, true, s.2.2.2 74 17), (2, 0, true, s.2.2.2 74 16), (0, 5, true, 74), (1, 2, true, x1)] [] s)))
  refine hY _ _ _ _ (?_ : Y 11 [(3, 1, true, s.2.2.2 74 17), (2, 0, true, s.2.2.2 74 16), (0, 5, true, 74), (1, 2, true, x1)] [(5, true, 74)] s)
  refine hY _ _ _ _ ?_
  refine Exists.intro _ (And.intro (wc_179_r74 _ _ h) (fun r1 m1 h => ?_))
  refine hY _ _ _ _ (hY _ _ _ _ (hY _ _ _ _ (?_ : Y 17 [(3, 1, true, s.2.2.2 74 17), (2, 0, true, s.2.2.2 74 16), (0, 5, true, 74), (1, 2, true, x1)] [(1, true, s.2.2.2 74 17), (0, true, 3), (5, true, 74)] (sM s m1))))
  refine hY _ _ _ _ ?_
  refine Exists.intro _ (And.intro (wc_181_r74_0t_1t 3 (s.2.2.2 74 17) _ _ h) (fun r2 m2 h => ?_))
  refine hY _ _ _ _ (hY _ _ _ _ (hY _ _ _ _ (?_ : Y 26 [(5, 0, true, r2), (3, 1, true, s.2.2.2 74 17), (2, 0, true, s.2.2.2 74 16), (0, 5, true, 74), (1, 2, true, x1)] [(0, true, m2 74 15)] (sM s m2))))
  refine hY _ _ _ _ (?_ : Y 28 [(5, 0, true, r2), (3, 1, true, s.2.2.2 74 17), (2, 0, true, s.2.2.2 74 16), (0, 5, true, 74), (1, 2, true, x1)] [(0, true, 6), (0, true, m2 74 15)] (sM s m2))
  refine hY _ _ _ _ ?_
  refine And.intro (fun hc => ?_) (fun hc => ?_)
  · have h := h.1 hc
    refine hY _ _ _ _ (?_ : Y 46 [(5, 0, true, r2), (3, 1, true, s.2.2.2 74 17), (2, 0, true, s.2.2.2 74 16), (0, 5, true, 74), (1, 2, true, x1)] [(2, true, x1)] (sM s m2))
    refine hY _ _ _ _ ?_
    refine And.intro (fun hc => ?_) (fun hc => ?_)
    · have h := h.1 hc
      refine hY _ _ _ _ (?_ : Y 67 [(5, 0, true, r2), (3, 1, true, s.2.2.2 74 17), (2, 0, true, s.2.2.2 74 16), (0, 5, true, 74), (1, 2, true, x1)] [(0, true, r2)] (sM s m2))
      refine hY _ _ _ _ ?_
      exact hQ r2 m2 h
    · have h := h.2 hc
      refine hY _ _ _ _ (hY _ _ _ _ (?_ : Y 51 [(5, 0, true, r2), (3, 1, true, s.2.2.2 74 17), (2, 0, true, s.2.2.2 74 16), (0, 5, true, 74), (1, 2, true, x1)] [(2, true, 0), (1, true, s.2.2.2 74 17)] (sM s m2)))
      refine hY _ _ _ _ ?_
      refine Exists.intro _ (And.intro (wc_184_1t_2t (s.2.2.2 74 17) 0 _ _ h) (fun r3 m3 h => ?_))
      show Y 54 [(5, 0, true, r2), (3, 1, true, s.2.2.2 74 17), (2, 0, true, s.2.2.2 74 16), (0, 5, true, 74), (1, 2, true, x1)] [(2, true, r3)] (sM s m3)
      refine hY _ _ _ _ ?_
      refine And.intro (fun hc => ?_) (fun hc => ?_)
      · have h := h.1 hc
        refine hY _ _ _ _ (?_ : Y 67 [(5, 0, true, r2), (3, 1, true, s.2.2.2 74 17), (2, 0, true, s.2.2.2 74 16), (0, 5, true, 74), (1, 2, true, x1)] [(0, true, r2)] (sM s m3))
        refine hY _ _ _ _ ?_
        exact hQ r2 m3 h
      · have h := h.2 hc
        refine hY _ _ _ _ (hY _ _ _ _ (?_ : Y 59 [(5, 0, true, r2), (3, 1, true, s.2.2.2 74 17), (2, 0, true, s.2.2.2 74 16), (0, 5, true, 74), (1, 2, true, x1)] [(0, true, s.2.2.2 74 16), (5, true, 74)] (sM s m3)))
        refine hY _ _ _ _ ?_
        refine hY _ _ _ _ (?_ : Y 64 [(5, 0, true, r2), (3, 1, true, s.2.2.2 74 17), (2, 0, true, s.2.2.2 74 16), (0, 5, true, 74), (1, 2, true, x1)] [(0, true, (-9))] (sM s (hy_u m3 74 18 (s.2.2.2 74 16))))
        refine hY _ _ _ _ ?_
        exact hQ (-9) (hy_u m3 74 18 (s.2.2.2 74 16)) h
  · have h := h.2 hc
    refine hY _ _ _ _ (hY _ _ _ _ (hY _ _ _ _ (?_ : Y 35 [(5, 0, true, r2), (3, 1, true, s.2.2.2 74 17), (2, 0, true, s.2.2.2 74 16), (0, 5, true, 74), (1, 2, true, x1)] [(0, true, r2), (2, true, 0), (5, true, 74)] (sM s m2))))
    refine hY _ _ _ _ ?_
    refine Exists.intro _ (And.intro (wc_185_r74_2t_0t 0 r2 _ _ h) (fun r4 m4 h => ?_))
    refine hY _ _ _ _ (?_ : Y 39 [(5, 0, true, r2), (3, 1, true, s.2.2.2 74 17), (2, 0, true, s.2.2.2 74 16), (0, 5, true, 74), (1, 2, true, x1)] [(5, true, 74)] (sM s m4))
    refine hY _ _ _ _ ?_
    refine Exists.intro _ (And.intro (wc_179_r74 _ _ h) (fun r5 m5 h => ?_))
    refine hY _ _ _ _ (?_ : Y 44 [(5, 0, true, r2), (3, 1, true, s.2.2.2 74 17), (2, 0, true, s.2.2.2 74 16), (0, 5, true, 74), (1, 2, true, x1)] [(0, true, (-9))] (sM s m5))
    refine hY _ _ _ _ ?_
    exact hQ (-9) m5 h
def we_187 : sFf := sEf 6 [(0, 5, 74), (1, 2, 0)] (fun xs s Q => ap1 (fun x1 => wq_187 x1 s.2.2.2 Q) xs)
theorem we_187_ok : kS dM 4 187 0 (.inl we_187) := sEf_ok (mi := im_m187) rfl rfl rfl (fun R xs s r1 hb => by obtain ⟨x1, rfl, hb⟩ := ap1_ok hb; exact wk_187_0 _ R s x1 (fun x m' hx => ⟨m', rfl, hx⟩) r1 hb)
