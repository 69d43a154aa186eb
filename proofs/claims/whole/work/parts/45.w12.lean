/-- LM$Text.isUpper(C)Z -/
def wq_143 (x0 : Int) (m : hy_m) (Q : Int → hy_m → Prop) : Prop := (x0 < 65 → (Q 0 m)) ∧ (65 ≤ x0 → ((90 < x0 → (Q 0 m)) ∧ (x0 ≤ 90 → (Q 1 m))))
def cs_143 : List (Nat × Nat × sFS) := []
theorem cs_143_ok : kCs dC 0 cs_143 := kCs_n
def lb_143_0 (s : sS) (Q : sQ) (R : Int → hy_m → Prop) (x0 : Int) : Nat → Option (sL → sS → Prop) := sLb []
set_option maxRecDepth 30000 in
set_option maxHeartbeats 1000000 in
theorem wk_143_0 (Q : sQ) (R : Int → hy_m → Prop) (s : sS) (x0 : Int) (hQ : ∀ x m', R x m' → Q x (sM s m')) (hr : sRg [(0, 4, 0)] [x0]) (h : wq_143 x0 s.2.2.2 R) : kX dC 0 im_m143 2 0 (sCan [(0, 4, 0)] [x0]) [] s Q := by
  unfold wq_143 at h
  refine wz2_ok (cs := cs_143) (wr := []) (lb := lb_143_0 s Q R x0) cs_143_ok kLb_n (okL_can rfl hr) (fun Y hY hl => ?_)
  refine hY _ _ _ _ (hY _ _ _ _ (?_ : Y 3 [(0, 4, true, x0)] [(0, true, 65), (4, true, x0)] s))
  refine hY _ _ _ _ ?_
  refine And.intro (fun hc => ?_) (fun hc => ?_)
  · have h := h.1 hc
    refine hY _ _ _ _ (?_ : Y 17 [(0, 4, true, x0)] [(2, true, 0)] s)
    refine hY _ _ _ _ ?_
    exact hQ 0 s.2.2.2 h
  · have h := h.2 hc
    refine hY _ _ _ _ (hY _ _ _ _ (?_ : Y 9 [(0, 4, true, x0)] [(0, true, 90), (4, true, x0)] s))
    refine hY _ _ _ _ ?_
    refine And.intro (fun hc => ?_) (fun hc => ?_)
    · have h := h.1 hc
      refine hY _ _ _ _ (?_ : Y 17 [(0, 4, true, x0)] [(2, true, 0)] s)
      refine hY _ _ _ _ ?_
      exact hQ 0 s.2.2.2 h
    · have h := h.2 hc
      refine hY _ _ _ _ (hY _ _ _ _ (?_ : Y 17 [(0, 4, true, x0)] [(2, true, 1)] s))
      refine hY _ _ _ _ ?_
      exact hQ 1 s.2.2.2 h
def we_143 : sFf := sEf 1 [(0, 4, 0)] (fun xs s Q => ap1 (fun x0 => wq_143 x0 s.2.2.2 Q) xs)
theorem we_143_ok : kS dC 1 143 2 (.inl we_143) := sEf_ok (mi := im_m143) rfl rfl rfl (fun R xs s r1 hb => by obtain ⟨x0, rfl, hb⟩ := ap1_ok hb; exact wk_143_0 _ R s x0 (fun x m' hx => ⟨m', rfl, hx⟩) r1 hb)
/-- LM$Text.isDigit(C)Z -/
def wq_144 (x0 : Int) (m : hy_m) (Q : Int → hy_m → Prop) : Prop := (x0 < 48 → (Q 0 m)) ∧ (48 ≤ x0 → ((57 < x0 → (Q 0 m)) ∧ (x0 ≤ 57 → (Q 1 m))))
def cs_144 : List (Nat × Nat × sFS) := []
theorem cs_144_ok : kCs dC 0 cs_144 := kCs_n
def lb_144_0 (s : sS) (Q : sQ) (R : Int → hy_m → Prop) (x0 : Int) : Nat → Option (sL → sS → Prop) := sLb []
set_option maxRecDepth 30000 in
set_option maxHeartbeats 1000000 in
theorem wk_144_0 (Q : sQ) (R : Int → hy_m → Prop) (s : sS) (x0 : Int) (hQ : ∀ x m', R x m' → Q x (sM s m')) (hr : sRg [(0, 4, 0)] [x0]) (h : wq_144 x0 s.2.2.2 R) : kX dC 0 im_m144 2 0 (sCan [(0, 4, 0)] [x0]) [] s Q := by
  unfold wq_144 at h
  refine wz2_ok (cs := cs_144) (wr := []) (lb := lb_144_0 s Q R x0) cs_144_ok kLb_n (okL_can rfl hr) (fun Y hY hl => ?_)
  refine hY _ _ _ _ (hY _ _ _ _ (?_ : Y 3 [(0, 4, true, x0)] [(0, true, 48), (4, true, x0)] s))
  refine hY _ _ _ _ ?_
  refine And.intro (fun hc => ?_) (fun hc => ?_)
  · have h := h.1 hc
    refine hY _ _ _ _ (?_ : Y 17 [(0, 4, true, x0)] [(2, true, 0)] s)
    refine hY _ _ _ _ ?_
    exact hQ 0 s.2.2.2 h
  · have h := h.2 hc
    refine hY _ _ _ _ (hY _ _ _ _ (?_ : Y 9 [(0, 4, true, x0)] [(0, true, 57), (4, true, x0)] s))
    refine hY _ _ _ _ ?_
    refine And.intro (fun hc => ?_) (fun hc => ?_)
    · have h := h.1 hc
      refine hY _ _ _ _ (?_ : Y 17 [(0, 4, true, x0)] [(2, true, 0)] s)
      refine hY _ _ _ _ ?_
      exact hQ 0 s.2.2.2 h
    · have h := h.2 hc
      refine hY _ _ _ _ (hY _ _ _ _ (?_ : Y 17 [(0, 4, true, x0)] [(2, true, 1)] s))
      refine hY _ _ _ _ ?_
      exact hQ 1 s.2.2.2 h
def we_144 : sFf := sEf 1 [(0, 4, 0)] (fun xs s Q => ap1 (fun x0 => wq_144 x0 s.2.2.2 Q) xs)
theorem we_144_ok : kS dC 1 144 2 (.inl we_144) := sEf_ok (mi := im_m144) rfl rfl rfl (fun R xs s r1 hb => by obtain ⟨x0, rfl, hb⟩ := ap1_ok hb; exact wk_144_0 _ R s x0 (fun x m' hx => ⟨m', rfl, hx⟩) r1 hb)
/-- LM$Text.isWordSign(C)Z -/
def wq_145 (x0 : Int) (m : hy_m) (Q : Int → hy_m → Prop) : Prop := wq_142 x0 m (fun r1 m1 => (r1 ≠ 0 → (Q 1 m1)) ∧ (r1 = 0 → (wq_143 x0 m1 (fun r2 m2 => (r2 ≠ 0 → (Q 1 m2)) ∧ (r2 = 0 → (wq_144 x0 m2 (fun r3 m3 => (r3 = 0 → (Q 0 m3)) ∧ (r3 ≠ 0 → (Q 1 m3)))))))))
theorem wc_142_4t (x0 : Int) (s : sS) (R : Int → hy_m → Prop) (h : wq_142 x0 s.2.2.2 R) : we_142 [(4, true, x0)] s R := h
theorem wc_143_4t (x0 : Int) (s : sS) (R : Int → hy_m → Prop) (h : wq_143 x0 s.2.2.2 R) : we_143 [(4, true, x0)] s R := h
theorem wc_144_4t (x0 : Int) (s : sS) (R : Int → hy_m → Prop) (h : wq_144 x0 s.2.2.2 R) : we_144 [(4, true, x0)] s R := h
def cs_145 : List (Nat × Nat × sFS) := [(142, 2, .inl we_142), (143, 2, .inl we_143), (144, 2, .inl we_144)]
theorem cs_145_ok : kCs dC 1 cs_145 := (kCs_c (Or.inr (Or.inr (Or.inl rfl))) (we_142_ok.deep (by decide)) (kCs_c (Or.inr (Or.inr (Or.inl rfl))) (we_143_ok.deep (by decide)) (kCs_c (Or.inr (Or.inr (Or.inl rfl))) (we_144_ok.deep (by decide)) kCs_n)))
def lb_145_0 (s : sS) (Q : sQ) (R : Int → hy_m → Prop) (x0 : Int) : Nat → Option (sL → sS → Prop) := sLb []
set_option maxRecDepth 30000 in
set_option maxHeartbeats 1000000 in
theorem wk_145_0 (Q : sQ) (R : Int → hy_m → Prop) (s : sS) (x0 : Int) (hQ : ∀ x m', R x m' → Q x (sM s m')) (hr : sRg [(0, 4, 0)] [x0]) (h : wq_145 x0 s.2.2.2 R) : kX dC 1 im_m145 2 0 (sCan [(0, 4, 0)] [x0]) [] s Q := by
  unfold wq_145 at h
  refine wz2_ok (cs := cs_145) (wr := []) (lb := lb_145_0 s Q R x0) cs_145_ok kLb_n (okL_can rfl hr) (fun Y hY hl => ?_)
  refine hY _ _ _ _ (?_ : Y 1 [(0, 4, true, x0)] [(4, true, x0)] s)
  refine hY _ _ _ _ ?_
  refine Exists.intro _ (And.intro (wc_142_4t x0 _ _ h) (fun r1 m1 h => ?_))
  show Y 4 [(0, 4, true, x0)] [(2, true, r1)] (sM s m1)
  refine hY _ _ _ _ ?_
  refine And.intro (fun hc => ?_) (fun hc => ?_)
  · have h := h.1 hc
    refine hY _ _ _ _ (hY _ _ _ _ (?_ : Y 26 [(0, 4, true, x0)] [(2, true, 1)] (sM s m1)))
    refine hY _ _ _ _ ?_
    exact hQ 1 m1 h
  · have h := h.2 hc
    refine hY _ _ _ _ (?_ : Y 8 [(0, 4, true, x0)] [(4, true, x0)] (sM s m1))
    refine hY _ _ _ _ ?_
    refine Exists.intro _ (And.intro (wc_143_4t x0 _ _ h) (fun r2 m2 h => ?_))
    show Y 11 [(0, 4, true, x0)] [(2, true, r2)] (sM s m2)
    refine hY _ _ _ _ ?_
    refine And.intro (fun hc => ?_) (fun hc => ?_)
    · have h := h.1 hc
      refine hY _ _ _ _ (hY _ _ _ _ (?_ : Y 26 [(0, 4, true, x0)] [(2, true, 1)] (sM s m2)))
      refine hY _ _ _ _ ?_
      exact hQ 1 m2 h
    · have h := h.2 hc
      refine hY _ _ _ _ (?_ : Y 15 [(0, 4, true, x0)] [(4, true, x0)] (sM s m2))
      refine hY _ _ _ _ ?_
      refine Exists.intro _ (And.intro (wc_144_4t x0 _ _ h) (fun r3 m3 h => ?_))
      show Y 18 [(0, 4, true, x0)] [(2, true, r3)] (sM s m3)
      refine hY _ _ _ _ ?_
      refine And.intro (fun hc => ?_) (fun hc => ?_)
      · have h := h.1 hc
        refine hY _ _ _ _ (?_ : Y 26 [(0, 4, true, x0)] [(2, true, 0)] (sM s m3))
        refine hY _ _ _ _ ?_
        exact hQ 0 m3 h
      · have h := h.2 hc
        refine hY _ _ _ _ (hY _ _ _ _ (?_ : Y 26 [(0, 4, true, x0)] [(2, true, 1)] (sM s m3)))
        refine hY _ _ _ _ ?_
        exact hQ 1 m3 h
def we_145 : sFf := sEf 1 [(0, 4, 0)] (fun xs s Q => ap1 (fun x0 => wq_145 x0 s.2.2.2 Q) xs)
theorem we_145_ok : kS dC 2 145 2 (.inl we_145) := sEf_ok (mi := im_m145) rfl rfl rfl (fun R xs s r1 hb => by obtain ⟨x0, rfl, hb⟩ := ap1_ok hb; exact wk_145_0 _ R s x0 (fun x m' hx => ⟨m', rfl, hx⟩) r1 hb)
/-- LM$Text.readWord(II)V -/
def wq_139_83 (x1 : Int) (x2 : Int) (m : hy_m) (Q : Int → hy_m → Prop) : Prop := hy_r 0 ((m 2 5) - (m 2 3)) ∧ ((x2 < ((m 2 5) - (m 2 3)) → (Q 0 (hy_u m 2 2 5))) ∧ (((m 2 5) - (m 2 3)) ≤ x2 → (Q 0 (hy_u m 2 2 x1))))
def wf_139_5 (x1 : Int) (x2 : Int) (Q : Int → hy_m → Prop) (P5 : hy_m → Prop) (m : hy_m) : Prop := ((m 2 1) ≤ (m 2 5) → (wq_139_83 x1 x2 m Q)) ∧ ((m 2 5) < (m 2 1) → (0 ≤ (m 2 5) ∧ (m 2 5) < 120 ∧ (wq_145 (m 3 (m 2 5)) m (fun r1 m1 => (r1 = 0 → (wq_139_83 x1 x2 m1 Q)) ∧ (r1 ≠ 0 → (hy_r 0 ((m1 2 5) - (m1 2 3)) ∧ ((x2 ≤ ((m1 2 5) - (m1 2 3)) → (hy_r 0 ((m1 2 5) + 1) ∧ (P5 (hy_u m1 2 5 ((m1 2 5) + 1))))) ∧ (((m1 2 5) - (m1 2 3)) < x2 → (0 ≤ (m1 2 5) ∧ (m1 2 5) < 120 ∧ (hy_r 0 ((m1 2 5) + 1) ∧ (P5 (hy_u (hy_u m1 2 4 (jO (m1 2 4) (jSl (m1 3 (m1 2 5)) (7 * ((m1 2 5) - (m1 2 3)))))) 2 5 ((m1 2 5) + 1)))))))))))))
def wq_139_5 (x1 : Int) (x2 : Int) (m : hy_m) (Q : Int → hy_m → Prop) : Prop := wL0 hy_m (wf_139_5 x1 x2 Q) m
def wq_139 (x1 : Int) (x2 : Int) (m : hy_m) (Q : Int → hy_m → Prop) : Prop := wq_139_5 x1 x2 (hy_u m 2 4 0) Q
theorem wc_145_4t (x0 : Int) (s : sS) (R : Int → hy_m → Prop) (h : wq_145 x0 s.2.2.2 R) : we_145 [(4, true, x0)] s R := h
def cs_139 : List (Nat × Nat × sFS) := [(145, 2, .inl we_145)]
theorem cs_139_ok : kCs dC 2 cs_139 := (kCs_c (Or.inr (Or.inr (Or.inl rfl))) (we_145_ok.deep (by decide)) kCs_n)
def lb_139_83 (s : sS) (Q : sQ) (R : Int → hy_m → Prop) (x1 : Int) (x2 : Int) : Nat → Option (sL → sS → Prop) := sLb []
set_option maxRecDepth 30000 in
set_option maxHeartbeats 1000000 in
theorem wk_139_83 (Q : sQ) (R : Int → hy_m → Prop) (s : sS) (x1 : Int) (x2 : Int) (hQ : ∀ x m', R x m' → Q x (sM s m')) (hr : sRg [(0, 5, 2), (1, 0, 0), (2, 0, 0)] [x1, x2]) (h : wq_139_83 x1 x2 s.2.2.2 R) : kX dC 2 im_m139 9 83 (sCan [(0, 5, 2), (1, 0, 0), (2, 0, 0)] [x1, x2]) [] s Q := by
  unfold wq_139_83 at h
  refine wz2_ok (cs := cs_139) (wr := []) (lb := lb_139_83 s Q R x1 x2) cs_139_ok kLb_n (okL_can rfl hr) (fun Y hY hl => ?_)
  refine hY _ _ _ _ (hY _ _ _ _ (hY _ _ _ _ (?_ : Y 88 [(0, 5, true, 2), (1, 0, true, x1), (2, 0, true, x2)] [(0, true, s.2.2.2 2 5), (5, true, 2)] s)))
  refine hY _ _ _ _ (hY _ _ _ _ (hY _ _ _ _ (?_ : Y 93 [(0, 5, true, 2), (1, 0, true, x1), (2, 0, true, x2)] [(0, false, (s.2.2.2 2 5) - (s.2.2.2 2 3)), (5, true, 2)] s)))
  refine hY _ _ _ _ (?_ : Y 94 [(0, 5, true, 2), (1, 0, true, x1), (2, 0, true, x2)] [(0, true, x2), (0, false, (s.2.2.2 2 5) - (s.2.2.2 2 3)), (5, true, 2)] s)
  refine hY _ _ _ _ ?_
  refine And.intro h.1 ?_
  refine And.intro (fun hc => ?_) (fun hc => ?_)
  · have h := h.2.1 hc
    refine hY _ _ _ _ (?_ : Y 102 [(0, 5, true, 2), (1, 0, true, x1), (2, 0, true, x2)] [(0, true, 5), (5, true, 2)] s)
    refine hY _ _ _ _ ?_
    show Y 105 [(0, 5, true, 2), (1, 0, true, x1), (2, 0, true, x2)] [] (sM s (hy_u s.2.2.2 2 2 5))
    refine hY _ _ _ _ ?_
    exact hQ 0 (hy_u s.2.2.2 2 2 5) h
  · have h := h.2.2 hc
    refine hY _ _ _ _ (hY _ _ _ _ (?_ : Y 102 [(0, 5, true, 2), (1, 0, true, x1), (2, 0, true, x2)] [(0, true, x1), (5, true, 2)] s))
    refine hY _ _ _ _ ?_
    show Y 105 [(0, 5, true, 2), (1, 0, true, x1), (2, 0, true, x2)] [] (sM s (hy_u s.2.2.2 2 2 x1))
    refine hY _ _ _ _ ?_
    exact hQ 0 (hy_u s.2.2.2 2 2 x1) h
def lb_139_5 (s : sS) (Q : sQ) (P5 : hy_m → Prop) (R : Int → hy_m → Prop) (x1 : Int) (x2 : Int) : Nat → Option (sL → sS → Prop) := sLb [(83, fun lv t => sG [(0, 5, 2), (1, 0, 0), (2, 0, 0)] lv (ap2 (fun w1 w2 => ∃ m', t = sM s m' ∧ wq_139_83 w1 w2 m' R))), (5, fun lv t => sG [(0, 5, 2), (1, 0, 0), (2, 0, 0)] lv (ap2 (fun w1 w2 => ∃ m', t = sM s m' ∧ w1 = x1 ∧ w2 = x2 ∧ P5 m')))]
set_option maxRecDepth 30000 in
set_option maxHeartbeats 1000000 in
theorem wj_139_5 (Q : sQ) (R : Int → hy_m → Prop) (s : sS) (P5 : hy_m → Prop) (x1 : Int) (x2 : Int) (m : hy_m) (hP5 : ∀ (m : hy_m), P5 m → sRg [(0, 5, 2), (1, 0, 0), (2, 0, 0)] [x1, x2] → kX dC 2 im_m139 9 5 (sCan [(0, 5, 2), (1, 0, 0), (2, 0, 0)] [x1, x2]) [] (sM s m) Q) (hQ : ∀ x m', R x m' → Q x (sM s m')) (hr : sRg [(0, 5, 2), (1, 0, 0), (2, 0, 0)] [x1, x2]) (h : wf_139_5 x1 x2 R P5 m) : kX dC 2 im_m139 9 5 (sCan [(0, 5, 2), (1, 0, 0), (2, 0, 0)] [x1, x2]) [] (sM s m) Q := by
  unfold wf_139_5 at h
  refine wz2_ok (cs := cs_139) (wr := []) (lb := lb_139_5 s Q P5 R x1 x2) cs_139_ok (kLb_c (kLab (Bd := fun xs t => ap2 (fun w1 w2 => ∃ m', t = sM s m' ∧ wq_139_83 w1 w2 m' R) xs) rfl (fun xs t r1 r2 hb => by obtain ⟨w1, w2, rfl, hb⟩ := ap2_ok hb; obtain ⟨m', rfl, hx⟩ := hb; exact wk_139_83 Q R (sM s m') _ _ (fun x m'' hy => hQ x m'' hy) r1 hx)) (kLb_c (kLab (Bd := fun xs t => ap2 (fun w1 w2 => ∃ m', t = sM s m' ∧ w1 = x1 ∧ w2 = x2 ∧ P5 m') xs) rfl (fun xs t r1 r2 hb => by obtain ⟨w1, w2, rfl, hb⟩ := ap2_ok hb; obtain ⟨m', rfl, rfl, rfl, hx⟩ := hb; exact hP5 m' hx r1)) kLb_n)) (okL_can rfl hr) (fun Y hY hl => ?_)
  have l83 := hl 83 _ rfl
  have l5 := hl 5 _ rfl
  refine hY _ _ _ _ (hY _ _ _ _ (hY _ _ _ _ (?_ : Y 10 [(0, 5, true, 2), (1, 0, true, x1), (2, 0, true, x2)] [(5, true, 2), (0, true, m 2 5)] (sM s m))))
  refine hY _ _ _ _ (?_ : Y 13 [(0, 5, true, 2), (1, 0, true, x1), (2, 0, true, x2)] [(0, true, m 2 1), (0, true, m 2 5)] (sM s m))
  refine hY _ _ _ _ ?_
  refine And.intro (fun hc => ?_) (fun hc => ?_)
  · have h := h.1 hc
    show Y 83 [(0, 5, true, 2), (1, 0, true, x1), (2, 0, true, x2)] [] (sM s m)
    refine l83 _ _ ?_
    exact (Exists.intro m (And.intro rfl h))
  · have h := h.2 hc
    refine hY _ _ _ _ (hY _ _ _ _ (hY _ _ _ _ (?_ : Y 21 [(0, 5, true, 2), (1, 0, true, x1), (2, 0, true, x2)] [(5, true, 2), (5, true, 3)] (sM s m))))
    refine hY _ _ _ _ (?_ : Y 24 [(0, 5, true, 2), (1, 0, true, x1), (2, 0, true, x2)] [(0, true, m 2 5), (5, true, 3)] (sM s m))
    refine hY _ _ _ _ ?_
    refine (And.intro h.1 (And.intro h.2.1 ?_))
    show Y 25 [(0, 5, true, 2), (1, 0, true, x1), (2, 0, true, x2)] [(4, true, m 3 (m 2 5))] (sM s m)
    refine hY _ _ _ _ ?_
    refine Exists.intro _ (And.intro (wc_145_4t (m 3 (m 2 5)) _ _ h.2.2) (fun r1 m1 h => ?_))
    show Y 28 [(0, 5, true, 2), (1, 0, true, x1), (2, 0, true, x2)] [(2, true, r1)] (sM s m1)
    refine hY _ _ _ _ ?_
    refine And.intro (fun hc => ?_) (fun hc => ?_)
    · have h := h.1 hc
      show Y 83 [(0, 5, true, 2), (1, 0, true, x1), (2, 0, true, x2)] [] (sM s m1)
      refine l83 _ _ ?_
      exact (Exists.intro m1 (And.intro rfl h))
    · have h := h.2 hc
      refine hY _ _ _ _ (hY _ _ _ _ (hY _ _ _ _ (?_ : Y 36 [(0, 5, true, 2), (1, 0, true, x1), (2, 0, true, x2)] [(5, true, 2), (0, true, m1 2 5)] (sM s m1))))
      refine hY _ _ _ _ (hY _ _ _ _ (hY _ _ _ _ (?_ : Y 41 [(3, 0, false, (m1 2 5) - (m1 2 3)), (0, 5, true, 2), (1, 0, true, x1), (2, 0, true, x2)] [] (sM s m1))))
      refine hY _ _ _ _ (hY _ _ _ _ (?_ : Y 43 [(3, 0, false, (m1 2 5) - (m1 2 3)), (0, 5, true, 2), (1, 0, true, x1), (2, 0, true, x2)] [(0, true, x2), (0, false, (m1 2 5) - (m1 2 3))] (sM s m1)))
      refine hY _ _ _ _ ?_
      refine And.intro h.1 ?_
      refine And.intro (fun hc => ?_) (fun hc => ?_)
      · have h := h.2.1 hc
        refine hY _ _ _ _ (hY _ _ _ _ (hY _ _ _ _ (?_ : Y 75 [(3, 0, false, (m1 2 5) - (m1 2 3)), (0, 5, true, 2), (1, 0, true, x1), (2, 0, true, x2)] [(0, true, m1 2 5), (5, true, 2)] (sM s m1))))
        refine hY _ _ _ _ (hY _ _ _ _ (?_ : Y 77 [(3, 0, false, (m1 2 5) - (m1 2 3)), (0, 5, true, 2), (1, 0, true, x1), (2, 0, true, x2)] [(0, false, (m1 2 5) + 1), (5, true, 2)] (sM s m1)))
        refine hY _ _ _ _ ?_
        refine And.intro h.1 ?_
        refine hY _ _ _ _ (?_ : Y 5 [(3, 0, false, (m1 2 5) - (m1 2 3)), (0, 5, true, 2), (1, 0, true, x1), (2, 0, true, x2)] [] (sM s (hy_u m1 2 5 ((m1 2 5) + 1))))
        refine l5 _ _ ?_
        exact (Exists.intro (hy_u m1 2 5 ((m1 2 5) + 1)) (And.intro rfl (And.intro rfl (And.intro rfl h.2))))
      · have h := h.2.2 hc
        refine hY _ _ _ _ (hY _ _ _ _ (hY _ _ _ _ (?_ : Y 51 [(3, 0, false, (m1 2 5) - (m1 2 3)), (0, 5, true, 2), (1, 0, true, x1), (2, 0, true, x2)] [(1, true, m1 2 4), (5, true, 2)] (sM s m1))))
        refine hY _ _ _ _ (hY _ _ _ _ (hY _ _ _ _ (?_ : Y 56 [(3, 0, false, (m1 2 5) - (m1 2 3)), (0, 5, true, 2), (1, 0, true, x1), (2, 0, true, x2)] [(5, true, 2), (5, true, 3), (1, true, m1 2 4), (5, true, 2)] (sM s m1))))
        refine hY _ _ _ _ (?_ : Y 59 [(3, 0, false, (m1 2 5) - (m1 2 3)), (0, 5, true, 2), (1, 0, true, x1), (2, 0, true, x2)] [(0, true, m1 2 5), (5, true, 3), (1, true, m1 2 4), (5, true, 2)] (sM s m1))
        refine hY _ _ _ _ ?_
        refine (And.intro h.1 (And.intro h.2.1 ?_))
        show Y 60 [(3, 0, false, (m1 2 5) - (m1 2 3)), (0, 5, true, 2), (1, 0, true, x1), (2, 0, true, x2)] [(4, true, m1 3 (m1 2 5)), (1, true, m1 2 4), (5, true, 2)] (sM s m1)
        refine hY _ _ _ _ ?_
        refine hY _ _ _ _ (hY _ _ _ _ (hY _ _ _ _ (?_ : Y 65 [(3, 0, false, (m1 2 5) - (m1 2 3)), (0, 5, true, 2), (1, 0, true, x1), (2, 0, true, x2)] [(0, false, 7 * ((m1 2 5) - (m1 2 3))), (1, true, m1 3 (m1 2 5)), (1, true, m1 2 4), (5, true, 2)] (sM s m1))))
        refine hY _ _ _ _ (?_ : Y 66 [(3, 0, false, (m1 2 5) - (m1 2 3)), (0, 5, true, 2), (1, 0, true, x1), (2, 0, true, x2)] [(1, true, jSl (m1 3 (m1 2 5)) (7 * ((m1 2 5) - (m1 2 3)))), (1, true, m1 2 4), (5, true, 2)] (sM s m1))
        refine hY _ _ _ _ (?_ : Y 67 [(3, 0, false, (m1 2 5) - (m1 2 3)), (0, 5, true, 2), (1, 0, true, x1), (2, 0, true, x2)] [(1, true, jO (m1 2 4) (jSl (m1 3 (m1 2 5)) (7 * ((m1 2 5) - (m1 2 3))))), (5, true, 2)] (sM s m1))
        refine hY _ _ _ _ ?_
        refine hY _ _ _ _ (hY _ _ _ _ (hY _ _ _ _ (?_ : Y 75 [(3, 0, false, (m1 2 5) - (m1 2 3)), (0, 5, true, 2), (1, 0, true, x1), (2, 0, true, x2)] [(0, true, m1 2 5), (5, true, 2)] (sM s (hy_u m1 2 4 (jO (m1 2 4) (jSl (m1 3 (m1 2 5)) (7 * ((m1 2 5) - (m1 2 3))))))))))
        refine hY _ _ _ _ (hY _ _ _ _ (?_ : Y 77 [(3, 0, false, (m1 2 5) - (m1 2 3)), (0, 5, true, 2), (1, 0, true, x1), (2, 0, true, x2)] [(0, false, (m1 2 5) + 1), (5, true, 2)] (sM s (hy_u m1 2 4 (jO (m1 2 4) (jSl (m1 3 (m1 2 5)) (7 * ((m1 2 5) - (m1 2 3)))))))))
        refine hY _ _ _ _ ?_
        refine And.intro h.2.2.1 ?_
        refine hY _ _ _ _ (?_ : Y 5 [(3, 0, false, (m1 2 5) - (m1 2 3)), (0, 5, true, 2), (1, 0, true, x1), (2, 0, true, x2)] [] (sM s (hy_u (hy_u m1 2 4 (jO (m1 2 4) (jSl (m1 3 (m1 2 5)) (7 * ((m1 2 5) - (m1 2 3)))))) 2 5 ((m1 2 5) + 1))))
        refine l5 _ _ ?_
        exact (Exists.intro (hy_u (hy_u m1 2 4 (jO (m1 2 4) (jSl (m1 3 (m1 2 5)) (7 * ((m1 2 5) - (m1 2 3)))))) 2 5 ((m1 2 5) + 1)) (And.intro rfl (And.intro rfl (And.intro rfl h.2.2.2))))
theorem wk_139_5 (Q : sQ) (R : Int → hy_m → Prop) (s : sS) (x1 : Int) (x2 : Int) (hQ : ∀ x m', R x m' → Q x (sM s m')) (hr : sRg [(0, 5, 2), (1, 0, 0), (2, 0, 0)] [x1, x2]) (h : wq_139_5 x1 x2 s.2.2.2 R) : kX dC 2 im_m139 9 5 (sCan [(0, 5, 2), (1, 0, 0), (2, 0, 0)] [x1, x2]) [] s Q :=
  h (fun m => sRg [(0, 5, 2), (1, 0, 0), (2, 0, 0)] [x1, x2] → kX dC 2 im_m139 9 5 (sCan [(0, 5, 2), (1, 0, 0), (2, 0, 0)] [x1, x2]) [] (sM s m) Q) (fun m h hr => wj_139_5 Q R s (fun m => sRg [(0, 5, 2), (1, 0, 0), (2, 0, 0)] [x1, x2] → kX dC 2 im_m139 9 5 (sCan [(0, 5, 2), (1, 0, 0), (2, 0, 0)] [x1, x2]) [] (sM s m) Q) x1 x2 m  (fun _ hp hr => hp hr) hQ hr h) hr
def lb_139_0 (s : sS) (Q : sQ) (R : Int → hy_m → Prop) (x1 : Int) (x2 : Int) : Nat → Option (sL → sS → Prop) := sLb [(5, fun lv t => sG [(0, 5, 2), (1, 0, 0), (2, 0, 0)] lv (ap2 (fun w1 w2 => ∃ m', t = sM s m' ∧ wq_139_5 w1 w2 m' R)))]
set_option maxRecDepth 30000 in
set_option maxHeartbeats 1000000 in
theorem wk_139_0 (Q : sQ) (R : Int → hy_m → Prop) (s : sS) (x1 : Int) (x2 : Int) (hQ : ∀ x m', R x m' → Q x (sM s m')) (hr : sRg [(0, 5, 2), (1, 0, 0), (2, 0, 0)] [x1, x2]) (h : wq_139 x1 x2 s.2.2.2 R) : kX dC 2 im_m139 9 0 (sCan [(0, 5, 2), (1, 0, 0), (2, 0, 0)] [x1, x2]) [] s Q := by
  unfold wq_139 at h
  refine wz2_ok (cs := cs_139) (wr := []) (lb := lb_139_0 s Q R x1 x2) cs_139_ok (kLb_c (kLab (Bd := fun xs t => ap2 (fun w1 w2 => ∃ m', t = sM s m' ∧ wq_139_5 w1 w2 m' R) xs) rfl (fun xs t r1 r2 hb => by obtain ⟨w1, w2, rfl, hb⟩ := ap2_ok hb; obtain ⟨m', rfl, hx⟩ := hb; exact wk_139_5 Q R (sM s m') _ _ (fun x m'' hy => hQ x m'' hy) r1 hx)) kLb_n) (okL_can rfl hr) (fun Y hY hl => ?_)
  have l5 := hl 5 _ rfl
  refine hY _ _ _ _ (hY _ _ _ _ (?_ : Y 2 [(0, 5, true, 2), (1, 0, true, x1), (2, 0, true, x2)] [(1, true, 0), (5, true, 2)] s))
  refine hY _ _ _ _ ?_
  show Y 5 [(0, 5, true, 2), (1, 0, true, x1), (2, 0, true, x2)] [] (sM s (hy_u s.2.2.2 2 4 0))
  refine l5 _ _ ?_
  exact (Exists.intro (hy_u s.2.2.2 2 4 0) (And.intro rfl h))
def we_139 : sFf := sEf 4 [(0, 5, 2), (1, 0, 0), (2, 0, 0)] (fun xs s Q => ap2 (fun x1 x2 => wq_139 x1 x2 s.2.2.2 Q) xs)
theorem we_139_ok : kS dC 3 139 9 (.inl we_139) := sEf_ok (mi := im_m139) rfl rfl rfl (fun R xs s r1 hb => by obtain ⟨x1, x2, rfl, hb⟩ := ap2_ok hb; exact wk_139_0 _ R s x1 x2 (fun x m' hx => ⟨m', rfl, hx⟩) r1 hb)
/-- LM$Text.readInteger()V -/
def wq_140_84 (m : hy_m) (Q : Int → hy_m → Prop) : Prop := hy_r 0 ((m 2 5) - (m 2 3)) ∧ ((6 < ((m 2 5) - (m 2 3)) → (Q 0 (hy_u m 2 2 5))) ∧ (((m 2 5) - (m 2 3)) ≤ 6 → (Q 0 (hy_u m 2 2 3))))
def wf_140_5 (Q : Int → hy_m → Prop) (P5 : hy_m → Prop) (m : hy_m) : Prop := ((m 2 1) ≤ (m 2 5) → (wq_140_84 m Q)) ∧ ((m 2 5) < (m 2 1) → (0 ≤ (m 2 5) ∧ (m 2 5) < 120 ∧ (wq_144 (m 3 (m 2 5)) m (fun r1 m1 => (r1 = 0 → (wq_140_84 m1 Q)) ∧ (r1 ≠ 0 → (hy_r 0 ((m1 2 5) - (m1 2 3)) ∧ ((6 ≤ ((m1 2 5) - (m1 2 3)) → (hy_r 0 ((m1 2 5) + 1) ∧ (P5 (hy_u m1 2 5 ((m1 2 5) + 1))))) ∧ (((m1 2 5) - (m1 2 3)) < 6 → (0 ≤ (m1 2 5) ∧ (m1 2 5) < 120 ∧ (hy_r 0 ((m1 3 (m1 2 5)) - 48) ∧ (hy_r 1 (((m1 2 4) * 10) + ((m1 3 (m1 2 5)) - 48)) ∧ (hy_r 0 ((m1 2 5) + 1) ∧ (P5 (hy_u (hy_u m1 2 4 (((m1 2 4) * 10) + ((m1 3 (m1 2 5)) - 48))) 2 5 ((m1 2 5) + 1)))))))))))))))
def wq_140_5 (m : hy_m) (Q : Int → hy_m → Prop) : Prop := wL0 hy_m (wf_140_5 Q) m
def wq_140 (m : hy_m) (Q : Int → hy_m → Prop) : Prop := wq_140_5 (hy_u m 2 4 0) Q
def cs_140 : List (Nat × Nat × sFS) := [(144, 2, .inl we_144)]
theorem cs_140_ok : kCs dC 1 cs_140 := (kCs_c (Or.inr (Or.inr (Or.inl rfl))) (we_144_ok.deep (by decide)) kCs_n)
def lb_140_84 (s : sS) (Q : sQ) (R : Int → hy_m → Prop) : Nat → Option (sL → sS → Prop) := sLb []
set_option maxRecDepth 30000 in
set_option maxHeartbeats 1000000 in
theorem wk_140_84 (Q : sQ) (R : Int → hy_m → Prop) (s : sS) (hQ : ∀ x m', R x m' → Q x (sM s m')) (hr : sRg [(0, 5, 2)] []) (h : wq_140_84 s.2.2.2 R) : kX dC 1 im_m140 9 84 (sCan [(0, 5, 2)] []) [] s Q := by
  unfold wq_140_84 at h
  refine wz2_ok (cs := cs_140) (wr := []) (lb := lb_140_84 s Q R) cs_140_ok kLb_n (okL_can rfl hr) (fun Y hY hl => ?_)
  refine hY _ _ _ _ (hY _ _ _ _ (hY _ _ _ _ (?_ : Y 89 [(0, 5, true, 2)] [(0, true, s.2.2.2 2 5), (5, true, 2)] s)))
  refine hY _ _ _ _ (hY _ _ _ _ (hY _ _ _ _ (?_ : Y 94 [(0, 5, true, 2)] [(0, false, (s.2.2.2 2 5) - (s.2.2.2 2 3)), (5, true, 2)] s)))
  refine hY _ _ _ _ (?_ : Y 96 [(0, 5, true, 2)] [(0, true, 6), (0, false, (s.2.2.2 2 5) - (s.2.2.2 2 3)), (5, true, 2)] s)
  refine hY _ _ _ _ ?_
  refine And.intro h.1 ?_
  refine And.intro (fun hc => ?_) (fun hc => ?_)
  · have h := h.2.1 hc
    refine hY _ _ _ _ (?_ : Y 104 [(0, 5, true, 2)] [(0, true, 5), (5, true, 2)] s)
    refine hY _ _ _ _ ?_
    show Y 107 [(0, 5, true, 2)] [] (sM s (hy_u s.2.2.2 2 2 5))
    refine hY _ _ _ _ ?_
    exact hQ 0 (hy_u s.2.2.2 2 2 5) h
  · have h := h.2.2 hc
    refine hY _ _ _ _ (hY _ _ _ _ (?_ : Y 104 [(0, 5, true, 2)] [(0, true, 3), (5, true, 2)] s))
    refine hY _ _ _ _ ?_
    show Y 107 [(0, 5, true, 2)] [] (sM s (hy_u s.2.2.2 2 2 3))
    refine hY _ _ _ _ ?_
    exact hQ 0 (hy_u s.2.2.2 2 2 3) h
def lb_140_5 (s : sS) (Q : sQ) (P5 : hy_m → Prop) (R : Int → hy_m → Prop) : Nat → Option (sL → sS → Prop) := sLb [(84, fun lv t => sG [(0, 5, 2)] lv (ap0 (∃ m', t = sM s m' ∧ wq_140_84 m' R))), (5, fun lv t => sG [(0, 5, 2)] lv (ap0 (∃ m', t = sM s m' ∧ P5 m')))]
set_option maxRecDepth 30000 in
set_option maxHeartbeats 1000000 in
theorem wj_140_5 (Q : sQ) (R : Int → hy_m → Prop) (s : sS) (P5 : hy_m → Prop) (m : hy_m) (hP5 : ∀ (m : hy_m), P5 m → sRg [(0, 5, 2)] [] → kX dC 1 im_m140 9 5 (sCan [(0, 5, 2)] []) [] (sM s m) Q) (hQ : ∀ x m', R x m' → Q x (sM s m')) (hr : sRg [(0, 5, 2)] []) (h : wf_140_5 R P5 m) : kX dC 1 im_m140 9 5 (sCan [(0, 5, 2)] []) [] (sM s m) Q := by
  unfold wf_140_5 at h
  refine wz2_ok (cs := cs_140) (wr := []) (lb := lb_140_5 s Q P5 R) cs_140_ok (kLb_c (kLab (Bd := fun xs t => ap0 (∃ m', t = sM s m' ∧ wq_140_84 m' R) xs) rfl (fun xs t r1 r2 hb => by obtain ⟨rfl, hb⟩ := ap0_ok hb; obtain ⟨m', rfl, hx⟩ := hb; exact wk_140_84 Q R (sM s m')  (fun x m'' hy => hQ x m'' hy) r1 hx)) (kLb_c (kLab (Bd := fun xs t => ap0 (∃ m', t = sM s m' ∧ P5 m') xs) rfl (fun xs t r1 r2 hb => by obtain ⟨rfl, hb⟩ := ap0_ok hb; obtain ⟨m', rfl, hx⟩ := hb; exact hP5 m' hx r1)) kLb_n)) (okL_can rfl hr) (fun Y hY hl => ?_)
  have l84 := hl 84 _ rfl
  have l5 := hl 5 _ rfl
  refine hY _ _ _ _ (hY _ _ _ _ (hY _ _ _ _ (?_ : Y 10 [(0, 5, true, 2)] [(5, true, 2), (0, true, m 2 5)] (sM s m))))
  refine hY _ _ _ _ (?_ : Y 13 [(0, 5, true, 2)] [(0, true, m 2 1), (0, true, m 2 5)] (sM s m))
  refine hY _ _ _ _ ?_
  refine And.intro (fun hc => ?_) (fun hc => ?_)
  · have h := h.1 hc
    show Y 84 [(0, 5, true, 2)] [] (sM s m)
    refine l84 _ _ ?_
    exact (Exists.intro m (And.intro rfl h))
  · have h := h.2 hc
    refine hY _ _ _ _ (hY _ _ _ _ (hY _ _ _ _ (?_ : Y 21 [(0, 5, true, 2)] [(5, true, 2), (5, true, 3)] (sM s m))))
    refine hY _ _ _ _ (?_ : Y 24 [(0, 5, true, 2)] [(0, true, m 2 5), (5, true, 3)] (sM s m))
    refine hY _ _ _ _ ?_
    refine (And.intro h.1 (And.intro h.2.1 ?_))
    show Y 25 [(0, 5, true, 2)] [(4, true, m 3 (m 2 5))] (sM s m)
    refine hY _ _ _ _ ?_
    refine Exists.intro _ (And.intro (wc_144_4t (m 3 (m 2 5)) _ _ h.2.2) (fun r1 m1 h => ?_))
    show Y 28 [(0, 5, true, 2)] [(2, true, r1)] (sM s m1)
    refine hY _ _ _ _ ?_
    refine And.intro (fun hc => ?_) (fun hc => ?_)
    · have h := h.1 hc
      show Y 84 [(0, 5, true, 2)] [] (sM s m1)
      refine l84 _ _ ?_
      exact (Exists.intro m1 (And.intro rfl h))
    · have h := h.2 hc
      refine hY _ _ _ _ (hY _ _ _ _ (hY _ _ _ _ (?_ : Y 36 [(0, 5, true, 2)] [(5, true, 2), (0, true, m1 2 5)] (sM s m1))))
      refine hY _ _ _ _ (hY _ _ _ _ (hY _ _ _ _ (?_ : Y 42 [(0, 5, true, 2)] [(0, true, 6), (0, false, (m1 2 5) - (m1 2 3))] (sM s m1))))
      refine hY _ _ _ _ ?_
      refine And.intro h.1 ?_
      refine And.intro (fun hc => ?_) (fun hc => ?_)
      · have h := h.2.1 hc
        refine hY _ _ _ _ (hY _ _ _ _ (hY _ _ _ _ (?_ : Y 76 [(0, 5, true, 2)] [(0, true, m1 2 5), (5, true, 2)] (sM s m1))))
        refine hY _ _ _ _ (hY _ _ _ _ (?_ : Y 78 [(0, 5, true, 2)] [(0, false, (m1 2 5) + 1), (5, true, 2)] (sM s m1)))
        refine hY _ _ _ _ ?_
        refine And.intro h.1 ?_
        refine hY _ _ _ _ (?_ : Y 5 [(0, 5, true, 2)] [] (sM s (hy_u m1 2 5 ((m1 2 5) + 1))))
        refine l5 _ _ ?_
        exact (Exists.intro (hy_u m1 2 5 ((m1 2 5) + 1)) (And.intro rfl h.2))
      · have h := h.2.2 hc
        refine hY _ _ _ _ (hY _ _ _ _ (hY _ _ _ _ (?_ : Y 50 [(0, 5, true, 2)] [(1, true, m1 2 4), (5, true, 2)] (sM s m1))))
        refine hY _ _ _ _ (hY _ _ _ _ (hY _ _ _ _ (?_ : Y 55 [(0, 5, true, 2)] [(5, true, 2), (1, false, (m1 2 4) * 10), (5, true, 2)] (sM s m1))))
        refine hY _ _ _ _ (hY _ _ _ _ (hY _ _ _ _ (?_ : Y 62 [(0, 5, true, 2)] [(0, true, m1 2 5), (5, true, 3), (1, false, (m1 2 4) * 10), (5, true, 2)] (sM s m1))))
        refine hY _ _ _ _ ?_
        refine (And.intro h.1 (And.intro h.2.1 ?_))
        refine hY _ _ _ _ (hY _ _ _ _ (?_ : Y 66 [(0, 5, true, 2)] [(0, false, (m1 3 (m1 2 5)) - 48), (1, false, (m1 2 4) * 10), (5, true, 2)] (sM s m1)))
        refine hY _ _ _ _ ?_
        refine And.intro h.2.2.1 ?_
        refine hY _ _ _ _ (?_ : Y 68 [(0, 5, true, 2)] [(1, false, ((m1 2 4) * 10) + ((m1 3 (m1 2 5)) - 48)), (5, true, 2)] (sM s m1))
        refine hY _ _ _ _ ?_
        refine And.intro h.2.2.2.1 ?_
        refine hY _ _ _ _ (hY _ _ _ _ (hY _ _ _ _ (?_ : Y 76 [(0, 5, true, 2)] [(0, true, m1 2 5), (5, true, 2)] (sM s (hy_u m1 2 4 (((m1 2 4) * 10) + ((m1 3 (m1 2 5)) - 48)))))))
        refine hY _ _ _ _ (hY _ _ _ _ (?_ : Y 78 [(0, 5, true, 2)] [(0, false, (m1 2 5) + 1), (5, true, 2)] (sM s (hy_u m1 2 4 (((m1 2 4) * 10) + ((m1 3 (m1 2 5)) - 48))))))
        refine hY _ _ _ _ ?_
        refine And.intro h.2.2.2.2.1 ?_
        refine hY _ _ _ _ (?_ : Y 5 [(0, 5, true, 2)] [] (sM s (hy_u (hy_u m1 2 4 (((m1 2 4) * 10) + ((m1 3 (m1 2 5)) - 48))) 2 5 ((m1 2 5) + 1))))
        refine l5 _ _ ?_
        exact (Exists.intro (hy_u (hy_u m1 2 4 (((m1 2 4) * 10) + ((m1 3 (m1 2 5)) - 48))) 2 5 ((m1 2 5) + 1)) (And.intro rfl h.2.2.2.2.2))
theorem wk_140_5 (Q : sQ) (R : Int → hy_m → Prop) (s : sS) (hQ : ∀ x m', R x m' → Q x (sM s m')) (hr : sRg [(0, 5, 2)] []) (h : wq_140_5 s.2.2.2 R) : kX dC 1 im_m140 9 5 (sCan [(0, 5, 2)] []) [] s Q :=
  h (fun m => sRg [(0, 5, 2)] [] → kX dC 1 im_m140 9 5 (sCan [(0, 5, 2)] []) [] (sM s m) Q) (fun m h hr => wj_140_5 Q R s (fun m => sRg [(0, 5, 2)] [] → kX dC 1 im_m140 9 5 (sCan [(0, 5, 2)] []) [] (sM s m) Q) m  (fun _ hp hr => hp hr) hQ hr h) hr
def lb_140_0 (s : sS) (Q : sQ) (R : Int → hy_m → Prop) : Nat → Option (sL → sS → Prop) := sLb [(5, fun lv t => sG [(0, 5, 2)] lv (ap0 (∃ m', t = sM s m' ∧ wq_140_5 m' R)))]
set_option maxRecDepth 30000 in
set_option maxHeartbeats 1000000 in
theorem wk_140_0 (Q : sQ) (R : Int → hy_m → Prop) (s : sS) (hQ : ∀ x m', R x m' → Q x (sM s m')) (hr : sRg [(0, 5, 2)] []) (h : wq_140 s.2.2.2 R) : kX dC 1 im_m140 9 0 (sCan [(0, 5, 2)] []) [] s Q := by
  unfold wq_140 at h
  refine wz2_ok (cs := cs_140) (wr := []) (lb := lb_140_0 s Q R) cs_140_ok (kLb_c (kLab (Bd := fun xs t => ap0 (∃ m', t = sM s m' ∧ wq_140_5 m' R) xs) rfl (fun xs t r1 r2 hb => by obtain ⟨rfl, hb⟩ := ap0_ok hb; obtain ⟨m', rfl, hx⟩ := hb; exact wk_140_5 Q R (sM s m')  (fun x m'' hy => hQ x m'' hy) r1 hx)) kLb_n) (okL_can rfl hr) (fun Y hY hl => ?_)
  have l5 := hl 5 _ rfl
  refine hY _ _ _ _ (hY _ _ _ _ (?_ : Y 2 [(0, 5, true, 2)] [(1, true, 0), (5, true, 2)] s))
  refine hY _ _ _ _ ?_
  show Y 5 [(0, 5, true, 2)] [] (sM s (hy_u s.2.2.2 2 4 0))
  refine l5 _ _ ?_
  exact (Exists.intro (hy_u s.2.2.2 2 4 0) (And.intro rfl h))
def we_140 : sFf := sEf 1 [(0, 5, 2)] (fun xs s Q => ap0 (wq_140 s.2.2.2 Q) xs)
theorem we_140_ok : kS dC 2 140 9 (.inl we_140) := sEf_ok (mi := im_m140) rfl rfl rfl (fun R xs s r1 hb => by obtain ⟨rfl, hb⟩ := ap0_ok hb; exact wk_140_0 _ R s (fun x m' hx => ⟨m', rfl, hx⟩) r1 hb)
/-- LM$Text.readSign(C)V -/
def wq_141 (x1 : Int) (m : hy_m) (Q : Int → hy_m → Prop) : Prop := hy_r 0 ((m 2 3) + 1) ∧ ((x1 = 40 → (Q 0 (hy_u (hy_u m 2 5 ((m 2 3) + 1)) 2 2 x1))) ∧ (x1 ≠ 40 → ((x1 = 41 → (Q 0 (hy_u (hy_u m 2 5 ((m 2 3) + 1)) 2 2 x1))) ∧ (x1 ≠ 41 → ((x1 = 44 → (Q 0 (hy_u (hy_u m 2 5 ((m 2 3) + 1)) 2 2 x1))) ∧ (x1 ≠ 44 → ((x1 = 46 → (Q 0 (hy_u (hy_u m 2 5 ((m 2 3) + 1)) 2 2 x1))) ∧ (x1 ≠ 46 → ((x1 = 91 → (Q 0 (hy_u (hy_u m 2 5 ((m 2 3) + 1)) 2 2 x1))) ∧ (x1 ≠ 91 → ((x1 = 93 → (Q 0 (hy_u (hy_u m 2 5 ((m 2 3) + 1)) 2 2 x1))) ∧ (x1 ≠ 93 → ((x1 = 124 → (Q 0 (hy_u (hy_u m 2 5 ((m 2 3) + 1)) 2 2 x1))) ∧ (x1 ≠ 124 → ((x1 ≠ 58 → (Q 0 (hy_u (hy_u m 2 5 ((m 2 3) + 1)) 2 2 5))) ∧ (x1 = 58 → (((m 2 1) ≤ ((m 2 3) + 1) → (Q 0 (hy_u (hy_u m 2 5 ((m 2 3) + 1)) 2 2 5))) ∧ (((m 2 3) + 1) < (m 2 1) → (0 ≤ ((m 2 3) + 1) ∧ ((m 2 3) + 1) < 120 ∧ (((m 3 ((m 2 3) + 1)) ≠ 45 → (Q 0 (hy_u (hy_u m 2 5 ((m 2 3) + 1)) 2 2 5))) ∧ ((m 3 ((m 2 3) + 1)) = 45 → (hy_r 0 (((m 2 3) + 1) + 1) ∧ (Q 0 (hy_u (hy_u (hy_u (hy_u m 2 5 ((m 2 3) + 1)) 2 2 5) 2 5 (((m 2 3) + 1) + 1)) 2 2 4))))))))))))))))))))))))
def cs_141 : List (Nat × Nat × sFS) := []
theorem cs_141_ok : kCs dC 0 cs_141 := kCs_n
def lb_141_0 (s : sS) (Q : sQ) (R : Int → hy_m → Prop) (x1 : Int) : Nat → Option (sL → sS → Prop) := sLb []
set_option maxRecDepth 30000 in
set_option maxHeartbeats 1000000 in
theorem wk_141_0 (Q : sQ) (R : Int → hy_m → Prop) (s : sS) (x1 : Int) (hQ : ∀ x m', R x m' → Q x (sM s m')) (hr : sRg [(0, 5, 2), (1, 4, 0)] [x1]) (h : wq_141 x1 s.2.2.2 R) : kX dC 0 im_m141 9 0 (sCan [(0, 5, 2), (1, 4, 0)] [x1]) [] s Q := by
  unfold wq_141 at h
  refine wz2_ok (cs := cs_141) (wr := []) (lb := lb_141_0 s Q R x1) cs_141_ok kLb_n (okL_can rfl hr) (fun Y hY hl => ?_)
  refine hY _ _ _ _ (hY _ _ _ _ (hY _ _ _ _ (?_ : Y 5 [(0, 5, true, 2), (1, 4, true, x1)] [(0, true, s.2.2.2 2 3), (5, true, 2)] s)))
  refine hY _ _ _ _ (hY _ _ _ _ (?_ : Y 7 [(0, 5, true, 2), (1, 4, true, x1)] [(0, false, (s.2.2.2 2 3) + 1), (5, true, 2)] s))
  refine hY _ _ _ _ ?_
  refine And.intro h.1 ?_
  refine hY _ _ _ _ (?_ : Y 11 [(0, 5, true, 2), (1, 4, true, x1)] [(4, true, x1)] (sM s (hy_u s.2.2.2 2 5 ((s.2.2.2 2 3) + 1))))
  refine hY _ _ _ _ ?_
  refine And.intro (fun hc => ?_) (fun hc => ?_)
  · have h := h.2.1 hc
    refine hY _ _ _ _ (hY _ _ _ _ (?_ : Y 78 [(0, 5, true, 2), (1, 4, true, x1)] [(4, true, x1), (5, true, 2)] (sM s (hy_u s.2.2.2 2 5 ((s.2.2.2 2 3) + 1)))))
    refine hY _ _ _ _ ?_
    show Y 81 [(0, 5, true, 2), (1, 4, true, x1)] [] (sM s (hy_u (hy_u s.2.2.2 2 5 ((s.2.2.2 2 3) + 1)) 2 2 x1))
    refine hY _ _ _ _ ?_
    exact hQ 0 (hy_u (hy_u s.2.2.2 2 5 ((s.2.2.2 2 3) + 1)) 2 2 x1) h
  · have h := h.2.2 hc
    refine And.intro (fun hc => ?_) (fun hc => ?_)
    · have h := h.1 hc
      refine hY _ _ _ _ (hY _ _ _ _ (?_ : Y 78 [(0, 5, true, 2), (1, 4, true, x1)] [(4, true, x1), (5, true, 2)] (sM s (hy_u s.2.2.2 2 5 ((s.2.2.2 2 3) + 1)))))
      refine hY _ _ _ _ ?_
      show Y 81 [(0, 5, true, 2), (1, 4, true, x1)] [] (sM s (hy_u (hy_u s.2.2.2 2 5 ((s.2.2.2 2 3) + 1)) 2 2 x1))
      refine hY _ _ _ _ ?_
      exact hQ 0 (hy_u (hy_u s.2.2.2 2 5 ((s.2.2.2 2 3) + 1)) 2 2 x1) h
    · have h := h.2 hc
      refine And.intro (fun hc => ?_) (fun hc => ?_)
      · have h := h.1 hc
        refine hY _ _ _ _ (hY _ _ _ _ (?_ : Y 78 [(0, 5, true, 2), (1, 4, true, x1)] [(4, true, x1), (5, true, 2)] (sM s (hy_u s.2.2.2 2 5 ((s.2.2.2 2 3) + 1)))))
        refine hY _ _ _ _ ?_
        show Y 81 [(0, 5, true, 2), (1, 4, true, x1)] [] (sM s (hy_u (hy_u s.2.2.2 2 5 ((s.2.2.2 2 3) + 1)) 2 2 x1))
        refine hY _ _ _ _ ?_
        exact hQ 0 (hy_u (hy_u s.2.2.2 2 5 ((s.2.2.2 2 3) + 1)) 2 2 x1) h
      · have h := h.2 hc
        refine And.intro (fun hc => ?_) (fun hc => ?_)
        · have h := h.1 hc
          refine hY _ _ _ _ (hY _ _ _ _ (?_ : Y 78 [(0, 5, true, 2), (1, 4, true, x1)] [(4, true, x1), (5, true, 2)] (sM s (hy_u s.2.2.2 2 5 ((s.2.2.2 2 3) + 1)))))
          refine hY _ _ _ _ ?_
          show Y 81 [(0, 5, true, 2), (1, 4, true, x1)] [] (sM s (hy_u (hy_u s.2.2.2 2 5 ((s.2.2.2 2 3) + 1)) 2 2 x1))
          refine hY _ _ _ _ ?_
          exact hQ 0 (hy_u (hy_u s.2.2.2 2 5 ((s.2.2.2 2 3) + 1)) 2 2 x1) h
        · have h := h.2 hc
          refine And.intro (fun hc => ?_) (fun hc => ?_)
          · have h := h.1 hc
            refine hY _ _ _ _ (hY _ _ _ _ (?_ : Y 78 [(0, 5, true, 2), (1, 4, true, x1)] [(4, true, x1), (5, true, 2)] (sM s (hy_u s.2.2.2 2 5 ((s.2.2.2 2 3) + 1)))))
            refine hY _ _ _ _ ?_
            show Y 81 [(0, 5, true, 2), (1, 4, true, x1)] [] (sM s (hy_u (hy_u s.2.2.2 2 5 ((s.2.2.2 2 3) + 1)) 2 2 x1))
            refine hY _ _ _ _ ?_
            exact hQ 0 (hy_u (hy_u s.2.2.2 2 5 ((s.2.2.2 2 3) + 1)) 2 2 x1) h
          · have h := h.2 hc
            refine And.intro (fun hc => ?_) (fun hc => ?_)
            · have h := h.1 hc
              refine hY _ _ _ _ (hY _ _ _ _ (?_ : Y 78 [(0, 5, true, 2), (1, 4, true, x1)] [(4, true, x1), (5, true, 2)] (sM s (hy_u s.2.2.2 2 5 ((s.2.2.2 2 3) + 1)))))
              refine hY _ _ _ _ ?_
              show Y 81 [(0, 5, true, 2), (1, 4, true, x1)] [] (sM s (hy_u (hy_u s.2.2.2 2 5 ((s.2.2.2 2 3) + 1)) 2 2 x1))
              refine hY _ _ _ _ ?_
              exact hQ 0 (hy_u (hy_u s.2.2.2 2 5 ((s.2.2.2 2 3) + 1)) 2 2 x1) h
            · have h := h.2 hc
              refine And.intro (fun hc => ?_) (fun hc => ?_)
              · have h := h.1 hc
                refine hY _ _ _ _ (hY _ _ _ _ (?_ : Y 78 [(0, 5, true, 2), (1, 4, true, x1)] [(4, true, x1), (5, true, 2)] (sM s (hy_u s.2.2.2 2 5 ((s.2.2.2 2 3) + 1)))))
                refine hY _ _ _ _ ?_
                show Y 81 [(0, 5, true, 2), (1, 4, true, x1)] [] (sM s (hy_u (hy_u s.2.2.2 2 5 ((s.2.2.2 2 3) + 1)) 2 2 x1))
                refine hY _ _ _ _ ?_
                exact hQ 0 (hy_u (hy_u s.2.2.2 2 5 ((s.2.2.2 2 3) + 1)) 2 2 x1) h
              · have h := h.2 hc
                refine hY _ _ _ _ (hY _ _ _ _ (?_ : Y 84 [(0, 5, true, 2), (1, 4, true, x1)] [(0, true, 5), (5, true, 2)] (sM s (hy_u s.2.2.2 2 5 ((s.2.2.2 2 3) + 1)))))
                refine hY _ _ _ _ ?_
                refine hY _ _ _ _ (hY _ _ _ _ (?_ : Y 90 [(0, 5, true, 2), (1, 4, true, x1)] [(0, true, 58), (4, true, x1)] (sM s (hy_u (hy_u s.2.2.2 2 5 ((s.2.2.2 2 3) + 1)) 2 2 5))))
                refine hY _ _ _ _ ?_
                refine And.intro (fun hc => ?_) (fun hc => ?_)
                · have h := h.1 hc
                  show Y 133 [(0, 5, true, 2), (1, 4, true, x1)] [] (sM s (hy_u (hy_u s.2.2.2 2 5 ((s.2.2.2 2 3) + 1)) 2 2 5))
                  refine hY _ _ _ _ ?_
                  exact hQ 0 (hy_u (hy_u s.2.2.2 2 5 ((s.2.2.2 2 3) + 1)) 2 2 5) h
                · have h := h.2 hc
                  refine hY _ _ _ _ (hY _ _ _ _ (hY _ _ _ _ (?_ : Y 98 [(0, 5, true, 2), (1, 4, true, x1)] [(5, true, 2), (0, true, (s.2.2.2 2 3) + 1)] (sM s (hy_u (hy_u s.2.2.2 2 5 ((s.2.2.2 2 3) + 1)) 2 2 5)))))
                  refine hY _ _ _ _ (?_ : Y 101 [(0, 5, true, 2), (1, 4, true, x1)] [(0, true, s.2.2.2 2 1), (0, true, (s.2.2.2 2 3) + 1)] (sM s (hy_u (hy_u s.2.2.2 2 5 ((s.2.2.2 2 3) + 1)) 2 2 5)))
                  refine hY _ _ _ _ ?_
                  refine And.intro (fun hc => ?_) (fun hc => ?_)
                  · have h := h.1 hc
                    show Y 133 [(0, 5, true, 2), (1, 4, true, x1)] [] (sM s (hy_u (hy_u s.2.2.2 2 5 ((s.2.2.2 2 3) + 1)) 2 2 5))
                    refine hY _ _ _ _ ?_
                    exact hQ 0 (hy_u (hy_u s.2.2.2 2 5 ((s.2.2.2 2 3) + 1)) 2 2 5) h
                  · have h := h.2 hc
                    refine hY _ _ _ _ (hY _ _ _ _ (hY _ _ _ _ (?_ : Y 109 [(0, 5, true, 2), (1, 4, true, x1)] [(5, true, 2), (5, true, 3)] (sM s (hy_u (hy_u s.2.2.2 2 5 ((s.2.2.2 2 3) + 1)) 2 2 5)))))
                    refine hY _ _ _ _ (?_ : Y 112 [(0, 5, true, 2), (1, 4, true, x1)] [(0, true, (s.2.2.2 2 3) + 1), (5, true, 3)] (sM s (hy_u (hy_u s.2.2.2 2 5 ((s.2.2.2 2 3) + 1)) 2 2 5)))
                    refine hY _ _ _ _ ?_
                    refine (And.intro h.1 (And.intro h.2.1 ?_))
                    refine hY _ _ _ _ (?_ : Y 115 [(0, 5, true, 2), (1, 4, true, x1)] [(0, true, 45), (4, true, s.2.2.2 3 ((s.2.2.2 2 3) + 1))] (sM s (hy_u (hy_u s.2.2.2 2 5 ((s.2.2.2 2 3) + 1)) 2 2 5)))
                    refine hY _ _ _ _ ?_
                    refine And.intro (fun hc => ?_) (fun hc => ?_)
                    · have h := h.2.2.1 hc
                      show Y 133 [(0, 5, true, 2), (1, 4, true, x1)] [] (sM s (hy_u (hy_u s.2.2.2 2 5 ((s.2.2.2 2 3) + 1)) 2 2 5))
                      refine hY _ _ _ _ ?_
                      exact hQ 0 (hy_u (hy_u s.2.2.2 2 5 ((s.2.2.2 2 3) + 1)) 2 2 5) h
                    · have h := h.2.2.2 hc
                      refine hY _ _ _ _ (hY _ _ _ _ (hY _ _ _ _ (?_ : Y 123 [(0, 5, true, 2), (1, 4, true, x1)] [(0, true, (s.2.2.2 2 3) + 1), (5, true, 2)] (sM s (hy_u (hy_u s.2.2.2 2 5 ((s.2.2.2 2 3) + 1)) 2 2 5)))))
                      refine hY _ _ _ _ (hY _ _ _ _ (?_ : Y 125 [(0, 5, true, 2), (1, 4, true, x1)] [(0, false, ((s.2.2.2 2 3) + 1) + 1), (5, true, 2)] (sM s (hy_u (hy_u s.2.2.2 2 5 ((s.2.2.2 2 3) + 1)) 2 2 5))))
                      refine hY _ _ _ _ ?_
                      refine And.intro h.1 ?_
                      refine hY _ _ _ _ (hY _ _ _ _ (?_ : Y 130 [(0, 5, true, 2), (1, 4, true, x1)] [(0, true, 4), (5, true, 2)] (sM s (hy_u (hy_u (hy_u s.2.2.2 2 5 ((s.2.2.2 2 3) + 1)) 2 2 5) 2 5 (((s.2.2.2 2 3) + 1) + 1)))))
                      refine hY _ _ _ _ ?_
                      show Y 133 [(0, 5, true, 2), (1, 4, true, x1)] [] (sM s (hy_u (hy_u (hy_u (hy_u s.2.2.2 2 5 ((s.2.2.2 2 3) + 1)) 2 2 5) 2 5 (((s.2.2.2 2 3) + 1) + 1)) 2 2 4))
                      refine hY _ _ _ _ ?_
                      exact hQ 0 (hy_u (hy_u (hy_u (hy_u s.2.2.2 2 5 ((s.2.2.2 2 3) + 1)) 2 2 5) 2 5 (((s.2.2.2 2 3) + 1) + 1)) 2 2 4) h.2
def we_141 : sFf := sEf 2 [(0, 5, 2), (1, 4, 0)] (fun xs s Q => ap1 (fun x1 => wq_141 x1 s.2.2.2 Q) xs)
theorem we_141_ok : kS dC 1 141 9 (.inl we_141) := sEf_ok (mi := im_m141) rfl rfl rfl (fun R xs s r1 hb => by obtain ⟨x1, rfl, hb⟩ := ap1_ok hb; exact wk_141_0 _ R s x1 (fun x m' hx => ⟨m', rfl, hx⟩) r1 hb)
/-- LM$Text.advance()V -/
def wq_136 (m : hy_m) (Q : Int → hy_m → Prop) : Prop := wq_138 m (fun r1 m1 => (r1 < (m1 2 1) → (0 ≤ r1 ∧ r1 < 120 ∧ (wq_142 (m1 3 r1) (hy_u (hy_u m1 2 3 r1) 2 5 r1) (fun r2 m2 => (r2 = 0 → (wq_143 (m1 3 r1) m2 (fun r3 m3 => (r3 = 0 → (wq_144 (m1 3 r1) m3 (fun r4 m4 => (r4 = 0 → (wq_141 (m1 3 r1) m4 (fun _ m5 => Q 0 m5))) ∧ (r4 ≠ 0 → (wq_140 m4 (fun _ m6 => Q 0 m6)))))) ∧ (r3 ≠ 0 → (wq_139 2 4 m3 (fun _ m7 => Q 0 m7)))))) ∧ (r2 ≠ 0 → (wq_139 1 6 m2 (fun _ m8 => Q 0 m8))))))) ∧ ((m1 2 1) ≤ r1 → (Q 0 (hy_u (hy_u (hy_u m1 2 3 r1) 2 5 r1) 2 2 0))))
theorem wc_138_r2 (s : sS) (R : Int → hy_m → Prop) (h : wq_138 s.2.2.2 R) : we_138 [(5, true, 2)] s R := h
theorem wc_141_r2_4t (x1 : Int) (s : sS) (R : Int → hy_m → Prop) (h : wq_141 x1 s.2.2.2 R) : we_141 [(5, true, 2), (4, true, x1)] s R := h
theorem wc_140_r2 (s : sS) (R : Int → hy_m → Prop) (h : wq_140 s.2.2.2 R) : we_140 [(5, true, 2)] s R := h
theorem wc_139_r2_0t_0t (x1 : Int) (x2 : Int) (s : sS) (R : Int → hy_m → Prop) (h : wq_139 x1 x2 s.2.2.2 R) : we_139 [(5, true, 2), (0, true, x1), (0, true, x2)] s R := h
theorem wc_139_r2_2t_0t (x1 : Int) (x2 : Int) (s : sS) (R : Int → hy_m → Prop) (h : wq_139 x1 x2 s.2.2.2 R) : we_139 [(5, true, 2), (2, true, x1), (0, true, x2)] s R := h
def cs_136 : List (Nat × Nat × sFS) := [(138, 0, .inl we_138), (139, 9, .inl we_139), (140, 9, .inl we_140), (141, 9, .inl we_141), (142, 2, .inl we_142), (143, 2, .inl we_143), (144, 2, .inl we_144)]
theorem cs_136_ok : kCs dC 3 cs_136 := (kCs_c (Or.inl rfl) (we_138_ok.deep (by decide)) (kCs_c (Or.inr (Or.inr (Or.inr (Or.inr rfl)))) (we_139_ok.deep (by decide)) (kCs_c (Or.inr (Or.inr (Or.inr (Or.inr rfl)))) (we_140_ok.deep (by decide)) (kCs_c (Or.inr (Or.inr (Or.inr (Or.inr rfl)))) (we_141_ok.deep (by decide)) (kCs_c (Or.inr (Or.inr (Or.inl rfl))) (we_142_ok.deep (by decide)) (kCs_c (Or.inr (Or.inr (Or.inl rfl))) (we_143_ok.deep (by decide)) (kCs_c (Or.inr (Or.inr (Or.inl rfl))) (we_144_ok.deep (by decide)) kCs_n)))))))
def lb_136_0 (s : sS) (Q : sQ) (R : Int → hy_m → Prop) : Nat → Option (sL → sS → Prop) := sLb []
set_option maxRecDepth 30000 in
set_option maxHeartbeats 1000000 in
theorem wk_136_0 (Q : sQ) (R : Int → hy_m → Prop) (s : sS) (hQ : ∀ x m', R x m' → Q x (sM s m')) (hr : sRg [(0, 5, 2)] []) (h : wq_136 s.2.2.2 R) : kX dC 3 im_m136 9 0 (sCan [(0, 5, 2)] []) [] s Q := by
  unfold wq_136 at h
  refine wz2_ok (cs := cs_136) (wr := []) (lb := lb_136_0 s Q R) cs_136_ok kLb_n (okL_can rfl hr) (fun Y hY hl => ?_)
  refine hY _ _ _ _ (hY _ _ _ _ (?_ : Y 2 [(0, 5, true, 2)] [(5, true, 2), (5, true, 2)] s))
  refine hY _ _ _ _ ?_
  refine Exists.intro _ (And.intro (wc_138_r2 _ _ h) (fun r1 m1 h => ?_))
  show Y 5 [(0, 5, true, 2)] [(0, true, r1), (5, true, 2)] (sM s m1)
  refine hY _ _ _ _ ?_
  refine hY _ _ _ _ (hY _ _ _ _ (hY _ _ _ _ (?_ : Y 13 [(0, 5, true, 2)] [(0, true, r1), (5, true, 2)] (sM s (hy_u m1 2 3 r1)))))
  refine hY _ _ _ _ ?_
  refine hY _ _ _ _ (hY _ _ _ _ (hY _ _ _ _ (?_ : Y 21 [(0, 5, true, 2)] [(5, true, 2), (0, true, r1)] (sM s (hy_u (hy_u m1 2 3 r1) 2 5 r1)))))
  refine hY _ _ _ _ (?_ : Y 24 [(0, 5, true, 2)] [(0, true, m1 2 1), (0, true, r1)] (sM s (hy_u (hy_u m1 2 3 r1) 2 5 r1)))
  refine hY _ _ _ _ ?_
  refine And.intro (fun hc => ?_) (fun hc => ?_)
  · have h := h.1 hc
    refine hY _ _ _ _ (hY _ _ _ _ (hY _ _ _ _ (?_ : Y 38 [(0, 5, true, 2)] [(5, true, 2), (5, true, 3)] (sM s (hy_u (hy_u m1 2 3 r1) 2 5 r1)))))
    refine hY _ _ _ _ (?_ : Y 41 [(0, 5, true, 2)] [(0, true, r1), (5, true, 3)] (sM s (hy_u (hy_u m1 2 3 r1) 2 5 r1)))
    refine hY _ _ _ _ ?_
    refine (And.intro h.1 (And.intro h.2.1 ?_))
    refine hY _ _ _ _ (hY _ _ _ _ (?_ : Y 44 [(1, 4, true, m1 3 r1), (0, 5, true, 2)] [(4, true, m1 3 r1)] (sM s (hy_u (hy_u m1 2 3 r1) 2 5 r1))))
    refine hY _ _ _ _ ?_
    refine Exists.intro _ (And.intro (wc_142_4t (m1 3 r1) _ _ h.2.2) (fun r2 m2 h => ?_))
    show Y 47 [(1, 4, true, m1 3 r1), (0, 5, true, 2)] [(2, true, r2)] (sM s m2)
    refine hY _ _ _ _ ?_
    refine And.intro (fun hc => ?_) (fun hc => ?_)
    · have h := h.1 hc
      refine hY _ _ _ _ (?_ : Y 61 [(1, 4, true, m1 3 r1), (0, 5, true, 2)] [(4, true, m1 3 r1)] (sM s m2))
      refine hY _ _ _ _ ?_
      refine Exists.intro _ (And.intro (wc_143_4t (m1 3 r1) _ _ h) (fun r3 m3 h => ?_))
      show Y 64 [(1, 4, true, m1 3 r1), (0, 5, true, 2)] [(2, true, r3)] (sM s m3)
      refine hY _ _ _ _ ?_
      refine And.intro (fun hc => ?_) (fun hc => ?_)
      · have h := h.1 hc
        refine hY _ _ _ _ (?_ : Y 77 [(1, 4, true, m1 3 r1), (0, 5, true, 2)] [(4, true, m1 3 r1)] (sM s m3))
        refine hY _ _ _ _ ?_
        refine Exists.intro _ (And.intro (wc_144_4t (m1 3 r1) _ _ h) (fun r4 m4 h => ?_))
        show Y 80 [(1, 4, true, m1 3 r1), (0, 5, true, 2)] [(2, true, r4)] (sM s m4)
        refine hY _ _ _ _ ?_
        refine And.intro (fun hc => ?_) (fun hc => ?_)
        · have h := h.1 hc
          refine hY _ _ _ _ (hY _ _ _ _ (?_ : Y 92 [(1, 4, true, m1 3 r1), (0, 5, true, 2)] [(4, true, m1 3 r1), (5, true, 2)] (sM s m4)))
          refine hY _ _ _ _ ?_
          refine Exists.intro _ (And.intro (wc_141_r2_4t (m1 3 r1) _ _ h) (fun r5 m5 h => ?_))
          show Y 95 [(1, 4, true, m1 3 r1), (0, 5, true, 2)] [] (sM s m5)
          refine hY _ _ _ _ ?_
          exact hQ 0 m5 h
        · have h := h.2 hc
          refine hY _ _ _ _ (?_ : Y 84 [(1, 4, true, m1 3 r1), (0, 5, true, 2)] [(5, true, 2)] (sM s m4))
          refine hY _ _ _ _ ?_
          refine Exists.intro _ (And.intro (wc_140_r2 _ _ h) (fun r6 m6 h => ?_))
          refine hY _ _ _ _ (?_ : Y 95 [(1, 4, true, m1 3 r1), (0, 5, true, 2)] [] (sM s m6))
          refine hY _ _ _ _ ?_
          exact hQ 0 m6 h
      · have h := h.2 hc
        refine hY _ _ _ _ (hY _ _ _ _ (hY _ _ _ _ (?_ : Y 70 [(1, 4, true, m1 3 r1), (0, 5, true, 2)] [(0, true, 4), (0, true, 2), (5, true, 2)] (sM s m3))))
        refine hY _ _ _ _ ?_
        refine Exists.intro _ (And.intro (wc_139_r2_0t_0t 2 4 _ _ h) (fun r7 m7 h => ?_))
        refine hY _ _ _ _ (?_ : Y 95 [(1, 4, true, m1 3 r1), (0, 5, true, 2)] [] (sM s m7))
        refine hY _ _ _ _ ?_
        exact hQ 0 m7 h
    · have h := h.2 hc
      refine hY _ _ _ _ (hY _ _ _ _ (hY _ _ _ _ (?_ : Y 54 [(1, 4, true, m1 3 r1), (0, 5, true, 2)] [(0, true, 6), (2, true, 1), (5, true, 2)] (sM s m2))))
      refine hY _ _ _ _ ?_
      refine Exists.intro _ (And.intro (wc_139_r2_2t_0t 1 6 _ _ h) (fun r8 m8 h => ?_))
      refine hY _ _ _ _ (?_ : Y 95 [(1, 4, true, m1 3 r1), (0, 5, true, 2)] [] (sM s m8))
      refine hY _ _ _ _ ?_
      exact hQ 0 m8 h
  · have h := h.2 hc
    refine hY _ _ _ _ (hY _ _ _ _ (?_ : Y 29 [(0, 5, true, 2)] [(2, true, 0), (5, true, 2)] (sM s (hy_u (hy_u m1 2 3 r1) 2 5 r1))))
    refine hY _ _ _ _ ?_
    show Y 32 [(0, 5, true, 2)] [] (sM s (hy_u (hy_u (hy_u m1 2 3 r1) 2 5 r1) 2 2 0))
    refine hY _ _ _ _ ?_
    exact hQ 0 (hy_u (hy_u (hy_u m1 2 3 r1) 2 5 r1) 2 2 0) h
def we_136 : sFf := sEf 2 [(0, 5, 2)] (fun xs s Q => ap0 (wq_136 s.2.2.2 Q) xs)
theorem we_136_ok : kS dC 4 136 9 (.inl we_136) := sEf_ok (mi := im_m136) rfl rfl rfl (fun R xs s r1 hb => by obtain ⟨rfl, hb⟩ := ap0_ok hb; exact wk_136_0 _ R s (fun x m' hx => ⟨m', rfl, hx⟩) r1 hb)
/-- LM$Text.restart()V -/
def wq_135 (m : hy_m) (Q : Int → hy_m → Prop) : Prop := wq_136 (hy_u m 2 5 0) (fun _ m1 => Q 0 m1)
theorem wc_136_r2 (s : sS) (R : Int → hy_m → Prop) (h : wq_136 s.2.2.2 R) : we_136 [(5, true, 2)] s R := h
def cs_135 : List (Nat × Nat × sFS) := [(136, 9, .inl we_136)]
theorem cs_135_ok : kCs dC 4 cs_135 := (kCs_c (Or.inr (Or.inr (Or.inr (Or.inr rfl)))) (we_136_ok.deep (by decide)) kCs_n)
def lb_135_0 (s : sS) (Q : sQ) (R : Int → hy_m → Prop) : Nat → Option (sL → sS → Prop) := sLb []
set_option maxRecDepth 30000 in
set_option maxHeartbeats 1000000 in
theorem wk_135_0 (Q : sQ) (R : Int → hy_m → Prop) (s : sS) (hQ : ∀ x m', R x m' → Q x (sM s m')) (hr : sRg [(0, 5, 2)] []) (h : wq_135 s.2.2.2 R) : kX dC 4 im_m135 9 0 (sCan [(0, 5, 2)] []) [] s Q := by
  unfold wq_135 at h
  refine wz2_ok (cs := cs_135) (wr := []) (lb := lb_135_0 s Q R) cs_135_ok kLb_n (okL_can rfl hr) (fun Y hY hl => ?_)
  refine hY _ _ _ _ (hY _ _ _ _ (?_ : Y 2 [(0, 5, true, 2)] [(2, true, 0), (5, true, 2)] s))
  refine hY _ _ _ _ ?_
  refine hY _ _ _ _ (?_ : Y 6 [(0, 5, true, 2)] [(5, true, 2)] (sM s (hy_u s.2.2.2 2 5 0)))
  refine hY _ _ _ _ ?_
  refine Exists.intro _ (And.intro (wc_136_r2 _ _ h) (fun r1 m1 h => ?_))
  show Y 9 [(0, 5, true, 2)] [] (sM s m1)
  refine hY _ _ _ _ ?_
  exact hQ 0 m1 h
def we_135 : sFf := sEf 1 [(0, 5, 2)] (fun xs s Q => ap0 (wq_135 s.2.2.2 Q) xs)
theorem we_135_ok : kS dC 5 135 9 (.inl we_135) := sEf_ok (mi := im_m135) rfl rfl rfl (fun R xs s r1 hb => by obtain ⟨rfl, hb⟩ := ap0_ok hb; exact wk_135_0 _ R s (fun x m' hx => ⟨m', rfl, hx⟩) r1 hb)
/-- LM$Reader.begin(Z)V -/
def wq_71 (x1 : Int) (m : hy_m) (Q : Int → hy_m → Prop) : Prop := Q 0 (hy_u (hy_u (hy_u (hy_u (hy_u (hy_u (hy_u (hy_u m 4 15 x1) 4 4 8) 4 5 (-9)) 4 7 0) 4 10 0) 4 14 0) 4 17 (-9)) 4 16 0)
def cs_71 : List (Nat × Nat × sFS) := []
theorem cs_71_ok : kCs dC 0 cs_71 := kCs_n
def lb_71_0 (s : sS) (Q : sQ) (R : Int → hy_m → Prop) (x1 : Int) : Nat → Option (sL → sS → Prop) := sLb []
set_option maxRecDepth 30000 in
set_option maxHeartbeats 1000000 in
theorem wk_71_0 (Q : sQ) (R : Int → hy_m → Prop) (s : sS) (x1 : Int) (hQ : ∀ x m', R x m' → Q x (sM s m')) (hr : sRg [(0, 5, 4), (1, 2, 0)] [x1]) (h : wq_71 x1 s.2.2.2 R) : kX dC 0 im_m71 9 0 (sCan [(0, 5, 4), (1, 2, 0)] [x1]) [] s Q := by
  unfold wq_71 at h
  refine wz2_ok (cs := cs_71) (wr := []) (lb := lb_71_0 s Q R x1) cs_71_ok kLb_n (okL_can rfl hr) (fun Y hY hl => ?_)
  refine hY _ _ _ _ (hY _ _ _ _ (?_ : Y 2 [(0, 5, true, 4), (1, 2, true, x1)] [(2, true, x1), (5, true, 4)] s))
  refine hY _ _ _ _ ?_
  refine hY _ _ _ _ (hY _ _ _ _ (?_ : Y 8 [(0, 5, true, 4), (1, 2, true, x1)] [(0, true, 8), (5, true, 4)] (sM s (hy_u s.2.2.2 4 15 x1))))
  refine hY _ _ _ _ ?_
  refine hY _ _ _ _ (hY _ _ _ _ (?_ : Y 14 [(0, 5, true, 4), (1, 2, true, x1)] [(0, true, (-9)), (5, true, 4)] (sM s (hy_u (hy_u s.2.2.2 4 15 x1) 4 4 8))))
  refine hY _ _ _ _ ?_
  refine hY _ _ _ _ (hY _ _ _ _ (?_ : Y 19 [(0, 5, true, 4), (1, 2, true, x1)] [(2, true, 0), (5, true, 4)] (sM s (hy_u (hy_u (hy_u s.2.2.2 4 15 x1) 4 4 8) 4 5 (-9)))))
  refine hY _ _ _ _ ?_
  refine hY _ _ _ _ (hY _ _ _ _ (?_ : Y 24 [(0, 5, true, 4), (1, 2, true, x1)] [(2, true, 0), (5, true, 4)] (sM s (hy_u (hy_u (hy_u (hy_u s.2.2.2 4 15 x1) 4 4 8) 4 5 (-9)) 4 7 0))))
  refine hY _ _ _ _ ?_
  refine hY _ _ _ _ (hY _ _ _ _ (?_ : Y 29 [(0, 5, true, 4), (1, 2, true, x1)] [(2, true, 0), (5, true, 4)] (sM s (hy_u (hy_u (hy_u (hy_u (hy_u s.2.2.2 4 15 x1) 4 4 8) 4 5 (-9)) 4 7 0) 4 10 0))))
  refine hY _ _ _ _ ?_
  refine hY _ _ _ _ (hY _ _ _ _ (?_ : Y 35 [(0, 5, true, 4), (1, 2, true, x1)] [(0, true, (-9)), (5, true, 4)] (sM s (hy_u (hy_u (hy_u (hy_u (hy_u (hy_u s.2.2.2 4 15 x1) 4 4 8) 4 5 (-9)) 4 7 0) 4 10 0) 4 14 0))))
  refine hY _ _ _ _ ?_
  refine hY _ _ _ _ (hY _ _ _ _ (?_ : Y 40 [(0, 5, true, 4), (1, 2, true, x1)] [(2, true, 0), (5, true, 4)] (sM s (hy_u (hy_u (hy_u (hy_u (hy_u (hy_u (hy_u s.2.2.2 4 15 x1) 4 4 8) 4 5 (-9)) 4 7 0) 4 10 0) 4 14 0) 4 17 (-9)))))
  refine hY _ _ _ _ ?_
  show Y 43 [(0, 5, true, 4), (1, 2, true, x1)] [] (sM s (hy_u (hy_u (hy_u (hy_u (hy_u (hy_u (hy_u (hy_u s.2.2.2 4 15 x1) 4 4 8) 4 5 (-9)) 4 7 0) 4 10 0) 4 14 0) 4 17 (-9)) 4 16 0))
  refine hY _ _ _ _ ?_
  exact hQ 0 (hy_u (hy_u (hy_u (hy_u (hy_u (hy_u (hy_u (hy_u s.2.2.2 4 15 x1) 4 4 8) 4 5 (-9)) 4 7 0) 4 10 0) 4 14 0) 4 17 (-9)) 4 16 0) h
def we_71 : sFf := sEf 2 [(0, 5, 4), (1, 2, 0)] (fun xs s Q => ap1 (fun x1 => wq_71 x1 s.2.2.2 Q) xs)
theorem we_71_ok : kS dC 1 71 9 (.inl we_71) := sEf_ok (mi := im_m71) rfl rfl rfl (fun R xs s r1 hb => by obtain ⟨x1, rfl, hb⟩ := ap1_ok hb; exact wk_71_0 _ R s x1 (fun x m' hx => ⟨m', rfl, hx⟩) r1 hb)
/-- LM$Text.opensNext()Z -/
def wq_137 (m : hy_m) (Q : Int → hy_m → Prop) : Prop := wq_138 m (fun r1 m1 => ((m1 2 1) ≤ r1 → (Q 0 m1)) ∧ (r1 < (m1 2 1) → (0 ≤ r1 ∧ r1 < 120 ∧ (((m1 3 r1) ≠ 40 → (Q 0 m1)) ∧ ((m1 3 r1) = 40 → (Q 1 m1))))))
def cs_137 : List (Nat × Nat × sFS) := [(138, 0, .inl we_138)]
theorem cs_137_ok : kCs dC 1 cs_137 := (kCs_c (Or.inl rfl) (we_138_ok.deep (by decide)) kCs_n)
def lb_137_0 (s : sS) (Q : sQ) (R : Int → hy_m → Prop) : Nat → Option (sL → sS → Prop) := sLb []
set_option maxRecDepth 30000 in
set_option maxHeartbeats 1000000 in
theorem wk_137_0 (Q : sQ) (R : Int → hy_m → Prop) (s : sS) (hQ : ∀ x m', R x m' → Q x (sM s m')) (hr : sRg [(0, 5, 2)] []) (h : wq_137 s.2.2.2 R) : kX dC 1 im_m137 2 0 (sCan [(0, 5, 2)] []) [] s Q := by
  unfold wq_137 at h
  refine wz2_ok (cs := cs_137) (wr := []) (lb := lb_137_0 s Q R) cs_137_ok kLb_n (okL_can rfl hr) (fun Y hY hl => ?_)
  refine hY _ _ _ _ (?_ : Y 1 [(0, 5, true, 2)] [(5, true, 2)] s)
  refine hY _ _ _ _ ?_
  refine Exists.intro _ (And.intro (wc_138_r2 _ _ h) (fun r1 m1 h => ?_))
  refine hY _ _ _ _ (hY _ _ _ _ (hY _ _ _ _ (?_ : Y 7 [(1, 0, true, r1), (0, 5, true, 2)] [(5, true, 2), (0, true, r1)] (sM s m1))))
  refine hY _ _ _ _ (?_ : Y 10 [(1, 0, true, r1), (0, 5, true, 2)] [(0, true, m1 2 1), (0, true, r1)] (sM s m1))
  refine hY _ _ _ _ ?_
  refine And.intro (fun hc => ?_) (fun hc => ?_)
  · have h := h.1 hc
    refine hY _ _ _ _ (?_ : Y 29 [(1, 0, true, r1), (0, 5, true, 2)] [(2, true, 0)] (sM s m1))
    refine hY _ _ _ _ ?_
    exact hQ 0 m1 h
  · have h := h.2 hc
    refine hY _ _ _ _ (hY _ _ _ _ (hY _ _ _ _ (?_ : Y 18 [(1, 0, true, r1), (0, 5, true, 2)] [(0, true, r1), (5, true, 3)] (sM s m1))))
    refine hY _ _ _ _ ?_
    refine (And.intro h.1 (And.intro h.2.1 ?_))
    refine hY _ _ _ _ (?_ : Y 21 [(1, 0, true, r1), (0, 5, true, 2)] [(0, true, 40), (4, true, m1 3 r1)] (sM s m1))
    refine hY _ _ _ _ ?_
    refine And.intro (fun hc => ?_) (fun hc => ?_)
    · have h := h.2.2.1 hc
      refine hY _ _ _ _ (?_ : Y 29 [(1, 0, true, r1), (0, 5, true, 2)] [(2, true, 0)] (sM s m1))
      refine hY _ _ _ _ ?_
      exact hQ 0 m1 h
    · have h := h.2.2.2 hc
      refine hY _ _ _ _ (hY _ _ _ _ (?_ : Y 29 [(1, 0, true, r1), (0, 5, true, 2)] [(2, true, 1)] (sM s m1)))
      refine hY _ _ _ _ ?_
      exact hQ 1 m1 h
def we_137 : sFf := sEf 2 [(0, 5, 2)] (fun xs s Q => ap0 (wq_137 s.2.2.2 Q) xs)
theorem we_137_ok : kS dC 2 137 2 (.inl we_137) := sEf_ok (mi := im_m137) rfl rfl rfl (fun R xs s r1 hb => by obtain ⟨rfl, hb⟩ := ap0_ok hb; exact wk_137_0 _ R s (fun x m' hx => ⟨m', rfl, hx⟩) r1 hb)
/-- LM$Reader.addNode(IJ)I -/
def wq_81 (x1 : Int) (x2 : Int) (m : hy_m) (Q : Int → hy_m → Prop) : Prop := 0 ≤ (if 127 < (m 4 4) then 127 else (m 4 4)) ∧ (if 127 < (m 4 4) then 127 else (m 4 4)) < 128 ∧ (0 ≤ (if 127 < (m 4 4) then 127 else (m 4 4)) ∧ (if 127 < (m 4 4) then 127 else (m 4 4)) < 128 ∧ (hy_r 0 ((if 127 < (m 4 4) then 127 else (m 4 4)) + 1) ∧ (Q (if 127 < (m 4 4) then 127 else (m 4 4)) (hy_u (hy_u (hy_u m 5 (if 127 < (m 4 4) then 127 else (m 4 4)) x1) 6 (if 127 < (m 4 4) then 127 else (m 4 4)) x2) 4 4 ((if 127 < (m 4 4) then 127 else (m 4 4)) + 1)))))
def cs_81 : List (Nat × Nat × sFS) := []
theorem cs_81_ok : kCs dC 0 cs_81 := kCs_n
def lb_81_0 (s : sS) (Q : sQ) (R : Int → hy_m → Prop) (x1 : Int) (x2 : Int) : Nat → Option (sL → sS → Prop) := sLb []
set_option maxRecDepth 30000 in
set_option maxHeartbeats 1000000 in
theorem wk_81_0 (Q : sQ) (R : Int → hy_m → Prop) (s : sS) (x1 : Int) (x2 : Int) (hQ : ∀ x m', R x m' → Q x (sM s m')) (hr : sRg [(0, 5, 4), (1, 0, 0), (2, 1, 0)] [x1, x2]) (h : wq_81 x1 x2 s.2.2.2 R) : kX dC 0 im_m81 0 0 (sCan [(0, 5, 4), (1, 0, 0), (2, 1, 0)] [x1, x2]) [] s Q := by
  unfold wq_81 at h
  refine wz2_ok (cs := cs_81) (wr := []) (lb := lb_81_0 s Q R x1 x2) cs_81_ok kLb_n (okL_can rfl hr) (fun Y hY hl => ?_)
  refine hY _ _ _ _ (hY _ _ _ _ (hY _ _ _ _ (?_ : Y 6 [(0, 5, true, 4), (1, 0, true, x1), (2, 1, true, x2)] [(0, true, 127), (0, true, s.2.2.2 4 4)] s)))
  refine hY _ _ _ _ ?_
  refine hY _ _ _ _ (hY _ _ _ _ (hY _ _ _ _ (?_ : Y 15 [(4, 0, true, (if 127 < (s.2.2.2 4 4) then 127 else (s.2.2.2 4 4))), (0, 5, true, 4), (1, 0, true, x1), (2, 1, true, x2)] [(5, true, 5)] s)))
  refine hY _ _ _ _ (hY _ _ _ _ (?_ : Y 18 [(4, 0, true, (if 127 < (s.2.2.2 4 4) then 127 else (s.2.2.2 4 4))), (0, 5, true, 4), (1, 0, true, x1), (2, 1, true, x2)] [(0, true, x1), (0, true, (if 127 < (s.2.2.2 4 4) then 127 else (s.2.2.2 4 4))), (5, true, 5)] s))
  refine hY _ _ _ _ ?_
  refine (And.intro h.1 (And.intro h.2.1 ?_))
  refine hY _ _ _ _ (hY _ _ _ _ (hY _ _ _ _ (?_ : Y 25 [(4, 0, true, (if 127 < (s.2.2.2 4 4) then 127 else (s.2.2.2 4 4))), (0, 5, true, 4), (1, 0, true, x1), (2, 1, true, x2)] [(0, true, (if 127 < (s.2.2.2 4 4) then 127 else (s.2.2.2 4 4))), (5, true, 6)] (sM s (hy_u s.2.2.2 5 (if 127 < (s.2.2.2 4 4) then 127 else (s.2.2.2 4 4)) x1)))))
  refine hY _ _ _ _ (?_ : Y 26 [(4, 0, true, (if 127 < (s.2.2.2 4 4) then 127 else (s.2.2.2 4 4))), (0, 5, true, 4), (1, 0, true, x1), (2, 1, true, x2)] [(1, true, x2), (0, true, (if 127 < (s.2.2.2 4 4) then 127 else (s.2.2.2 4 4))), (5, true, 6)] (sM s (hy_u s.2.2.2 5 (if 127 < (s.2.2.2 4 4) then 127 else (s.2.2.2 4 4)) x1)))
  refine hY _ _ _ _ ?_
  refine (And.intro h.2.2.1 (And.intro h.2.2.2.1 ?_))
  refine hY _ _ _ _ (hY _ _ _ _ (hY _ _ _ _ (?_ : Y 31 [(4, 0, true, (if 127 < (s.2.2.2 4 4) then 127 else (s.2.2.2 4 4))), (0, 5, true, 4), (1, 0, true, x1), (2, 1, true, x2)] [(2, true, 1), (0, true, (if 127 < (s.2.2.2 4 4) then 127 else (s.2.2.2 4 4))), (5, true, 4)] (sM s (hy_u (hy_u s.2.2.2 5 (if 127 < (s.2.2.2 4 4) then 127 else (s.2.2.2 4 4)) x1) 6 (if 127 < (s.2.2.2 4 4) then 127 else (s.2.2.2 4 4)) x2)))))
  refine hY _ _ _ _ (?_ : Y 32 [(4, 0, true, (if 127 < (s.2.2.2 4 4) then 127 else (s.2.2.2 4 4))), (0, 5, true, 4), (1, 0, true, x1), (2, 1, true, x2)] [(0, false, (if 127 < (s.2.2.2 4 4) then 127 else (s.2.2.2 4 4)) + 1), (5, true, 4)] (sM s (hy_u (hy_u s.2.2.2 5 (if 127 < (s.2.2.2 4 4) then 127 else (s.2.2.2 4 4)) x1) 6 (if 127 < (s.2.2.2 4 4) then 127 else (s.2.2.2 4 4)) x2)))
  refine hY _ _ _ _ ?_
  refine And.intro h.2.2.2.2.1 ?_
  refine hY _ _ _ _ (?_ : Y 37 [(4, 0, true, (if 127 < (s.2.2.2 4 4) then 127 else (s.2.2.2 4 4))), (0, 5, true, 4), (1, 0, true, x1), (2, 1, true, x2)] [(0, true, (if 127 < (s.2.2.2 4 4) then 127 else (s.2.2.2 4 4)))] (sM s (hy_u (hy_u (hy_u s.2.2.2 5 (if 127 < (s.2.2.2 4 4) then 127 else (s.2.2.2 4 4)) x1) 6 (if 127 < (s.2.2.2 4 4) then 127 else (s.2.2.2 4 4)) x2) 4 4 ((if 127 < (s.2.2.2 4 4) then 127 else (s.2.2.2 4 4)) + 1))))
  refine hY _ _ _ _ ?_
  exact hQ (if 127 < (s.2.2.2 4 4) then 127 else (s.2.2.2 4 4)) (hy_u (hy_u (hy_u s.2.2.2 5 (if 127 < (s.2.2.2 4 4) then 127 else (s.2.2.2 4 4)) x1) 6 (if 127 < (s.2.2.2 4 4) then 127 else (s.2.2.2 4 4)) x2) 4 4 ((if 127 < (s.2.2.2 4 4) then 127 else (s.2.2.2 4 4)) + 1)) h.2.2.2.2.2
def we_81 : sFf := sEf 5 [(0, 5, 4), (1, 0, 0), (2, 1, 0)] (fun xs s Q => ap2 (fun x1 x2 => wq_81 x1 x2 s.2.2.2 Q) xs)
theorem we_81_ok : kS dC 1 81 0 (.inl we_81) := sEf_ok (mi := im_m81) rfl rfl rfl (fun R xs s r1 hb => by obtain ⟨x1, x2, rfl, hb⟩ := ap2_ok hb; exact wk_81_0 _ R s x1 x2 (fun x m' hx => ⟨m', rfl, hx⟩) r1 hb)
/-- LM$Reader.acceptGoal()Z -/
def wq_73_68 (x1 : Int) (x2 : Int) (m : hy_m) (Q : Int → hy_m → Prop) : Prop := wq_81 3 x2 m (fun r1 m1 => (x1 = 0 → ((5 ≤ (m1 4 7) → (Q 1 (hy_u (hy_u m1 4 17 r1) 4 16 3))) ∧ ((m1 4 7) < 5 → (0 ≤ (m1 4 7) ∧ (m1 4 7) < 5 ∧ (0 ≤ (m1 4 7) ∧ (m1 4 7) < 5 ∧ (hy_r 0 ((m1 4 7) + 1) ∧ (Q 1 (hy_u (hy_u (hy_u (hy_u (hy_u m1 4 17 r1) 8 (m1 4 7) r1) 11 (m1 4 7) 0) 4 7 ((m1 4 7) + 1)) 4 16 3)))))))) ∧ (x1 ≠ 0 → (Q 1 (hy_u (hy_u (hy_u m1 4 17 r1) 4 5 r1) 4 16 3))))
def wq_73_33 (m : hy_m) (Q : Int → hy_m → Prop) : Prop := ((0 : Int) = 0 → (wq_73_68 0 (jSl (m 2 4) 2) m Q)) ∧ ((0 : Int) ≠ 0 → (wq_23 (jSl (m 2 4) 2) m (fun r1 m1 => (r1 = 0 → (wq_73_68 0 (jSl (m 2 4) 2) m1 Q)) ∧ (r1 ≠ 0 → (wq_137 m1 (fun r2 m2 => (r2 ≠ 0 → (wq_73_68 0 (jSl (m 2 4) 2) m2 Q)) ∧ (r2 = 0 → (Q 0 m2))))))))
def wq_73 (m : hy_m) (Q : Int → hy_m → Prop) : Prop := ((m 2 2) = 1 → (((m 4 15) ≠ 0 → (wq_73_33 m Q)) ∧ ((m 4 15) = 0 → (((m 4 5) ≠ (-9) → (wq_73_33 m Q)) ∧ ((m 4 5) = (-9) → (((1 : Int) = 0 → (wq_73_68 1 (jSl (m 2 4) 2) m Q)) ∧ ((1 : Int) ≠ 0 → (wq_23 (jSl (m 2 4) 2) m (fun r1 m1 => (r1 = 0 → (wq_73_68 1 (jSl (m 2 4) 2) m1 Q)) ∧ (r1 ≠ 0 → (wq_137 m1 (fun r2 m2 => (r2 ≠ 0 → (wq_73_68 1 (jSl (m 2 4) 2) m2 Q)) ∧ (r2 = 0 → (Q 0 m2)))))))))))))) ∧ ((m 2 2) ≠ 1 → (Q 0 m))
theorem wc_81_r4_0t_1t (x1 : Int) (x2 : Int) (s : sS) (R : Int → hy_m → Prop) (h : wq_81 x1 x2 s.2.2.2 R) : we_81 [(5, true, 4), (0, true, x1), (1, true, x2)] s R := h
theorem wc_137_r2 (s : sS) (R : Int → hy_m → Prop) (h : wq_137 s.2.2.2 R) : we_137 [(5, true, 2)] s R := h
def cs_73 : List (Nat × Nat × sFS) := [(23, 0, .inl we_23), (81, 0, .inl we_81), (137, 2, .inl we_137)]
theorem cs_73_ok : kCs dC 2 cs_73 := (kCs_c (Or.inl rfl) (we_23_ok.deep (by decide)) (kCs_c (Or.inl rfl) (we_81_ok.deep (by decide)) (kCs_c (Or.inr (Or.inr (Or.inl rfl))) (we_137_ok.deep (by decide)) kCs_n)))
def lb_73_68 (s : sS) (Q : sQ) (R : Int → hy_m → Prop) (x1 : Int) (x2 : Int) : Nat → Option (sL → sS → Prop) := sLb []
set_option maxRecDepth 30000 in
set_option maxHeartbeats 1000000 in
theorem wk_73_68 (Q : sQ) (R : Int → hy_m → Prop) (s : sS) (x1 : Int) (x2 : Int) (hQ : ∀ x m', R x m' → Q x (sM s m')) (hr : sRg [(0, 5, 4), (1, 2, 0), (2, 1, 0)] [x1, x2]) (h : wq_73_68 x1 x2 s.2.2.2 R) : kX dC 2 im_m73 2 68 (sCan [(0, 5, 4), (1, 2, 0), (2, 1, 0)] [x1, x2]) [] s Q := by
  unfold wq_73_68 at h
  refine wz2_ok (cs := cs_73) (wr := []) (lb := lb_73_68 s Q R x1 x2) cs_73_ok kLb_n (okL_can rfl hr) (fun Y hY hl => ?_)
  refine hY _ _ _ _ (hY _ _ _ _ (hY _ _ _ _ (?_ : Y 71 [(0, 5, true, 4), (1, 2, true, x1), (2, 1, true, x2)] [(0, true, 3), (5, true, 4), (5, true, 4)] s)))
  refine hY _ _ _ _ (?_ : Y 72 [(0, 5, true, 4), (1, 2, true, x1), (2, 1, true, x2)] [(1, true, x2), (0, true, 3), (5, true, 4), (5, true, 4)] s)
  refine hY _ _ _ _ ?_
  refine Exists.intro _ (And.intro (wc_81_r4_0t_1t 3 x2 _ _ h) (fun r1 m1 h => ?_))
  show Y 75 [(0, 5, true, 4), (1, 2, true, x1), (2, 1, true, x2)] [(0, true, r1), (5, true, 4)] (sM s m1)
  refine hY _ _ _ _ ?_
  refine hY _ _ _ _ (?_ : Y 79 [(0, 5, true, 4), (1, 2, true, x1), (2, 1, true, x2)] [(2, true, x1)] (sM s (hy_u m1 4 17 r1)))
  refine hY _ _ _ _ ?_
  refine And.intro (fun hc => ?_) (fun hc => ?_)
  · have h := h.1 hc
    refine hY _ _ _ _ (hY _ _ _ _ (hY _ _ _ _ (?_ : Y 98 [(0, 5, true, 4), (1, 2, true, x1), (2, 1, true, x2)] [(0, true, 5), (0, true, m1 4 7)] (sM s (hy_u m1 4 17 r1)))))
    refine hY _ _ _ _ ?_
    refine And.intro (fun hc => ?_) (fun hc => ?_)
    · have h := h.1 hc
      refine hY _ _ _ _ (hY _ _ _ _ (?_ : Y 136 [(0, 5, true, 4), (1, 2, true, x1), (2, 1, true, x2)] [(0, true, 3), (5, true, 4)] (sM s (hy_u m1 4 17 r1))))
      refine hY _ _ _ _ ?_
      refine hY _ _ _ _ (?_ : Y 140 [(0, 5, true, 4), (1, 2, true, x1), (2, 1, true, x2)] [(2, true, 1)] (sM s (hy_u (hy_u m1 4 17 r1) 4 16 3)))
      refine hY _ _ _ _ ?_
      exact hQ 1 (hy_u (hy_u m1 4 17 r1) 4 16 3) h
    · have h := h.2 hc
      refine hY _ _ _ _ (hY _ _ _ _ (hY _ _ _ _ (?_ : Y 106 [(0, 5, true, 4), (1, 2, true, x1), (2, 1, true, x2)] [(5, true, 4), (5, true, 8)] (sM s (hy_u m1 4 17 r1)))))
      refine hY _ _ _ _ (hY _ _ _ _ (hY _ _ _ _ (?_ : Y 113 [(0, 5, true, 4), (1, 2, true, x1), (2, 1, true, x2)] [(0, true, r1), (0, true, m1 4 7), (5, true, 8)] (sM s (hy_u m1 4 17 r1)))))
      refine hY _ _ _ _ ?_
      refine (And.intro h.1 (And.intro h.2.1 ?_))
      refine hY _ _ _ _ (hY _ _ _ _ (hY _ _ _ _ (?_ : Y 119 [(0, 5, true, 4), (1, 2, true, x1), (2, 1, true, x2)] [(5, true, 4), (5, true, 11)] (sM s (hy_u (hy_u m1 4 17 r1) 8 (m1 4 7) r1)))))
      refine hY _ _ _ _ (hY _ _ _ _ (?_ : Y 123 [(0, 5, true, 4), (1, 2, true, x1), (2, 1, true, x2)] [(2, true, 0), (0, true, m1 4 7), (5, true, 11)] (sM s (hy_u (hy_u m1 4 17 r1) 8 (m1 4 7) r1))))
      refine hY _ _ _ _ ?_
      refine (And.intro h.2.2.1 (And.intro h.2.2.2.1 ?_))
      refine hY _ _ _ _ (hY _ _ _ _ (hY _ _ _ _ (?_ : Y 129 [(0, 5, true, 4), (1, 2, true, x1), (2, 1, true, x2)] [(0, true, m1 4 7), (5, true, 4)] (sM s (hy_u (hy_u (hy_u m1 4 17 r1) 8 (m1 4 7) r1) 11 (m1 4 7) 0)))))
      refine hY _ _ _ _ (hY _ _ _ _ (?_ : Y 131 [(0, 5, true, 4), (1, 2, true, x1), (2, 1, true, x2)] [(0, false, (m1 4 7) + 1), (5, true, 4)] (sM s (hy_u (hy_u (hy_u m1 4 17 r1) 8 (m1 4 7) r1) 11 (m1 4 7) 0))))
      refine hY _ _ _ _ ?_
      refine And.intro h.2.2.2.2.1 ?_
      refine hY _ _ _ _ (hY _ _ _ _ (?_ : Y 136 [(0, 5, true, 4), (1, 2, true, x1), (2, 1, true, x2)] [(0, true, 3), (5, true, 4)] (sM s (hy_u (hy_u (hy_u (hy_u m1 4 17 r1) 8 (m1 4 7) r1) 11 (m1 4 7) 0) 4 7 ((m1 4 7) + 1)))))
      refine hY _ _ _ _ ?_
      refine hY _ _ _ _ (?_ : Y 140 [(0, 5, true, 4), (1, 2, true, x1), (2, 1, true, x2)] [(2, true, 1)] (sM s (hy_u (hy_u (hy_u (hy_u (hy_u m1 4 17 r1) 8 (m1 4 7) r1) 11 (m1 4 7) 0) 4 7 ((m1 4 7) + 1)) 4 16 3)))
      refine hY _ _ _ _ ?_
      exact hQ 1 (hy_u (hy_u (hy_u (hy_u (hy_u m1 4 17 r1) 8 (m1 4 7) r1) 11 (m1 4 7) 0) 4 7 ((m1 4 7) + 1)) 4 16 3) h.2.2.2.2.2
  · have h := h.2 hc
    refine hY _ _ _ _ (hY _ _ _ _ (hY _ _ _ _ (?_ : Y 87 [(0, 5, true, 4), (1, 2, true, x1), (2, 1, true, x2)] [(0, true, r1), (5, true, 4)] (sM s (hy_u m1 4 17 r1)))))
    refine hY _ _ _ _ ?_
    refine hY _ _ _ _ (hY _ _ _ _ (hY _ _ _ _ (?_ : Y 136 [(0, 5, true, 4), (1, 2, true, x1), (2, 1, true, x2)] [(0, true, 3), (5, true, 4)] (sM s (hy_u (hy_u m1 4 17 r1) 4 5 r1)))))
    refine hY _ _ _ _ ?_
    refine hY _ _ _ _ (?_ : Y 140 [(0, 5, true, 4), (1, 2, true, x1), (2, 1, true, x2)] [(2, true, 1)] (sM s (hy_u (hy_u (hy_u m1 4 17 r1) 4 5 r1) 4 16 3)))
    refine hY _ _ _ _ ?_
    exact hQ 1 (hy_u (hy_u (hy_u m1 4 17 r1) 4 5 r1) 4 16 3) h
def lb_73_33 (s : sS) (Q : sQ) (R : Int → hy_m → Prop) : Nat → Option (sL → sS → Prop) := sLb [(68, fun lv t => sG [(0, 5, 4), (1, 2, 0), (2, 1, 0)] lv (ap2 (fun w1 w2 => ∃ m', t = sM s m' ∧ wq_73_68 w1 w2 m' R)))]
set_option maxRecDepth 30000 in
set_option maxHeartbeats 1000000 in
theorem wk_73_33 (Q : sQ) (R : Int → hy_m → Prop) (s : sS) (hQ : ∀ x m', R x m' → Q x (sM s m')) (hr : sRg [(0, 5, 4)] []) (h : wq_73_33 s.2.2.2 R) : kX dC 2 im_m73 2 33 (sCan [(0, 5, 4)] []) [] s Q := by
  unfold wq_73_33 at h
  refine wz2_ok (cs := cs_73) (wr := []) (lb := lb_73_33 s Q R) cs_73_ok (kLb_c (kLab (Bd := fun xs t => ap2 (fun w1 w2 => ∃ m', t = sM s m' ∧ wq_73_68 w1 w2 m' R) xs) rfl (fun xs t r1 r2 hb => by obtain ⟨w1, w2, rfl, hb⟩ := ap2_ok hb; obtain ⟨m', rfl, hx⟩ := hb; exact wk_73_68 Q R (sM s m') _ _ (fun x m'' hy => hQ x m'' hy) r1 hx)) kLb_n) (okL_can rfl hr) (fun Y hY hl => ?_)
  have l68 := hl 68 _ rfl
  refine hY _ _ _ _ (hY _ _ _ _ (hY _ _ _ _ (?_ : Y 36 [(1, 2, true, 0), (0, 5, true, 4)] [(5, true, 4)] s)))
  refine hY _ _ _ _ (hY _ _ _ _ (hY _ _ _ _ (?_ : Y 43 [(1, 2, true, 0), (0, 5, true, 4)] [(0, true, 2), (1, true, s.2.2.2 2 4)] s)))
  refine hY _ _ _ _ (?_ : Y 44 [(1, 2, true, 0), (0, 5, true, 4)] [(1, true, jSl (s.2.2.2 2 4) 2)] s)
  refine hY _ _ _ _ (hY _ _ _ _ (?_ : Y 46 [(2, 1, true, jSl (s.2.2.2 2 4) 2), (1, 2, true, 0), (0, 5, true, 4)] [(2, true, 0)] s))
  refine hY _ _ _ _ ?_
  refine And.intro (fun hc => ?_) (fun hc => ?_)
  · have h := h.1 hc
    show Y 68 [(2, 1, true, jSl (s.2.2.2 2 4) 2), (1, 2, true, 0), (0, 5, true, 4)] [] s
    refine l68 _ _ ?_
    exact (Exists.intro s.2.2.2 (And.intro rfl h))
  · have h := h.2 hc
    refine hY _ _ _ _ (?_ : Y 50 [(2, 1, true, jSl (s.2.2.2 2 4) 2), (1, 2, true, 0), (0, 5, true, 4)] [(1, true, jSl (s.2.2.2 2 4) 2)] s)
    refine hY _ _ _ _ ?_
    refine Exists.intro _ (And.intro (wc_23_1t (jSl (s.2.2.2 2 4) 2) _ _ h) (fun r1 m1 h => ?_))
    show Y 53 [(2, 1, true, jSl (s.2.2.2 2 4) 2), (1, 2, true, 0), (0, 5, true, 4)] [(0, true, r1)] (sM s m1)
    refine hY _ _ _ _ ?_
    refine And.intro (fun hc => ?_) (fun hc => ?_)
    · have h := h.1 hc
      show Y 68 [(2, 1, true, jSl (s.2.2.2 2 4) 2), (1, 2, true, 0), (0, 5, true, 4)] [] (sM s m1)
      refine l68 _ _ ?_
      exact (Exists.intro m1 (And.intro rfl h))
    · have h := h.2 hc
      refine hY _ _ _ _ (hY _ _ _ _ (?_ : Y 60 [(2, 1, true, jSl (s.2.2.2 2 4) 2), (1, 2, true, 0), (0, 5, true, 4)] [(5, true, 2)] (sM s m1)))
      refine hY _ _ _ _ ?_
      refine Exists.intro _ (And.intro (wc_137_r2 _ _ h) (fun r2 m2 h => ?_))
      show Y 63 [(2, 1, true, jSl (s.2.2.2 2 4) 2), (1, 2, true, 0), (0, 5, true, 4)] [(2, true, r2)] (sM s m2)
      refine hY _ _ _ _ ?_
      refine And.intro (fun hc => ?_) (fun hc => ?_)
      · have h := h.1 hc
        show Y 68 [(2, 1, true, jSl (s.2.2.2 2 4) 2), (1, 2, true, 0), (0, 5, true, 4)] [] (sM s m2)
        refine l68 _ _ ?_
        exact (Exists.intro m2 (And.intro rfl h))
      · have h := h.2 hc
        refine hY _ _ _ _ (?_ : Y 67 [(2, 1, true, jSl (s.2.2.2 2 4) 2), (1, 2, true, 0), (0, 5, true, 4)] [(2, true, 0)] (sM s m2))
        refine hY _ _ _ _ ?_
        exact hQ 0 m2 h
def lb_73_0 (s : sS) (Q : sQ) (R : Int → hy_m → Prop) : Nat → Option (sL → sS → Prop) := sLb [(33, fun lv t => sG [(0, 5, 4)] lv (ap0 (∃ m', t = sM s m' ∧ wq_73_33 m' R))), (68, fun lv t => sG [(0, 5, 4), (1, 2, 0), (2, 1, 0)] lv (ap2 (fun w1 w2 => ∃ m', t = sM s m' ∧ wq_73_68 w1 w2 m' R)))]
set_option maxRecDepth 30000 in
set_option maxHeartbeats 1000000 in
theorem wk_73_0 (Q : sQ) (R : Int → hy_m → Prop) (s : sS) (hQ : ∀ x m', R x m' → Q x (sM s m')) (hr : sRg [(0, 5, 4)] []) (h : wq_73 s.2.2.2 R) : kX dC 2 im_m73 2 0 (sCan [(0, 5, 4)] []) [] s Q := by
  unfold wq_73 at h
  refine wz2_ok (cs := cs_73) (wr := []) (lb := lb_73_0 s Q R) cs_73_ok (kLb_c (kLab (Bd := fun xs t => ap0 (∃ m', t = sM s m' ∧ wq_73_33 m' R) xs) rfl (fun xs t r1 r2 hb => by obtain ⟨rfl, hb⟩ := ap0_ok hb; obtain ⟨m', rfl, hx⟩ := hb; exact wk_73_33 Q R (sM s m')  (fun x m'' hy => hQ x m'' hy) r1 hx)) (kLb_c (kLab (Bd := fun xs t => ap2 (fun w1 w2 => ∃ m', t = sM s m' ∧ wq_73_68 w1 w2 m' R) xs) rfl (fun xs t r1 r2 hb => by obtain ⟨w1, w2, rfl, hb⟩ := ap2_ok hb; obtain ⟨m', rfl, hx⟩ := hb; exact wk_73_68 Q R (sM s m') _ _ (fun x m'' hy => hQ x m'' hy) r1 hx)) kLb_n)) (okL_can rfl hr) (fun Y hY hl => ?_)
  have l33 := hl 33 _ rfl
  have l68 := hl 68 _ rfl
  refine hY _ _ _ _ (hY _ _ _ _ (hY _ _ _ _ (?_ : Y 7 [(0, 5, true, 4)] [(0, true, s.2.2.2 2 2)] s)))
  refine hY _ _ _ _ (?_ : Y 8 [(0, 5, true, 4)] [(2, true, 1), (0, true, s.2.2.2 2 2)] s)
  refine hY _ _ _ _ ?_
  refine And.intro (fun hc => ?_) (fun hc => ?_)
  · have h := h.1 hc
    refine hY _ _ _ _ (hY _ _ _ _ (?_ : Y 17 [(0, 5, true, 4)] [(2, true, s.2.2.2 4 15)] s))
    refine hY _ _ _ _ ?_
    refine And.intro (fun hc => ?_) (fun hc => ?_)
    · have h := h.1 hc
      show Y 33 [(0, 5, true, 4)] [] s
      refine l33 _ _ ?_
      exact (Exists.intro s.2.2.2 (And.intro rfl h))
    · have h := h.2 hc
      refine hY _ _ _ _ (hY _ _ _ _ (hY _ _ _ _ (?_ : Y 26 [(0, 5, true, 4)] [(0, true, (-9)), (0, true, s.2.2.2 4 5)] s)))
      refine hY _ _ _ _ ?_
      refine And.intro (fun hc => ?_) (fun hc => ?_)
      · have h := h.1 hc
        show Y 33 [(0, 5, true, 4)] [] s
        refine l33 _ _ ?_
        exact (Exists.intro s.2.2.2 (And.intro rfl h))
      · have h := h.2 hc
        refine hY _ _ _ _ (hY _ _ _ _ (hY _ _ _ _ (?_ : Y 35 [(1, 2, true, 1), (0, 5, true, 4)] [] s)))
        refine hY _ _ _ _ (hY _ _ _ _ (hY _ _ _ _ (?_ : Y 42 [(1, 2, true, 1), (0, 5, true, 4)] [(1, true, s.2.2.2 2 4)] s)))
        refine hY _ _ _ _ (?_ : Y 43 [(1, 2, true, 1), (0, 5, true, 4)] [(0, true, 2), (1, true, s.2.2.2 2 4)] s)
        refine hY _ _ _ _ (?_ : Y 44 [(1, 2, true, 1), (0, 5, true, 4)] [(1, true, jSl (s.2.2.2 2 4) 2)] s)
        refine hY _ _ _ _ (hY _ _ _ _ (?_ : Y 46 [(2, 1, true, jSl (s.2.2.2 2 4) 2), (1, 2, true, 1), (0, 5, true, 4)] [(2, true, 1)] s))
        refine hY _ _ _ _ ?_
        refine And.intro (fun hc => ?_) (fun hc => ?_)
        · have h := h.1 hc
          show Y 68 [(2, 1, true, jSl (s.2.2.2 2 4) 2), (1, 2, true, 1), (0, 5, true, 4)] [] s
          refine l68 _ _ ?_
          exact (Exists.intro s.2.2.2 (And.intro rfl h))
        · have h := h.2 hc
          refine hY _ _ _ _ (?_ : Y 50 [(2, 1, true, jSl (s.2.2.2 2 4) 2), (1, 2, true, 1), (0, 5, true, 4)] [(1, true, jSl (s.2.2.2 2 4) 2)] s)
          refine hY _ _ _ _ ?_
          refine Exists.intro _ (And.intro (wc_23_1t (jSl (s.2.2.2 2 4) 2) _ _ h) (fun r1 m1 h => ?_))
          show Y 53 [(2, 1, true, jSl (s.2.2.2 2 4) 2), (1, 2, true, 1), (0, 5, true, 4)] [(0, true, r1)] (sM s m1)
          refine hY _ _ _ _ ?_
          refine And.intro (fun hc => ?_) (fun hc => ?_)
          · have h := h.1 hc
            show Y 68 [(2, 1, true, jSl (s.2.2.2 2 4) 2), (1, 2, true, 1), (0, 5, true, 4)] [] (sM s m1)
            refine l68 _ _ ?_
            exact (Exists.intro m1 (And.intro rfl h))
          · have h := h.2 hc
            refine hY _ _ _ _ (hY _ _ _ _ (?_ : Y 60 [(2, 1, true, jSl (s.2.2.2 2 4) 2), (1, 2, true, 1), (0, 5, true, 4)] [(5, true, 2)] (sM s m1)))
            refine hY _ _ _ _ ?_
            refine Exists.intro _ (And.intro (wc_137_r2 _ _ h) (fun r2 m2 h => ?_))
            show Y 63 [(2, 1, true, jSl (s.2.2.2 2 4) 2), (1, 2, true, 1), (0, 5, true, 4)] [(2, true, r2)] (sM s m2)
            refine hY _ _ _ _ ?_
            refine And.intro (fun hc => ?_) (fun hc => ?_)
            · have h := h.1 hc
              show Y 68 [(2, 1, true, jSl (s.2.2.2 2 4) 2), (1, 2, true, 1), (0, 5, true, 4)] [] (sM s m2)
              refine l68 _ _ ?_
              exact (Exists.intro m2 (And.intro rfl h))
            · have h := h.2 hc
              refine hY _ _ _ _ (?_ : Y 67 [(2, 1, true, jSl (s.2.2.2 2 4) 2), (1, 2, true, 1), (0, 5, true, 4)] [(2, true, 0)] (sM s m2))
              refine hY _ _ _ _ ?_
              exact hQ 0 m2 h
  · have h := h.2 hc
    refine hY _ _ _ _ (?_ : Y 12 [(0, 5, true, 4)] [(2, true, 0)] s)
    refine hY _ _ _ _ ?_
    exact hQ 0 s.2.2.2 h
def we_73 : sFf := sEf 4 [(0, 5, 4)] (fun xs s Q => ap0 (wq_73 s.2.2.2 Q) xs)
theorem we_73_ok : kS dC 3 73 2 (.inl we_73) := sEf_ok (mi := im_m73) rfl rfl rfl (fun R xs s r1 hb => by obtain ⟨rfl, hb⟩ := ap0_ok hb; exact wk_73_0 _ R s (fun x m' hx => ⟨m', rfl, hx⟩) r1 hb)
/-- LM.arityOf(J)I -/
def wq_26 (x0 : Int) (m : hy_m) (Q : Int → hy_m → Prop) : Prop := hy_r 0 (jA x0 3) ∧ (Q (jA x0 3) m)
def cs_26 : List (Nat × Nat × sFS) := []
theorem cs_26_ok : kCs dC 0 cs_26 := kCs_n
def lb_26_0 (s : sS) (Q : sQ) (R : Int → hy_m → Prop) (x0 : Int) : Nat → Option (sL → sS → Prop) := sLb []
set_option maxRecDepth 30000 in
set_option maxHeartbeats 1000000 in
theorem wk_26_0 (Q : sQ) (R : Int → hy_m → Prop) (s : sS) (x0 : Int) (hQ : ∀ x m', R x m' → Q x (sM s m')) (hr : sRg [(0, 1, 0)] [x0]) (h : wq_26 x0 s.2.2.2 R) : kX dC 0 im_m26 0 0 (sCan [(0, 1, 0)] [x0]) [] s Q := by
  unfold wq_26 at h
  refine wz2_ok (cs := cs_26) (wr := []) (lb := lb_26_0 s Q R x0) cs_26_ok kLb_n (okL_can rfl hr) (fun Y hY hl => ?_)
  refine hY _ _ _ _ (hY _ _ _ _ (?_ : Y 4 [(0, 1, true, x0)] [(1, true, 3), (1, true, x0)] s))
  refine hY _ _ _ _ (?_ : Y 5 [(0, 1, true, x0)] [(1, true, jA x0 3)] s)
  refine hY _ _ _ _ (?_ : Y 6 [(0, 1, true, x0)] [(0, false, jA x0 3)] s)
  refine hY _ _ _ _ ?_
  refine And.intro h.1 ?_
  exact hQ (jA x0 3) s.2.2.2 h.2
def we_26 : sFf := sEf 2 [(0, 1, 0)] (fun xs s Q => ap1 (fun x0 => wq_26 x0 s.2.2.2 Q) xs)
theorem we_26_ok : kS dC 1 26 0 (.inl we_26) := sEf_ok (mi := im_m26) rfl rfl rfl (fun R xs s r1 hb => by obtain ⟨x0, rfl, hb⟩ := ap1_ok hb; exact wk_26_0 _ R s x0 (fun x m' hx => ⟨m', rfl, hx⟩) r1 hb)
/-- LM$Reader.attach(I)V -/
def wq_82 (x1 : Int) (m : hy_m) (Q : Int → hy_m → Prop) : Prop := (0 < (m 4 14) → (0 ≤ ((m 4 14) - 1) ∧ ((m 4 14) - 1) < 120 ∧ (0 ≤ (m 12 ((m 4 14) - 1)) ∧ (m 12 ((m 4 14) - 1)) < 128 ∧ (wq_26 (m 6 (m 12 ((m 4 14) - 1))) m (fun r1 m1 => (3 ≤ r1 → (Q 0 m1)) ∧ (r1 < 3 → (0 ≤ (m 12 ((m 4 14) - 1)) ∧ (m 12 ((m 4 14) - 1)) < 128 ∧ (0 ≤ (((m 12 ((m 4 14) - 1)) * 3) + r1) ∧ (((m 12 ((m 4 14) - 1)) * 3) + r1) < 384 ∧ (0 ≤ (m 12 ((m 4 14) - 1)) ∧ (m 12 ((m 4 14) - 1)) < 128 ∧ (0 ≤ (m 12 ((m 4 14) - 1)) ∧ (m 12 ((m 4 14) - 1)) < 128 ∧ (hy_r 1 ((m1 6 (m 12 ((m 4 14) - 1))) + 1) ∧ (Q 0 (hy_u (hy_u (hy_u m1 5 (m 12 ((m 4 14) - 1)) 4) 7 (((m 12 ((m 4 14) - 1)) * 3) + r1) x1) 6 (m 12 ((m 4 14) - 1)) ((m1 6 (m 12 ((m 4 14) - 1))) + 1)))))))))))))) ∧ ((m 4 14) ≤ 0 → (Q 0 m))
theorem wc_26_1t (x0 : Int) (s : sS) (R : Int → hy_m → Prop) (h : wq_26 x0 s.2.2.2 R) : we_26 [(1, true, x0)] s R := h
def cs_82 : List (Nat × Nat × sFS) := [(26, 0, .inl we_26)]
theorem cs_82_ok : kCs dC 1 cs_82 := (kCs_c (Or.inl rfl) (we_26_ok.deep (by decide)) kCs_n)
def lb_82_0 (s : sS) (Q : sQ) (R : Int → hy_m → Prop) (x1 : Int) : Nat → Option (sL → sS → Prop) := sLb []
set_option maxRecDepth 30000 in
set_option maxHeartbeats 1000000 in
theorem wk_82_0 (Q : sQ) (R : Int → hy_m → Prop) (s : sS) (x1 : Int) (hQ : ∀ x m', R x m' → Q x (sM s m')) (hr : sRg [(0, 5, 4), (1, 0, 0)] [x1]) (h : wq_82 x1 s.2.2.2 R) : kX dC 1 im_m82 9 0 (sCan [(0, 5, 4), (1, 0, 0)] [x1]) [] s Q := by
  unfold wq_82 at h
  refine wz2_ok (cs := cs_82) (wr := []) (lb := lb_82_0 s Q R x1) cs_82_ok kLb_n (okL_can rfl hr) (fun Y hY hl => ?_)
  refine hY _ _ _ _ (hY _ _ _ _ (?_ : Y 4 [(0, 5, true, 4), (1, 0, true, x1)] [(0, true, s.2.2.2 4 14)] s))
  refine hY _ _ _ _ ?_
  refine And.intro (fun hc => ?_) (fun hc => ?_)
  · have h := h.1 hc
    refine hY _ _ _ _ (hY _ _ _ _ (hY _ _ _ _ (?_ : Y 13 [(0, 5, true, 4), (1, 0, true, x1)] [(5, true, 4), (5, true, 12)] s)))
    refine hY _ _ _ _ (hY _ _ _ _ (hY _ _ _ _ (?_ : Y 18 [(0, 5, true, 4), (1, 0, true, x1)] [(0, false, (s.2.2.2 4 14) - 1), (5, true, 12)] s)))
    refine hY _ _ _ _ ?_
    refine (And.intro h.1 (And.intro h.2.1 ?_))
    refine hY _ _ _ _ (hY _ _ _ _ (hY _ _ _ _ (?_ : Y 24 [(2, 0, true, s.2.2.2 12 ((s.2.2.2 4 14) - 1)), (0, 5, true, 4), (1, 0, true, x1)] [(5, true, 6)] s)))
    refine hY _ _ _ _ (?_ : Y 25 [(2, 0, true, s.2.2.2 12 ((s.2.2.2 4 14) - 1)), (0, 5, true, 4), (1, 0, true, x1)] [(0, true, s.2.2.2 12 ((s.2.2.2 4 14) - 1)), (5, true, 6)] s)
    refine hY _ _ _ _ ?_
    refine (And.intro h.2.2.1 (And.intro h.2.2.2.1 ?_))
    show Y 26 [(2, 0, true, s.2.2.2 12 ((s.2.2.2 4 14) - 1)), (0, 5, true, 4), (1, 0, true, x1)] [(1, true, s.2.2.2 6 (s.2.2.2 12 ((s.2.2.2 4 14) - 1)))] s
    refine hY _ _ _ _ ?_
    refine Exists.intro _ (And.intro (wc_26_1t (s.2.2.2 6 (s.2.2.2 12 ((s.2.2.2 4 14) - 1))) _ _ h.2.2.2.2) (fun r1 m1 h => ?_))
    refine hY _ _ _ _ (hY _ _ _ _ (hY _ _ _ _ (?_ : Y 32 [(3, 0, true, r1), (2, 0, true, s.2.2.2 12 ((s.2.2.2 4 14) - 1)), (0, 5, true, 4), (1, 0, true, x1)] [(0, true, 3), (0, true, r1)] (sM s m1))))
    refine hY _ _ _ _ ?_
    refine And.intro (fun hc => ?_) (fun hc => ?_)
    · have h := h.1 hc
      show Y 63 [(3, 0, true, r1), (2, 0, true, s.2.2.2 12 ((s.2.2.2 4 14) - 1)), (0, 5, true, 4), (1, 0, true, x1)] [] (sM s m1)
      refine hY _ _ _ _ ?_
      exact hQ 0 m1 h
    · have h := h.2 hc
      refine hY _ _ _ _ (hY _ _ _ _ (hY _ _ _ _ (?_ : Y 40 [(3, 0, true, r1), (2, 0, true, s.2.2.2 12 ((s.2.2.2 4 14) - 1)), (0, 5, true, 4), (1, 0, true, x1)] [(0, true, s.2.2.2 12 ((s.2.2.2 4 14) - 1)), (5, true, 5)] (sM s m1))))
      refine hY _ _ _ _ (?_ : Y 41 [(3, 0, true, r1), (2, 0, true, s.2.2.2 12 ((s.2.2.2 4 14) - 1)), (0, 5, true, 4), (1, 0, true, x1)] [(0, true, 4), (0, true, s.2.2.2 12 ((s.2.2.2 4 14) - 1)), (5, true, 5)] (sM s m1))
      refine hY _ _ _ _ ?_
      refine (And.intro h.1 (And.intro h.2.1 ?_))
      refine hY _ _ _ _ (hY _ _ _ _ (hY _ _ _ _ (?_ : Y 47 [(3, 0, true, r1), (2, 0, true, s.2.2.2 12 ((s.2.2.2 4 14) - 1)), (0, 5, true, 4), (1, 0, true, x1)] [(0, true, s.2.2.2 12 ((s.2.2.2 4 14) - 1)), (5, true, 7)] (sM s (hy_u m1 5 (s.2.2.2 12 ((s.2.2.2 4 14) - 1)) 4)))))
      refine hY _ _ _ _ (hY _ _ _ _ (hY _ _ _ _ (?_ : Y 50 [(3, 0, true, r1), (2, 0, true, s.2.2.2 12 ((s.2.2.2 4 14) - 1)), (0, 5, true, 4), (1, 0, true, x1)] [(0, true, r1), (0, false, (s.2.2.2 12 ((s.2.2.2 4 14) - 1)) * 3), (5, true, 7)] (sM s (hy_u m1 5 (s.2.2.2 12 ((s.2.2.2 4 14) - 1)) 4)))))
      refine hY _ _ _ _ (hY _ _ _ _ (?_ : Y 52 [(3, 0, true, r1), (2, 0, true, s.2.2.2 12 ((s.2.2.2 4 14) - 1)), (0, 5, true, 4), (1, 0, true, x1)] [(0, true, x1), (0, false, ((s.2.2.2 12 ((s.2.2.2 4 14) - 1)) * 3) + r1), (5, true, 7)] (sM s (hy_u m1 5 (s.2.2.2 12 ((s.2.2.2 4 14) - 1)) 4))))
      refine hY _ _ _ _ ?_
      refine (And.intro h.2.2.1 (And.intro h.2.2.2.1 ?_))
      refine hY _ _ _ _ (hY _ _ _ _ (hY _ _ _ _ (?_ : Y 58 [(3, 0, true, r1), (2, 0, true, s.2.2.2 12 ((s.2.2.2 4 14) - 1)), (0, 5, true, 4), (1, 0, true, x1)] [(0, true, s.2.2.2 12 ((s.2.2.2 4 14) - 1)), (5, true, 6)] (sM s (hy_u (hy_u m1 5 (s.2.2.2 12 ((s.2.2.2 4 14) - 1)) 4) 7 (((s.2.2.2 12 ((s.2.2.2 4 14) - 1)) * 3) + r1) x1)))))
      refine hY _ _ _ _ (?_ : Y 59 [(3, 0, true, r1), (2, 0, true, s.2.2.2 12 ((s.2.2.2 4 14) - 1)), (0, 5, true, 4), (1, 0, true, x1)] [(0, true, s.2.2.2 12 ((s.2.2.2 4 14) - 1)), (5, true, 6), (0, true, s.2.2.2 12 ((s.2.2.2 4 14) - 1)), (5, true, 6)] (sM s (hy_u (hy_u m1 5 (s.2.2.2 12 ((s.2.2.2 4 14) - 1)) 4) 7 (((s.2.2.2 12 ((s.2.2.2 4 14) - 1)) * 3) + r1) x1)))
      refine hY _ _ _ _ ?_
      refine (And.intro h.2.2.2.2.1 (And.intro h.2.2.2.2.2.1 ?_))
      refine hY _ _ _ _ (hY _ _ _ _ (?_ : Y 62 [(3, 0, true, r1), (2, 0, true, s.2.2.2 12 ((s.2.2.2 4 14) - 1)), (0, 5, true, 4), (1, 0, true, x1)] [(1, false, (m1 6 (s.2.2.2 12 ((s.2.2.2 4 14) - 1))) + 1), (0, true, s.2.2.2 12 ((s.2.2.2 4 14) - 1)), (5, true, 6)] (sM s (hy_u (hy_u m1 5 (s.2.2.2 12 ((s.2.2.2 4 14) - 1)) 4) 7 (((s.2.2.2 12 ((s.2.2.2 4 14) - 1)) * 3) + r1) x1))))
      refine hY _ _ _ _ ?_
      refine (And.intro h.2.2.2.2.2.2.1 (And.intro h.2.2.2.2.2.2.2.1 ?_))
      refine And.intro h.2.2.2.2.2.2.2.2.1 ?_
      show Y 63 [(3, 0, true, r1), (2, 0, true, s.2.2.2 12 ((s.2.2.2 4 14) - 1)), (0, 5, true, 4), (1, 0, true, x1)] [] (sM s (hy_u (hy_u (hy_u m1 5 (s.2.2.2 12 ((s.2.2.2 4 14) - 1)) 4) 7 (((s.2.2.2 12 ((s.2.2.2 4 14) - 1)) * 3) + r1) x1) 6 (s.2.2.2 12 ((s.2.2.2 4 14) - 1)) ((m1 6 (s.2.2.2 12 ((s.2.2.2 4 14) - 1))) + 1)))
      refine hY _ _ _ _ ?_
      exact hQ 0 (hy_u (hy_u (hy_u m1 5 (s.2.2.2 12 ((s.2.2.2 4 14) - 1)) 4) 7 (((s.2.2.2 12 ((s.2.2.2 4 14) - 1)) * 3) + r1) x1) 6 (s.2.2.2 12 ((s.2.2.2 4 14) - 1)) ((m1 6 (s.2.2.2 12 ((s.2.2.2 4 14) - 1))) + 1)) h.2.2.2.2.2.2.2.2.2
  · have h := h.2 hc
    show Y 7 [(0, 5, true, 4), (1, 0, true, x1)] [] s
    refine hY _ _ _ _ ?_
    exact hQ 0 s.2.2.2 h
def we_82 : sFf := sEf 4 [(0, 5, 4), (1, 0, 0)] (fun xs s Q => ap1 (fun x1 => wq_82 x1 s.2.2.2 Q) xs)
theorem we_82_ok : kS dC 2 82 9 (.inl we_82) := sEf_ok (mi := im_m82) rfl rfl rfl (fun R xs s r1 hb => by obtain ⟨x1, rfl, hb⟩ := ap1_ok hb; exact wk_82_0 _ R s x1 (fun x m' hx => ⟨m', rfl, hx⟩) r1 hb)
/-- LM$Reader.variableNamed(J)I -/
def wq_83_68 (x3 : Int) (m : hy_m) (Q : Int → hy_m → Prop) : Prop := 0 ≤ x3 ∧ x3 < 8 ∧ (0 ≤ x3 ∧ x3 < 8 ∧ (hy_r 0 ((m 10 x3) + 1) ∧ (((m 4 7) ≤ 0 → (Q x3 (hy_u m 10 x3 ((m 10 x3) + 1)))) ∧ (0 < (m 4 7) → (0 ≤ ((m 4 7) - 1) ∧ ((m 4 7) - 1) < 5 ∧ (0 ≤ ((m 4 7) - 1) ∧ ((m 4 7) - 1) < 5 ∧ (Q x3 (hy_u (hy_u m 10 x3 ((m 10 x3) + 1)) 11 ((m 4 7) - 1) (iO (m 11 ((m 4 7) - 1)) (iSl 1 x3))))))))))
def wq_83_27 (x1 : Int) (x3 : Int) (m : hy_m) (Q : Int → hy_m → Prop) : Prop := (x3 < 8 → ((x3 ≠ (m 4 10) → (wq_83_68 x3 m Q)) ∧ (x3 = (m 4 10) → (0 ≤ x3 ∧ x3 < 8 ∧ (0 ≤ x3 ∧ x3 < 8 ∧ (hy_r 0 ((m 4 10) + 1) ∧ (wq_83_68 x3 (hy_u (hy_u (hy_u m 9 x3 x1) 10 x3 0) 4 10 ((m 4 10) + 1)) Q))))))) ∧ (8 ≤ x3 → (Q (-9) m))
def wf_83_2 (x1 : Int) (Q : Int → hy_m → Prop) (P2 : Int → hy_m → Prop) (x3 : Int) (m : hy_m) : Prop := ((m 4 10) ≤ x3 → (wq_83_27 x1 x3 m Q)) ∧ (x3 < (m 4 10) → (0 ≤ x3 ∧ x3 < 8 ∧ (((m 9 x3) = x1 → (wq_83_27 x1 x3 m Q)) ∧ ((m 9 x3) ≠ x1 → (hy_r 0 (x3 + 1) ∧ (P2 (x3 + 1) m))))))
def wq_83_2 (x1 : Int) (x3 : Int) (m : hy_m) (Q : Int → hy_m → Prop) : Prop := wL1 hy_m (wf_83_2 x1 Q) x3 m
def wq_83 (x1 : Int) (m : hy_m) (Q : Int → hy_m → Prop) : Prop := wq_83_2 x1 0 m Q
def cs_83 : List (Nat × Nat × sFS) := []
theorem cs_83_ok : kCs dC 0 cs_83 := kCs_n
def lb_83_68 (s : sS) (Q : sQ) (R : Int → hy_m → Prop) (x3 : Int) : Nat → Option (sL → sS → Prop) := sLb []
set_option maxRecDepth 30000 in
set_option maxHeartbeats 1000000 in
theorem wk_83_68 (Q : sQ) (R : Int → hy_m → Prop) (s : sS) (x3 : Int) (hQ : ∀ x m', R x m' → Q x (sM s m')) (hr : sRg [(0, 5, 4), (3, 0, 0)] [x3]) (h : wq_83_68 x3 s.2.2.2 R) : kX dC 0 im_m83 0 68 (sCan [(0, 5, 4), (3, 0, 0)] [x3]) [] s Q := by
  unfold wq_83_68 at h
  refine wz2_ok (cs := cs_83) (wr := []) (lb := lb_83_68 s Q R x3) cs_83_ok kLb_n (okL_can rfl hr) (fun Y hY hl => ?_)
  refine hY _ _ _ _ (hY _ _ _ _ (hY _ _ _ _ (?_ : Y 73 [(0, 5, true, 4), (3, 0, true, x3)] [(0, true, x3), (5, true, 10)] s)))
  refine hY _ _ _ _ (?_ : Y 74 [(0, 5, true, 4), (3, 0, true, x3)] [(0, true, x3), (5, true, 10), (0, true, x3), (5, true, 10)] s)
  refine hY _ _ _ _ ?_
  refine (And.intro h.1 (And.intro h.2.1 ?_))
  refine hY _ _ _ _ (hY _ _ _ _ (?_ : Y 77 [(0, 5, true, 4), (3, 0, true, x3)] [(0, false, (s.2.2.2 10 x3) + 1), (0, true, x3), (5, true, 10)] s))
  refine hY _ _ _ _ ?_
  refine (And.intro h.2.2.1 (And.intro h.2.2.2.1 ?_))
  refine And.intro h.2.2.2.2.1 ?_
  refine hY _ _ _ _ (hY _ _ _ _ (?_ : Y 82 [(0, 5, true, 4), (3, 0, true, x3)] [(0, true, s.2.2.2 4 7)] (sM s (hy_u s.2.2.2 10 x3 ((s.2.2.2 10 x3) + 1)))))
  refine hY _ _ _ _ ?_
  refine And.intro (fun hc => ?_) (fun hc => ?_)
  · have h := h.2.2.2.2.2.1 hc
    refine hY _ _ _ _ (?_ : Y 103 [(0, 5, true, 4), (3, 0, true, x3)] [(0, true, x3)] (sM s (hy_u s.2.2.2 10 x3 ((s.2.2.2 10 x3) + 1))))
    refine hY _ _ _ _ ?_
    exact hQ x3 (hy_u s.2.2.2 10 x3 ((s.2.2.2 10 x3) + 1)) h
  · have h := h.2.2.2.2.2.2 hc
    refine hY _ _ _ _ (hY _ _ _ _ (hY _ _ _ _ (?_ : Y 90 [(0, 5, true, 4), (3, 0, true, x3)] [(5, true, 4), (5, true, 11)] (sM s (hy_u s.2.2.2 10 x3 ((s.2.2.2 10 x3) + 1))))))
    refine hY _ _ _ _ (hY _ _ _ _ (hY _ _ _ _ (?_ : Y 95 [(0, 5, true, 4), (3, 0, true, x3)] [(0, false, (s.2.2.2 4 7) - 1), (5, true, 11)] (sM s (hy_u s.2.2.2 10 x3 ((s.2.2.2 10 x3) + 1))))))
    refine hY _ _ _ _ (?_ : Y 96 [(0, 5, true, 4), (3, 0, true, x3)] [(0, false, (s.2.2.2 4 7) - 1), (5, true, 11), (0, false, (s.2.2.2 4 7) - 1), (5, true, 11)] (sM s (hy_u s.2.2.2 10 x3 ((s.2.2.2 10 x3) + 1))))
    refine hY _ _ _ _ ?_
    refine (And.intro h.1 (And.intro h.2.1 ?_))
    refine hY _ _ _ _ (hY _ _ _ _ (?_ : Y 99 [(0, 5, true, 4), (3, 0, true, x3)] [(0, true, x3), (2, true, 1), (0, true, s.2.2.2 11 ((s.2.2.2 4 7) - 1)), (0, false, (s.2.2.2 4 7) - 1), (5, true, 11)] (sM s (hy_u s.2.2.2 10 x3 ((s.2.2.2 10 x3) + 1)))))
    refine hY _ _ _ _ (?_ : Y 100 [(0, 5, true, 4), (3, 0, true, x3)] [(0, true, iSl 1 x3), (0, true, s.2.2.2 11 ((s.2.2.2 4 7) - 1)), (0, false, (s.2.2.2 4 7) - 1), (5, true, 11)] (sM s (hy_u s.2.2.2 10 x3 ((s.2.2.2 10 x3) + 1))))
    refine hY _ _ _ _ (?_ : Y 101 [(0, 5, true, 4), (3, 0, true, x3)] [(0, true, iO (s.2.2.2 11 ((s.2.2.2 4 7) - 1)) (iSl 1 x3)), (0, false, (s.2.2.2 4 7) - 1), (5, true, 11)] (sM s (hy_u s.2.2.2 10 x3 ((s.2.2.2 10 x3) + 1))))
    refine hY _ _ _ _ ?_
    refine (And.intro h.2.2.1 (And.intro h.2.2.2.1 ?_))
    refine hY _ _ _ _ (?_ : Y 103 [(0, 5, true, 4), (3, 0, true, x3)] [(0, true, x3)] (sM s (hy_u (hy_u s.2.2.2 10 x3 ((s.2.2.2 10 x3) + 1)) 11 ((s.2.2.2 4 7) - 1) (iO (s.2.2.2 11 ((s.2.2.2 4 7) - 1)) (iSl 1 x3)))))
    refine hY _ _ _ _ ?_
    exact hQ x3 (hy_u (hy_u s.2.2.2 10 x3 ((s.2.2.2 10 x3) + 1)) 11 ((s.2.2.2 4 7) - 1) (iO (s.2.2.2 11 ((s.2.2.2 4 7) - 1)) (iSl 1 x3))) h.2.2.2.2
def lb_83_27 (s : sS) (Q : sQ) (R : Int → hy_m → Prop) (x1 : Int) (x3 : Int) : Nat → Option (sL → sS → Prop) := sLb [(68, fun lv t => sG [(0, 5, 4), (3, 0, 0)] lv (ap1 (fun w3 => ∃ m', t = sM s m' ∧ wq_83_68 w3 m' R)))]
set_option maxRecDepth 30000 in
set_option maxHeartbeats 1000000 in
theorem wk_83_27 (Q : sQ) (R : Int → hy_m → Prop) (s : sS) (x1 : Int) (x3 : Int) (hQ : ∀ x m', R x m' → Q x (sM s m')) (hr : sRg [(0, 5, 4), (1, 1, 0), (3, 0, 0)] [x1, x3]) (h : wq_83_27 x1 x3 s.2.2.2 R) : kX dC 0 im_m83 0 27 (sCan [(0, 5, 4), (1, 1, 0), (3, 0, 0)] [x1, x3]) [] s Q := by
  unfold wq_83_27 at h
  refine wz2_ok (cs := cs_83) (wr := []) (lb := lb_83_27 s Q R x1 x3) cs_83_ok (kLb_c (kLab (Bd := fun xs t => ap1 (fun w3 => ∃ m', t = sM s m' ∧ wq_83_68 w3 m' R) xs) rfl (fun xs t r1 r2 hb => by obtain ⟨w3, rfl, hb⟩ := ap1_ok hb; obtain ⟨m', rfl, hx⟩ := hb; exact wk_83_68 Q R (sM s m') _ (fun x m'' hy => hQ x m'' hy) r1 hx)) kLb_n) (okL_can rfl hr) (fun Y hY hl => ?_)
  have l68 := hl 68 _ rfl
  refine hY _ _ _ _ (hY _ _ _ _ (?_ : Y 30 [(0, 5, true, 4), (1, 1, true, x1), (3, 0, true, x3)] [(0, true, 8), (0, true, x3)] s))
  refine hY _ _ _ _ ?_
  refine And.intro (fun hc => ?_) (fun hc => ?_)
  · have h := h.1 hc
    refine hY _ _ _ _ (hY _ _ _ _ (hY _ _ _ _ (?_ : Y 41 [(0, 5, true, 4), (1, 1, true, x1), (3, 0, true, x3)] [(0, true, s.2.2.2 4 10), (0, true, x3)] s)))
    refine hY _ _ _ _ ?_
    refine And.intro (fun hc => ?_) (fun hc => ?_)
    · have h := h.1 hc
      show Y 68 [(0, 5, true, 4), (1, 1, true, x1), (3, 0, true, x3)] [] s
      refine l68 _ _ ?_
      exact (Exists.intro s.2.2.2 (And.intro rfl h))
    · have h := h.2 hc
      refine hY _ _ _ _ (hY _ _ _ _ (hY _ _ _ _ (?_ : Y 49 [(0, 5, true, 4), (1, 1, true, x1), (3, 0, true, x3)] [(0, true, x3), (5, true, 9)] s)))
      refine hY _ _ _ _ (?_ : Y 50 [(0, 5, true, 4), (1, 1, true, x1), (3, 0, true, x3)] [(1, true, x1), (0, true, x3), (5, true, 9)] s)
      refine hY _ _ _ _ ?_
      refine (And.intro h.1 (And.intro h.2.1 ?_))
      refine hY _ _ _ _ (hY _ _ _ _ (hY _ _ _ _ (?_ : Y 56 [(0, 5, true, 4), (1, 1, true, x1), (3, 0, true, x3)] [(0, true, x3), (5, true, 10)] (sM s (hy_u s.2.2.2 9 x3 x1)))))
      refine hY _ _ _ _ (?_ : Y 57 [(0, 5, true, 4), (1, 1, true, x1), (3, 0, true, x3)] [(2, true, 0), (0, true, x3), (5, true, 10)] (sM s (hy_u s.2.2.2 9 x3 x1)))
      refine hY _ _ _ _ ?_
      refine (And.intro h.2.2.1 (And.intro h.2.2.2.1 ?_))
      refine hY _ _ _ _ (hY _ _ _ _ (hY _ _ _ _ (?_ : Y 63 [(0, 5, true, 4), (1, 1, true, x1), (3, 0, true, x3)] [(0, true, s.2.2.2 4 10), (5, true, 4)] (sM s (hy_u (hy_u s.2.2.2 9 x3 x1) 10 x3 0)))))
      refine hY _ _ _ _ (hY _ _ _ _ (?_ : Y 65 [(0, 5, true, 4), (1, 1, true, x1), (3, 0, true, x3)] [(0, false, (s.2.2.2 4 10) + 1), (5, true, 4)] (sM s (hy_u (hy_u s.2.2.2 9 x3 x1) 10 x3 0))))
      refine hY _ _ _ _ ?_
      refine And.intro h.2.2.2.2.1 ?_
      show Y 68 [(0, 5, true, 4), (1, 1, true, x1), (3, 0, true, x3)] [] (sM s (hy_u (hy_u (hy_u s.2.2.2 9 x3 x1) 10 x3 0) 4 10 ((s.2.2.2 4 10) + 1)))
      refine l68 _ _ ?_
      exact (Exists.intro (hy_u (hy_u (hy_u s.2.2.2 9 x3 x1) 10 x3 0) 4 10 ((s.2.2.2 4 10) + 1)) (And.intro rfl h.2.2.2.2.2))
  · have h := h.2 hc
    refine hY _ _ _ _ (?_ : Y 35 [(0, 5, true, 4), (1, 1, true, x1), (3, 0, true, x3)] [(0, true, (-9))] s)
    refine hY _ _ _ _ ?_
    exact hQ (-9) s.2.2.2 h
def lb_83_2 (s : sS) (Q : sQ) (P2 : Int → hy_m → Prop) (R : Int → hy_m → Prop) (x1 : Int) (x3 : Int) : Nat → Option (sL → sS → Prop) := sLb [(27, fun lv t => sG [(0, 5, 4), (1, 1, 0), (3, 0, 0)] lv (ap2 (fun w1 w3 => ∃ m', t = sM s m' ∧ wq_83_27 w1 w3 m' R))), (2, fun lv t => sG [(0, 5, 4), (1, 1, 0), (3, 0, 0)] lv (ap2 (fun w1 w3 => ∃ m', t = sM s m' ∧ w1 = x1 ∧ P2 w3 m')))]
set_option maxRecDepth 30000 in
set_option maxHeartbeats 1000000 in
theorem wj_83_2 (Q : sQ) (R : Int → hy_m → Prop) (s : sS) (P2 : Int → hy_m → Prop) (x1 : Int) (x3 : Int) (m : hy_m) (hP2 : ∀ (z3 : Int) (m : hy_m), P2 z3 m → sRg [(0, 5, 4), (1, 1, 0), (3, 0, 0)] [x1, z3] → kX dC 0 im_m83 0 2 (sCan [(0, 5, 4), (1, 1, 0), (3, 0, 0)] [x1, z3]) [] (sM s m) Q) (hQ : ∀ x m', R x m' → Q x (sM s m')) (hr : sRg [(0, 5, 4), (1, 1, 0), (3, 0, 0)] [x1, x3]) (h : wf_83_2 x1 R P2 x3 m) : kX dC 0 im_m83 0 2 (sCan [(0, 5, 4), (1, 1, 0), (3, 0, 0)] [x1, x3]) [] (sM s m) Q := by
  unfold wf_83_2 at h
  refine wz2_ok (cs := cs_83) (wr := []) (lb := lb_83_2 s Q P2 R x1 x3) cs_83_ok (kLb_c (kLab (Bd := fun xs t => ap2 (fun w1 w3 => ∃ m', t = sM s m' ∧ wq_83_27 w1 w3 m' R) xs) rfl (fun xs t r1 r2 hb => by obtain ⟨w1, w3, rfl, hb⟩ := ap2_ok hb; obtain ⟨m', rfl, hx⟩ := hb; exact wk_83_27 Q R (sM s m') _ _ (fun x m'' hy => hQ x m'' hy) r1 hx)) (kLb_c (kLab (Bd := fun xs t => ap2 (fun w1 w3 => ∃ m', t = sM s m' ∧ w1 = x1 ∧ P2 w3 m') xs) rfl (fun xs t r1 r2 hb => by obtain ⟨w1, w3, rfl, hb⟩ := ap2_ok hb; obtain ⟨m', rfl, rfl, hx⟩ := hb; exact hP2 _ m' hx r1)) kLb_n)) (okL_can rfl hr) (fun Y hY hl => ?_)
  have l27 := hl 27 _ rfl
  have l2 := hl 2 _ rfl
  refine hY _ _ _ _ (hY _ _ _ _ (hY _ _ _ _ (?_ : Y 7 [(0, 5, true, 4), (1, 1, true, x1), (3, 0, true, x3)] [(0, true, m 4 10), (0, true, x3)] (sM s m))))
  refine hY _ _ _ _ ?_
  refine And.intro (fun hc => ?_) (fun hc => ?_)
  · have h := h.1 hc
    show Y 27 [(0, 5, true, 4), (1, 1, true, x1), (3, 0, true, x3)] [] (sM s m)
    refine l27 _ _ ?_
    exact (Exists.intro m (And.intro rfl h))
  · have h := h.2 hc
    refine hY _ _ _ _ (hY _ _ _ _ (hY _ _ _ _ (?_ : Y 15 [(0, 5, true, 4), (1, 1, true, x1), (3, 0, true, x3)] [(0, true, x3), (5, true, 9)] (sM s m))))
    refine hY _ _ _ _ ?_
    refine (And.intro h.1 (And.intro h.2.1 ?_))
    refine hY _ _ _ _ (?_ : Y 17 [(0, 5, true, 4), (1, 1, true, x1), (3, 0, true, x3)] [(1, true, x1), (1, true, m 9 x3)] (sM s m))
    refine hY _ _ _ _ ?_
    refine And.intro (fun hc => ?_) (fun hc => ?_)
    · have h := h.2.2.1 hc
      show Y 27 [(0, 5, true, 4), (1, 1, true, x1), (3, 0, true, x3)] [] (sM s m)
      refine l27 _ _ ?_
      exact (Exists.intro m (And.intro rfl h))
    · have h := h.2.2.2 hc
      refine hY _ _ _ _ (hY _ _ _ _ (?_ : Y 2 [(3, 0, false, x3 + 1), (0, 5, true, 4), (1, 1, true, x1)] [] (sM s m)))
      refine l2 _ _ ?_
      refine And.intro h.1 ?_
      exact (Exists.intro m (And.intro rfl (And.intro rfl h.2)))
theorem wk_83_2 (Q : sQ) (R : Int → hy_m → Prop) (s : sS) (x1 : Int) (x3 : Int) (hQ : ∀ x m', R x m' → Q x (sM s m')) (hr : sRg [(0, 5, 4), (1, 1, 0), (3, 0, 0)] [x1, x3]) (h : wq_83_2 x1 x3 s.2.2.2 R) : kX dC 0 im_m83 0 2 (sCan [(0, 5, 4), (1, 1, 0), (3, 0, 0)] [x1, x3]) [] s Q :=
  h (fun x3 m => sRg [(0, 5, 4), (1, 1, 0), (3, 0, 0)] [x1, x3] → kX dC 0 im_m83 0 2 (sCan [(0, 5, 4), (1, 1, 0), (3, 0, 0)] [x1, x3]) [] (sM s m) Q) (fun x3 m h hr => wj_83_2 Q R s (fun x3 m => sRg [(0, 5, 4), (1, 1, 0), (3, 0, 0)] [x1, x3] → kX dC 0 im_m83 0 2 (sCan [(0, 5, 4), (1, 1, 0), (3, 0, 0)] [x1, x3]) [] (sM s m) Q) x1 x3 m  (fun _ _ hp hr => hp hr) hQ hr h) hr
def lb_83_0 (s : sS) (Q : sQ) (R : Int → hy_m → Prop) (x1 : Int) : Nat → Option (sL → sS → Prop) := sLb [(2, fun lv t => sG [(0, 5, 4), (1, 1, 0), (3, 0, 0)] lv (ap2 (fun w1 w3 => ∃ m', t = sM s m' ∧ wq_83_2 w1 w3 m' R)))]
set_option maxRecDepth 30000 in
set_option maxHeartbeats 1000000 in
theorem wk_83_0 (Q : sQ) (R : Int → hy_m → Prop) (s : sS) (x1 : Int) (hQ : ∀ x m', R x m' → Q x (sM s m')) (hr : sRg [(0, 5, 4), (1, 1, 0)] [x1]) (h : wq_83 x1 s.2.2.2 R) : kX dC 0 im_m83 0 0 (sCan [(0, 5, 4), (1, 1, 0)] [x1]) [] s Q := by
  unfold wq_83 at h
  refine wz2_ok (cs := cs_83) (wr := []) (lb := lb_83_0 s Q R x1) cs_83_ok (kLb_c (kLab (Bd := fun xs t => ap2 (fun w1 w3 => ∃ m', t = sM s m' ∧ wq_83_2 w1 w3 m' R) xs) rfl (fun xs t r1 r2 hb => by obtain ⟨w1, w3, rfl, hb⟩ := ap2_ok hb; obtain ⟨m', rfl, hx⟩ := hb; exact wk_83_2 Q R (sM s m') _ _ (fun x m'' hy => hQ x m'' hy) r1 hx)) kLb_n) (okL_can rfl hr) (fun Y hY hl => ?_)
  have l2 := hl 2 _ rfl
  refine hY _ _ _ _ (hY _ _ _ _ (?_ : Y 2 [(3, 2, true, 0), (0, 5, true, 4), (1, 1, true, x1)] [] s))
  refine l2 _ _ ?_
  exact (Exists.intro s.2.2.2 (And.intro rfl h))
def we_83 : sFf := sEf 4 [(0, 5, 4), (1, 1, 0)] (fun xs s Q => ap1 (fun x1 => wq_83 x1 s.2.2.2 Q) xs)
theorem we_83_ok : kS dC 1 83 0 (.inl we_83) := sEf_ok (mi := im_m83) rfl rfl rfl (fun R xs s r1 hb => by obtain ⟨x1, rfl, hb⟩ := ap1_ok hb; exact wk_83_0 _ R s x1 (fun x m' hx => ⟨m', rfl, hx⟩) r1 hb)
/-- LM$Reader.acceptTerm()Z -/
def wq_74 (m : hy_m) (Q : Int → hy_m → Prop) : Prop := ((m 2 2) = 1 → (wq_81 3 (jSl (m 2 4) 2) m (fun r5 m5 => wq_82 r5 (hy_u m5 4 17 r5) (fun _ m6 => Q 1 (hy_u m6 4 16 3))))) ∧ ((m 2 2) ≠ 1 → (((m 2 2) = 2 → (wq_83 (m 2 4) m (fun r3 m3 => (r3 ≠ (-9) → (wq_82 r3 m3 (fun _ m4 => Q 1 (hy_u m4 4 16 3)))) ∧ (r3 = (-9) → (Q 0 m3))))) ∧ ((m 2 2) ≠ 2 → (((m 2 2) = 3 → (wq_81 2 (m 2 4) m (fun r1 m1 => wq_82 r1 m1 (fun _ m2 => Q 1 (hy_u m2 4 16 3))))) ∧ ((m 2 2) ≠ 3 → (((m 2 2) = 91 → (Q 1 (hy_u m 4 16 2))) ∧ ((m 2 2) ≠ 91 → (Q 0 m))))))))
theorem wc_82_r4_0t (x1 : Int) (s : sS) (R : Int → hy_m → Prop) (h : wq_82 x1 s.2.2.2 R) : we_82 [(5, true, 4), (0, true, x1)] s R := h
theorem wc_83_r4_1t (x1 : Int) (s : sS) (R : Int → hy_m → Prop) (h : wq_83 x1 s.2.2.2 R) : we_83 [(5, true, 4), (1, true, x1)] s R := h
def cs_74 : List (Nat × Nat × sFS) := [(81, 0, .inl we_81), (82, 9, .inl we_82), (83, 0, .inl we_83)]
theorem cs_74_ok : kCs dC 2 cs_74 := (kCs_c (Or.inl rfl) (we_81_ok.deep (by decide)) (kCs_c (Or.inr (Or.inr (Or.inr (Or.inr rfl)))) (we_82_ok.deep (by decide)) (kCs_c (Or.inl rfl) (we_83_ok.deep (by decide)) kCs_n)))
def lb_74_0 (s : sS) (Q : sQ) (R : Int → hy_m → Prop) : Nat → Option (sL → sS → Prop) := sLb []
set_option maxRecDepth 30000 in
set_option maxHeartbeats 1000000 in
theorem wk_74_0 (Q : sQ) (R : Int → hy_m → Prop) (s : sS) (hQ : ∀ x m', R x m' → Q x (sM s m')) (hr : sRg [(0, 5, 4)] []) (h : wq_74 s.2.2.2 R) : kX dC 2 im_m74 2 0 (sCan [(0, 5, 4)] []) [] s Q := by
  unfold wq_74 at h
  refine wz2_ok (cs := cs_74) (wr := []) (lb := lb_74_0 s Q R) cs_74_ok kLb_n (okL_can rfl hr) (fun Y hY hl => ?_)
  refine hY _ _ _ _ (hY _ _ _ _ (hY _ _ _ _ (?_ : Y 7 [(0, 5, true, 4)] [(0, true, s.2.2.2 2 2)] s)))
  refine hY _ _ _ _ ?_
  refine And.intro (fun hc => ?_) (fun hc => ?_)
  · have h := h.1 hc
    refine hY _ _ _ _ (hY _ _ _ _ (hY _ _ _ _ (?_ : Y 51 [(0, 5, true, 4)] [(0, true, 3), (5, true, 4), (5, true, 4)] s)))
    refine hY _ _ _ _ (hY _ _ _ _ (hY _ _ _ _ (?_ : Y 58 [(0, 5, true, 4)] [(1, true, s.2.2.2 2 4), (0, true, 3), (5, true, 4), (5, true, 4)] s)))
    refine hY _ _ _ _ (?_ : Y 59 [(0, 5, true, 4)] [(0, true, 2), (1, true, s.2.2.2 2 4), (0, true, 3), (5, true, 4), (5, true, 4)] s)
    refine hY _ _ _ _ (?_ : Y 60 [(0, 5, true, 4)] [(1, true, jSl (s.2.2.2 2 4) 2), (0, true, 3), (5, true, 4), (5, true, 4)] s)
    refine hY _ _ _ _ ?_
    refine Exists.intro _ (And.intro (wc_81_r4_0t_1t 3 (jSl (s.2.2.2 2 4) 2) _ _ h) (fun r1 m1 h => ?_))
    show Y 63 [(0, 5, true, 4)] [(0, true, r1), (5, true, 4)] (sM s m1)
    refine hY _ _ _ _ ?_
    refine hY _ _ _ _ (hY _ _ _ _ (hY _ _ _ _ (?_ : Y 71 [(0, 5, true, 4)] [(0, true, r1), (5, true, 4)] (sM s (hy_u m1 4 17 r1)))))
    refine hY _ _ _ _ ?_
    refine Exists.intro _ (And.intro (wc_82_r4_0t r1 _ _ h) (fun r2 m2 h => ?_))
    refine hY _ _ _ _ (hY _ _ _ _ (hY _ _ _ _ (?_ : Y 135 [(0, 5, true, 4)] [(0, true, 3), (5, true, 4)] (sM s m2))))
    refine hY _ _ _ _ ?_
    refine hY _ _ _ _ (?_ : Y 139 [(0, 5, true, 4)] [(2, true, 1)] (sM s (hy_u m2 4 16 3)))
    refine hY _ _ _ _ ?_
    exact hQ 1 (hy_u m2 4 16 3) h
  · have h := h.2 hc
    refine And.intro (fun hc => ?_) (fun hc => ?_)
    · have h := h.1 hc
      refine hY _ _ _ _ (hY _ _ _ _ (hY _ _ _ _ (?_ : Y 101 [(0, 5, true, 4)] [(5, true, 2), (5, true, 4)] s)))
      refine hY _ _ _ _ (?_ : Y 104 [(0, 5, true, 4)] [(1, true, s.2.2.2 2 4), (5, true, 4)] s)
      refine hY _ _ _ _ ?_
      refine Exists.intro _ (And.intro (wc_83_r4_1t (s.2.2.2 2 4) _ _ h) (fun r3 m3 h => ?_))
      refine hY _ _ _ _ (hY _ _ _ _ (hY _ _ _ _ (?_ : Y 111 [(1, 0, true, r3), (0, 5, true, 4)] [(0, true, (-9)), (0, true, r3)] (sM s m3))))
      refine hY _ _ _ _ ?_
      refine And.intro (fun hc => ?_) (fun hc => ?_)
      · have h := h.1 hc
        refine hY _ _ _ _ (hY _ _ _ _ (?_ : Y 118 [(1, 0, true, r3), (0, 5, true, 4)] [(0, true, r3), (5, true, 4)] (sM s m3)))
        refine hY _ _ _ _ ?_
        refine Exists.intro _ (And.intro (wc_82_r4_0t r3 _ _ h) (fun r4 m4 h => ?_))
        refine hY _ _ _ _ (hY _ _ _ _ (hY _ _ _ _ (?_ : Y 135 [(1, 0, true, r3), (0, 5, true, 4)] [(0, true, 3), (5, true, 4)] (sM s m4))))
        refine hY _ _ _ _ ?_
        refine hY _ _ _ _ (?_ : Y 139 [(1, 0, true, r3), (0, 5, true, 4)] [(2, true, 1)] (sM s (hy_u m4 4 16 3)))
        refine hY _ _ _ _ ?_
        exact hQ 1 (hy_u m4 4 16 3) h
      · have h := h.2 hc
        refine hY _ _ _ _ (?_ : Y 115 [(1, 0, true, r3), (0, 5, true, 4)] [(2, true, 0)] (sM s m3))
        refine hY _ _ _ _ ?_
        exact hQ 0 m3 h
    · have h := h.2 hc
      refine And.intro (fun hc => ?_) (fun hc => ?_)
      · have h := h.1 hc
        refine hY _ _ _ _ (hY _ _ _ _ (hY _ _ _ _ (?_ : Y 80 [(0, 5, true, 4)] [(0, true, 2), (5, true, 4), (5, true, 4)] s)))
        refine hY _ _ _ _ (hY _ _ _ _ (hY _ _ _ _ (?_ : Y 87 [(0, 5, true, 4)] [(1, true, s.2.2.2 2 4), (0, true, 2), (5, true, 4), (5, true, 4)] s)))
        refine hY _ _ _ _ ?_
        refine Exists.intro _ (And.intro (wc_81_r4_0t_1t 2 (s.2.2.2 2 4) _ _ h) (fun r5 m5 h => ?_))
        show Y 90 [(0, 5, true, 4)] [(0, true, r5), (5, true, 4)] (sM s m5)
        refine hY _ _ _ _ ?_
        refine Exists.intro _ (And.intro (wc_82_r4_0t r5 _ _ h) (fun r6 m6 h => ?_))
        refine hY _ _ _ _ (hY _ _ _ _ (hY _ _ _ _ (?_ : Y 135 [(0, 5, true, 4)] [(0, true, 3), (5, true, 4)] (sM s m6))))
        refine hY _ _ _ _ ?_
        refine hY _ _ _ _ (?_ : Y 139 [(0, 5, true, 4)] [(2, true, 1)] (sM s (hy_u m6 4 16 3)))
        refine hY _ _ _ _ ?_
        exact hQ 1 (hy_u m6 4 16 3) h
      · have h := h.2 hc
        refine And.intro (fun hc => ?_) (fun hc => ?_)
        · have h := h.1 hc
          refine hY _ _ _ _ (hY _ _ _ _ (?_ : Y 126 [(0, 5, true, 4)] [(0, true, 2), (5, true, 4)] s))
          refine hY _ _ _ _ ?_
          refine hY _ _ _ _ (?_ : Y 130 [(0, 5, true, 4)] [(2, true, 1)] (sM s (hy_u s.2.2.2 4 16 2)))
          refine hY _ _ _ _ ?_
          exact hQ 1 (hy_u s.2.2.2 4 16 2) h
        · have h := h.2 hc
          refine hY _ _ _ _ (?_ : Y 132 [(0, 5, true, 4)] [(2, true, 0)] s)
          refine hY _ _ _ _ ?_
          exact hQ 0 s.2.2.2 h
def we_74 : sFf := sEf 2 [(0, 5, 4)] (fun xs s Q => ap0 (wq_74 s.2.2.2 Q) xs)
theorem we_74_ok : kS dC 3 74 2 (.inl we_74) := sEf_ok (mi := im_m74) rfl rfl rfl (fun R xs s r1 hb => by obtain ⟨rfl, hb⟩ := ap0_ok hb; exact wk_74_0 _ R s (fun x m' hx => ⟨m', rfl, hx⟩) r1 hb)
/-- LM$Reader.openUp(II)V -/
def wq_80 (x1 : Int) (x2 : Int) (m : hy_m) (Q : Int → hy_m → Prop) : Prop := (120 ≤ (m 4 14) → (Q 0 m)) ∧ ((m 4 14) < 120 → (0 ≤ (m 4 14) ∧ (m 4 14) < 120 ∧ (0 ≤ (m 4 14) ∧ (m 4 14) < 120 ∧ (hy_r 0 ((m 4 14) + 1) ∧ (Q 0 (hy_u (hy_u (hy_u m 12 (m 4 14) x1) 13 (m 4 14) x2) 4 14 ((m 4 14) + 1)))))))
def cs_80 : List (Nat × Nat × sFS) := []
theorem cs_80_ok : kCs dC 0 cs_80 := kCs_n
def lb_80_0 (s : sS) (Q : sQ) (R : Int → hy_m → Prop) (x1 : Int) (x2 : Int) : Nat → Option (sL → sS → Prop) := sLb []
set_option maxRecDepth 30000 in
set_option maxHeartbeats 1000000 in
theorem wk_80_0 (Q : sQ) (R : Int → hy_m → Prop) (s : sS) (x1 : Int) (x2 : Int) (hQ : ∀ x m', R x m' → Q x (sM s m')) (hr : sRg [(0, 5, 4), (1, 0, 0), (2, 0, 0)] [x1, x2]) (h : wq_80 x1 x2 s.2.2.2 R) : kX dC 0 im_m80 9 0 (sCan [(0, 5, 4), (1, 0, 0), (2, 0, 0)] [x1, x2]) [] s Q := by
  unfold wq_80 at h
  refine wz2_ok (cs := cs_80) (wr := []) (lb := lb_80_0 s Q R x1 x2) cs_80_ok kLb_n (okL_can rfl hr) (fun Y hY hl => ?_)
  refine hY _ _ _ _ (hY _ _ _ _ (hY _ _ _ _ (?_ : Y 5 [(0, 5, true, 4), (1, 0, true, x1), (2, 0, true, x2)] [(5, true, 4), (0, true, s.2.2.2 4 14)] s)))
  refine hY _ _ _ _ (hY _ _ _ _ (?_ : Y 9 [(0, 5, true, 4), (1, 0, true, x1), (2, 0, true, x2)] [(0, true, 120), (0, true, s.2.2.2 4 14)] s))
  refine hY _ _ _ _ ?_
  refine And.intro (fun hc => ?_) (fun hc => ?_)
  · have h := h.1 hc
    show Y 42 [(0, 5, true, 4), (1, 0, true, x1), (2, 0, true, x2)] [] s
    refine hY _ _ _ _ ?_
    exact hQ 0 s.2.2.2 h
  · have h := h.2 hc
    refine hY _ _ _ _ (hY _ _ _ _ (hY _ _ _ _ (?_ : Y 17 [(0, 5, true, 4), (1, 0, true, x1), (2, 0, true, x2)] [(5, true, 4), (5, true, 12)] s)))
    refine hY _ _ _ _ (hY _ _ _ _ (?_ : Y 21 [(0, 5, true, 4), (1, 0, true, x1), (2, 0, true, x2)] [(0, true, x1), (0, true, s.2.2.2 4 14), (5, true, 12)] s))
    refine hY _ _ _ _ ?_
    refine (And.intro h.1 (And.intro h.2.1 ?_))
    refine hY _ _ _ _ (hY _ _ _ _ (hY _ _ _ _ (?_ : Y 27 [(0, 5, true, 4), (1, 0, true, x1), (2, 0, true, x2)] [(5, true, 4), (5, true, 13)] (sM s (hy_u s.2.2.2 12 (s.2.2.2 4 14) x1)))))
    refine hY _ _ _ _ (hY _ _ _ _ (?_ : Y 31 [(0, 5, true, 4), (1, 0, true, x1), (2, 0, true, x2)] [(0, true, x2), (0, true, s.2.2.2 4 14), (5, true, 13)] (sM s (hy_u s.2.2.2 12 (s.2.2.2 4 14) x1))))
    refine hY _ _ _ _ ?_
    refine (And.intro h.2.2.1 (And.intro h.2.2.2.1 ?_))
    refine hY _ _ _ _ (hY _ _ _ _ (hY _ _ _ _ (?_ : Y 37 [(0, 5, true, 4), (1, 0, true, x1), (2, 0, true, x2)] [(0, true, s.2.2.2 4 14), (5, true, 4)] (sM s (hy_u (hy_u s.2.2.2 12 (s.2.2.2 4 14) x1) 13 (s.2.2.2 4 14) x2)))))
    refine hY _ _ _ _ (hY _ _ _ _ (?_ : Y 39 [(0, 5, true, 4), (1, 0, true, x1), (2, 0, true, x2)] [(0, false, (s.2.2.2 4 14) + 1), (5, true, 4)] (sM s (hy_u (hy_u s.2.2.2 12 (s.2.2.2 4 14) x1) 13 (s.2.2.2 4 14) x2))))
    refine hY _ _ _ _ ?_
    refine And.intro h.2.2.2.2.1 ?_
    show Y 42 [(0, 5, true, 4), (1, 0, true, x1), (2, 0, true, x2)] [] (sM s (hy_u (hy_u (hy_u s.2.2.2 12 (s.2.2.2 4 14) x1) 13 (s.2.2.2 4 14) x2) 4 14 ((s.2.2.2 4 14) + 1)))
    refine hY _ _ _ _ ?_
    exact hQ 0 (hy_u (hy_u (hy_u s.2.2.2 12 (s.2.2.2 4 14) x1) 13 (s.2.2.2 4 14) x2) 4 14 ((s.2.2.2 4 14) + 1)) h.2.2.2.2.2
def we_80 : sFf := sEf 3 [(0, 5, 4), (1, 0, 0), (2, 0, 0)] (fun xs s Q => ap2 (fun x1 x2 => wq_80 x1 x2 s.2.2.2 Q) xs)
theorem we_80_ok : kS dC 1 80 9 (.inl we_80) := sEf_ok (mi := im_m80) rfl rfl rfl (fun R xs s r1 hb => by obtain ⟨x1, x2, rfl, hb⟩ := ap2_ok hb; exact wk_80_0 _ R s x1 x2 (fun x m' hx => ⟨m', rfl, hx⟩) r1 hb)
