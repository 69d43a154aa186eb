/-- LMModel.occurrences(II)I -/
def wf_220_5 (x1 : Int) (x2 : Int) (Q : Int → hy_m → Prop) (P5 : Int → Int → hy_m → Prop) (x3 : Int) (x4 : Int) (m : hy_m) : Prop := 0 ≤ x1 ∧ x1 < 28 ∧ (((m 80 x1) ≤ x4 → (Q x3 m)) ∧ (x4 < (m 80 x1) → (0 ≤ ((128 * x1) + x4) ∧ ((128 * x1) + x4) < 3584 ∧ (((m 76 ((128 * x1) + x4)) ≠ 1 → (hy_r 0 (x3 + 0) ∧ (hy_r 0 (x4 + 1) ∧ (P5 (x3 + 0) (x4 + 1) m)))) ∧ ((m 76 ((128 * x1) + x4)) = 1 → (0 ≤ ((128 * x1) + x4) ∧ ((128 * x1) + x4) < 3584 ∧ (((m 77 ((128 * x1) + x4)) ≠ x2 → (hy_r 0 (x3 + 0) ∧ (hy_r 0 (x4 + 1) ∧ (P5 (x3 + 0) (x4 + 1) m)))) ∧ ((m 77 ((128 * x1) + x4)) = x2 → (hy_r 0 (x3 + 1) ∧ (hy_r 0 (x4 + 1) ∧ (P5 (x3 + 1) (x4 + 1) m)))))))))))
def wq_220_5 (x1 : Int) (x2 : Int) (x3 : Int) (x4 : Int) (m : hy_m) (Q : Int → hy_m → Prop) : Prop := wL2 hy_m (wf_220_5 x1 x2 Q) x3 x4 m
def wq_220 (x1 : Int) (x2 : Int) (m : hy_m) (Q : Int → hy_m → Prop) : Prop := wq_220_5 x1 x2 0 0 m Q
def cs_220 : List (Nat × Nat × sFS) := []
theorem cs_220_ok : kCs dM 0 cs_220 := kCs_n
def lb_220_5 (s : sS) (Q : sQ) (P5 : Int → Int → hy_m → Prop) (R : Int → hy_m → Prop) (x1 : Int) (x2 : Int) (x3 : Int) (x4 : Int) : Nat → Option (sL → sS → Prop) := sLb [(5, fun lv t => sG [(0, 5, 74), (1, 0, 0), (2, 0, 0), (3, 0, 0), (4, 0, 0)] lv (ap4 (fun w1 w2 w3 w4 => ∃ m', t = sM s m' ∧ w1 = x1 ∧ w2 = x2 ∧ P5 w3 w4 m')))]
set_option maxRecDepth 30000 in
set_option maxHeartbeats 1000000 in
theorem wj_220_5 (Q : sQ) (R : Int → hy_m → Prop) (s : sS) (P5 : Int → Int → hy_m → Prop) (x1 : Int) (x2 : Int) (x3 : Int) (x4 : Int) (m : hy_m) (hP5 : ∀ (z3 z4 : Int) (m : hy_m), P5 z3 z4 m → sRg [(0, 5, 74), (1, 0, 0), (2, 0, 0), (3, 0, 0), (4, 0, 0)] [x1, x2, z3, z4] → kX dM 0 im_m220 0 5 (sCan [(0, 5, 74), (1, 0, 0), (2, 0, 0), (3, 0, 0), (4, 0, 0)] [x1, x2, z3, z4]) [] (sM s m) Q) (hQ : ∀ x m', R x m' → Q x (sM s m')) (hr : sRg [(0, 5, 74), (1, 0, 0), (2, 0, 0), (3, 0, 0), (4, 0, 0)] [x1, x2, x3, x4]) (h : wf_220_5 x1 x2 R P5 x3 x4 m) : kX dM 0 im_m220 0 5 (sCan [(0, 5, 74), (1, 0, 0), (2, 0, 0), (3, 0, 0), (4, 0, 0)] [x1, x2, x3, x4]) [] (sM s m) Q := by
  unfold wf_220_5 at h
  refine wz2_ok (cs := cs_220) (wr := []) (lb := lb_220_5 s Q P5 R x1 x2 x3 x4) cs_220_ok (kLb_c (kLab (Bd := fun xs t => ap4 (fun w1 w2 w3 w4 => ∃ m', t = sM s m' ∧ w1 = x1 ∧ w2 = x2 ∧ P5 w3 w4 m') xs) rfl (fun xs t r1 r2 hb => by obtain ⟨w1, w2, w3, w4, rfl, hb⟩ := ap4_ok hb; obtain ⟨m', rfl, rfl, rfl, hx⟩ := hb; exact hP5 _ _ m' hx r1)) kLb_n) (okL_can rfl hr) (fun Y hY hl => ?_)
  have l5 := hl 5 _ rfl
  refine hY _ _ _ _ (hY _ _ _ _ (hY _ _ _ _ (?_ : Y 11 [(0, 5, true, 74), (1, 0, true, x1), (2, 0, true, x2), (3, 0, true, x3), (4, 0, true, x4)] [(5, true, 80), (0, true, x4)] (sM s m))))
  refine hY _ _ _ _ (?_ : Y 12 [(0, 5, true, 74), (1, 0, true, x1), (2, 0, true, x2), (3, 0, true, x3), (4, 0, true, x4)] [(0, true, x1), (5, true, 80), (0, true, x4)] (sM s m))
  refine hY _ _ _ _ ?_
  refine (And.intro h.1 (And.intro h.2.1 ?_))
  show Y 13 [(0, 5, true, 74), (1, 0, true, x1), (2, 0, true, x2), (3, 0, true, x3), (4, 0, true, x4)] [(0, true, m 80 x1), (0, true, x4)] (sM s m)
  refine hY _ _ _ _ ?_
  refine And.intro (fun hc => ?_) (fun hc => ?_)
  · have h := h.2.2.1 hc
    refine hY _ _ _ _ (?_ : Y 67 [(0, 5, true, 74), (1, 0, true, x1), (2, 0, true, x2), (3, 0, true, x3), (4, 0, true, x4)] [(0, true, x3)] (sM s m))
    refine hY _ _ _ _ ?_
    exact hQ x3 m h
  · have h := h.2.2.2 hc
    refine hY _ _ _ _ (hY _ _ _ _ (hY _ _ _ _ (?_ : Y 21 [(0, 5, true, 74), (1, 0, true, x1), (2, 0, true, x2), (3, 0, true, x3), (4, 0, true, x4)] [(5, true, 76), (0, true, x3)] (sM s m))))
    refine hY _ _ _ _ (hY _ _ _ _ (hY _ _ _ _ (?_ : Y 26 [(0, 5, true, 74), (1, 0, true, x1), (2, 0, true, x2), (3, 0, true, x3), (4, 0, true, x4)] [(0, false, 128 * x1), (5, true, 76), (0, true, x3)] (sM s m))))
    refine hY _ _ _ _ (hY _ _ _ _ (?_ : Y 29 [(0, 5, true, 74), (1, 0, true, x1), (2, 0, true, x2), (3, 0, true, x3), (4, 0, true, x4)] [(0, false, (128 * x1) + x4), (5, true, 76), (0, true, x3)] (sM s m)))
    refine hY _ _ _ _ ?_
    refine (And.intro h.1 (And.intro h.2.1 ?_))
    refine hY _ _ _ _ (?_ : Y 31 [(0, 5, true, 74), (1, 0, true, x1), (2, 0, true, x2), (3, 0, true, x3), (4, 0, true, x4)] [(2, true, 1), (0, true, m 76 ((128 * x1) + x4)), (0, true, x3)] (sM s m))
    refine hY _ _ _ _ ?_
    refine And.intro (fun hc => ?_) (fun hc => ?_)
    · have h := h.2.2.1 hc
      refine hY _ _ _ _ (hY _ _ _ _ (hY _ _ _ _ (?_ : Y 60 [(3, 0, false, x3 + 0), (0, 5, true, 74), (1, 0, true, x1), (2, 0, true, x2), (4, 0, true, x4)] [] (sM s m))))
      refine hY _ _ _ _ (hY _ _ _ _ (?_ : Y 5 [(4, 0, false, x4 + 1), (3, 0, false, x3 + 0), (0, 5, true, 74), (1, 0, true, x1), (2, 0, true, x2)] [] (sM s m)))
      refine l5 _ _ ?_
      refine And.intro h.1 ?_
      refine And.intro h.2.1 ?_
      exact (Exists.intro m (And.intro rfl (And.intro rfl (And.intro rfl h.2.2))))
    · have h := h.2.2.2 hc
      refine hY _ _ _ _ (hY _ _ _ _ (hY _ _ _ _ (?_ : Y 41 [(0, 5, true, 74), (1, 0, true, x1), (2, 0, true, x2), (3, 0, true, x3), (4, 0, true, x4)] [(0, true, 128), (5, true, 77), (0, true, x3)] (sM s m))))
      refine hY _ _ _ _ (hY _ _ _ _ (hY _ _ _ _ (?_ : Y 45 [(0, 5, true, 74), (1, 0, true, x1), (2, 0, true, x2), (3, 0, true, x3), (4, 0, true, x4)] [(0, true, x4), (0, false, 128 * x1), (5, true, 77), (0, true, x3)] (sM s m))))
      refine hY _ _ _ _ (?_ : Y 46 [(0, 5, true, 74), (1, 0, true, x1), (2, 0, true, x2), (3, 0, true, x3), (4, 0, true, x4)] [(0, false, (128 * x1) + x4), (5, true, 77), (0, true, x3)] (sM s m))
      refine hY _ _ _ _ ?_
      refine (And.intro h.1 (And.intro h.2.1 ?_))
      refine hY _ _ _ _ (?_ : Y 48 [(0, 5, true, 74), (1, 0, true, x1), (2, 0, true, x2), (3, 0, true, x3), (4, 0, true, x4)] [(0, true, x2), (1, true, m 77 ((128 * x1) + x4)), (0, true, x3)] (sM s m))
      refine hY _ _ _ _ ?_
      show Y 49 [(0, 5, true, 74), (1, 0, true, x1), (2, 0, true, x2), (3, 0, true, x3), (4, 0, true, x4)] [(1, true, x2), (1, true, m 77 ((128 * x1) + x4)), (0, true, x3)] (sM s m)
      refine hY _ _ _ _ ?_
      refine And.intro (fun hc => ?_) (fun hc => ?_)
      · have h := h.2.2.1 hc
        refine hY _ _ _ _ (hY _ _ _ _ (hY _ _ _ _ (?_ : Y 60 [(3, 0, false, x3 + 0), (0, 5, true, 74), (1, 0, true, x1), (2, 0, true, x2), (4, 0, true, x4)] [] (sM s m))))
        refine hY _ _ _ _ (hY _ _ _ _ (?_ : Y 5 [(4, 0, false, x4 + 1), (3, 0, false, x3 + 0), (0, 5, true, 74), (1, 0, true, x1), (2, 0, true, x2)] [] (sM s m)))
        refine l5 _ _ ?_
        refine And.intro h.1 ?_
        refine And.intro h.2.1 ?_
        exact (Exists.intro m (And.intro rfl (And.intro rfl (And.intro rfl h.2.2))))
      · have h := h.2.2.2 hc
        refine hY _ _ _ _ (hY _ _ _ _ (hY _ _ _ _ (?_ : Y 59 [(0, 5, true, 74), (1, 0, true, x1), (2, 0, true, x2), (3, 0, true, x3), (4, 0, true, x4)] [(0, false, x3 + 1)] (sM s m))))
        refine hY _ _ _ _ (hY _ _ _ _ (hY _ _ _ _ (?_ : Y 5 [(4, 0, false, x4 + 1), (3, 0, false, x3 + 1), (0, 5, true, 74), (1, 0, true, x1), (2, 0, true, x2)] [] (sM s m))))
        refine l5 _ _ ?_
        refine And.intro h.1 ?_
        refine And.intro h.2.1 ?_
        exact (Exists.intro m (And.intro rfl (And.intro rfl (And.intro rfl h.2.2))))
theorem wk_220_5 (Q : sQ) (R : Int → hy_m → Prop) (s : sS) (x1 : Int) (x2 : Int) (x3 : Int) (x4 : Int) (hQ : ∀ x m', R x m' → Q x (sM s m')) (hr : sRg [(0, 5, 74), (1, 0, 0), (2, 0, 0), (3, 0, 0), (4, 0, 0)] [x1, x2, x3, x4]) (h : wq_220_5 x1 x2 x3 x4 s.2.2.2 R) : kX dM 0 im_m220 0 5 (sCan [(0, 5, 74), (1, 0, 0), (2, 0, 0), (3, 0, 0), (4, 0, 0)] [x1, x2, x3, x4]) [] s Q :=
  h (fun x3 x4 m => sRg [(0, 5, 74), (1, 0, 0), (2, 0, 0), (3, 0, 0), (4, 0, 0)] [x1, x2, x3, x4] → kX dM 0 im_m220 0 5 (sCan [(0, 5, 74), (1, 0, 0), (2, 0, 0), (3, 0, 0), (4, 0, 0)] [x1, x2, x3, x4]) [] (sM s m) Q) (fun x3 x4 m h hr => wj_220_5 Q R s (fun x3 x4 m => sRg [(0, 5, 74), (1, 0, 0), (2, 0, 0), (3, 0, 0), (4, 0, 0)] [x1, x2, x3, x4] → kX dM 0 im_m220 0 5 (sCan [(0, 5, 74), (1, 0, 0), (2, 0, 0), (3, 0, 0), (4, 0, 0)] [x1, x2, x3, x4]) [] (sM s m) Q) x1 x2 x3 x4 m  (fun _ _ _ hp hr => hp hr) hQ hr h) hr
def lb_220_0 (s : sS) (Q : sQ) (R : Int → hy_m → Prop) (x1 : Int) (x2 : Int) : Nat → Option (sL → sS → Prop) := sLb [(5, fun lv t => sG [(0, 5, 74), (1, 0, 0), (2, 0, 0), (3, 0, 0), (4, 0, 0)] lv (ap4 (fun w1 w2 w3 w4 => ∃ m', t = sM s m' ∧ wq_220_5 w1 w2 w3 w4 m' R)))]
set_option maxRecDepth 30000 in
set_option maxHeartbeats 1000000 in
theorem wk_220_0 (Q : sQ) (R : Int → hy_m → Prop) (s : sS) (x1 : Int) (x2 : Int) (hQ : ∀ x m', R x m' → Q x (sM s m')) (hr : sRg [(0, 5, 74), (1, 0, 0), (2, 0, 0)] [x1, x2]) (h : wq_220 x1 x2 s.2.2.2 R) : kX dM 0 im_m220 0 0 (sCan [(0, 5, 74), (1, 0, 0), (2, 0, 0)] [x1, x2]) [] s Q := by
  unfold wq_220 at h
  refine wz2_ok (cs := cs_220) (wr := []) (lb := lb_220_0 s Q R x1 x2) cs_220_ok (kLb_c (kLab (Bd := fun xs t => ap4 (fun w1 w2 w3 w4 => ∃ m', t = sM s m' ∧ wq_220_5 w1 w2 w3 w4 m' R) xs) rfl (fun xs t r1 r2 hb => by obtain ⟨w1, w2, w3, w4, rfl, hb⟩ := ap4_ok hb; obtain ⟨m', rfl, hx⟩ := hb; exact wk_220_5 Q R (sM s m') _ _ _ _ (fun x m'' hy => hQ x m'' hy) r1 hx)) kLb_n) (okL_can rfl hr) (fun Y hY hl => ?_)
  have l5 := hl 5 _ rfl
  refine hY _ _ _ _ (hY _ _ _ _ (hY _ _ _ _ (?_ : Y 3 [(3, 2, true, 0), (0, 5, true, 74), (1, 0, true, x1), (2, 0, true, x2)] [(2, true, 0)] s)))
  refine hY _ _ _ _ (?_ : Y 5 [(4, 2, true, 0), (3, 2, true, 0), (0, 5, true, 74), (1, 0, true, x1), (2, 0, true, x2)] [] s)
  refine l5 _ _ ?_
  exact (Exists.intro s.2.2.2 (And.intro rfl h))
def we_220 : sFf := sEf 5 [(0, 5, 74), (1, 0, 0), (2, 0, 0)] (fun xs s Q => ap2 (fun x1 x2 => wq_220 x1 x2 s.2.2.2 Q) xs)
theorem we_220_ok : kS dM 1 220 0 (.inl we_220) := sEf_ok (mi := im_m220) rfl rfl rfl (fun R xs s r1 hb => by obtain ⟨x1, x2, rfl, hb⟩ := ap2_ok hb; exact wk_220_0 _ R s x1 x2 (fun x m' hx => ⟨m', rfl, hx⟩) r1 hb)
/-- LMModel.singles(I)I -/
def wf_221_4 (x1 : Int) (Q : Int → hy_m → Prop) (P4 : Int → Int → hy_m → Prop) (x2 : Int) (x3 : Int) (m : hy_m) : Prop := 0 ≤ x1 ∧ x1 < 28 ∧ (((m 84 x1) ≤ x3 → (Q x2 m)) ∧ (x3 < (m 84 x1) → (wq_220 x1 x3 m (fun r1 m1 => (r1 ≠ 1 → (hy_r 0 (x2 + 0) ∧ (hy_r 0 (x3 + 1) ∧ (P4 (x2 + 0) (x3 + 1) m1)))) ∧ (r1 = 1 → (hy_r 0 (x2 + 1) ∧ (hy_r 0 (x3 + 1) ∧ (P4 (x2 + 1) (x3 + 1) m1))))))))
def wq_221_4 (x1 : Int) (x2 : Int) (x3 : Int) (m : hy_m) (Q : Int → hy_m → Prop) : Prop := wL2 hy_m (wf_221_4 x1 Q) x2 x3 m
def wq_221 (x1 : Int) (m : hy_m) (Q : Int → hy_m → Prop) : Prop := wq_221_4 x1 0 0 m Q
theorem wc_220_r74_0t_0t (x1 : Int) (x2 : Int) (s : sS) (R : Int → hy_m → Prop) (h : wq_220 x1 x2 s.2.2.2 R) : we_220 [(5, true, 74), (0, true, x1), (0, true, x2)] s R := h
def cs_221 : List (Nat × Nat × sFS) := [(220, 0, .inl we_220)]
theorem cs_221_ok : kCs dM 1 cs_221 := (kCs_c (Or.inl rfl) (we_220_ok.deep (by decide)) kCs_n)
def lb_221_4 (s : sS) (Q : sQ) (P4 : Int → Int → hy_m → Prop) (R : Int → hy_m → Prop) (x1 : Int) (x2 : Int) (x3 : Int) : Nat → Option (sL → sS → Prop) := sLb [(4, fun lv t => sG [(0, 5, 74), (1, 0, 0), (2, 0, 0), (3, 0, 0)] lv (ap3 (fun w1 w2 w3 => ∃ m', t = sM s m' ∧ w1 = x1 ∧ P4 w2 w3 m')))]
set_option maxRecDepth 30000 in
set_option maxHeartbeats 1000000 in
theorem wj_221_4 (Q : sQ) (R : Int → hy_m → Prop) (s : sS) (P4 : Int → Int → hy_m → Prop) (x1 : Int) (x2 : Int) (x3 : Int) (m : hy_m) (hP4 : ∀ (z2 z3 : Int) (m : hy_m), P4 z2 z3 m → sRg [(0, 5, 74), (1, 0, 0), (2, 0, 0), (3, 0, 0)] [x1, z2, z3] → kX dM 1 im_m221 0 4 (sCan [(0, 5, 74), (1, 0, 0), (2, 0, 0), (3, 0, 0)] [x1, z2, z3]) [] (sM s m) Q) (hQ : ∀ x m', R x m' → Q x (sM s m')) (hr : sRg [(0, 5, 74), (1, 0, 0), (2, 0, 0), (3, 0, 0)] [x1, x2, x3]) (h : wf_221_4 x1 R P4 x2 x3 m) : kX dM 1 im_m221 0 4 (sCan [(0, 5, 74), (1, 0, 0), (2, 0, 0), (3, 0, 0)] [x1, x2, x3]) [] (sM s m) Q := by
  unfold wf_221_4 at h
  refine wz2_ok (cs := cs_221) (wr := []) (lb := lb_221_4 s Q P4 R x1 x2 x3) cs_221_ok (kLb_c (kLab (Bd := fun xs t => ap3 (fun w1 w2 w3 => ∃ m', t = sM s m' ∧ w1 = x1 ∧ P4 w2 w3 m') xs) rfl (fun xs t r1 r2 hb => by obtain ⟨w1, w2, w3, rfl, hb⟩ := ap3_ok hb; obtain ⟨m', rfl, rfl, hx⟩ := hb; exact hP4 _ _ m' hx r1)) kLb_n) (okL_can rfl hr) (fun Y hY hl => ?_)
  have l4 := hl 4 _ rfl
  refine hY _ _ _ _ (hY _ _ _ _ (hY _ _ _ _ (?_ : Y 9 [(0, 5, true, 74), (1, 0, true, x1), (2, 0, true, x2), (3, 0, true, x3)] [(5, true, 84), (0, true, x3)] (sM s m))))
  refine hY _ _ _ _ (?_ : Y 10 [(0, 5, true, 74), (1, 0, true, x1), (2, 0, true, x2), (3, 0, true, x3)] [(0, true, x1), (5, true, 84), (0, true, x3)] (sM s m))
  refine hY _ _ _ _ ?_
  refine (And.intro h.1 (And.intro h.2.1 ?_))
  show Y 11 [(0, 5, true, 74), (1, 0, true, x1), (2, 0, true, x2), (3, 0, true, x3)] [(0, true, m 84 x1), (0, true, x3)] (sM s m)
  refine hY _ _ _ _ ?_
  refine And.intro (fun hc => ?_) (fun hc => ?_)
  · have h := h.2.2.1 hc
    refine hY _ _ _ _ (?_ : Y 39 [(0, 5, true, 74), (1, 0, true, x1), (2, 0, true, x2), (3, 0, true, x3)] [(0, true, x2)] (sM s m))
    refine hY _ _ _ _ ?_
    exact hQ x2 m h
  · have h := h.2.2.2 hc
    refine hY _ _ _ _ (hY _ _ _ _ (hY _ _ _ _ (?_ : Y 17 [(0, 5, true, 74), (1, 0, true, x1), (2, 0, true, x2), (3, 0, true, x3)] [(0, true, x1), (5, true, 74), (0, true, x2)] (sM s m))))
    refine hY _ _ _ _ (?_ : Y 18 [(0, 5, true, 74), (1, 0, true, x1), (2, 0, true, x2), (3, 0, true, x3)] [(0, true, x3), (0, true, x1), (5, true, 74), (0, true, x2)] (sM s m))
    refine hY _ _ _ _ ?_
    refine Exists.intro _ (And.intro (wc_220_r74_0t_0t x1 x3 _ _ h) (fun r1 m1 h => ?_))
    refine hY _ _ _ _ (?_ : Y 22 [(0, 5, true, 74), (1, 0, true, x1), (2, 0, true, x2), (3, 0, true, x3)] [(2, true, 1), (0, true, r1), (0, true, x2)] (sM s m1))
    refine hY _ _ _ _ ?_
    refine And.intro (fun hc => ?_) (fun hc => ?_)
    · have h := h.1 hc
      refine hY _ _ _ _ (hY _ _ _ _ (hY _ _ _ _ (?_ : Y 32 [(2, 0, false, x2 + 0), (0, 5, true, 74), (1, 0, true, x1), (3, 0, true, x3)] [] (sM s m1))))
      refine hY _ _ _ _ (hY _ _ _ _ (?_ : Y 4 [(3, 0, false, x3 + 1), (2, 0, false, x2 + 0), (0, 5, true, 74), (1, 0, true, x1)] [] (sM s m1)))
      refine l4 _ _ ?_
      refine And.intro h.1 ?_
      refine And.intro h.2.1 ?_
      exact (Exists.intro m1 (And.intro rfl (And.intro rfl h.2.2)))
    · have h := h.2 hc
      refine hY _ _ _ _ (hY _ _ _ _ (hY _ _ _ _ (?_ : Y 31 [(0, 5, true, 74), (1, 0, true, x1), (2, 0, true, x2), (3, 0, true, x3)] [(0, false, x2 + 1)] (sM s m1))))
      refine hY _ _ _ _ (hY _ _ _ _ (hY _ _ _ _ (?_ : Y 4 [(3, 0, false, x3 + 1), (2, 0, false, x2 + 1), (0, 5, true, 74), (1, 0, true, x1)] [] (sM s m1))))
      refine l4 _ _ ?_
      refine And.intro h.1 ?_
      refine And.intro h.2.1 ?_
      exact (Exists.intro m1 (And.intro rfl (And.intro rfl h.2.2)))
theorem wk_221_4 (Q : sQ) (R : Int → hy_m → Prop) (s : sS) (x1 : Int) (x2 : Int) (x3 : Int) (hQ : ∀ x m', R x m' → Q x (sM s m')) (hr : sRg [(0, 5, 74), (1, 0, 0), (2, 0, 0), (3, 0, 0)] [x1, x2, x3]) (h : wq_221_4 x1 x2 x3 s.2.2.2 R) : kX dM 1 im_m221 0 4 (sCan [(0, 5, 74), (1, 0, 0), (2, 0, 0), (3, 0, 0)] [x1, x2, x3]) [] s Q :=
  h (fun x2 x3 m => sRg [(0, 5, 74), (1, 0, 0), (2, 0, 0), (3, 0, 0)] [x1, x2, x3] → kX dM 1 im_m221 0 4 (sCan [(0, 5, 74), (1, 0, 0), (2, 0, 0), (3, 0, 0)] [x1, x2, x3]) [] (sM s m) Q) (fun x2 x3 m h hr => wj_221_4 Q R s (fun x2 x3 m => sRg [(0, 5, 74), (1, 0, 0), (2, 0, 0), (3, 0, 0)] [x1, x2, x3] → kX dM 1 im_m221 0 4 (sCan [(0, 5, 74), (1, 0, 0), (2, 0, 0), (3, 0, 0)] [x1, x2, x3]) [] (sM s m) Q) x1 x2 x3 m  (fun _ _ _ hp hr => hp hr) hQ hr h) hr
def lb_221_0 (s : sS) (Q : sQ) (R : Int → hy_m → Prop) (x1 : Int) : Nat → Option (sL → sS → Prop) := sLb [(4, fun lv t => sG [(0, 5, 74), (1, 0, 0), (2, 0, 0), (3, 0, 0)] lv (ap3 (fun w1 w2 w3 => ∃ m', t = sM s m' ∧ wq_221_4 w1 w2 w3 m' R)))]
set_option maxRecDepth 30000 in
set_option maxHeartbeats 1000000 in
theorem wk_221_0 (Q : sQ) (R : Int → hy_m → Prop) (s : sS) (x1 : Int) (hQ : ∀ x m', R x m' → Q x (sM s m')) (hr : sRg [(0, 5, 74), (1, 0, 0)] [x1]) (h : wq_221 x1 s.2.2.2 R) : kX dM 1 im_m221 0 0 (sCan [(0, 5, 74), (1, 0, 0)] [x1]) [] s Q := by
  unfold wq_221 at h
  refine wz2_ok (cs := cs_221) (wr := []) (lb := lb_221_0 s Q R x1) cs_221_ok (kLb_c (kLab (Bd := fun xs t => ap3 (fun w1 w2 w3 => ∃ m', t = sM s m' ∧ wq_221_4 w1 w2 w3 m' R) xs) rfl (fun xs t r1 r2 hb => by obtain ⟨w1, w2, w3, rfl, hb⟩ := ap3_ok hb; obtain ⟨m', rfl, hx⟩ := hb; exact wk_221_4 Q R (sM s m') _ _ _ (fun x m'' hy => hQ x m'' hy) r1 hx)) kLb_n) (okL_can rfl hr) (fun Y hY hl => ?_)
  have l4 := hl 4 _ rfl
  refine hY _ _ _ _ (hY _ _ _ _ (hY _ _ _ _ (?_ : Y 3 [(2, 2, true, 0), (0, 5, true, 74), (1, 0, true, x1)] [(2, true, 0)] s)))
  refine hY _ _ _ _ (?_ : Y 4 [(3, 2, true, 0), (2, 2, true, 0), (0, 5, true, 74), (1, 0, true, x1)] [] s)
  refine l4 _ _ ?_
  exact (Exists.intro s.2.2.2 (And.intro rfl h))
def we_221 : sFf := sEf 4 [(0, 5, 74), (1, 0, 0)] (fun xs s Q => ap1 (fun x1 => wq_221 x1 s.2.2.2 Q) xs)
theorem we_221_ok : kS dM 2 221 0 (.inl we_221) := sEf_ok (mi := im_m221) rfl rfl rfl (fun R xs s r1 hb => by obtain ⟨x1, rfl, hb⟩ := ap1_ok hb; exact wk_221_0 _ R s x1 (fun x m' hx => ⟨m', rfl, hx⟩) r1 hb)
/-- LMModel.endsWithItself(I)I -/
def wq_222 (x1 : Int) (m : hy_m) (Q : Int → hy_m → Prop) : Prop := 0 ≤ x1 ∧ x1 < 28 ∧ (((m 82 x1) ≠ 0 → (0 ≤ x1 ∧ x1 < 28 ∧ (0 ≤ x1 ∧ x1 < 28 ∧ (0 ≤ (((5 * x1) + (m 82 x1)) - 1) ∧ (((5 * x1) + (m 82 x1)) - 1) < 140 ∧ (wq_211 (m 81 x1) (m 83 (((5 * x1) + (m 82 x1)) - 1)) m (fun r1 m1 => (r1 = 0 → (Q 0 m1)) ∧ (r1 ≠ 0 → (Q 1 m1)))))))) ∧ ((m 82 x1) = 0 → (Q 0 m)))
def cs_222 : List (Nat × Nat × sFS) := [(211, 2, .inl we_211)]
theorem cs_222_ok : kCs dM 1 cs_222 := (kCs_c (Or.inr (Or.inr (Or.inl rfl))) (we_211_ok.deep (by decide)) kCs_n)
def lb_222_0 (s : sS) (Q : sQ) (R : Int → hy_m → Prop) (x1 : Int) : Nat → Option (sL → sS → Prop) := sLb []
set_option maxRecDepth 30000 in
set_option maxHeartbeats 1000000 in
theorem wk_222_0 (Q : sQ) (R : Int → hy_m → Prop) (s : sS) (x1 : Int) (hQ : ∀ x m', R x m' → Q x (sM s m')) (hr : sRg [(0, 5, 74), (1, 0, 0)] [x1]) (h : wq_222 x1 s.2.2.2 R) : kX dM 1 im_m222 0 0 (sCan [(0, 5, 74), (1, 0, 0)] [x1]) [] s Q := by
  unfold wq_222 at h
  refine wz2_ok (cs := cs_222) (wr := []) (lb := lb_222_0 s Q R x1) cs_222_ok kLb_n (okL_can rfl hr) (fun Y hY hl => ?_)
  refine hY _ _ _ _ (hY _ _ _ _ (hY _ _ _ _ (?_ : Y 5 [(0, 5, true, 74), (1, 0, true, x1)] [(0, true, x1), (5, true, 82)] s)))
  refine hY _ _ _ _ ?_
  refine (And.intro h.1 (And.intro h.2.1 ?_))
  show Y 6 [(0, 5, true, 74), (1, 0, true, x1)] [(0, true, s.2.2.2 82 x1)] s
  refine hY _ _ _ _ ?_
  refine And.intro (fun hc => ?_) (fun hc => ?_)
  · have h := h.2.2.1 hc
    refine hY _ _ _ _ (hY _ _ _ _ (hY _ _ _ _ (?_ : Y 16 [(0, 5, true, 74), (1, 0, true, x1)] [(5, true, 81), (5, true, 74)] s)))
    refine hY _ _ _ _ (?_ : Y 17 [(0, 5, true, 74), (1, 0, true, x1)] [(0, true, x1), (5, true, 81), (5, true, 74)] s)
    refine hY _ _ _ _ ?_
    refine (And.intro h.1 (And.intro h.2.1 ?_))
    refine hY _ _ _ _ (hY _ _ _ _ (hY _ _ _ _ (?_ : Y 23 [(0, 5, true, 74), (1, 0, true, x1)] [(0, true, 5), (5, true, 83), (0, true, s.2.2.2 81 x1), (5, true, 74)] s)))
    refine hY _ _ _ _ (hY _ _ _ _ (hY _ _ _ _ (?_ : Y 26 [(0, 5, true, 74), (1, 0, true, x1)] [(5, true, 74), (0, false, 5 * x1), (5, true, 83), (0, true, s.2.2.2 81 x1), (5, true, 74)] s)))
    refine hY _ _ _ _ (hY _ _ _ _ (?_ : Y 30 [(0, 5, true, 74), (1, 0, true, x1)] [(0, true, x1), (5, true, 82), (0, false, 5 * x1), (5, true, 83), (0, true, s.2.2.2 81 x1), (5, true, 74)] s))
    refine hY _ _ _ _ ?_
    refine (And.intro h.2.2.1 (And.intro h.2.2.2.1 ?_))
    refine hY _ _ _ _ (hY _ _ _ _ (hY _ _ _ _ (?_ : Y 34 [(0, 5, true, 74), (1, 0, true, x1)] [(0, false, ((5 * x1) + (s.2.2.2 82 x1)) - 1), (5, true, 83), (0, true, s.2.2.2 81 x1), (5, true, 74)] s)))
    refine hY _ _ _ _ ?_
    refine (And.intro h.2.2.2.2.1 (And.intro h.2.2.2.2.2.1 ?_))
    show Y 35 [(0, 5, true, 74), (1, 0, true, x1)] [(0, true, s.2.2.2 83 (((5 * x1) + (s.2.2.2 82 x1)) - 1)), (0, true, s.2.2.2 81 x1), (5, true, 74)] s
    refine hY _ _ _ _ ?_
    refine Exists.intro _ (And.intro (wc_211_r74_0t_0t (s.2.2.2 81 x1) (s.2.2.2 83 (((5 * x1) + (s.2.2.2 82 x1)) - 1)) _ _ h.2.2.2.2.2.2) (fun r1 m1 h => ?_))
    show Y 38 [(0, 5, true, 74), (1, 0, true, x1)] [(2, true, r1)] (sM s m1)
    refine hY _ _ _ _ ?_
    refine And.intro (fun hc => ?_) (fun hc => ?_)
    · have h := h.1 hc
      refine hY _ _ _ _ (?_ : Y 46 [(0, 5, true, 74), (1, 0, true, x1)] [(2, true, 0)] (sM s m1))
      refine hY _ _ _ _ ?_
      exact hQ 0 m1 h
    · have h := h.2 hc
      refine hY _ _ _ _ (hY _ _ _ _ (?_ : Y 46 [(0, 5, true, 74), (1, 0, true, x1)] [(2, true, 1)] (sM s m1)))
      refine hY _ _ _ _ ?_
      exact hQ 1 m1 h
  · have h := h.2.2.2 hc
    refine hY _ _ _ _ (?_ : Y 10 [(0, 5, true, 74), (1, 0, true, x1)] [(2, true, 0)] s)
    refine hY _ _ _ _ ?_
    exact hQ 0 s.2.2.2 h
def we_222 : sFf := sEf 2 [(0, 5, 74), (1, 0, 0)] (fun xs s Q => ap1 (fun x1 => wq_222 x1 s.2.2.2 Q) xs)
theorem we_222_ok : kS dM 2 222 0 (.inl we_222) := sEf_ok (mi := im_m222) rfl rfl rfl (fun R xs s r1 hb => by obtain ⟨x1, rfl, hb⟩ := ap1_ok hb; exact wk_222_0 _ R s x1 (fun x m' hx => ⟨m', rfl, hx⟩) r1 hb)
/-- LMModel.clause(II)I -/
def wq_223 (x1 : Int) (x2 : Int) (m : hy_m) (Q : Int → hy_m → Prop) : Prop := wq_205 x1 m (fun r1 m1 => (r1 ≠ 0 → (wq_206 x1 m1 (fun r2 m2 => ((x2 = 0 + 0 → (0 ≤ r2 ∧ r2 < 28 ∧ (Q (m2 82 r2) m2))) ∧ ((x2 = 0 + 1 → (0 ≤ r2 ∧ r2 < 28 ∧ (Q (m2 84 r2) m2))) ∧ ((x2 = 0 + 2 → (wq_221 r2 m2 (fun r3 m3 => Q r3 m3))) ∧ ((x2 = 0 + 3 → (0 ≤ r2 ∧ r2 < 28 ∧ (wq_212 (m2 81 r2) m2 (fun r4 m4 => Q r4 m4)))) ∧ ((x2 = 0 + 4 → (0 ≤ r2 ∧ r2 < 28 ∧ (0 ≤ (m2 81 r2) ∧ (m2 81 r2) < 3584 ∧ (((m2 78 (m2 81 r2)) ≠ 0 → (0 ≤ r2 ∧ r2 < 28 ∧ (0 ≤ (3 * (m2 81 r2)) ∧ (3 * (m2 81 r2)) < 10752 ∧ (0 ≤ (m2 79 (3 * (m2 81 r2))) ∧ (m2 79 (3 * (m2 81 r2))) < 3584 ∧ (Q (m2 76 (m2 79 (3 * (m2 81 r2)))) m2))))) ∧ ((m2 78 (m2 81 r2)) = 0 → (Q 0 m2)))))) ∧ ((x2 = 0 + 5 → (wq_222 r2 m2 (fun r5 m5 => Q r5 m5))) ∧ ((x2 = 0 + 6 → (0 ≤ x1 ∧ x1 < 20 ∧ (Q (m2 95 x1) m2))) ∧ ((x2 = 0 + 7 → (0 ≤ x1 ∧ x1 < 20 ∧ (Q (m2 96 x1) m2))) ∧ (True))))))))) ∧ (x2 < 0 ∨ 7 < x2 → (Q (-1) m2))))) ∧ (r1 = 0 → (Q (-1) m1)))
theorem wc_221_r74_0t (x1 : Int) (s : sS) (R : Int → hy_m → Prop) (h : wq_221 x1 s.2.2.2 R) : we_221 [(5, true, 74), (0, true, x1)] s R := h
theorem wc_222_r74_0t (x1 : Int) (s : sS) (R : Int → hy_m → Prop) (h : wq_222 x1 s.2.2.2 R) : we_222 [(5, true, 74), (0, true, x1)] s R := h
def cs_223 : List (Nat × Nat × sFS) := [(205, 2, .inl we_205), (206, 0, .inl we_206), (212, 0, .inl we_212), (221, 0, .inl we_221), (222, 0, .inl we_222)]
theorem cs_223_ok : kCs dM 2 cs_223 := (kCs_c (Or.inr (Or.inr (Or.inl rfl))) (we_205_ok.deep (by decide)) (kCs_c (Or.inl rfl) (we_206_ok.deep (by decide)) (kCs_c (Or.inl rfl) (we_212_ok.deep (by decide)) (kCs_c (Or.inl rfl) (we_221_ok.deep (by decide)) (kCs_c (Or.inl rfl) (we_222_ok.deep (by decide)) kCs_n)))))
def lb_223_0 (s : sS) (Q : sQ) (R : Int → hy_m → Prop) (x1 : Int) (x2 : Int) : Nat → Option (sL → sS → Prop) := sLb []
set_option maxRecDepth 30000 in
set_option maxHeartbeats 1000000 in
theorem wk_223_0 (Q : sQ) (R : Int → hy_m → Prop) (s : sS) (x1 : Int) (x2 : Int) (hQ : ∀ x m', R x m' → Q x (sM s m')) (hr : sRg [(0, 5, 74), (1, 0, 0), (2, 0, 0)] [x1, x2]) (h : wq_223 x1 x2 s.2.2.2 R) : kX dM 2 im_m223 0 0 (sCan [(0, 5, 74), (1, 0, 0), (2, 0, 0)] [x1, x2]) [] s Q := by
  unfold wq_223 at h
  refine wz2_ok (cs := cs_223) (wr := []) (lb := lb_223_0 s Q R x1 x2) cs_223_ok kLb_n (okL_can rfl hr) (fun Y hY hl => ?_)
  refine hY _ _ _ _ (hY _ _ _ _ (?_ : Y 2 [(0, 5, true, 74), (1, 0, true, x1), (2, 0, true, x2)] [(0, true, x1), (5, true, 74)] s))
  refine hY _ _ _ _ ?_
  refine Exists.intro _ (And.intro (wc_205_r74_0t x1 _ _ h) (fun r1 m1 h => ?_))
  show Y 5 [(0, 5, true, 74), (1, 0, true, x1), (2, 0, true, x2)] [(2, true, r1)] (sM s m1)
  refine hY _ _ _ _ ?_
  refine And.intro (fun hc => ?_) (fun hc => ?_)
  · have h := h.1 hc
    refine hY _ _ _ _ (hY _ _ _ _ (?_ : Y 12 [(0, 5, true, 74), (1, 0, true, x1), (2, 0, true, x2)] [(0, true, x1), (5, true, 74)] (sM s m1)))
    refine hY _ _ _ _ ?_
    refine Exists.intro _ (And.intro (wc_206_r74_0t x1 _ _ h) (fun r2 m2 h => ?_))
    refine hY _ _ _ _ (hY _ _ _ _ (?_ : Y 17 [(3, 0, true, r2), (0, 5, true, 74), (1, 0, true, x1), (2, 0, true, x2)] [(0, true, x2)] (sM s m2)))
    refine hY _ _ _ _ ?_
    refine And.intro (And.intro (fun hc => ?_) (And.intro (fun hc => ?_) (And.intro (fun hc => ?_) (And.intro (fun hc => ?_) (And.intro (fun hc => ?_) (And.intro (fun hc => ?_) (And.intro (fun hc => ?_) (And.intro (fun hc => ?_) trivial)))))))) (fun hc => ?_)
    · have h := h.1.1 hc
      refine hY _ _ _ _ (hY _ _ _ _ (hY _ _ _ _ (?_ : Y 69 [(3, 0, true, r2), (0, 5, true, 74), (1, 0, true, x1), (2, 0, true, x2)] [(0, true, r2), (5, true, 82)] (sM s m2))))
      refine hY _ _ _ _ ?_
      refine (And.intro h.1 (And.intro h.2.1 ?_))
      show Y 70 [(3, 0, true, r2), (0, 5, true, 74), (1, 0, true, x1), (2, 0, true, x2)] [(0, true, m2 82 r2)] (sM s m2)
      refine hY _ _ _ _ ?_
      exact hQ (m2 82 r2) m2 h.2.2
    · have h := h.1.2.1 hc
      refine hY _ _ _ _ (hY _ _ _ _ (hY _ _ _ _ (?_ : Y 76 [(3, 0, true, r2), (0, 5, true, 74), (1, 0, true, x1), (2, 0, true, x2)] [(0, true, r2), (5, true, 84)] (sM s m2))))
      refine hY _ _ _ _ ?_
      refine (And.intro h.1 (And.intro h.2.1 ?_))
      show Y 77 [(3, 0, true, r2), (0, 5, true, 74), (1, 0, true, x1), (2, 0, true, x2)] [(0, true, m2 84 r2)] (sM s m2)
      refine hY _ _ _ _ ?_
      exact hQ (m2 84 r2) m2 h.2.2
    · have h := h.1.2.2.1 hc
      refine hY _ _ _ _ (hY _ _ _ _ (?_ : Y 80 [(3, 0, true, r2), (0, 5, true, 74), (1, 0, true, x1), (2, 0, true, x2)] [(0, true, r2), (5, true, 74)] (sM s m2)))
      refine hY _ _ _ _ ?_
      refine Exists.intro _ (And.intro (wc_221_r74_0t r2 _ _ h) (fun r3 m3 h => ?_))
      show Y 83 [(3, 0, true, r2), (0, 5, true, 74), (1, 0, true, x1), (2, 0, true, x2)] [(0, true, r3)] (sM s m3)
      refine hY _ _ _ _ ?_
      exact hQ r3 m3 h
    · have h := h.1.2.2.2.1 hc
      refine hY _ _ _ _ (hY _ _ _ _ (hY _ _ _ _ (?_ : Y 89 [(3, 0, true, r2), (0, 5, true, 74), (1, 0, true, x1), (2, 0, true, x2)] [(5, true, 81), (5, true, 74)] (sM s m2))))
      refine hY _ _ _ _ (?_ : Y 90 [(3, 0, true, r2), (0, 5, true, 74), (1, 0, true, x1), (2, 0, true, x2)] [(0, true, r2), (5, true, 81), (5, true, 74)] (sM s m2))
      refine hY _ _ _ _ ?_
      refine (And.intro h.1 (And.intro h.2.1 ?_))
      show Y 91 [(3, 0, true, r2), (0, 5, true, 74), (1, 0, true, x1), (2, 0, true, x2)] [(0, true, m2 81 r2), (5, true, 74)] (sM s m2)
      refine hY _ _ _ _ ?_
      refine Exists.intro _ (And.intro (wc_212_r74_0t (m2 81 r2) _ _ h.2.2) (fun r4 m4 h => ?_))
      show Y 94 [(3, 0, true, r2), (0, 5, true, 74), (1, 0, true, x1), (2, 0, true, x2)] [(0, true, r4)] (sM s m4)
      refine hY _ _ _ _ ?_
      exact hQ r4 m4 h
    · have h := h.1.2.2.2.2.1 hc
      refine hY _ _ _ _ (hY _ _ _ _ (hY _ _ _ _ (?_ : Y 100 [(3, 0, true, r2), (0, 5, true, 74), (1, 0, true, x1), (2, 0, true, x2)] [(5, true, 74), (5, true, 78)] (sM s m2))))
      refine hY _ _ _ _ (hY _ _ _ _ (?_ : Y 104 [(3, 0, true, r2), (0, 5, true, 74), (1, 0, true, x1), (2, 0, true, x2)] [(0, true, r2), (5, true, 81), (5, true, 78)] (sM s m2)))
      refine hY _ _ _ _ ?_
      refine (And.intro h.1 (And.intro h.2.1 ?_))
      show Y 105 [(3, 0, true, r2), (0, 5, true, 74), (1, 0, true, x1), (2, 0, true, x2)] [(0, true, m2 81 r2), (5, true, 78)] (sM s m2)
      refine hY _ _ _ _ ?_
      refine (And.intro h.2.2.1 (And.intro h.2.2.2.1 ?_))
      show Y 106 [(3, 0, true, r2), (0, 5, true, 74), (1, 0, true, x1), (2, 0, true, x2)] [(0, true, m2 78 (m2 81 r2))] (sM s m2)
      refine hY _ _ _ _ ?_
      refine And.intro (fun hc => ?_) (fun hc => ?_)
      · have h := h.2.2.2.2.1 hc
        refine hY _ _ _ _ (hY _ _ _ _ (hY _ _ _ _ (?_ : Y 118 [(3, 0, true, r2), (0, 5, true, 74), (1, 0, true, x1), (2, 0, true, x2)] [(5, true, 74), (5, true, 76)] (sM s m2))))
        refine hY _ _ _ _ (hY _ _ _ _ (hY _ _ _ _ (?_ : Y 123 [(3, 0, true, r2), (0, 5, true, 74), (1, 0, true, x1), (2, 0, true, x2)] [(5, true, 74), (0, true, 3), (5, true, 79), (5, true, 76)] (sM s m2))))
        refine hY _ _ _ _ (hY _ _ _ _ (?_ : Y 127 [(3, 0, true, r2), (0, 5, true, 74), (1, 0, true, x1), (2, 0, true, x2)] [(0, true, r2), (5, true, 81), (0, true, 3), (5, true, 79), (5, true, 76)] (sM s m2)))
        refine hY _ _ _ _ ?_
        refine (And.intro h.1 (And.intro h.2.1 ?_))
        refine hY _ _ _ _ (?_ : Y 129 [(3, 0, true, r2), (0, 5, true, 74), (1, 0, true, x1), (2, 0, true, x2)] [(0, false, 3 * (m2 81 r2)), (5, true, 79), (5, true, 76)] (sM s m2))
        refine hY _ _ _ _ ?_
        refine (And.intro h.2.2.1 (And.intro h.2.2.2.1 ?_))
        show Y 130 [(3, 0, true, r2), (0, 5, true, 74), (1, 0, true, x1), (2, 0, true, x2)] [(0, true, m2 79 (3 * (m2 81 r2))), (5, true, 76)] (sM s m2)
        refine hY _ _ _ _ ?_
        refine (And.intro h.2.2.2.2.1 (And.intro h.2.2.2.2.2.1 ?_))
        show Y 131 [(3, 0, true, r2), (0, 5, true, 74), (1, 0, true, x1), (2, 0, true, x2)] [(0, true, m2 76 (m2 79 (3 * (m2 81 r2))))] (sM s m2)
        refine hY _ _ _ _ ?_
        exact hQ (m2 76 (m2 79 (3 * (m2 81 r2)))) m2 h.2.2.2.2.2.2
      · have h := h.2.2.2.2.2 hc
        refine hY _ _ _ _ (hY _ _ _ _ (?_ : Y 131 [(3, 0, true, r2), (0, 5, true, 74), (1, 0, true, x1), (2, 0, true, x2)] [(2, true, 0)] (sM s m2)))
        refine hY _ _ _ _ ?_
        exact hQ 0 m2 h
    · have h := h.1.2.2.2.2.2.1 hc
      refine hY _ _ _ _ (hY _ _ _ _ (?_ : Y 134 [(3, 0, true, r2), (0, 5, true, 74), (1, 0, true, x1), (2, 0, true, x2)] [(0, true, r2), (5, true, 74)] (sM s m2)))
      refine hY _ _ _ _ ?_
      refine Exists.intro _ (And.intro (wc_222_r74_0t r2 _ _ h) (fun r5 m5 h => ?_))
      show Y 137 [(3, 0, true, r2), (0, 5, true, 74), (1, 0, true, x1), (2, 0, true, x2)] [(0, true, r5)] (sM s m5)
      refine hY _ _ _ _ ?_
      exact hQ r5 m5 h
    · have h := h.1.2.2.2.2.2.2.1 hc
      refine hY _ _ _ _ (hY _ _ _ _ (hY _ _ _ _ (?_ : Y 143 [(3, 0, true, r2), (0, 5, true, 74), (1, 0, true, x1), (2, 0, true, x2)] [(0, true, x1), (5, true, 95)] (sM s m2))))
      refine hY _ _ _ _ ?_
      refine (And.intro h.1 (And.intro h.2.1 ?_))
      show Y 144 [(3, 0, true, r2), (0, 5, true, 74), (1, 0, true, x1), (2, 0, true, x2)] [(0, true, m2 95 x1)] (sM s m2)
      refine hY _ _ _ _ ?_
      exact hQ (m2 95 x1) m2 h.2.2
    · have h := h.1.2.2.2.2.2.2.2.1 hc
      refine hY _ _ _ _ (hY _ _ _ _ (hY _ _ _ _ (?_ : Y 150 [(3, 0, true, r2), (0, 5, true, 74), (1, 0, true, x1), (2, 0, true, x2)] [(0, true, x1), (5, true, 96)] (sM s m2))))
      refine hY _ _ _ _ ?_
      refine (And.intro h.1 (And.intro h.2.1 ?_))
      show Y 151 [(3, 0, true, r2), (0, 5, true, 74), (1, 0, true, x1), (2, 0, true, x2)] [(0, true, m2 96 x1)] (sM s m2)
      refine hY _ _ _ _ ?_
      exact hQ (m2 96 x1) m2 h.2.2
    · have h := h.2 hc
      refine hY _ _ _ _ (?_ : Y 153 [(3, 0, true, r2), (0, 5, true, 74), (1, 0, true, x1), (2, 0, true, x2)] [(0, true, (-1))] (sM s m2))
      refine hY _ _ _ _ ?_
      exact hQ (-1) m2 h
  · have h := h.2 hc
    refine hY _ _ _ _ (?_ : Y 9 [(0, 5, true, 74), (1, 0, true, x1), (2, 0, true, x2)] [(0, true, (-1))] (sM s m1))
    refine hY _ _ _ _ ?_
    exact hQ (-1) m1 h
def we_223 : sFf := sEf 4 [(0, 5, 74), (1, 0, 0), (2, 0, 0)] (fun xs s Q => ap2 (fun x1 x2 => wq_223 x1 x2 s.2.2.2 Q) xs)
theorem we_223_ok : kS dM 3 223 0 (.inl we_223) := sEf_ok (mi := im_m223) rfl rfl rfl (fun R xs s r1 hb => by obtain ⟨x1, x2, rfl, hb⟩ := ap2_ok hb; exact wk_223_0 _ R s x1 x2 (fun x m' hx => ⟨m', rfl, hx⟩) r1 hb)
/-- LMModel.canBoth(II)Z -/
def wq_224 (x1 : Int) (x2 : Int) (m : hy_m) (Q : Int → hy_m → Prop) : Prop := 0 ≤ x1 ∧ x1 < 3584 ∧ (((m 76 x1) = 1 → (Q 1 m)) ∧ ((m 76 x1) ≠ 1 → (0 ≤ x2 ∧ x2 < 3584 ∧ (((m 76 x2) ≠ 1 → (0 ≤ x1 ∧ x1 < 3584 ∧ (0 ≤ x2 ∧ x2 < 3584 ∧ (((m 76 x1) ≠ (m 76 x2) → (Q 0 m)) ∧ ((m 76 x1) = (m 76 x2) → (0 ≤ x1 ∧ x1 < 3584 ∧ (0 ≤ x2 ∧ x2 < 3584 ∧ (((m 77 x1) ≠ (m 77 x2) → (Q 0 m)) ∧ ((m 77 x1) = (m 77 x2) → (0 ≤ x1 ∧ x1 < 3584 ∧ (0 ≤ x2 ∧ x2 < 3584 ∧ (((m 78 x1) ≠ (m 78 x2) → (Q 0 m)) ∧ ((m 78 x1) = (m 78 x2) → (Q 1 m)))))))))))))) ∧ ((m 76 x2) = 1 → (Q 1 m))))))
def cs_224 : List (Nat × Nat × sFS) := []
theorem cs_224_ok : kCs dM 0 cs_224 := kCs_n
def lb_224_0 (s : sS) (Q : sQ) (R : Int → hy_m → Prop) (x1 : Int) (x2 : Int) : Nat → Option (sL → sS → Prop) := sLb []
set_option maxRecDepth 30000 in
set_option maxHeartbeats 1000000 in
theorem wk_224_0 (Q : sQ) (R : Int → hy_m → Prop) (s : sS) (x1 : Int) (x2 : Int) (hQ : ∀ x m', R x m' → Q x (sM s m')) (hr : sRg [(0, 5, 74), (1, 0, 0), (2, 0, 0)] [x1, x2]) (h : wq_224 x1 x2 s.2.2.2 R) : kX dM 0 im_m224 2 0 (sCan [(0, 5, 74), (1, 0, 0), (2, 0, 0)] [x1, x2]) [] s Q := by
  unfold wq_224 at h
  refine wz2_ok (cs := cs_224) (wr := []) (lb := lb_224_0 s Q R x1 x2) cs_224_ok kLb_n (okL_can rfl hr) (fun Y hY hl => ?_)
  refine hY _ _ _ _ (hY _ _ _ _ (hY _ _ _ _ (?_ : Y 5 [(0, 5, true, 74), (1, 0, true, x1), (2, 0, true, x2)] [(0, true, x1), (5, true, 76)] s)))
  refine hY _ _ _ _ ?_
  refine (And.intro h.1 (And.intro h.2.1 ?_))
  refine hY _ _ _ _ (?_ : Y 7 [(0, 5, true, 74), (1, 0, true, x1), (2, 0, true, x2)] [(2, true, 1), (0, true, s.2.2.2 76 x1)] s)
  refine hY _ _ _ _ ?_
  refine And.intro (fun hc => ?_) (fun hc => ?_)
  · have h := h.2.2.1 hc
    refine hY _ _ _ _ (?_ : Y 21 [(0, 5, true, 74), (1, 0, true, x1), (2, 0, true, x2)] [(2, true, 1)] s)
    refine hY _ _ _ _ ?_
    exact hQ 1 s.2.2.2 h
  · have h := h.2.2.2 hc
    refine hY _ _ _ _ (hY _ _ _ _ (hY _ _ _ _ (?_ : Y 15 [(0, 5, true, 74), (1, 0, true, x1), (2, 0, true, x2)] [(0, true, x2), (5, true, 76)] s)))
    refine hY _ _ _ _ ?_
    refine (And.intro h.1 (And.intro h.2.1 ?_))
    refine hY _ _ _ _ (?_ : Y 17 [(0, 5, true, 74), (1, 0, true, x1), (2, 0, true, x2)] [(2, true, 1), (0, true, s.2.2.2 76 x2)] s)
    refine hY _ _ _ _ ?_
    refine And.intro (fun hc => ?_) (fun hc => ?_)
    · have h := h.2.2.1 hc
      refine hY _ _ _ _ (hY _ _ _ _ (hY _ _ _ _ (?_ : Y 27 [(0, 5, true, 74), (1, 0, true, x1), (2, 0, true, x2)] [(0, true, x1), (5, true, 76)] s)))
      refine hY _ _ _ _ ?_
      refine (And.intro h.1 (And.intro h.2.1 ?_))
      refine hY _ _ _ _ (hY _ _ _ _ (hY _ _ _ _ (?_ : Y 33 [(0, 5, true, 74), (1, 0, true, x1), (2, 0, true, x2)] [(0, true, x2), (5, true, 76), (0, true, s.2.2.2 76 x1)] s)))
      refine hY _ _ _ _ ?_
      refine (And.intro h.2.2.1 (And.intro h.2.2.2.1 ?_))
      show Y 34 [(0, 5, true, 74), (1, 0, true, x1), (2, 0, true, x2)] [(0, true, s.2.2.2 76 x2), (0, true, s.2.2.2 76 x1)] s
      refine hY _ _ _ _ ?_
      refine And.intro (fun hc => ?_) (fun hc => ?_)
      · have h := h.2.2.2.2.1 hc
        refine hY _ _ _ _ (?_ : Y 73 [(0, 5, true, 74), (1, 0, true, x1), (2, 0, true, x2)] [(2, true, 0)] s)
        refine hY _ _ _ _ ?_
        exact hQ 0 s.2.2.2 h
      · have h := h.2.2.2.2.2 hc
        refine hY _ _ _ _ (hY _ _ _ _ (hY _ _ _ _ (?_ : Y 42 [(0, 5, true, 74), (1, 0, true, x1), (2, 0, true, x2)] [(0, true, x1), (5, true, 77)] s)))
        refine hY _ _ _ _ ?_
        refine (And.intro h.1 (And.intro h.2.1 ?_))
        refine hY _ _ _ _ (hY _ _ _ _ (hY _ _ _ _ (?_ : Y 48 [(0, 5, true, 74), (1, 0, true, x1), (2, 0, true, x2)] [(0, true, x2), (5, true, 77), (1, true, s.2.2.2 77 x1)] s)))
        refine hY _ _ _ _ ?_
        refine (And.intro h.2.2.1 (And.intro h.2.2.2.1 ?_))
        show Y 49 [(0, 5, true, 74), (1, 0, true, x1), (2, 0, true, x2)] [(1, true, s.2.2.2 77 x2), (1, true, s.2.2.2 77 x1)] s
        refine hY _ _ _ _ ?_
        refine And.intro (fun hc => ?_) (fun hc => ?_)
        · have h := h.2.2.2.2.1 hc
          refine hY _ _ _ _ (?_ : Y 73 [(0, 5, true, 74), (1, 0, true, x1), (2, 0, true, x2)] [(2, true, 0)] s)
          refine hY _ _ _ _ ?_
          exact hQ 0 s.2.2.2 h
        · have h := h.2.2.2.2.2 hc
          refine hY _ _ _ _ (hY _ _ _ _ (hY _ _ _ _ (?_ : Y 58 [(0, 5, true, 74), (1, 0, true, x1), (2, 0, true, x2)] [(0, true, x1), (5, true, 78)] s)))
          refine hY _ _ _ _ ?_
          refine (And.intro h.1 (And.intro h.2.1 ?_))
          refine hY _ _ _ _ (hY _ _ _ _ (hY _ _ _ _ (?_ : Y 64 [(0, 5, true, 74), (1, 0, true, x1), (2, 0, true, x2)] [(0, true, x2), (5, true, 78), (0, true, s.2.2.2 78 x1)] s)))
          refine hY _ _ _ _ ?_
          refine (And.intro h.2.2.1 (And.intro h.2.2.2.1 ?_))
          show Y 65 [(0, 5, true, 74), (1, 0, true, x1), (2, 0, true, x2)] [(0, true, s.2.2.2 78 x2), (0, true, s.2.2.2 78 x1)] s
          refine hY _ _ _ _ ?_
          refine And.intro (fun hc => ?_) (fun hc => ?_)
          · have h := h.2.2.2.2.1 hc
            refine hY _ _ _ _ (?_ : Y 73 [(0, 5, true, 74), (1, 0, true, x1), (2, 0, true, x2)] [(2, true, 0)] s)
            refine hY _ _ _ _ ?_
            exact hQ 0 s.2.2.2 h
          · have h := h.2.2.2.2.2 hc
            refine hY _ _ _ _ (hY _ _ _ _ (?_ : Y 73 [(0, 5, true, 74), (1, 0, true, x1), (2, 0, true, x2)] [(2, true, 1)] s))
            refine hY _ _ _ _ ?_
            exact hQ 1 s.2.2.2 h
    · have h := h.2.2.2 hc
      refine hY _ _ _ _ (?_ : Y 21 [(0, 5, true, 74), (1, 0, true, x1), (2, 0, true, x2)] [(2, true, 1)] s)
      refine hY _ _ _ _ ?_
      exact hQ 1 s.2.2.2 h
def we_224 : sFf := sEf 3 [(0, 5, 74), (1, 0, 0), (2, 0, 0)] (fun xs s Q => ap2 (fun x1 x2 => wq_224 x1 x2 s.2.2.2 Q) xs)
theorem we_224_ok : kS dM 1 224 2 (.inl we_224) := sEf_ok (mi := im_m224) rfl rfl rfl (fun R xs s r1 hb => by obtain ⟨x1, x2, rfl, hb⟩ := ap2_ok hb; exact wk_224_0 _ R s x1 x2 (fun x m' hx => ⟨m', rfl, hx⟩) r1 hb)
/-- LMModel.overlaps(I)I -/
def wf_225_43 (P26 : Int → Int → hy_m → Prop) (x2 : Int) (x4 : Int) (Q : Int → hy_m → Prop) (P43 : Int → Int → hy_m → Prop) (x3 : Int) (x5 : Int) (m : hy_m) : Prop := 0 ≤ (0 : Int) ∧ (0 : Int) < 21 ∧ (((m 85 0) ≤ x5 → (hy_r 0 (x4 + 1) ∧ (P26 x3 (x4 + 1) m))) ∧ (x5 < (m 85 0) → (wq_206 x4 m (fun r1 m1 => 0 ≤ r1 ∧ r1 < 28 ∧ (wq_206 x5 m1 (fun r2 m2 => 0 ≤ r2 ∧ r2 < 28 ∧ (wq_211 x2 (m1 81 r1) m2 (fun r3 m3 => (r3 = 0 → (hy_r 0 (x5 + 1) ∧ (P43 x3 (x5 + 1) m3))) ∧ (r3 ≠ 0 → (wq_211 x2 (m2 81 r2) m3 (fun r4 m4 => (r4 = 0 → (hy_r 0 (x5 + 1) ∧ (P43 x3 (x5 + 1) m4))) ∧ (r4 ≠ 0 → (0 ≤ x2 ∧ x2 < 3584 ∧ (((m4 78 x2) = 0 → (hy_r 0 (x3 + 1) ∧ (hy_r 0 (x5 + 1) ∧ (P43 (x3 + 1) (x5 + 1) m4)))) ∧ ((m4 78 x2) ≠ 0 → (0 ≤ (3 * (m1 81 r1)) ∧ (3 * (m1 81 r1)) < 10752 ∧ (0 ≤ (3 * (m2 81 r2)) ∧ (3 * (m2 81 r2)) < 10752 ∧ (wq_224 (m4 79 (3 * (m1 81 r1))) (m4 79 (3 * (m2 81 r2))) m4 (fun r5 m5 => (r5 = 0 → (hy_r 0 (x3 + 0) ∧ (hy_r 0 (x5 + 1) ∧ (P43 (x3 + 0) (x5 + 1) m5)))) ∧ (r5 ≠ 0 → (hy_r 0 (x3 + 1) ∧ (hy_r 0 (x5 + 1) ∧ (P43 (x3 + 1) (x5 + 1) m5)))))))))))))))))))))))
def wq_225_43 (P26 : Int → Int → hy_m → Prop) (x2 : Int) (x3 : Int) (x4 : Int) (x5 : Int) (m : hy_m) (Q : Int → hy_m → Prop) : Prop := wL2 hy_m (wf_225_43 P26 x2 x4 Q) x3 x5 m
def wf_225_26 (x2 : Int) (Q : Int → hy_m → Prop) (P26 : Int → Int → hy_m → Prop) (x3 : Int) (x4 : Int) (m : hy_m) : Prop := 0 ≤ (0 : Int) ∧ (0 : Int) < 21 ∧ (((m 85 0) ≤ x4 → (Q x3 m)) ∧ (x4 < (m 85 0) → (hy_r 0 (x4 + 1) ∧ (wq_225_43 P26 x2 x3 x4 (x4 + 1) m Q))))
def wq_225_26 (x2 : Int) (x3 : Int) (x4 : Int) (m : hy_m) (Q : Int → hy_m → Prop) : Prop := wL2 hy_m (wf_225_26 x2 Q) x3 x4 m
def wq_225 (x1 : Int) (m : hy_m) (Q : Int → hy_m → Prop) : Prop := wq_205 x1 m (fun r1 m1 => (r1 ≠ 0 → (wq_206 x1 m1 (fun r2 m2 => 0 ≤ r2 ∧ r2 < 28 ∧ (wq_225_26 (m2 81 r2) 0 0 m2 Q)))) ∧ (r1 = 0 → (Q (-1) m1)))
theorem wc_224_r74_0t_0t (x1 : Int) (x2 : Int) (s : sS) (R : Int → hy_m → Prop) (h : wq_224 x1 x2 s.2.2.2 R) : we_224 [(5, true, 74), (0, true, x1), (0, true, x2)] s R := h
def cs_225 : List (Nat × Nat × sFS) := [(205, 2, .inl we_205), (206, 0, .inl we_206), (211, 2, .inl we_211), (224, 2, .inl we_224)]
theorem cs_225_ok : kCs dM 2 cs_225 := (kCs_c (Or.inr (Or.inr (Or.inl rfl))) (we_205_ok.deep (by decide)) (kCs_c (Or.inl rfl) (we_206_ok.deep (by decide)) (kCs_c (Or.inr (Or.inr (Or.inl rfl))) (we_211_ok.deep (by decide)) (kCs_c (Or.inr (Or.inr (Or.inl rfl))) (we_224_ok.deep (by decide)) kCs_n))))
def lb_225_43 (s : sS) (Q : sQ) (P26 : Int → Int → hy_m → Prop) (P43 : Int → Int → hy_m → Prop) (R : Int → hy_m → Prop) (x2 : Int) (x3 : Int) (x4 : Int) (x5 : Int) : Nat → Option (sL → sS → Prop) := sLb [(26, fun lv t => sG [(0, 5, 74), (2, 0, 0), (3, 0, 0), (4, 0, 0)] lv (ap3 (fun w2 w3 w4 => ∃ m', t = sM s m' ∧ w2 = x2 ∧ P26 w3 w4 m'))), (43, fun lv t => sG [(0, 5, 74), (2, 0, 0), (3, 0, 0), (4, 0, 0), (5, 0, 0)] lv (ap4 (fun w2 w3 w4 w5 => ∃ m', t = sM s m' ∧ w2 = x2 ∧ w4 = x4 ∧ P43 w3 w5 m')))]
set_option maxRecDepth 30000 in
set_option maxHeartbeats 1000000 in
theorem wj_225_43 (Q : sQ) (R : Int → hy_m → Prop) (s : sS) (P26 : Int → Int → hy_m → Prop) (P43 : Int → Int → hy_m → Prop) (x2 : Int) (x3 : Int) (x4 : Int) (x5 : Int) (m : hy_m) (hP26 : ∀ (z3 z4 : Int) (m : hy_m), P26 z3 z4 m → sRg [(0, 5, 74), (2, 0, 0), (3, 0, 0), (4, 0, 0)] [x2, z3, z4] → kX dM 2 im_m225 0 26 (sCan [(0, 5, 74), (2, 0, 0), (3, 0, 0), (4, 0, 0)] [x2, z3, z4]) [] (sM s m) Q) (hP43 : ∀ (z3 z5 : Int) (m : hy_m), P43 z3 z5 m → sRg [(0, 5, 74), (2, 0, 0), (3, 0, 0), (4, 0, 0), (5, 0, 0)] [x2, z3, x4, z5] → kX dM 2 im_m225 0 43 (sCan [(0, 5, 74), (2, 0, 0), (3, 0, 0), (4, 0, 0), (5, 0, 0)] [x2, z3, x4, z5]) [] (sM s m) Q) (hQ : ∀ x m', R x m' → Q x (sM s m')) (hr : sRg [(0, 5, 74), (2, 0, 0), (3, 0, 0), (4, 0, 0), (5, 0, 0)] [x2, x3, x4, x5]) (h : wf_225_43 P26 x2 x4 R P43 x3 x5 m) : kX dM 2 im_m225 0 43 (sCan [(0, 5, 74), (2, 0, 0), (3, 0, 0), (4, 0, 0), (5, 0, 0)] [x2, x3, x4, x5]) [] (sM s m) Q := by
  unfold wf_225_43 at h
  refine wz2_ok (cs := cs_225) (wr := []) (lb := lb_225_43 s Q P26 P43 R x2 x3 x4 x5) cs_225_ok (kLb_c (kLab (Bd := fun xs t => ap3 (fun w2 w3 w4 => ∃ m', t = sM s m' ∧ w2 = x2 ∧ P26 w3 w4 m') xs) rfl (fun xs t r1 r2 hb => by obtain ⟨w2, w3, w4, rfl, hb⟩ := ap3_ok hb; obtain ⟨m', rfl, rfl, hx⟩ := hb; exact hP26 _ _ m' hx r1)) (kLb_c (kLab (Bd := fun xs t => ap4 (fun w2 w3 w4 w5 => ∃ m', t = sM s m' ∧ w2 = x2 ∧ w4 = x4 ∧ P43 w3 w5 m') xs) rfl (fun xs t r1 r2 hb => by obtain ⟨w2, w3, w4, w5, rfl, hb⟩ := ap4_ok hb; obtain ⟨m', rfl, rfl, rfl, hx⟩ := hb; exact hP43 _ _ m' hx r1)) kLb_n)) (okL_can rfl hr) (fun Y hY hl => ?_)
  have l26 := hl 26 _ rfl
  have l43 := hl 43 _ rfl
  refine hY _ _ _ _ (hY _ _ _ _ (hY _ _ _ _ (?_ : Y 49 [(0, 5, true, 74), (2, 0, true, x2), (3, 0, true, x3), (4, 0, true, x4), (5, 0, true, x5)] [(5, true, 85), (0, true, x5)] (sM s m))))
  refine hY _ _ _ _ (?_ : Y 50 [(0, 5, true, 74), (2, 0, true, x2), (3, 0, true, x3), (4, 0, true, x4), (5, 0, true, x5)] [(2, true, 0), (5, true, 85), (0, true, x5)] (sM s m))
  refine hY _ _ _ _ ?_
  refine (And.intro h.1 (And.intro h.2.1 ?_))
  show Y 51 [(0, 5, true, 74), (2, 0, true, x2), (3, 0, true, x3), (4, 0, true, x4), (5, 0, true, x5)] [(0, true, m 85 0), (0, true, x5)] (sM s m)
  refine hY _ _ _ _ ?_
  refine And.intro (fun hc => ?_) (fun hc => ?_)
  · have h := h.2.2.1 hc
    refine hY _ _ _ _ (hY _ _ _ _ (?_ : Y 26 [(4, 0, false, x4 + 1), (0, 5, true, 74), (2, 0, true, x2), (3, 0, true, x3), (5, 0, true, x5)] [] (sM s m)))
    refine l26 _ _ ?_
    refine And.intro h.1 ?_
    exact (Exists.intro m (And.intro rfl (And.intro rfl h.2)))
  · have h := h.2.2.2 hc
    refine hY _ _ _ _ (hY _ _ _ _ (hY _ _ _ _ (?_ : Y 59 [(0, 5, true, 74), (2, 0, true, x2), (3, 0, true, x3), (4, 0, true, x4), (5, 0, true, x5)] [(5, true, 74), (5, true, 81)] (sM s m))))
    refine hY _ _ _ _ (?_ : Y 61 [(0, 5, true, 74), (2, 0, true, x2), (3, 0, true, x3), (4, 0, true, x4), (5, 0, true, x5)] [(0, true, x4), (5, true, 74), (5, true, 81)] (sM s m))
    refine hY _ _ _ _ ?_
    refine Exists.intro _ (And.intro (wc_206_r74_0t x4 _ _ h) (fun r1 m1 h => ?_))
    show Y 64 [(0, 5, true, 74), (2, 0, true, x2), (3, 0, true, x3), (4, 0, true, x4), (5, 0, true, x5)] [(0, true, r1), (5, true, 81)] (sM s m1)
    refine hY _ _ _ _ ?_
    refine (And.intro h.1 (And.intro h.2.1 ?_))
    refine hY _ _ _ _ (hY _ _ _ _ (hY _ _ _ _ (?_ : Y 71 [(6, 0, true, m1 81 r1), (0, 5, true, 74), (2, 0, true, x2), (3, 0, true, x3), (4, 0, true, x4), (5, 0, true, x5)] [(5, true, 81)] (sM s m1))))
    refine hY _ _ _ _ (hY _ _ _ _ (?_ : Y 74 [(6, 0, true, m1 81 r1), (0, 5, true, 74), (2, 0, true, x2), (3, 0, true, x3), (4, 0, true, x4), (5, 0, true, x5)] [(0, true, x5), (5, true, 74), (5, true, 81)] (sM s m1)))
    refine hY _ _ _ _ ?_
    refine Exists.intro _ (And.intro (wc_206_r74_0t x5 _ _ h.2.2) (fun r2 m2 h => ?_))
    show Y 77 [(6, 0, true, m1 81 r1), (0, 5, true, 74), (2, 0, true, x2), (3, 0, true, x3), (4, 0, true, x4), (5, 0, true, x5)] [(0, true, r2), (5, true, 81)] (sM s m2)
    refine hY _ _ _ _ ?_
    refine (And.intro h.1 (And.intro h.2.1 ?_))
    refine hY _ _ _ _ (hY _ _ _ _ (hY _ _ _ _ (?_ : Y 82 [(7, 0, true, m2 81 r2), (6, 0, true, m1 81 r1), (0, 5, true, 74), (2, 0, true, x2), (3, 0, true, x3), (4, 0, true, x4), (5, 0, true, x5)] [(0, true, x2), (5, true, 74)] (sM s m2))))
    refine hY _ _ _ _ (?_ : Y 84 [(7, 0, true, m2 81 r2), (6, 0, true, m1 81 r1), (0, 5, true, 74), (2, 0, true, x2), (3, 0, true, x3), (4, 0, true, x4), (5, 0, true, x5)] [(0, true, m1 81 r1), (0, true, x2), (5, true, 74)] (sM s m2))
    refine hY _ _ _ _ ?_
    refine Exists.intro _ (And.intro (wc_211_r74_0t_0t x2 (m1 81 r1) _ _ h.2.2) (fun r3 m3 h => ?_))
    show Y 87 [(7, 0, true, m2 81 r2), (6, 0, true, m1 81 r1), (0, 5, true, 74), (2, 0, true, x2), (3, 0, true, x3), (4, 0, true, x4), (5, 0, true, x5)] [(2, true, r3)] (sM s m3)
    refine hY _ _ _ _ ?_
    refine And.intro (fun hc => ?_) (fun hc => ?_)
    · have h := h.1 hc
      refine hY _ _ _ _ (hY _ _ _ _ (?_ : Y 43 [(5, 0, false, x5 + 1), (7, 0, true, m2 81 r2), (6, 0, true, m1 81 r1), (0, 5, true, 74), (2, 0, true, x2), (3, 0, true, x3), (4, 0, true, x4)] [] (sM s m3)))
      refine l43 _ _ ?_
      refine And.intro h.1 ?_
      exact (Exists.intro m3 (And.intro rfl (And.intro rfl (And.intro rfl h.2))))
    · have h := h.2 hc
      refine hY _ _ _ _ (hY _ _ _ _ (hY _ _ _ _ (?_ : Y 94 [(7, 0, true, m2 81 r2), (6, 0, true, m1 81 r1), (0, 5, true, 74), (2, 0, true, x2), (3, 0, true, x3), (4, 0, true, x4), (5, 0, true, x5)] [(0, true, m2 81 r2), (0, true, x2), (5, true, 74)] (sM s m3))))
      refine hY _ _ _ _ ?_
      refine Exists.intro _ (And.intro (wc_211_r74_0t_0t x2 (m2 81 r2) _ _ h) (fun r4 m4 h => ?_))
      show Y 97 [(7, 0, true, m2 81 r2), (6, 0, true, m1 81 r1), (0, 5, true, 74), (2, 0, true, x2), (3, 0, true, x3), (4, 0, true, x4), (5, 0, true, x5)] [(2, true, r4)] (sM s m4)
      refine hY _ _ _ _ ?_
      refine And.intro (fun hc => ?_) (fun hc => ?_)
      · have h := h.1 hc
        refine hY _ _ _ _ (hY _ _ _ _ (?_ : Y 43 [(5, 0, false, x5 + 1), (7, 0, true, m2 81 r2), (6, 0, true, m1 81 r1), (0, 5, true, 74), (2, 0, true, x2), (3, 0, true, x3), (4, 0, true, x4)] [] (sM s m4)))
        refine l43 _ _ ?_
        refine And.intro h.1 ?_
        exact (Exists.intro m4 (And.intro rfl (And.intro rfl (And.intro rfl h.2))))
      · have h := h.2 hc
        refine hY _ _ _ _ (hY _ _ _ _ (hY _ _ _ _ (?_ : Y 105 [(7, 0, true, m2 81 r2), (6, 0, true, m1 81 r1), (0, 5, true, 74), (2, 0, true, x2), (3, 0, true, x3), (4, 0, true, x4), (5, 0, true, x5)] [(5, true, 78), (0, true, x3)] (sM s m4))))
        refine hY _ _ _ _ (?_ : Y 106 [(7, 0, true, m2 81 r2), (6, 0, true, m1 81 r1), (0, 5, true, 74), (2, 0, true, x2), (3, 0, true, x3), (4, 0, true, x4), (5, 0, true, x5)] [(0, true, x2), (5, true, 78), (0, true, x3)] (sM s m4))
        refine hY _ _ _ _ ?_
        refine (And.intro h.1 (And.intro h.2.1 ?_))
        show Y 107 [(7, 0, true, m2 81 r2), (6, 0, true, m1 81 r1), (0, 5, true, 74), (2, 0, true, x2), (3, 0, true, x3), (4, 0, true, x4), (5, 0, true, x5)] [(0, true, m4 78 x2), (0, true, x3)] (sM s m4)
        refine hY _ _ _ _ ?_
        refine And.intro (fun hc => ?_) (fun hc => ?_)
        · have h := h.2.2.1 hc
          refine hY _ _ _ _ (hY _ _ _ _ (hY _ _ _ _ (?_ : Y 141 [(7, 0, true, m2 81 r2), (6, 0, true, m1 81 r1), (0, 5, true, 74), (2, 0, true, x2), (3, 0, true, x3), (4, 0, true, x4), (5, 0, true, x5)] [(0, false, x3 + 1)] (sM s m4))))
          refine hY _ _ _ _ (hY _ _ _ _ (hY _ _ _ _ (?_ : Y 43 [(5, 0, false, x5 + 1), (3, 0, false, x3 + 1), (7, 0, true, m2 81 r2), (6, 0, true, m1 81 r1), (0, 5, true, 74), (2, 0, true, x2), (4, 0, true, x4)] [] (sM s m4))))
          refine l43 _ _ ?_
          refine And.intro h.1 ?_
          refine And.intro h.2.1 ?_
          exact (Exists.intro m4 (And.intro rfl (And.intro rfl (And.intro rfl h.2.2))))
        · have h := h.2.2.2 hc
          refine hY _ _ _ _ (hY _ _ _ _ (hY _ _ _ _ (?_ : Y 115 [(7, 0, true, m2 81 r2), (6, 0, true, m1 81 r1), (0, 5, true, 74), (2, 0, true, x2), (3, 0, true, x3), (4, 0, true, x4), (5, 0, true, x5)] [(5, true, 79), (5, true, 74), (0, true, x3)] (sM s m4))))
          refine hY _ _ _ _ (hY _ _ _ _ (hY _ _ _ _ (?_ : Y 119 [(7, 0, true, m2 81 r2), (6, 0, true, m1 81 r1), (0, 5, true, 74), (2, 0, true, x2), (3, 0, true, x3), (4, 0, true, x4), (5, 0, true, x5)] [(0, false, 3 * (m1 81 r1)), (5, true, 79), (5, true, 74), (0, true, x3)] (sM s m4))))
          refine hY _ _ _ _ ?_
          refine (And.intro h.1 (And.intro h.2.1 ?_))
          refine hY _ _ _ _ (hY _ _ _ _ (hY _ _ _ _ (?_ : Y 125 [(7, 0, true, m2 81 r2), (6, 0, true, m1 81 r1), (0, 5, true, 74), (2, 0, true, x2), (3, 0, true, x3), (4, 0, true, x4), (5, 0, true, x5)] [(0, true, 3), (5, true, 79), (0, true, m4 79 (3 * (m1 81 r1))), (5, true, 74), (0, true, x3)] (sM s m4))))
          refine hY _ _ _ _ (hY _ _ _ _ (?_ : Y 128 [(7, 0, true, m2 81 r2), (6, 0, true, m1 81 r1), (0, 5, true, 74), (2, 0, true, x2), (3, 0, true, x3), (4, 0, true, x4), (5, 0, true, x5)] [(0, false, 3 * (m2 81 r2)), (5, true, 79), (0, true, m4 79 (3 * (m1 81 r1))), (5, true, 74), (0, true, x3)] (sM s m4)))
          refine hY _ _ _ _ ?_
          refine (And.intro h.2.2.1 (And.intro h.2.2.2.1 ?_))
          show Y 129 [(7, 0, true, m2 81 r2), (6, 0, true, m1 81 r1), (0, 5, true, 74), (2, 0, true, x2), (3, 0, true, x3), (4, 0, true, x4), (5, 0, true, x5)] [(0, true, m4 79 (3 * (m2 81 r2))), (0, true, m4 79 (3 * (m1 81 r1))), (5, true, 74), (0, true, x3)] (sM s m4)
          refine hY _ _ _ _ ?_
          refine Exists.intro _ (And.intro (wc_224_r74_0t_0t (m4 79 (3 * (m1 81 r1))) (m4 79 (3 * (m2 81 r2))) _ _ h.2.2.2.2) (fun r5 m5 h => ?_))
          show Y 132 [(7, 0, true, m2 81 r2), (6, 0, true, m1 81 r1), (0, 5, true, 74), (2, 0, true, x2), (3, 0, true, x3), (4, 0, true, x4), (5, 0, true, x5)] [(2, true, r5), (0, true, x3)] (sM s m5)
          refine hY _ _ _ _ ?_
          refine And.intro (fun hc => ?_) (fun hc => ?_)
          · have h := h.1 hc
            refine hY _ _ _ _ (hY _ _ _ _ (hY _ _ _ _ (?_ : Y 142 [(3, 0, false, x3 + 0), (7, 0, true, m2 81 r2), (6, 0, true, m1 81 r1), (0, 5, true, 74), (2, 0, true, x2), (4, 0, true, x4), (5, 0, true, x5)] [] (sM s m5))))
            refine hY _ _ _ _ (hY _ _ _ _ (?_ : Y 43 [(5, 0, false, x5 + 1), (3, 0, false, x3 + 0), (7, 0, true, m2 81 r2), (6, 0, true, m1 81 r1), (0, 5, true, 74), (2, 0, true, x2), (4, 0, true, x4)] [] (sM s m5)))
            refine l43 _ _ ?_
            refine And.intro h.1 ?_
            refine And.intro h.2.1 ?_
            exact (Exists.intro m5 (And.intro rfl (And.intro rfl (And.intro rfl h.2.2))))
          · have h := h.2 hc
            refine hY _ _ _ _ (hY _ _ _ _ (hY _ _ _ _ (?_ : Y 141 [(7, 0, true, m2 81 r2), (6, 0, true, m1 81 r1), (0, 5, true, 74), (2, 0, true, x2), (3, 0, true, x3), (4, 0, true, x4), (5, 0, true, x5)] [(0, false, x3 + 1)] (sM s m5))))
            refine hY _ _ _ _ (hY _ _ _ _ (hY _ _ _ _ (?_ : Y 43 [(5, 0, false, x5 + 1), (3, 0, false, x3 + 1), (7, 0, true, m2 81 r2), (6, 0, true, m1 81 r1), (0, 5, true, 74), (2, 0, true, x2), (4, 0, true, x4)] [] (sM s m5))))
            refine l43 _ _ ?_
            refine And.intro h.1 ?_
            refine And.intro h.2.1 ?_
            exact (Exists.intro m5 (And.intro rfl (And.intro rfl (And.intro rfl h.2.2))))
theorem wk_225_43 (Q : sQ) (R : Int → hy_m → Prop) (s : sS) (P26 : Int → Int → hy_m → Prop) (x2 : Int) (x3 : Int) (x4 : Int) (x5 : Int) (hP26 : ∀ (z3 z4 : Int) (m : hy_m), P26 z3 z4 m → sRg [(0, 5, 74), (2, 0, 0), (3, 0, 0), (4, 0, 0)] [x2, z3, z4] → kX dM 2 im_m225 0 26 (sCan [(0, 5, 74), (2, 0, 0), (3, 0, 0), (4, 0, 0)] [x2, z3, z4]) [] (sM s m) Q) (hQ : ∀ x m', R x m' → Q x (sM s m')) (hr : sRg [(0, 5, 74), (2, 0, 0), (3, 0, 0), (4, 0, 0), (5, 0, 0)] [x2, x3, x4, x5]) (h : wq_225_43 P26 x2 x3 x4 x5 s.2.2.2 R) : kX dM 2 im_m225 0 43 (sCan [(0, 5, 74), (2, 0, 0), (3, 0, 0), (4, 0, 0), (5, 0, 0)] [x2, x3, x4, x5]) [] s Q :=
  h (fun x3 x5 m => sRg [(0, 5, 74), (2, 0, 0), (3, 0, 0), (4, 0, 0), (5, 0, 0)] [x2, x3, x4, x5] → kX dM 2 im_m225 0 43 (sCan [(0, 5, 74), (2, 0, 0), (3, 0, 0), (4, 0, 0), (5, 0, 0)] [x2, x3, x4, x5]) [] (sM s m) Q) (fun x3 x5 m h hr => wj_225_43 Q R s P26 (fun x3 x5 m => sRg [(0, 5, 74), (2, 0, 0), (3, 0, 0), (4, 0, 0), (5, 0, 0)] [x2, x3, x4, x5] → kX dM 2 im_m225 0 43 (sCan [(0, 5, 74), (2, 0, 0), (3, 0, 0), (4, 0, 0), (5, 0, 0)] [x2, x3, x4, x5]) [] (sM s m) Q) x2 x3 x4 x5 m  hP26 (fun _ _ _ hp hr => hp hr) hQ hr h) hr
def lb_225_26 (s : sS) (Q : sQ) (P26 : Int → Int → hy_m → Prop) (R : Int → hy_m → Prop) (x2 : Int) (x3 : Int) (x4 : Int) : Nat → Option (sL → sS → Prop) := sLb [(43, fun lv t => sG [(0, 5, 74), (2, 0, 0), (3, 0, 0), (4, 0, 0), (5, 0, 0)] lv (ap4 (fun w2 w3 w4 w5 => ∃ m', t = sM s m' ∧ w2 = x2 ∧ wq_225_43 P26 w2 w3 w4 w5 m' R))), (26, fun lv t => sG [(0, 5, 74), (2, 0, 0), (3, 0, 0), (4, 0, 0)] lv (ap3 (fun w2 w3 w4 => ∃ m', t = sM s m' ∧ w2 = x2 ∧ P26 w3 w4 m')))]
set_option maxRecDepth 30000 in
set_option maxHeartbeats 1000000 in
theorem wj_225_26 (Q : sQ) (R : Int → hy_m → Prop) (s : sS) (P26 : Int → Int → hy_m → Prop) (x2 : Int) (x3 : Int) (x4 : Int) (m : hy_m) (hP26 : ∀ (z3 z4 : Int) (m : hy_m), P26 z3 z4 m → sRg [(0, 5, 74), (2, 0, 0), (3, 0, 0), (4, 0, 0)] [x2, z3, z4] → kX dM 2 im_m225 0 26 (sCan [(0, 5, 74), (2, 0, 0), (3, 0, 0), (4, 0, 0)] [x2, z3, z4]) [] (sM s m) Q) (hQ : ∀ x m', R x m' → Q x (sM s m')) (hr : sRg [(0, 5, 74), (2, 0, 0), (3, 0, 0), (4, 0, 0)] [x2, x3, x4]) (h : wf_225_26 x2 R P26 x3 x4 m) : kX dM 2 im_m225 0 26 (sCan [(0, 5, 74), (2, 0, 0), (3, 0, 0), (4, 0, 0)] [x2, x3, x4]) [] (sM s m) Q := by
  unfold wf_225_26 at h
  refine wz2_ok (cs := cs_225) (wr := []) (lb := lb_225_26 s Q P26 R x2 x3 x4) cs_225_ok (kLb_c (kLab (Bd := fun xs t => ap4 (fun w2 w3 w4 w5 => ∃ m', t = sM s m' ∧ w2 = x2 ∧ wq_225_43 P26 w2 w3 w4 w5 m' R) xs) rfl (fun xs t r1 r2 hb => by obtain ⟨w2, w3, w4, w5, rfl, hb⟩ := ap4_ok hb; obtain ⟨m', rfl, rfl, hx⟩ := hb; exact wk_225_43 Q R (sM s m') P26 _ _ _ _ hP26 (fun x m'' hy => hQ x m'' hy) r1 hx)) (kLb_c (kLab (Bd := fun xs t => ap3 (fun w2 w3 w4 => ∃ m', t = sM s m' ∧ w2 = x2 ∧ P26 w3 w4 m') xs) rfl (fun xs t r1 r2 hb => by obtain ⟨w2, w3, w4, rfl, hb⟩ := ap3_ok hb; obtain ⟨m', rfl, rfl, hx⟩ := hb; exact hP26 _ _ m' hx r1)) kLb_n)) (okL_can rfl hr) (fun Y hY hl => ?_)
  have l43 := hl 43 _ rfl
  have l26 := hl 26 _ rfl
  refine hY _ _ _ _ (hY _ _ _ _ (hY _ _ _ _ (?_ : Y 32 [(0, 5, true, 74), (2, 0, true, x2), (3, 0, true, x3), (4, 0, true, x4)] [(5, true, 85), (0, true, x4)] (sM s m))))
  refine hY _ _ _ _ (?_ : Y 33 [(0, 5, true, 74), (2, 0, true, x2), (3, 0, true, x3), (4, 0, true, x4)] [(2, true, 0), (5, true, 85), (0, true, x4)] (sM s m))
  refine hY _ _ _ _ ?_
  refine (And.intro h.1 (And.intro h.2.1 ?_))
  show Y 34 [(0, 5, true, 74), (2, 0, true, x2), (3, 0, true, x3), (4, 0, true, x4)] [(0, true, m 85 0), (0, true, x4)] (sM s m)
  refine hY _ _ _ _ ?_
  refine And.intro (fun hc => ?_) (fun hc => ?_)
  · have h := h.2.2.1 hc
    refine hY _ _ _ _ (?_ : Y 155 [(0, 5, true, 74), (2, 0, true, x2), (3, 0, true, x3), (4, 0, true, x4)] [(0, true, x3)] (sM s m))
    refine hY _ _ _ _ ?_
    exact hQ x3 m h
  · have h := h.2.2.2 hc
    refine hY _ _ _ _ (hY _ _ _ _ (hY _ _ _ _ (?_ : Y 41 [(0, 5, true, 74), (2, 0, true, x2), (3, 0, true, x3), (4, 0, true, x4)] [(0, false, x4 + 1)] (sM s m))))
    refine hY _ _ _ _ (?_ : Y 43 [(5, 0, false, x4 + 1), (0, 5, true, 74), (2, 0, true, x2), (3, 0, true, x3), (4, 0, true, x4)] [] (sM s m))
    refine l43 _ _ ?_
    refine And.intro h.1 ?_
    exact (Exists.intro m (And.intro rfl (And.intro rfl h.2)))
theorem wk_225_26 (Q : sQ) (R : Int → hy_m → Prop) (s : sS) (x2 : Int) (x3 : Int) (x4 : Int) (hQ : ∀ x m', R x m' → Q x (sM s m')) (hr : sRg [(0, 5, 74), (2, 0, 0), (3, 0, 0), (4, 0, 0)] [x2, x3, x4]) (h : wq_225_26 x2 x3 x4 s.2.2.2 R) : kX dM 2 im_m225 0 26 (sCan [(0, 5, 74), (2, 0, 0), (3, 0, 0), (4, 0, 0)] [x2, x3, x4]) [] s Q :=
  h (fun x3 x4 m => sRg [(0, 5, 74), (2, 0, 0), (3, 0, 0), (4, 0, 0)] [x2, x3, x4] → kX dM 2 im_m225 0 26 (sCan [(0, 5, 74), (2, 0, 0), (3, 0, 0), (4, 0, 0)] [x2, x3, x4]) [] (sM s m) Q) (fun x3 x4 m h hr => wj_225_26 Q R s (fun x3 x4 m => sRg [(0, 5, 74), (2, 0, 0), (3, 0, 0), (4, 0, 0)] [x2, x3, x4] → kX dM 2 im_m225 0 26 (sCan [(0, 5, 74), (2, 0, 0), (3, 0, 0), (4, 0, 0)] [x2, x3, x4]) [] (sM s m) Q) x2 x3 x4 m  (fun _ _ _ hp hr => hp hr) hQ hr h) hr
def lb_225_0 (s : sS) (Q : sQ) (R : Int → hy_m → Prop) (x1 : Int) : Nat → Option (sL → sS → Prop) := sLb [(26, fun lv t => sG [(0, 5, 74), (2, 0, 0), (3, 0, 0), (4, 0, 0)] lv (ap3 (fun w2 w3 w4 => ∃ m', t = sM s m' ∧ wq_225_26 w2 w3 w4 m' R)))]
set_option maxRecDepth 30000 in
set_option maxHeartbeats 1000000 in
theorem wk_225_0 (Q : sQ) (R : Int → hy_m → Prop) (s : sS) (x1 : Int) (hQ : ∀ x m', R x m' → Q x (sM s m')) (hr : sRg [(0, 5, 74), (1, 0, 0)] [x1]) (h : wq_225 x1 s.2.2.2 R) : kX dM 2 im_m225 0 0 (sCan [(0, 5, 74), (1, 0, 0)] [x1]) [] s Q := by
  unfold wq_225 at h
  refine wz2_ok (cs := cs_225) (wr := []) (lb := lb_225_0 s Q R x1) cs_225_ok (kLb_c (kLab (Bd := fun xs t => ap3 (fun w2 w3 w4 => ∃ m', t = sM s m' ∧ wq_225_26 w2 w3 w4 m' R) xs) rfl (fun xs t r1 r2 hb => by obtain ⟨w2, w3, w4, rfl, hb⟩ := ap3_ok hb; obtain ⟨m', rfl, hx⟩ := hb; exact wk_225_26 Q R (sM s m') _ _ _ (fun x m'' hy => hQ x m'' hy) r1 hx)) kLb_n) (okL_can rfl hr) (fun Y hY hl => ?_)
  have l26 := hl 26 _ rfl
  refine hY _ _ _ _ (hY _ _ _ _ (?_ : Y 2 [(0, 5, true, 74), (1, 0, true, x1)] [(0, true, x1), (5, true, 74)] s))
  refine hY _ _ _ _ ?_
  refine Exists.intro _ (And.intro (wc_205_r74_0t x1 _ _ h) (fun r1 m1 h => ?_))
  show Y 5 [(0, 5, true, 74), (1, 0, true, x1)] [(2, true, r1)] (sM s m1)
  refine hY _ _ _ _ ?_
  refine And.intro (fun hc => ?_) (fun hc => ?_)
  · have h := h.1 hc
    refine hY _ _ _ _ (hY _ _ _ _ (hY _ _ _ _ (?_ : Y 15 [(0, 5, true, 74), (1, 0, true, x1)] [(5, true, 74), (5, true, 81)] (sM s m1))))
    refine hY _ _ _ _ (?_ : Y 16 [(0, 5, true, 74), (1, 0, true, x1)] [(0, true, x1), (5, true, 74), (5, true, 81)] (sM s m1))
    refine hY _ _ _ _ ?_
    refine Exists.intro _ (And.intro (wc_206_r74_0t x1 _ _ h) (fun r2 m2 h => ?_))
    show Y 19 [(0, 5, true, 74), (1, 0, true, x1)] [(0, true, r2), (5, true, 81)] (sM s m2)
    refine hY _ _ _ _ ?_
    refine (And.intro h.1 (And.intro h.2.1 ?_))
    refine hY _ _ _ _ (hY _ _ _ _ (hY _ _ _ _ (?_ : Y 23 [(3, 2, true, 0), (2, 0, true, m2 81 r2), (0, 5, true, 74), (1, 0, true, x1)] [] (sM s m2))))
    refine hY _ _ _ _ (hY _ _ _ _ (?_ : Y 26 [(4, 2, true, 0), (3, 2, true, 0), (2, 0, true, m2 81 r2), (0, 5, true, 74), (1, 0, true, x1)] [] (sM s m2)))
    refine l26 _ _ ?_
    exact (Exists.intro m2 (And.intro rfl h.2.2))
  · have h := h.2 hc
    refine hY _ _ _ _ (?_ : Y 9 [(0, 5, true, 74), (1, 0, true, x1)] [(0, true, (-1))] (sM s m1))
    refine hY _ _ _ _ ?_
    exact hQ (-1) m1 h
def we_225 : sFf := sEf 8 [(0, 5, 74), (1, 0, 0)] (fun xs s Q => ap1 (fun x1 => wq_225 x1 s.2.2.2 Q) xs)
theorem we_225_ok : kS dM 3 225 0 (.inl we_225) := sEf_ok (mi := im_m225) rfl rfl rfl (fun R xs s r1 hb => by obtain ⟨x1, rfl, hb⟩ := ap1_ok hb; exact wk_225_0 _ R s x1 (fun x m' hx => ⟨m', rfl, hx⟩) r1 hb)
/-- LMModel.mentions(II)Z -/
def wf_226_24 (P2 : Int → hy_m → Prop) (x1 : Int) (x2 : Int) (x3 : Int) (Q : Int → hy_m → Prop) (P24 : Int → hy_m → Prop) (x4 : Int) (m : hy_m) : Prop := (x4 = (-9) → (hy_r 0 (x3 + 1) ∧ (P2 (x3 + 1) m))) ∧ (x4 ≠ (-9) → (wq_211 x2 x4 m (fun r1 m1 => (r1 = 0 → (wq_216 x4 m1 (fun r2 m2 => P24 r2 m2))) ∧ (r1 ≠ 0 → (Q 1 m1)))))
def wq_226_24 (P2 : Int → hy_m → Prop) (x1 : Int) (x2 : Int) (x3 : Int) (x4 : Int) (m : hy_m) (Q : Int → hy_m → Prop) : Prop := wL1 hy_m (wf_226_24 P2 x1 x2 x3 Q) x4 m
def wf_226_2 (x1 : Int) (x2 : Int) (Q : Int → hy_m → Prop) (P2 : Int → hy_m → Prop) (x3 : Int) (m : hy_m) : Prop := 0 ≤ x1 ∧ x1 < 28 ∧ (((m 82 x1) ≤ x3 → (Q 0 m)) ∧ (x3 < (m 82 x1) → (0 ≤ ((5 * x1) + x3) ∧ ((5 * x1) + x3) < 140 ∧ (wq_226_24 P2 x1 x2 x3 (m 83 ((5 * x1) + x3)) m Q))))
def wq_226_2 (x1 : Int) (x2 : Int) (x3 : Int) (m : hy_m) (Q : Int → hy_m → Prop) : Prop := wL1 hy_m (wf_226_2 x1 x2 Q) x3 m
def wq_226 (x1 : Int) (x2 : Int) (m : hy_m) (Q : Int → hy_m → Prop) : Prop := wq_226_2 x1 x2 0 m Q
def cs_226 : List (Nat × Nat × sFS) := [(211, 2, .inl we_211), (216, 0, .inl we_216)]
theorem cs_226_ok : kCs dM 4 cs_226 := (kCs_c (Or.inr (Or.inr (Or.inl rfl))) (we_211_ok.deep (by decide)) (kCs_c (Or.inl rfl) (we_216_ok.deep (by decide)) kCs_n))
def lb_226_24 (s : sS) (Q : sQ) (P2 : Int → hy_m → Prop) (P24 : Int → hy_m → Prop) (R : Int → hy_m → Prop) (x1 : Int) (x2 : Int) (x3 : Int) (x4 : Int) : Nat → Option (sL → sS → Prop) := sLb [(2, fun lv t => sG [(0, 5, 74), (1, 0, 0), (2, 0, 0), (3, 0, 0)] lv (ap3 (fun w1 w2 w3 => ∃ m', t = sM s m' ∧ w1 = x1 ∧ w2 = x2 ∧ P2 w3 m'))), (24, fun lv t => sG [(0, 5, 74), (1, 0, 0), (2, 0, 0), (3, 0, 0), (4, 0, 0)] lv (ap4 (fun w1 w2 w3 w4 => ∃ m', t = sM s m' ∧ w1 = x1 ∧ w2 = x2 ∧ w3 = x3 ∧ P24 w4 m')))]
set_option maxRecDepth 30000 in
set_option maxHeartbeats 1000000 in
theorem wj_226_24 (Q : sQ) (R : Int → hy_m → Prop) (s : sS) (P2 : Int → hy_m → Prop) (P24 : Int → hy_m → Prop) (x1 : Int) (x2 : Int) (x3 : Int) (x4 : Int) (m : hy_m) (hP2 : ∀ (z3 : Int) (m : hy_m), P2 z3 m → sRg [(0, 5, 74), (1, 0, 0), (2, 0, 0), (3, 0, 0)] [x1, x2, z3] → kX dM 4 im_m226 2 2 (sCan [(0, 5, 74), (1, 0, 0), (2, 0, 0), (3, 0, 0)] [x1, x2, z3]) [] (sM s m) Q) (hP24 : ∀ (z4 : Int) (m : hy_m), P24 z4 m → sRg [(0, 5, 74), (1, 0, 0), (2, 0, 0), (3, 0, 0), (4, 0, 0)] [x1, x2, x3, z4] → kX dM 4 im_m226 2 24 (sCan [(0, 5, 74), (1, 0, 0), (2, 0, 0), (3, 0, 0), (4, 0, 0)] [x1, x2, x3, z4]) [] (sM s m) Q) (hQ : ∀ x m', R x m' → Q x (sM s m')) (hr : sRg [(0, 5, 74), (1, 0, 0), (2, 0, 0), (3, 0, 0), (4, 0, 0)] [x1, x2, x3, x4]) (h : wf_226_24 P2 x1 x2 x3 R P24 x4 m) : kX dM 4 im_m226 2 24 (sCan [(0, 5, 74), (1, 0, 0), (2, 0, 0), (3, 0, 0), (4, 0, 0)] [x1, x2, x3, x4]) [] (sM s m) Q := by
  unfold wf_226_24 at h
  refine wz2_ok (cs := cs_226) (wr := []) (lb := lb_226_24 s Q P2 P24 R x1 x2 x3 x4) cs_226_ok (kLb_c (kLab (Bd := fun xs t => ap3 (fun w1 w2 w3 => ∃ m', t = sM s m' ∧ w1 = x1 ∧ w2 = x2 ∧ P2 w3 m') xs) rfl (fun xs t r1 r2 hb => by obtain ⟨w1, w2, w3, rfl, hb⟩ := ap3_ok hb; obtain ⟨m', rfl, rfl, rfl, hx⟩ := hb; exact hP2 _ m' hx r1)) (kLb_c (kLab (Bd := fun xs t => ap4 (fun w1 w2 w3 w4 => ∃ m', t = sM s m' ∧ w1 = x1 ∧ w2 = x2 ∧ w3 = x3 ∧ P24 w4 m') xs) rfl (fun xs t r1 r2 hb => by obtain ⟨w1, w2, w3, w4, rfl, hb⟩ := ap4_ok hb; obtain ⟨m', rfl, rfl, rfl, rfl, hx⟩ := hb; exact hP24 _ m' hx r1)) kLb_n)) (okL_can rfl hr) (fun Y hY hl => ?_)
  have l2 := hl 2 _ rfl
  have l24 := hl 24 _ rfl
  refine hY _ _ _ _ (hY _ _ _ _ (?_ : Y 28 [(0, 5, true, 74), (1, 0, true, x1), (2, 0, true, x2), (3, 0, true, x3), (4, 0, true, x4)] [(0, true, (-9)), (0, true, x4)] (sM s m)))
  refine hY _ _ _ _ ?_
  refine And.intro (fun hc => ?_) (fun hc => ?_)
  · have h := h.1 hc
    refine hY _ _ _ _ (hY _ _ _ _ (?_ : Y 2 [(3, 0, false, x3 + 1), (0, 5, true, 74), (1, 0, true, x1), (2, 0, true, x2), (4, 0, true, x4)] [] (sM s m)))
    refine l2 _ _ ?_
    refine And.intro h.1 ?_
    exact (Exists.intro m (And.intro rfl (And.intro rfl (And.intro rfl h.2))))
  · have h := h.2 hc
    refine hY _ _ _ _ (hY _ _ _ _ (hY _ _ _ _ (?_ : Y 35 [(0, 5, true, 74), (1, 0, true, x1), (2, 0, true, x2), (3, 0, true, x3), (4, 0, true, x4)] [(0, true, x4), (0, true, x2), (5, true, 74)] (sM s m))))
    refine hY _ _ _ _ ?_
    refine Exists.intro _ (And.intro (wc_211_r74_0t_0t x2 x4 _ _ h) (fun r1 m1 h => ?_))
    show Y 38 [(0, 5, true, 74), (1, 0, true, x1), (2, 0, true, x2), (3, 0, true, x3), (4, 0, true, x4)] [(2, true, r1)] (sM s m1)
    refine hY _ _ _ _ ?_
    refine And.intro (fun hc => ?_) (fun hc => ?_)
    · have h := h.1 hc
      refine hY _ _ _ _ (hY _ _ _ _ (?_ : Y 46 [(0, 5, true, 74), (1, 0, true, x1), (2, 0, true, x2), (3, 0, true, x3), (4, 0, true, x4)] [(0, true, x4), (5, true, 74)] (sM s m1)))
      refine hY _ _ _ _ ?_
      refine Exists.intro _ (And.intro (wc_216_r74_0t x4 _ _ h) (fun r2 m2 h => ?_))
      refine hY _ _ _ _ (hY _ _ _ _ (?_ : Y 24 [(4, 0, true, r2), (0, 5, true, 74), (1, 0, true, x1), (2, 0, true, x2), (3, 0, true, x3)] [] (sM s m2)))
      refine l24 _ _ ?_
      exact (Exists.intro m2 (And.intro rfl (And.intro rfl (And.intro rfl (And.intro rfl h)))))
    · have h := h.2 hc
      refine hY _ _ _ _ (?_ : Y 42 [(0, 5, true, 74), (1, 0, true, x1), (2, 0, true, x2), (3, 0, true, x3), (4, 0, true, x4)] [(2, true, 1)] (sM s m1))
      refine hY _ _ _ _ ?_
      exact hQ 1 m1 h
theorem wk_226_24 (Q : sQ) (R : Int → hy_m → Prop) (s : sS) (P2 : Int → hy_m → Prop) (x1 : Int) (x2 : Int) (x3 : Int) (x4 : Int) (hP2 : ∀ (z3 : Int) (m : hy_m), P2 z3 m → sRg [(0, 5, 74), (1, 0, 0), (2, 0, 0), (3, 0, 0)] [x1, x2, z3] → kX dM 4 im_m226 2 2 (sCan [(0, 5, 74), (1, 0, 0), (2, 0, 0), (3, 0, 0)] [x1, x2, z3]) [] (sM s m) Q) (hQ : ∀ x m', R x m' → Q x (sM s m')) (hr : sRg [(0, 5, 74), (1, 0, 0), (2, 0, 0), (3, 0, 0), (4, 0, 0)] [x1, x2, x3, x4]) (h : wq_226_24 P2 x1 x2 x3 x4 s.2.2.2 R) : kX dM 4 im_m226 2 24 (sCan [(0, 5, 74), (1, 0, 0), (2, 0, 0), (3, 0, 0), (4, 0, 0)] [x1, x2, x3, x4]) [] s Q :=
  h (fun x4 m => sRg [(0, 5, 74), (1, 0, 0), (2, 0, 0), (3, 0, 0), (4, 0, 0)] [x1, x2, x3, x4] → kX dM 4 im_m226 2 24 (sCan [(0, 5, 74), (1, 0, 0), (2, 0, 0), (3, 0, 0), (4, 0, 0)] [x1, x2, x3, x4]) [] (sM s m) Q) (fun x4 m h hr => wj_226_24 Q R s P2 (fun x4 m => sRg [(0, 5, 74), (1, 0, 0), (2, 0, 0), (3, 0, 0), (4, 0, 0)] [x1, x2, x3, x4] → kX dM 4 im_m226 2 24 (sCan [(0, 5, 74), (1, 0, 0), (2, 0, 0), (3, 0, 0), (4, 0, 0)] [x1, x2, x3, x4]) [] (sM s m) Q) x1 x2 x3 x4 m  hP2 (fun _ _ hp hr => hp hr) hQ hr h) hr
def lb_226_2 (s : sS) (Q : sQ) (P2 : Int → hy_m → Prop) (R : Int → hy_m → Prop) (x1 : Int) (x2 : Int) (x3 : Int) : Nat → Option (sL → sS → Prop) := sLb [(24, fun lv t => sG [(0, 5, 74), (1, 0, 0), (2, 0, 0), (3, 0, 0), (4, 0, 0)] lv (ap4 (fun w1 w2 w3 w4 => ∃ m', t = sM s m' ∧ w1 = x1 ∧ w2 = x2 ∧ wq_226_24 P2 w1 w2 w3 w4 m' R))), (2, fun lv t => sG [(0, 5, 74), (1, 0, 0), (2, 0, 0), (3, 0, 0)] lv (ap3 (fun w1 w2 w3 => ∃ m', t = sM s m' ∧ w1 = x1 ∧ w2 = x2 ∧ P2 w3 m')))]
set_option maxRecDepth 30000 in
set_option maxHeartbeats 1000000 in
theorem wj_226_2 (Q : sQ) (R : Int → hy_m → Prop) (s : sS) (P2 : Int → hy_m → Prop) (x1 : Int) (x2 : Int) (x3 : Int) (m : hy_m) (hP2 : ∀ (z3 : Int) (m : hy_m), P2 z3 m → sRg [(0, 5, 74), (1, 0, 0), (2, 0, 0), (3, 0, 0)] [x1, x2, z3] → kX dM 4 im_m226 2 2 (sCan [(0, 5, 74), (1, 0, 0), (2, 0, 0), (3, 0, 0)] [x1, x2, z3]) [] (sM s m) Q) (hQ : ∀ x m', R x m' → Q x (sM s m')) (hr : sRg [(0, 5, 74), (1, 0, 0), (2, 0, 0), (3, 0, 0)] [x1, x2, x3]) (h : wf_226_2 x1 x2 R P2 x3 m) : kX dM 4 im_m226 2 2 (sCan [(0, 5, 74), (1, 0, 0), (2, 0, 0), (3, 0, 0)] [x1, x2, x3]) [] (sM s m) Q := by
  unfold wf_226_2 at h
  refine wz2_ok (cs := cs_226) (wr := []) (lb := lb_226_2 s Q P2 R x1 x2 x3) cs_226_ok (kLb_c (kLab (Bd := fun xs t => ap4 (fun w1 w2 w3 w4 => ∃ m', t = sM s m' ∧ w1 = x1 ∧ w2 = x2 ∧ wq_226_24 P2 w1 w2 w3 w4 m' R) xs) rfl (fun xs t r1 r2 hb => by obtain ⟨w1, w2, w3, w4, rfl, hb⟩ := ap4_ok hb; obtain ⟨m', rfl, rfl, rfl, hx⟩ := hb; exact wk_226_24 Q R (sM s m') P2 _ _ _ _ hP2 (fun x m'' hy => hQ x m'' hy) r1 hx)) (kLb_c (kLab (Bd := fun xs t => ap3 (fun w1 w2 w3 => ∃ m', t = sM s m' ∧ w1 = x1 ∧ w2 = x2 ∧ P2 w3 m') xs) rfl (fun xs t r1 r2 hb => by obtain ⟨w1, w2, w3, rfl, hb⟩ := ap3_ok hb; obtain ⟨m', rfl, rfl, rfl, hx⟩ := hb; exact hP2 _ m' hx r1)) kLb_n)) (okL_can rfl hr) (fun Y hY hl => ?_)
  have l24 := hl 24 _ rfl
  have l2 := hl 2 _ rfl
  refine hY _ _ _ _ (hY _ _ _ _ (hY _ _ _ _ (?_ : Y 7 [(0, 5, true, 74), (1, 0, true, x1), (2, 0, true, x2), (3, 0, true, x3)] [(5, true, 82), (0, true, x3)] (sM s m))))
  refine hY _ _ _ _ (?_ : Y 8 [(0, 5, true, 74), (1, 0, true, x1), (2, 0, true, x2), (3, 0, true, x3)] [(0, true, x1), (5, true, 82), (0, true, x3)] (sM s m))
  refine hY _ _ _ _ ?_
  refine (And.intro h.1 (And.intro h.2.1 ?_))
  show Y 9 [(0, 5, true, 74), (1, 0, true, x1), (2, 0, true, x2), (3, 0, true, x3)] [(0, true, m 82 x1), (0, true, x3)] (sM s m)
  refine hY _ _ _ _ ?_
  refine And.intro (fun hc => ?_) (fun hc => ?_)
  · have h := h.2.2.1 hc
    refine hY _ _ _ _ (?_ : Y 61 [(0, 5, true, 74), (1, 0, true, x1), (2, 0, true, x2), (3, 0, true, x3)] [(2, true, 0)] (sM s m))
    refine hY _ _ _ _ ?_
    exact hQ 0 m h
  · have h := h.2.2.2 hc
    refine hY _ _ _ _ (hY _ _ _ _ (hY _ _ _ _ (?_ : Y 17 [(0, 5, true, 74), (1, 0, true, x1), (2, 0, true, x2), (3, 0, true, x3)] [(0, true, 5), (5, true, 83)] (sM s m))))
    refine hY _ _ _ _ (hY _ _ _ _ (hY _ _ _ _ (?_ : Y 20 [(0, 5, true, 74), (1, 0, true, x1), (2, 0, true, x2), (3, 0, true, x3)] [(0, true, x3), (0, false, 5 * x1), (5, true, 83)] (sM s m))))
    refine hY _ _ _ _ (?_ : Y 21 [(0, 5, true, 74), (1, 0, true, x1), (2, 0, true, x2), (3, 0, true, x3)] [(0, false, (5 * x1) + x3), (5, true, 83)] (sM s m))
    refine hY _ _ _ _ ?_
    refine (And.intro h.1 (And.intro h.2.1 ?_))
    refine hY _ _ _ _ (?_ : Y 24 [(4, 0, true, m 83 ((5 * x1) + x3)), (0, 5, true, 74), (1, 0, true, x1), (2, 0, true, x2), (3, 0, true, x3)] [] (sM s m))
    refine l24 _ _ ?_
    exact (Exists.intro m (And.intro rfl (And.intro rfl (And.intro rfl h.2.2))))
theorem wk_226_2 (Q : sQ) (R : Int → hy_m → Prop) (s : sS) (x1 : Int) (x2 : Int) (x3 : Int) (hQ : ∀ x m', R x m' → Q x (sM s m')) (hr : sRg [(0, 5, 74), (1, 0, 0), (2, 0, 0), (3, 0, 0)] [x1, x2, x3]) (h : wq_226_2 x1 x2 x3 s.2.2.2 R) : kX dM 4 im_m226 2 2 (sCan [(0, 5, 74), (1, 0, 0), (2, 0, 0), (3, 0, 0)] [x1, x2, x3]) [] s Q :=
  h (fun x3 m => sRg [(0, 5, 74), (1, 0, 0), (2, 0, 0), (3, 0, 0)] [x1, x2, x3] → kX dM 4 im_m226 2 2 (sCan [(0, 5, 74), (1, 0, 0), (2, 0, 0), (3, 0, 0)] [x1, x2, x3]) [] (sM s m) Q) (fun x3 m h hr => wj_226_2 Q R s (fun x3 m => sRg [(0, 5, 74), (1, 0, 0), (2, 0, 0), (3, 0, 0)] [x1, x2, x3] → kX dM 4 im_m226 2 2 (sCan [(0, 5, 74), (1, 0, 0), (2, 0, 0), (3, 0, 0)] [x1, x2, x3]) [] (sM s m) Q) x1 x2 x3 m  (fun _ _ hp hr => hp hr) hQ hr h) hr
def lb_226_0 (s : sS) (Q : sQ) (R : Int → hy_m → Prop) (x1 : Int) (x2 : Int) : Nat → Option (sL → sS → Prop) := sLb [(2, fun lv t => sG [(0, 5, 74), (1, 0, 0), (2, 0, 0), (3, 0, 0)] lv (ap3 (fun w1 w2 w3 => ∃ m', t = sM s m' ∧ wq_226_2 w1 w2 w3 m' R)))]
set_option maxRecDepth 30000 in
set_option maxHeartbeats 1000000 in
theorem wk_226_0 (Q : sQ) (R : Int → hy_m → Prop) (s : sS) (x1 : Int) (x2 : Int) (hQ : ∀ x m', R x m' → Q x (sM s m')) (hr : sRg [(0, 5, 74), (1, 0, 0), (2, 0, 0)] [x1, x2]) (h : wq_226 x1 x2 s.2.2.2 R) : kX dM 4 im_m226 2 0 (sCan [(0, 5, 74), (1, 0, 0), (2, 0, 0)] [x1, x2]) [] s Q := by
  unfold wq_226 at h
  refine wz2_ok (cs := cs_226) (wr := []) (lb := lb_226_0 s Q R x1 x2) cs_226_ok (kLb_c (kLab (Bd := fun xs t => ap3 (fun w1 w2 w3 => ∃ m', t = sM s m' ∧ wq_226_2 w1 w2 w3 m' R) xs) rfl (fun xs t r1 r2 hb => by obtain ⟨w1, w2, w3, rfl, hb⟩ := ap3_ok hb; obtain ⟨m', rfl, hx⟩ := hb; exact wk_226_2 Q R (sM s m') _ _ _ (fun x m'' hy => hQ x m'' hy) r1 hx)) kLb_n) (okL_can rfl hr) (fun Y hY hl => ?_)
  have l2 := hl 2 _ rfl
  refine hY _ _ _ _ (hY _ _ _ _ (?_ : Y 2 [(3, 2, true, 0), (0, 5, true, 74), (1, 0, true, x1), (2, 0, true, x2)] [] s))
  refine l2 _ _ ?_
  exact (Exists.intro s.2.2.2 (And.intro rfl h))
def we_226 : sFf := sEf 5 [(0, 5, 74), (1, 0, 0), (2, 0, 0)] (fun xs s Q => ap2 (fun x1 x2 => wq_226 x1 x2 s.2.2.2 Q) xs)
theorem we_226_ok : kS dM 5 226 2 (.inl we_226) := sEf_ok (mi := im_m226) rfl rfl rfl (fun R xs s r1 hb => by obtain ⟨x1, x2, rfl, hb⟩ := ap2_ok hb; exact wk_226_0 _ R s x1 x2 (fun x m' hx => ⟨m', rfl, hx⟩) r1 hb)
/-- LMModel.isReached(III)Z -/
def wf_227_3 (x1 : Int) (x2 : Int) (x3 : Int) (Q : Int → hy_m → Prop) (P3 : Int → hy_m → Prop) (x4 : Int) (m : hy_m) : Prop := 0 ≤ (0 : Int) ∧ (0 : Int) < 21 ∧ (((m 85 0) ≤ x4 → (Q 0 m)) ∧ (x4 < (m 85 0) → ((x3 ≠ 1 → (0 ≤ x4 ∧ x4 < 20 ∧ (hy_r 0 (x3 - 1) ∧ (((m 94 x4) ≠ (x3 - 1) → (((0 : Int) = 0 → (hy_r 0 (x4 + 1) ∧ (P3 (x4 + 1) m))) ∧ ((0 : Int) ≠ 0 → (wq_206 x4 m (fun r1 m1 => wq_206 x1 m1 (fun r2 m2 => 0 ≤ r2 ∧ r2 < 28 ∧ (wq_226 r1 (m2 81 r2) m2 (fun r3 m3 => (r3 = 0 → (hy_r 0 (x4 + 1) ∧ (P3 (x4 + 1) m3))) ∧ (r3 ≠ 0 → (Q 1 m3)))))))))) ∧ ((m 94 x4) = (x3 - 1) → (((1 : Int) = 0 → (hy_r 0 (x4 + 1) ∧ (P3 (x4 + 1) m))) ∧ ((1 : Int) ≠ 0 → (wq_206 x4 m (fun r4 m4 => wq_206 x1 m4 (fun r5 m5 => 0 ≤ r5 ∧ r5 < 28 ∧ (wq_226 r4 (m5 81 r5) m5 (fun r6 m6 => (r6 = 0 → (hy_r 0 (x4 + 1) ∧ (P3 (x4 + 1) m6))) ∧ (r6 ≠ 0 → (Q 1 m6)))))))))))))) ∧ (x3 = 1 → (wq_206 x2 m (fun r7 m7 => 0 ≤ r7 ∧ r7 < 28 ∧ (wq_206 x4 m7 (fun r8 m8 => 0 ≤ r8 ∧ r8 < 28 ∧ (wq_211 (m7 81 r7) (m8 81 r8) m8 (fun r9 m9 => (r9 = 0 → (hy_r 0 (x4 + 1) ∧ (P3 (x4 + 1) m9))) ∧ (r9 ≠ 0 → (wq_206 x4 m9 (fun r10 m10 => wq_206 x1 m10 (fun r11 m11 => 0 ≤ r11 ∧ r11 < 28 ∧ (wq_226 r10 (m11 81 r11) m11 (fun r12 m12 => (r12 = 0 → (hy_r 0 (x4 + 1) ∧ (P3 (x4 + 1) m12))) ∧ (r12 ≠ 0 → (Q 1 m12))))))))))))))))))
def wq_227_3 (x1 : Int) (x2 : Int) (x3 : Int) (x4 : Int) (m : hy_m) (Q : Int → hy_m → Prop) : Prop := wL1 hy_m (wf_227_3 x1 x2 x3 Q) x4 m
def wq_227 (x1 : Int) (x2 : Int) (x3 : Int) (m : hy_m) (Q : Int → hy_m → Prop) : Prop := wq_227_3 x1 x2 x3 0 m Q
theorem wc_226_r74_0t_0t (x1 : Int) (x2 : Int) (s : sS) (R : Int → hy_m → Prop) (h : wq_226 x1 x2 s.2.2.2 R) : we_226 [(5, true, 74), (0, true, x1), (0, true, x2)] s R := h
def cs_227 : List (Nat × Nat × sFS) := [(206, 0, .inl we_206), (211, 2, .inl we_211), (226, 2, .inl we_226)]
theorem cs_227_ok : kCs dM 5 cs_227 := (kCs_c (Or.inl rfl) (we_206_ok.deep (by decide)) (kCs_c (Or.inr (Or.inr (Or.inl rfl))) (we_211_ok.deep (by decide)) (kCs_c (Or.inr (Or.inr (Or.inl rfl))) (we_226_ok.deep (by decide)) kCs_n)))
def lb_227_3 (s : sS) (Q : sQ) (P3 : Int → hy_m → Prop) (R : Int → hy_m → Prop) (x1 : Int) (x2 : Int) (x3 : Int) (x4 : Int) : Nat → Option (sL → sS → Prop) := sLb [(3, fun lv t => sG [(0, 5, 74), (1, 0, 0), (2, 0, 0), (3, 0, 0), (4, 0, 0)] lv (ap4 (fun w1 w2 w3 w4 => ∃ m', t = sM s m' ∧ w1 = x1 ∧ w2 = x2 ∧ w3 = x3 ∧ P3 w4 m')))]
set_option maxRecDepth 30000 in
set_option maxHeartbeats 1000000 in
theorem wj_227_3 (Q : sQ) (R : Int → hy_m → Prop) (s : sS) (P3 : Int → hy_m → Prop) (x1 : Int) (x2 : Int) (x3 : Int) (x4 : Int) (m : hy_m) (hP3 : ∀ (z4 : Int) (m : hy_m), P3 z4 m → sRg [(0, 5, 74), (1, 0, 0), (2, 0, 0), (3, 0, 0), (4, 0, 0)] [x1, x2, x3, z4] → kX dM 5 im_m227 2 3 (sCan [(0, 5, 74), (1, 0, 0), (2, 0, 0), (3, 0, 0), (4, 0, 0)] [x1, x2, x3, z4]) [] (sM s m) Q) (hQ : ∀ x m', R x m' → Q x (sM s m')) (hr : sRg [(0, 5, 74), (1, 0, 0), (2, 0, 0), (3, 0, 0), (4, 0, 0)] [x1, x2, x3, x4]) (h : wf_227_3 x1 x2 x3 R P3 x4 m) : kX dM 5 im_m227 2 3 (sCan [(0, 5, 74), (1, 0, 0), (2, 0, 0), (3, 0, 0), (4, 0, 0)] [x1, x2, x3, x4]) [] (sM s m) Q := by
  unfold wf_227_3 at h
  refine wz2_ok (cs := cs_227) (wr := []) (lb := lb_227_3 s Q P3 R x1 x2 x3 x4) cs_227_ok (kLb_c (kLab (Bd := fun xs t => ap4 (fun w1 w2 w3 w4 => ∃ m', t = sM s m' ∧ w1 = x1 ∧ w2 = x2 ∧ w3 = x3 ∧ P3 w4 m') xs) rfl (fun xs t r1 r2 hb => by obtain ⟨w1, w2, w3, w4, rfl, hb⟩ := ap4_ok hb; obtain ⟨m', rfl, rfl, rfl, rfl, hx⟩ := hb; exact hP3 _ m' hx r1)) kLb_n) (okL_can rfl hr) (fun Y hY hl => ?_)
  have l3 := hl 3 _ rfl
  refine hY _ _ _ _ (hY _ _ _ _ (hY _ _ _ _ (?_ : Y 9 [(0, 5, true, 74), (1, 0, true, x1), (2, 0, true, x2), (3, 0, true, x3), (4, 0, true, x4)] [(5, true, 85), (0, true, x4)] (sM s m))))
  refine hY _ _ _ _ (?_ : Y 10 [(0, 5, true, 74), (1, 0, true, x1), (2, 0, true, x2), (3, 0, true, x3), (4, 0, true, x4)] [(2, true, 0), (5, true, 85), (0, true, x4)] (sM s m))
  refine hY _ _ _ _ ?_
  refine (And.intro h.1 (And.intro h.2.1 ?_))
  show Y 11 [(0, 5, true, 74), (1, 0, true, x1), (2, 0, true, x2), (3, 0, true, x3), (4, 0, true, x4)] [(0, true, m 85 0), (0, true, x4)] (sM s m)
  refine hY _ _ _ _ ?_
  refine And.intro (fun hc => ?_) (fun hc => ?_)
  · have h := h.2.2.1 hc
    refine hY _ _ _ _ (?_ : Y 104 [(0, 5, true, 74), (1, 0, true, x1), (2, 0, true, x2), (3, 0, true, x3), (4, 0, true, x4)] [(2, true, 0)] (sM s m))
    refine hY _ _ _ _ ?_
    exact hQ 0 m h
  · have h := h.2.2.2 hc
    refine hY _ _ _ _ (hY _ _ _ _ (?_ : Y 16 [(0, 5, true, 74), (1, 0, true, x1), (2, 0, true, x2), (3, 0, true, x3), (4, 0, true, x4)] [(2, true, 1), (0, true, x3)] (sM s m)))
    refine hY _ _ _ _ ?_
    refine And.intro (fun hc => ?_) (fun hc => ?_)
    · have h := h.1 hc
      refine hY _ _ _ _ (hY _ _ _ _ (hY _ _ _ _ (?_ : Y 53 [(0, 5, true, 74), (1, 0, true, x1), (2, 0, true, x2), (3, 0, true, x3), (4, 0, true, x4)] [(0, true, x4), (5, true, 94)] (sM s m))))
      refine hY _ _ _ _ ?_
      refine (And.intro h.1 (And.intro h.2.1 ?_))
      refine hY _ _ _ _ (hY _ _ _ _ (hY _ _ _ _ (?_ : Y 57 [(0, 5, true, 74), (1, 0, true, x1), (2, 0, true, x2), (3, 0, true, x3), (4, 0, true, x4)] [(0, false, x3 - 1), (0, true, m 94 x4)] (sM s m))))
      refine hY _ _ _ _ ?_
      refine And.intro h.2.2.1 ?_
      refine And.intro (fun hc => ?_) (fun hc => ?_)
      · have h := h.2.2.2.1 hc
        refine hY _ _ _ _ (hY _ _ _ _ (hY _ _ _ _ (?_ : Y 69 [(5, 2, true, 0), (0, 5, true, 74), (1, 0, true, x1), (2, 0, true, x2), (3, 0, true, x3), (4, 0, true, x4)] [(2, true, 0)] (sM s m))))
        refine hY _ _ _ _ ?_
        refine And.intro (fun hc => ?_) (fun hc => ?_)
        · have h := h.1 hc
          refine hY _ _ _ _ (hY _ _ _ _ (?_ : Y 3 [(4, 0, false, x4 + 1), (5, 2, true, 0), (0, 5, true, 74), (1, 0, true, x1), (2, 0, true, x2), (3, 0, true, x3)] [] (sM s m)))
          refine l3 _ _ ?_
          refine And.intro h.1 ?_
          exact (Exists.intro m (And.intro rfl (And.intro rfl (And.intro rfl (And.intro rfl h.2)))))
        · have h := h.2 hc
          refine hY _ _ _ _ (hY _ _ _ _ (hY _ _ _ _ (?_ : Y 76 [(5, 2, true, 0), (0, 5, true, 74), (1, 0, true, x1), (2, 0, true, x2), (3, 0, true, x3), (4, 0, true, x4)] [(0, true, x4), (5, true, 74), (5, true, 74)] (sM s m))))
          refine hY _ _ _ _ ?_
          refine Exists.intro _ (And.intro (wc_206_r74_0t x4 _ _ h) (fun r1 m1 h => ?_))
          refine hY _ _ _ _ (hY _ _ _ _ (hY _ _ _ _ (?_ : Y 84 [(5, 2, true, 0), (0, 5, true, 74), (1, 0, true, x1), (2, 0, true, x2), (3, 0, true, x3), (4, 0, true, x4)] [(5, true, 74), (5, true, 81), (0, true, r1), (5, true, 74)] (sM s m1))))
          refine hY _ _ _ _ (?_ : Y 85 [(5, 2, true, 0), (0, 5, true, 74), (1, 0, true, x1), (2, 0, true, x2), (3, 0, true, x3), (4, 0, true, x4)] [(0, true, x1), (5, true, 74), (5, true, 81), (0, true, r1), (5, true, 74)] (sM s m1))
          refine hY _ _ _ _ ?_
          refine Exists.intro _ (And.intro (wc_206_r74_0t x1 _ _ h) (fun r2 m2 h => ?_))
          show Y 88 [(5, 2, true, 0), (0, 5, true, 74), (1, 0, true, x1), (2, 0, true, x2), (3, 0, true, x3), (4, 0, true, x4)] [(0, true, r2), (5, true, 81), (0, true, r1), (5, true, 74)] (sM s m2)
          refine hY _ _ _ _ ?_
          refine (And.intro h.1 (And.intro h.2.1 ?_))
          show Y 89 [(5, 2, true, 0), (0, 5, true, 74), (1, 0, true, x1), (2, 0, true, x2), (3, 0, true, x3), (4, 0, true, x4)] [(0, true, m2 81 r2), (0, true, r1), (5, true, 74)] (sM s m2)
          refine hY _ _ _ _ ?_
          refine Exists.intro _ (And.intro (wc_226_r74_0t_0t r1 (m2 81 r2) _ _ h.2.2) (fun r3 m3 h => ?_))
          show Y 92 [(5, 2, true, 0), (0, 5, true, 74), (1, 0, true, x1), (2, 0, true, x2), (3, 0, true, x3), (4, 0, true, x4)] [(2, true, r3)] (sM s m3)
          refine hY _ _ _ _ ?_
          refine And.intro (fun hc => ?_) (fun hc => ?_)
          · have h := h.1 hc
            refine hY _ _ _ _ (hY _ _ _ _ (?_ : Y 3 [(4, 0, false, x4 + 1), (5, 2, true, 0), (0, 5, true, 74), (1, 0, true, x1), (2, 0, true, x2), (3, 0, true, x3)] [] (sM s m3)))
            refine l3 _ _ ?_
            refine And.intro h.1 ?_
            exact (Exists.intro m3 (And.intro rfl (And.intro rfl (And.intro rfl (And.intro rfl h.2)))))
          · have h := h.2 hc
            refine hY _ _ _ _ (?_ : Y 96 [(5, 2, true, 0), (0, 5, true, 74), (1, 0, true, x1), (2, 0, true, x2), (3, 0, true, x3), (4, 0, true, x4)] [(2, true, 1)] (sM s m3))
            refine hY _ _ _ _ ?_
            exact hQ 1 m3 h
      · have h := h.2.2.2.2 hc
        refine hY _ _ _ _ (hY _ _ _ _ (hY _ _ _ _ (?_ : Y 67 [(5, 2, true, 1), (0, 5, true, 74), (1, 0, true, x1), (2, 0, true, x2), (3, 0, true, x3), (4, 0, true, x4)] [] (sM s m))))
        refine hY _ _ _ _ (?_ : Y 69 [(5, 2, true, 1), (0, 5, true, 74), (1, 0, true, x1), (2, 0, true, x2), (3, 0, true, x3), (4, 0, true, x4)] [(2, true, 1)] (sM s m))
        refine hY _ _ _ _ ?_
        refine And.intro (fun hc => ?_) (fun hc => ?_)
        · have h := h.1 hc
          refine hY _ _ _ _ (hY _ _ _ _ (?_ : Y 3 [(4, 0, false, x4 + 1), (5, 2, true, 1), (0, 5, true, 74), (1, 0, true, x1), (2, 0, true, x2), (3, 0, true, x3)] [] (sM s m)))
          refine l3 _ _ ?_
          refine And.intro h.1 ?_
          exact (Exists.intro m (And.intro rfl (And.intro rfl (And.intro rfl (And.intro rfl h.2)))))
        · have h := h.2 hc
          refine hY _ _ _ _ (hY _ _ _ _ (hY _ _ _ _ (?_ : Y 76 [(5, 2, true, 1), (0, 5, true, 74), (1, 0, true, x1), (2, 0, true, x2), (3, 0, true, x3), (4, 0, true, x4)] [(0, true, x4), (5, true, 74), (5, true, 74)] (sM s m))))
          refine hY _ _ _ _ ?_
          refine Exists.intro _ (And.intro (wc_206_r74_0t x4 _ _ h) (fun r4 m4 h => ?_))
          refine hY _ _ _ _ (hY _ _ _ _ (hY _ _ _ _ (?_ : Y 84 [(5, 2, true, 1), (0, 5, true, 74), (1, 0, true, x1), (2, 0, true, x2), (3, 0, true, x3), (4, 0, true, x4)] [(5, true, 74), (5, true, 81), (0, true, r4), (5, true, 74)] (sM s m4))))
          refine hY _ _ _ _ (?_ : Y 85 [(5, 2, true, 1), (0, 5, true, 74), (1, 0, true, x1), (2, 0, true, x2), (3, 0, true, x3), (4, 0, true, x4)] [(0, true, x1), (5, true, 74), (5, true, 81), (0, true, r4), (5, true, 74)] (sM s m4))
          refine hY _ _ _ _ ?_
          refine Exists.intro _ (And.intro (wc_206_r74_0t x1 _ _ h) (fun r5 m5 h => ?_))
          show Y 88 [(5, 2, true, 1), (0, 5, true, 74), (1, 0, true, x1), (2, 0, true, x2), (3, 0, true, x3), (4, 0, true, x4)] [(0, true, r5), (5, true, 81), (0, true, r4), (5, true, 74)] (sM s m5)
          refine hY _ _ _ _ ?_
          refine (And.intro h.1 (And.intro h.2.1 ?_))
          show Y 89 [(5, 2, true, 1), (0, 5, true, 74), (1, 0, true, x1), (2, 0, true, x2), (3, 0, true, x3), (4, 0, true, x4)] [(0, true, m5 81 r5), (0, true, r4), (5, true, 74)] (sM s m5)
          refine hY _ _ _ _ ?_
          refine Exists.intro _ (And.intro (wc_226_r74_0t_0t r4 (m5 81 r5) _ _ h.2.2) (fun r6 m6 h => ?_))
          show Y 92 [(5, 2, true, 1), (0, 5, true, 74), (1, 0, true, x1), (2, 0, true, x2), (3, 0, true, x3), (4, 0, true, x4)] [(2, true, r6)] (sM s m6)
          refine hY _ _ _ _ ?_
          refine And.intro (fun hc => ?_) (fun hc => ?_)
          · have h := h.1 hc
            refine hY _ _ _ _ (hY _ _ _ _ (?_ : Y 3 [(4, 0, false, x4 + 1), (5, 2, true, 1), (0, 5, true, 74), (1, 0, true, x1), (2, 0, true, x2), (3, 0, true, x3)] [] (sM s m6)))
            refine l3 _ _ ?_
            refine And.intro h.1 ?_
            exact (Exists.intro m6 (And.intro rfl (And.intro rfl (And.intro rfl (And.intro rfl h.2)))))
          · have h := h.2 hc
            refine hY _ _ _ _ (?_ : Y 96 [(5, 2, true, 1), (0, 5, true, 74), (1, 0, true, x1), (2, 0, true, x2), (3, 0, true, x3), (4, 0, true, x4)] [(2, true, 1)] (sM s m6))
            refine hY _ _ _ _ ?_
            exact hQ 1 m6 h
    · have h := h.2 hc
      refine hY _ _ _ _ (hY _ _ _ _ (hY _ _ _ _ (?_ : Y 24 [(0, 5, true, 74), (1, 0, true, x1), (2, 0, true, x2), (3, 0, true, x3), (4, 0, true, x4)] [(5, true, 81), (5, true, 74)] (sM s m))))
      refine hY _ _ _ _ (hY _ _ _ _ (?_ : Y 26 [(0, 5, true, 74), (1, 0, true, x1), (2, 0, true, x2), (3, 0, true, x3), (4, 0, true, x4)] [(0, true, x2), (5, true, 74), (5, true, 81), (5, true, 74)] (sM s m)))
      refine hY _ _ _ _ ?_
      refine Exists.intro _ (And.intro (wc_206_r74_0t x2 _ _ h) (fun r7 m7 h => ?_))
      show Y 29 [(0, 5, true, 74), (1, 0, true, x1), (2, 0, true, x2), (3, 0, true, x3), (4, 0, true, x4)] [(0, true, r7), (5, true, 81), (5, true, 74)] (sM s m7)
      refine hY _ _ _ _ ?_
      refine (And.intro h.1 (And.intro h.2.1 ?_))
      refine hY _ _ _ _ (hY _ _ _ _ (hY _ _ _ _ (?_ : Y 35 [(0, 5, true, 74), (1, 0, true, x1), (2, 0, true, x2), (3, 0, true, x3), (4, 0, true, x4)] [(5, true, 74), (5, true, 81), (0, true, m7 81 r7), (5, true, 74)] (sM s m7))))
      refine hY _ _ _ _ (?_ : Y 37 [(0, 5, true, 74), (1, 0, true, x1), (2, 0, true, x2), (3, 0, true, x3), (4, 0, true, x4)] [(0, true, x4), (5, true, 74), (5, true, 81), (0, true, m7 81 r7), (5, true, 74)] (sM s m7))
      refine hY _ _ _ _ ?_
      refine Exists.intro _ (And.intro (wc_206_r74_0t x4 _ _ h.2.2) (fun r8 m8 h => ?_))
      show Y 40 [(0, 5, true, 74), (1, 0, true, x1), (2, 0, true, x2), (3, 0, true, x3), (4, 0, true, x4)] [(0, true, r8), (5, true, 81), (0, true, m7 81 r7), (5, true, 74)] (sM s m8)
      refine hY _ _ _ _ ?_
      refine (And.intro h.1 (And.intro h.2.1 ?_))
      show Y 41 [(0, 5, true, 74), (1, 0, true, x1), (2, 0, true, x2), (3, 0, true, x3), (4, 0, true, x4)] [(0, true, m8 81 r8), (0, true, m7 81 r7), (5, true, 74)] (sM s m8)
      refine hY _ _ _ _ ?_
      refine Exists.intro _ (And.intro (wc_211_r74_0t_0t (m7 81 r7) (m8 81 r8) _ _ h.2.2) (fun r9 m9 h => ?_))
      refine hY _ _ _ _ (hY _ _ _ _ (hY _ _ _ _ (?_ : Y 69 [(5, 2, true, r9), (0, 5, true, 74), (1, 0, true, x1), (2, 0, true, x2), (3, 0, true, x3), (4, 0, true, x4)] [(2, true, r9)] (sM s m9))))
      refine hY _ _ _ _ ?_
      refine And.intro (fun hc => ?_) (fun hc => ?_)
      · have h := h.1 hc
        refine hY _ _ _ _ (hY _ _ _ _ (?_ : Y 3 [(4, 0, false, x4 + 1), (5, 2, true, r9), (0, 5, true, 74), (1, 0, true, x1), (2, 0, true, x2), (3, 0, true, x3)] [] (sM s m9)))
        refine l3 _ _ ?_
        refine And.intro h.1 ?_
        exact (Exists.intro m9 (And.intro rfl (And.intro rfl (And.intro rfl (And.intro rfl h.2)))))
      · have h := h.2 hc
        refine hY _ _ _ _ (hY _ _ _ _ (hY _ _ _ _ (?_ : Y 76 [(5, 2, true, r9), (0, 5, true, 74), (1, 0, true, x1), (2, 0, true, x2), (3, 0, true, x3), (4, 0, true, x4)] [(0, true, x4), (5, true, 74), (5, true, 74)] (sM s m9))))
        refine hY _ _ _ _ ?_
        refine Exists.intro _ (And.intro (wc_206_r74_0t x4 _ _ h) (fun r10 m10 h => ?_))
        refine hY _ _ _ _ (hY _ _ _ _ (hY _ _ _ _ (?_ : Y 84 [(5, 2, true, r9), (0, 5, true, 74), (1, 0, true, x1), (2, 0, true, x2), (3, 0, true, x3), (4, 0, true, x4)] [(5, true, 74), (5, true, 81), (0, true, r10), (5, true, 74)] (sM s m10))))
        refine hY _ _ _ _ (?_ : Y 85 [(5, 2, true, r9), (0, 5, true, 74), (1, 0, true, x1), (2, 0, true, x2), (3, 0, true, x3), (4, 0, true, x4)] [(0, true, x1), (5, true, 74), (5, true, 81), (0, true, r10), (5, true, 74)] (sM s m10))
        refine hY _ _ _ _ ?_
        refine Exists.intro _ (And.intro (wc_206_r74_0t x1 _ _ h) (fun r11 m11 h => ?_))
        show Y 88 [(5, 2, true, r9), (0, 5, true, 74), (1, 0, true, x1), (2, 0, true, x2), (3, 0, true, x3), (4, 0, true, x4)] [(0, true, r11), (5, true, 81), (0, true, r10), (5, true, 74)] (sM s m11)
        refine hY _ _ _ _ ?_
        refine (And.intro h.1 (And.intro h.2.1 ?_))
        show Y 89 [(5, 2, true, r9), (0, 5, true, 74), (1, 0, true, x1), (2, 0, true, x2), (3, 0, true, x3), (4, 0, true, x4)] [(0, true, m11 81 r11), (0, true, r10), (5, true, 74)] (sM s m11)
        refine hY _ _ _ _ ?_
        refine Exists.intro _ (And.intro (wc_226_r74_0t_0t r10 (m11 81 r11) _ _ h.2.2) (fun r12 m12 h => ?_))
        show Y 92 [(5, 2, true, r9), (0, 5, true, 74), (1, 0, true, x1), (2, 0, true, x2), (3, 0, true, x3), (4, 0, true, x4)] [(2, true, r12)] (sM s m12)
        refine hY _ _ _ _ ?_
        refine And.intro (fun hc => ?_) (fun hc => ?_)
        · have h := h.1 hc
          refine hY _ _ _ _ (hY _ _ _ _ (?_ : Y 3 [(4, 0, false, x4 + 1), (5, 2, true, r9), (0, 5, true, 74), (1, 0, true, x1), (2, 0, true, x2), (3, 0, true, x3)] [] (sM s m12)))
          refine l3 _ _ ?_
          refine And.intro h.1 ?_
          exact (Exists.intro m12 (And.intro rfl (And.intro rfl (And.intro rfl (And.intro rfl h.2)))))
        · have h := h.2 hc
          refine hY _ _ _ _ (?_ : Y 96 [(5, 2, true, r9), (0, 5, true, 74), (1, 0, true, x1), (2, 0, true, x2), (3, 0, true, x3), (4, 0, true, x4)] [(2, true, 1)] (sM s m12))
          refine hY _ _ _ _ ?_
          exact hQ 1 m12 h
theorem wk_227_3 (Q : sQ) (R : Int → hy_m → Prop) (s : sS) (x1 : Int) (x2 : Int) (x3 : Int) (x4 : Int) (hQ : ∀ x m', R x m' → Q x (sM s m')) (hr : sRg [(0, 5, 74), (1, 0, 0), (2, 0, 0), (3, 0, 0), (4, 0, 0)] [x1, x2, x3, x4]) (h : wq_227_3 x1 x2 x3 x4 s.2.2.2 R) : kX dM 5 im_m227 2 3 (sCan [(0, 5, 74), (1, 0, 0), (2, 0, 0), (3, 0, 0), (4, 0, 0)] [x1, x2, x3, x4]) [] s Q :=
  h (fun x4 m => sRg [(0, 5, 74), (1, 0, 0), (2, 0, 0), (3, 0, 0), (4, 0, 0)] [x1, x2, x3, x4] → kX dM 5 im_m227 2 3 (sCan [(0, 5, 74), (1, 0, 0), (2, 0, 0), (3, 0, 0), (4, 0, 0)] [x1, x2, x3, x4]) [] (sM s m) Q) (fun x4 m h hr => wj_227_3 Q R s (fun x4 m => sRg [(0, 5, 74), (1, 0, 0), (2, 0, 0), (3, 0, 0), (4, 0, 0)] [x1, x2, x3, x4] → kX dM 5 im_m227 2 3 (sCan [(0, 5, 74), (1, 0, 0), (2, 0, 0), (3, 0, 0), (4, 0, 0)] [x1, x2, x3, x4]) [] (sM s m) Q) x1 x2 x3 x4 m  (fun _ _ hp hr => hp hr) hQ hr h) hr
def lb_227_0 (s : sS) (Q : sQ) (R : Int → hy_m → Prop) (x1 : Int) (x2 : Int) (x3 : Int) : Nat → Option (sL → sS → Prop) := sLb [(3, fun lv t => sG [(0, 5, 74), (1, 0, 0), (2, 0, 0), (3, 0, 0), (4, 0, 0)] lv (ap4 (fun w1 w2 w3 w4 => ∃ m', t = sM s m' ∧ wq_227_3 w1 w2 w3 w4 m' R)))]
set_option maxRecDepth 30000 in
set_option maxHeartbeats 1000000 in
theorem wk_227_0 (Q : sQ) (R : Int → hy_m → Prop) (s : sS) (x1 : Int) (x2 : Int) (x3 : Int) (hQ : ∀ x m', R x m' → Q x (sM s m')) (hr : sRg [(0, 5, 74), (1, 0, 0), (2, 0, 0), (3, 0, 0)] [x1, x2, x3]) (h : wq_227 x1 x2 x3 s.2.2.2 R) : kX dM 5 im_m227 2 0 (sCan [(0, 5, 74), (1, 0, 0), (2, 0, 0), (3, 0, 0)] [x1, x2, x3]) [] s Q := by
  unfold wq_227 at h
  refine wz2_ok (cs := cs_227) (wr := []) (lb := lb_227_0 s Q R x1 x2 x3) cs_227_ok (kLb_c (kLab (Bd := fun xs t => ap4 (fun w1 w2 w3 w4 => ∃ m', t = sM s m' ∧ wq_227_3 w1 w2 w3 w4 m' R) xs) rfl (fun xs t r1 r2 hb => by obtain ⟨w1, w2, w3, w4, rfl, hb⟩ := ap4_ok hb; obtain ⟨m', rfl, hx⟩ := hb; exact wk_227_3 Q R (sM s m') _ _ _ _ (fun x m'' hy => hQ x m'' hy) r1 hx)) kLb_n) (okL_can rfl hr) (fun Y hY hl => ?_)
  have l3 := hl 3 _ rfl
  refine hY _ _ _ _ (hY _ _ _ _ (?_ : Y 3 [(4, 2, true, 0), (0, 5, true, 74), (1, 0, true, x1), (2, 0, true, x2), (3, 0, true, x3)] [] s))
  refine l3 _ _ ?_
  exact (Exists.intro s.2.2.2 (And.intro rfl h))
def we_227 : sFf := sEf 6 [(0, 5, 74), (1, 0, 0), (2, 0, 0), (3, 0, 0)] (fun xs s Q => ap3 (fun x1 x2 x3 => wq_227 x1 x2 x3 s.2.2.2 Q) xs)
theorem we_227_ok : kS dM 6 227 2 (.inl we_227) := sEf_ok (mi := im_m227) rfl rfl rfl (fun R xs s r1 hb => by obtain ⟨x1, x2, x3, rfl, hb⟩ := ap3_ok hb; exact wk_227_0 _ R s x1 x2 x3 (fun x m' hx => ⟨m', rfl, hx⟩) r1 hb)
/-- LMModel.reaches(II)I -/
def wf_228_50 (P41 : Int → hy_m → Prop) (x1 : Int) (x2 : Int) (x3 : Int) (Q : Int → hy_m → Prop) (P50 : Int → hy_m → Prop) (x4 : Int) (m : hy_m) : Prop := 0 ≤ (0 : Int) ∧ (0 : Int) < 21 ∧ (((m 85 0) ≤ x4 → (hy_r 0 (x3 + 1) ∧ (P41 (x3 + 1) m))) ∧ (x4 < (m 85 0) → (0 ≤ x4 ∧ x4 < 20 ∧ (((m 94 x4) ≠ 0 → (0 ≤ x4 ∧ x4 < 20 ∧ (0 ≤ x4 ∧ x4 < 20 ∧ (hy_r 0 (x4 + 1) ∧ (P50 (x4 + 1) (hy_u m 94 x4 (m 94 x4))))))) ∧ ((m 94 x4) = 0 → (wq_227 x4 x1 x3 m (fun r1 m1 => (r1 = 0 → (0 ≤ x4 ∧ x4 < 20 ∧ (0 ≤ x4 ∧ x4 < 20 ∧ (hy_r 0 (x4 + 1) ∧ (P50 (x4 + 1) (hy_u m1 94 x4 (m1 94 x4))))))) ∧ (r1 ≠ 0 → (0 ≤ x4 ∧ x4 < 20 ∧ (hy_r 0 (x4 + 1) ∧ (P50 (x4 + 1) (hy_u m1 94 x4 x3))))))))))))
def wq_228_50 (P41 : Int → hy_m → Prop) (x1 : Int) (x2 : Int) (x3 : Int) (x4 : Int) (m : hy_m) (Q : Int → hy_m → Prop) : Prop := wL1 hy_m (wf_228_50 P41 x1 x2 x3 Q) x4 m
def wf_228_41 (x1 : Int) (x2 : Int) (Q : Int → hy_m → Prop) (P41 : Int → hy_m → Prop) (x3 : Int) (m : hy_m) : Prop := (20 < x3 → (0 ≤ x2 ∧ x2 < 20 ∧ (((m 94 x2) ≠ 0 → (0 ≤ x2 ∧ x2 < 20 ∧ (Q (m 94 x2) m))) ∧ ((m 94 x2) = 0 → (Q (-9) m))))) ∧ (x3 ≤ 20 → (wq_228_50 P41 x1 x2 x3 0 m Q))
def wq_228_41 (x1 : Int) (x2 : Int) (x3 : Int) (m : hy_m) (Q : Int → hy_m → Prop) : Prop := wL1 hy_m (wf_228_41 x1 x2 Q) x3 m
def wf_228_20 (x1 : Int) (x2 : Int) (Q : Int → hy_m → Prop) (P20 : Int → hy_m → Prop) (x3 : Int) (m : hy_m) : Prop := (20 ≤ x3 → (wq_228_41 x1 x2 1 m Q)) ∧ (x3 < 20 → (0 ≤ x3 ∧ x3 < 20 ∧ (hy_r 0 (x3 + 1) ∧ (P20 (x3 + 1) (hy_u m 94 x3 0)))))
def wq_228_20 (x1 : Int) (x2 : Int) (x3 : Int) (m : hy_m) (Q : Int → hy_m → Prop) : Prop := wL1 hy_m (wf_228_20 x1 x2 Q) x3 m
def wq_228 (x1 : Int) (x2 : Int) (m : hy_m) (Q : Int → hy_m → Prop) : Prop := wq_205 x1 m (fun r1 m1 => (r1 = 0 → (Q (-1) m1)) ∧ (r1 ≠ 0 → (wq_205 x2 m1 (fun r2 m2 => (r2 ≠ 0 → (wq_228_20 x1 x2 0 m2 Q)) ∧ (r2 = 0 → (Q (-1) m2))))))
theorem wc_227_r74_0t_0t_0t (x1 : Int) (x2 : Int) (x3 : Int) (s : sS) (R : Int → hy_m → Prop) (h : wq_227 x1 x2 x3 s.2.2.2 R) : we_227 [(5, true, 74), (0, true, x1), (0, true, x2), (0, true, x3)] s R := h
def cs_228 : List (Nat × Nat × sFS) := [(205, 2, .inl we_205), (227, 2, .inl we_227)]
theorem cs_228_ok : kCs dM 6 cs_228 := (kCs_c (Or.inr (Or.inr (Or.inl rfl))) (we_205_ok.deep (by decide)) (kCs_c (Or.inr (Or.inr (Or.inl rfl))) (we_227_ok.deep (by decide)) kCs_n))
def lb_228_50 (s : sS) (Q : sQ) (P41 : Int → hy_m → Prop) (P50 : Int → hy_m → Prop) (R : Int → hy_m → Prop) (x1 : Int) (x2 : Int) (x3 : Int) (x4 : Int) : Nat → Option (sL → sS → Prop) := sLb [(41, fun lv t => sG [(0, 5, 74), (1, 0, 0), (2, 0, 0), (3, 0, 0)] lv (ap3 (fun w1 w2 w3 => ∃ m', t = sM s m' ∧ w1 = x1 ∧ w2 = x2 ∧ P41 w3 m'))), (50, fun lv t => sG [(0, 5, 74), (1, 0, 0), (2, 0, 0), (3, 0, 0), (4, 0, 0)] lv (ap4 (fun w1 w2 w3 w4 => ∃ m', t = sM s m' ∧ w1 = x1 ∧ w2 = x2 ∧ w3 = x3 ∧ P50 w4 m')))]
set_option maxRecDepth 30000 in
set_option maxHeartbeats 1000000 in
theorem wj_228_50 (Q : sQ) (R : Int → hy_m → Prop) (s : sS) (P41 : Int → hy_m → Prop) (P50 : Int → hy_m → Prop) (x1 : Int) (x2 : Int) (x3 : Int) (x4 : Int) (m : hy_m) (hP41 : ∀ (z3 : Int) (m : hy_m), P41 z3 m → sRg [(0, 5, 74), (1, 0, 0), (2, 0, 0), (3, 0, 0)] [x1, x2, z3] → kX dM 6 im_m228 0 41 (sCan [(0, 5, 74), (1, 0, 0), (2, 0, 0), (3, 0, 0)] [x1, x2, z3]) [] (sM s m) Q) (hP50 : ∀ (z4 : Int) (m : hy_m), P50 z4 m → sRg [(0, 5, 74), (1, 0, 0), (2, 0, 0), (3, 0, 0), (4, 0, 0)] [x1, x2, x3, z4] → kX dM 6 im_m228 0 50 (sCan [(0, 5, 74), (1, 0, 0), (2, 0, 0), (3, 0, 0), (4, 0, 0)] [x1, x2, x3, z4]) [] (sM s m) Q) (hQ : ∀ x m', R x m' → Q x (sM s m')) (hr : sRg [(0, 5, 74), (1, 0, 0), (2, 0, 0), (3, 0, 0), (4, 0, 0)] [x1, x2, x3, x4]) (h : wf_228_50 P41 x1 x2 x3 R P50 x4 m) : kX dM 6 im_m228 0 50 (sCan [(0, 5, 74), (1, 0, 0), (2, 0, 0), (3, 0, 0), (4, 0, 0)] [x1, x2, x3, x4]) [] (sM s m) Q := by
  unfold wf_228_50 at h
  refine wz2_ok (cs := cs_228) (wr := []) (lb := lb_228_50 s Q P41 P50 R x1 x2 x3 x4) cs_228_ok (kLb_c (kLab (Bd := fun xs t => ap3 (fun w1 w2 w3 => ∃ m', t = sM s m' ∧ w1 = x1 ∧ w2 = x2 ∧ P41 w3 m') xs) rfl (fun xs t r1 r2 hb => by obtain ⟨w1, w2, w3, rfl, hb⟩ := ap3_ok hb; obtain ⟨m', rfl, rfl, rfl, hx⟩ := hb; exact hP41 _ m' hx r1)) (kLb_c (kLab (Bd := fun xs t => ap4 (fun w1 w2 w3 w4 => ∃ m', t = sM s m' ∧ w1 = x1 ∧ w2 = x2 ∧ w3 = x3 ∧ P50 w4 m') xs) rfl (fun xs t r1 r2 hb => by obtain ⟨w1, w2, w3, w4, rfl, hb⟩ := ap4_ok hb; obtain ⟨m', rfl, rfl, rfl, rfl, hx⟩ := hb; exact hP50 _ m' hx r1)) kLb_n)) (okL_can rfl hr) (fun Y hY hl => ?_)
  have l41 := hl 41 _ rfl
  have l50 := hl 50 _ rfl
  refine hY _ _ _ _ (hY _ _ _ _ (hY _ _ _ _ (?_ : Y 56 [(0, 5, true, 74), (1, 0, true, x1), (2, 0, true, x2), (3, 0, true, x3), (4, 0, true, x4)] [(5, true, 85), (0, true, x4)] (sM s m))))
  refine hY _ _ _ _ (?_ : Y 57 [(0, 5, true, 74), (1, 0, true, x1), (2, 0, true, x2), (3, 0, true, x3), (4, 0, true, x4)] [(2, true, 0), (5, true, 85), (0, true, x4)] (sM s m))
  refine hY _ _ _ _ ?_
  refine (And.intro h.1 (And.intro h.2.1 ?_))
  show Y 58 [(0, 5, true, 74), (1, 0, true, x1), (2, 0, true, x2), (3, 0, true, x3), (4, 0, true, x4)] [(0, true, m 85 0), (0, true, x4)] (sM s m)
  refine hY _ _ _ _ ?_
  refine And.intro (fun hc => ?_) (fun hc => ?_)
  · have h := h.2.2.1 hc
    refine hY _ _ _ _ (hY _ _ _ _ (?_ : Y 41 [(3, 0, false, x3 + 1), (0, 5, true, 74), (1, 0, true, x1), (2, 0, true, x2), (4, 0, true, x4)] [] (sM s m)))
    refine l41 _ _ ?_
    refine And.intro h.1 ?_
    exact (Exists.intro m (And.intro rfl (And.intro rfl (And.intro rfl h.2))))
  · have h := h.2.2.2 hc
    refine hY _ _ _ _ (hY _ _ _ _ (hY _ _ _ _ (?_ : Y 67 [(0, 5, true, 74), (1, 0, true, x1), (2, 0, true, x2), (3, 0, true, x3), (4, 0, true, x4)] [(0, true, x4), (5, true, 94)] (sM s m))))
    refine hY _ _ _ _ (hY _ _ _ _ (hY _ _ _ _ (?_ : Y 73 [(0, 5, true, 74), (1, 0, true, x1), (2, 0, true, x2), (3, 0, true, x3), (4, 0, true, x4)] [(0, true, x4), (5, true, 94), (0, true, x4), (5, true, 94)] (sM s m))))
    refine hY _ _ _ _ ?_
    refine (And.intro h.1 (And.intro h.2.1 ?_))
    show Y 74 [(0, 5, true, 74), (1, 0, true, x1), (2, 0, true, x2), (3, 0, true, x3), (4, 0, true, x4)] [(0, true, m 94 x4), (0, true, x4), (5, true, 94)] (sM s m)
    refine hY _ _ _ _ ?_
    refine And.intro (fun hc => ?_) (fun hc => ?_)
    · have h := h.2.2.1 hc
      refine hY _ _ _ _ (hY _ _ _ _ (hY _ _ _ _ (?_ : Y 98 [(0, 5, true, 74), (1, 0, true, x1), (2, 0, true, x2), (3, 0, true, x3), (4, 0, true, x4)] [(0, true, x4), (5, true, 94), (0, true, x4), (5, true, 94)] (sM s m))))
      refine hY _ _ _ _ ?_
      refine (And.intro h.1 (And.intro h.2.1 ?_))
      show Y 99 [(0, 5, true, 74), (1, 0, true, x1), (2, 0, true, x2), (3, 0, true, x3), (4, 0, true, x4)] [(0, true, m 94 x4), (0, true, x4), (5, true, 94)] (sM s m)
      refine hY _ _ _ _ ?_
      refine (And.intro h.2.2.1 (And.intro h.2.2.2.1 ?_))
      refine hY _ _ _ _ (hY _ _ _ _ (?_ : Y 50 [(4, 0, false, x4 + 1), (0, 5, true, 74), (1, 0, true, x1), (2, 0, true, x2), (3, 0, true, x3)] [] (sM s (hy_u m 94 x4 (m 94 x4)))))
      refine l50 _ _ ?_
      refine And.intro h.2.2.2.2.1 ?_
      exact (Exists.intro (hy_u m 94 x4 (m 94 x4)) (And.intro rfl (And.intro rfl (And.intro rfl (And.intro rfl h.2.2.2.2.2)))))
    · have h := h.2.2.2 hc
      refine hY _ _ _ _ (hY _ _ _ _ (hY _ _ _ _ (?_ : Y 81 [(0, 5, true, 74), (1, 0, true, x1), (2, 0, true, x2), (3, 0, true, x3), (4, 0, true, x4)] [(0, true, x1), (0, true, x4), (5, true, 74), (0, true, x4), (5, true, 94)] (sM s m))))
      refine hY _ _ _ _ (?_ : Y 82 [(0, 5, true, 74), (1, 0, true, x1), (2, 0, true, x2), (3, 0, true, x3), (4, 0, true, x4)] [(0, true, x3), (0, true, x1), (0, true, x4), (5, true, 74), (0, true, x4), (5, true, 94)] (sM s m))
      refine hY _ _ _ _ ?_
      refine Exists.intro _ (And.intro (wc_227_r74_0t_0t_0t x4 x1 x3 _ _ h) (fun r1 m1 h => ?_))
      show Y 85 [(0, 5, true, 74), (1, 0, true, x1), (2, 0, true, x2), (3, 0, true, x3), (4, 0, true, x4)] [(2, true, r1), (0, true, x4), (5, true, 94)] (sM s m1)
      refine hY _ _ _ _ ?_
      refine And.intro (fun hc => ?_) (fun hc => ?_)
      · have h := h.1 hc
        refine hY _ _ _ _ (hY _ _ _ _ (hY _ _ _ _ (?_ : Y 98 [(0, 5, true, 74), (1, 0, true, x1), (2, 0, true, x2), (3, 0, true, x3), (4, 0, true, x4)] [(0, true, x4), (5, true, 94), (0, true, x4), (5, true, 94)] (sM s m1))))
        refine hY _ _ _ _ ?_
        refine (And.intro h.1 (And.intro h.2.1 ?_))
        show Y 99 [(0, 5, true, 74), (1, 0, true, x1), (2, 0, true, x2), (3, 0, true, x3), (4, 0, true, x4)] [(0, true, m1 94 x4), (0, true, x4), (5, true, 94)] (sM s m1)
        refine hY _ _ _ _ ?_
        refine (And.intro h.2.2.1 (And.intro h.2.2.2.1 ?_))
        refine hY _ _ _ _ (hY _ _ _ _ (?_ : Y 50 [(4, 0, false, x4 + 1), (0, 5, true, 74), (1, 0, true, x1), (2, 0, true, x2), (3, 0, true, x3)] [] (sM s (hy_u m1 94 x4 (m1 94 x4)))))
        refine l50 _ _ ?_
        refine And.intro h.2.2.2.2.1 ?_
        exact (Exists.intro (hy_u m1 94 x4 (m1 94 x4)) (And.intro rfl (And.intro rfl (And.intro rfl (And.intro rfl h.2.2.2.2.2)))))
      · have h := h.2 hc
        refine hY _ _ _ _ (hY _ _ _ _ (?_ : Y 99 [(0, 5, true, 74), (1, 0, true, x1), (2, 0, true, x2), (3, 0, true, x3), (4, 0, true, x4)] [(0, true, x3), (0, true, x4), (5, true, 94)] (sM s m1)))
        refine hY _ _ _ _ ?_
        refine (And.intro h.1 (And.intro h.2.1 ?_))
        refine hY _ _ _ _ (hY _ _ _ _ (?_ : Y 50 [(4, 0, false, x4 + 1), (0, 5, true, 74), (1, 0, true, x1), (2, 0, true, x2), (3, 0, true, x3)] [] (sM s (hy_u m1 94 x4 x3))))
        refine l50 _ _ ?_
        refine And.intro h.2.2.1 ?_
        exact (Exists.intro (hy_u m1 94 x4 x3) (And.intro rfl (And.intro rfl (And.intro rfl (And.intro rfl h.2.2.2)))))
theorem wk_228_50 (Q : sQ) (R : Int → hy_m → Prop) (s : sS) (P41 : Int → hy_m → Prop) (x1 : Int) (x2 : Int) (x3 : Int) (x4 : Int) (hP41 : ∀ (z3 : Int) (m : hy_m), P41 z3 m → sRg [(0, 5, 74), (1, 0, 0), (2, 0, 0), (3, 0, 0)] [x1, x2, z3] → kX dM 6 im_m228 0 41 (sCan [(0, 5, 74), (1, 0, 0), (2, 0, 0), (3, 0, 0)] [x1, x2, z3]) [] (sM s m) Q) (hQ : ∀ x m', R x m' → Q x (sM s m')) (hr : sRg [(0, 5, 74), (1, 0, 0), (2, 0, 0), (3, 0, 0), (4, 0, 0)] [x1, x2, x3, x4]) (h : wq_228_50 P41 x1 x2 x3 x4 s.2.2.2 R) : kX dM 6 im_m228 0 50 (sCan [(0, 5, 74), (1, 0, 0), (2, 0, 0), (3, 0, 0), (4, 0, 0)] [x1, x2, x3, x4]) [] s Q :=
  h (fun x4 m => sRg [(0, 5, 74), (1, 0, 0), (2, 0, 0), (3, 0, 0), (4, 0, 0)] [x1, x2, x3, x4] → kX dM 6 im_m228 0 50 (sCan [(0, 5, 74), (1, 0, 0), (2, 0, 0), (3, 0, 0), (4, 0, 0)] [x1, x2, x3, x4]) [] (sM s m) Q) (fun x4 m h hr => wj_228_50 Q R s P41 (fun x4 m => sRg [(0, 5, 74), (1, 0, 0), (2, 0, 0), (3, 0, 0), (4, 0, 0)] [x1, x2, x3, x4] → kX dM 6 im_m228 0 50 (sCan [(0, 5, 74), (1, 0, 0), (2, 0, 0), (3, 0, 0), (4, 0, 0)] [x1, x2, x3, x4]) [] (sM s m) Q) x1 x2 x3 x4 m  hP41 (fun _ _ hp hr => hp hr) hQ hr h) hr
def lb_228_41 (s : sS) (Q : sQ) (P41 : Int → hy_m → Prop) (R : Int → hy_m → Prop) (x1 : Int) (x2 : Int) (x3 : Int) : Nat → Option (sL → sS → Prop) := sLb [(50, fun lv t => sG [(0, 5, 74), (1, 0, 0), (2, 0, 0), (3, 0, 0), (4, 0, 0)] lv (ap4 (fun w1 w2 w3 w4 => ∃ m', t = sM s m' ∧ w1 = x1 ∧ w2 = x2 ∧ wq_228_50 P41 w1 w2 w3 w4 m' R))), (41, fun lv t => sG [(0, 5, 74), (1, 0, 0), (2, 0, 0), (3, 0, 0)] lv (ap3 (fun w1 w2 w3 => ∃ m', t = sM s m' ∧ w1 = x1 ∧ w2 = x2 ∧ P41 w3 m')))]
set_option maxRecDepth 30000 in
set_option maxHeartbeats 1000000 in
theorem wj_228_41 (Q : sQ) (R : Int → hy_m → Prop) (s : sS) (P41 : Int → hy_m → Prop) (x1 : Int) (x2 : Int) (x3 : Int) (m : hy_m) (hP41 : ∀ (z3 : Int) (m : hy_m), P41 z3 m → sRg [(0, 5, 74), (1, 0, 0), (2, 0, 0), (3, 0, 0)] [x1, x2, z3] → kX dM 6 im_m228 0 41 (sCan [(0, 5, 74), (1, 0, 0), (2, 0, 0), (3, 0, 0)] [x1, x2, z3]) [] (sM s m) Q) (hQ : ∀ x m', R x m' → Q x (sM s m')) (hr : sRg [(0, 5, 74), (1, 0, 0), (2, 0, 0), (3, 0, 0)] [x1, x2, x3]) (h : wf_228_41 x1 x2 R P41 x3 m) : kX dM 6 im_m228 0 41 (sCan [(0, 5, 74), (1, 0, 0), (2, 0, 0), (3, 0, 0)] [x1, x2, x3]) [] (sM s m) Q := by
  unfold wf_228_41 at h
  refine wz2_ok (cs := cs_228) (wr := []) (lb := lb_228_41 s Q P41 R x1 x2 x3) cs_228_ok (kLb_c (kLab (Bd := fun xs t => ap4 (fun w1 w2 w3 w4 => ∃ m', t = sM s m' ∧ w1 = x1 ∧ w2 = x2 ∧ wq_228_50 P41 w1 w2 w3 w4 m' R) xs) rfl (fun xs t r1 r2 hb => by obtain ⟨w1, w2, w3, w4, rfl, hb⟩ := ap4_ok hb; obtain ⟨m', rfl, rfl, rfl, hx⟩ := hb; exact wk_228_50 Q R (sM s m') P41 _ _ _ _ hP41 (fun x m'' hy => hQ x m'' hy) r1 hx)) (kLb_c (kLab (Bd := fun xs t => ap3 (fun w1 w2 w3 => ∃ m', t = sM s m' ∧ w1 = x1 ∧ w2 = x2 ∧ P41 w3 m') xs) rfl (fun xs t r1 r2 hb => by obtain ⟨w1, w2, w3, rfl, hb⟩ := ap3_ok hb; obtain ⟨m', rfl, rfl, rfl, hx⟩ := hb; exact hP41 _ m' hx r1)) kLb_n)) (okL_can rfl hr) (fun Y hY hl => ?_)
  have l50 := hl 50 _ rfl
  have l41 := hl 41 _ rfl
  refine hY _ _ _ _ (hY _ _ _ _ (?_ : Y 44 [(0, 5, true, 74), (1, 0, true, x1), (2, 0, true, x2), (3, 0, true, x3)] [(0, true, 20), (0, true, x3)] (sM s m)))
  refine hY _ _ _ _ ?_
  refine And.intro (fun hc => ?_) (fun hc => ?_)
  · have h := h.1 hc
    refine hY _ _ _ _ (hY _ _ _ _ (hY _ _ _ _ (?_ : Y 117 [(0, 5, true, 74), (1, 0, true, x1), (2, 0, true, x2), (3, 0, true, x3)] [(0, true, x2), (5, true, 94)] (sM s m))))
    refine hY _ _ _ _ ?_
    refine (And.intro h.1 (And.intro h.2.1 ?_))
    show Y 118 [(0, 5, true, 74), (1, 0, true, x1), (2, 0, true, x2), (3, 0, true, x3)] [(0, true, m 94 x2)] (sM s m)
    refine hY _ _ _ _ ?_
    refine And.intro (fun hc => ?_) (fun hc => ?_)
    · have h := h.2.2.1 hc
      refine hY _ _ _ _ (hY _ _ _ _ (hY _ _ _ _ (?_ : Y 131 [(0, 5, true, 74), (1, 0, true, x1), (2, 0, true, x2), (3, 0, true, x3)] [(0, true, x2), (5, true, 94)] (sM s m))))
      refine hY _ _ _ _ ?_
      refine (And.intro h.1 (And.intro h.2.1 ?_))
      show Y 132 [(0, 5, true, 74), (1, 0, true, x1), (2, 0, true, x2), (3, 0, true, x3)] [(0, true, m 94 x2)] (sM s m)
      refine hY _ _ _ _ ?_
      exact hQ (m 94 x2) m h.2.2
    · have h := h.2.2.2 hc
      refine hY _ _ _ _ (hY _ _ _ _ (?_ : Y 132 [(0, 5, true, 74), (1, 0, true, x1), (2, 0, true, x2), (3, 0, true, x3)] [(0, true, (-9))] (sM s m)))
      refine hY _ _ _ _ ?_
      exact hQ (-9) m h
  · have h := h.2 hc
    refine hY _ _ _ _ (hY _ _ _ _ (?_ : Y 50 [(4, 2, true, 0), (0, 5, true, 74), (1, 0, true, x1), (2, 0, true, x2), (3, 0, true, x3)] [] (sM s m)))
    refine l50 _ _ ?_
    exact (Exists.intro m (And.intro rfl (And.intro rfl (And.intro rfl h))))
theorem wk_228_41 (Q : sQ) (R : Int → hy_m → Prop) (s : sS) (x1 : Int) (x2 : Int) (x3 : Int) (hQ : ∀ x m', R x m' → Q x (sM s m')) (hr : sRg [(0, 5, 74), (1, 0, 0), (2, 0, 0), (3, 0, 0)] [x1, x2, x3]) (h : wq_228_41 x1 x2 x3 s.2.2.2 R) : kX dM 6 im_m228 0 41 (sCan [(0, 5, 74), (1, 0, 0), (2, 0, 0), (3, 0, 0)] [x1, x2, x3]) [] s Q :=
  h (fun x3 m => sRg [(0, 5, 74), (1, 0, 0), (2, 0, 0), (3, 0, 0)] [x1, x2, x3] → kX dM 6 im_m228 0 41 (sCan [(0, 5, 74), (1, 0, 0), (2, 0, 0), (3, 0, 0)] [x1, x2, x3]) [] (sM s m) Q) (fun x3 m h hr => wj_228_41 Q R s (fun x3 m => sRg [(0, 5, 74), (1, 0, 0), (2, 0, 0), (3, 0, 0)] [x1, x2, x3] → kX dM 6 im_m228 0 41 (sCan [(0, 5, 74), (1, 0, 0), (2, 0, 0), (3, 0, 0)] [x1, x2, x3]) [] (sM s m) Q) x1 x2 x3 m  (fun _ _ hp hr => hp hr) hQ hr h) hr
def lb_228_20 (s : sS) (Q : sQ) (P20 : Int → hy_m → Prop) (R : Int → hy_m → Prop) (x1 : Int) (x2 : Int) (x3 : Int) : Nat → Option (sL → sS → Prop) := sLb [(41, fun lv t => sG [(0, 5, 74), (1, 0, 0), (2, 0, 0), (3, 0, 0)] lv (ap3 (fun w1 w2 w3 => ∃ m', t = sM s m' ∧ wq_228_41 w1 w2 w3 m' R))), (20, fun lv t => sG [(0, 5, 74), (1, 0, 0), (2, 0, 0), (3, 0, 0)] lv (ap3 (fun w1 w2 w3 => ∃ m', t = sM s m' ∧ w1 = x1 ∧ w2 = x2 ∧ P20 w3 m')))]
set_option maxRecDepth 30000 in
set_option maxHeartbeats 1000000 in
theorem wj_228_20 (Q : sQ) (R : Int → hy_m → Prop) (s : sS) (P20 : Int → hy_m → Prop) (x1 : Int) (x2 : Int) (x3 : Int) (m : hy_m) (hP20 : ∀ (z3 : Int) (m : hy_m), P20 z3 m → sRg [(0, 5, 74), (1, 0, 0), (2, 0, 0), (3, 0, 0)] [x1, x2, z3] → kX dM 6 im_m228 0 20 (sCan [(0, 5, 74), (1, 0, 0), (2, 0, 0), (3, 0, 0)] [x1, x2, z3]) [] (sM s m) Q) (hQ : ∀ x m', R x m' → Q x (sM s m')) (hr : sRg [(0, 5, 74), (1, 0, 0), (2, 0, 0), (3, 0, 0)] [x1, x2, x3]) (h : wf_228_20 x1 x2 R P20 x3 m) : kX dM 6 im_m228 0 20 (sCan [(0, 5, 74), (1, 0, 0), (2, 0, 0), (3, 0, 0)] [x1, x2, x3]) [] (sM s m) Q := by
  unfold wf_228_20 at h
  refine wz2_ok (cs := cs_228) (wr := []) (lb := lb_228_20 s Q P20 R x1 x2 x3) cs_228_ok (kLb_c (kLab (Bd := fun xs t => ap3 (fun w1 w2 w3 => ∃ m', t = sM s m' ∧ wq_228_41 w1 w2 w3 m' R) xs) rfl (fun xs t r1 r2 hb => by obtain ⟨w1, w2, w3, rfl, hb⟩ := ap3_ok hb; obtain ⟨m', rfl, hx⟩ := hb; exact wk_228_41 Q R (sM s m') _ _ _ (fun x m'' hy => hQ x m'' hy) r1 hx)) (kLb_c (kLab (Bd := fun xs t => ap3 (fun w1 w2 w3 => ∃ m', t = sM s m' ∧ w1 = x1 ∧ w2 = x2 ∧ P20 w3 m') xs) rfl (fun xs t r1 r2 hb => by obtain ⟨w1, w2, w3, rfl, hb⟩ := ap3_ok hb; obtain ⟨m', rfl, rfl, rfl, hx⟩ := hb; exact hP20 _ m' hx r1)) kLb_n)) (okL_can rfl hr) (fun Y hY hl => ?_)
  have l41 := hl 41 _ rfl
  have l20 := hl 20 _ rfl
  refine hY _ _ _ _ (hY _ _ _ _ (?_ : Y 23 [(0, 5, true, 74), (1, 0, true, x1), (2, 0, true, x2), (3, 0, true, x3)] [(0, true, 20), (0, true, x3)] (sM s m)))
  refine hY _ _ _ _ ?_
  refine And.intro (fun hc => ?_) (fun hc => ?_)
  · have h := h.1 hc
    refine hY _ _ _ _ (hY _ _ _ _ (?_ : Y 41 [(3, 2, true, 1), (0, 5, true, 74), (1, 0, true, x1), (2, 0, true, x2)] [] (sM s m)))
    refine l41 _ _ ?_
    exact (Exists.intro m (And.intro rfl h))
  · have h := h.2 hc
    refine hY _ _ _ _ (hY _ _ _ _ (hY _ _ _ _ (?_ : Y 31 [(0, 5, true, 74), (1, 0, true, x1), (2, 0, true, x2), (3, 0, true, x3)] [(0, true, x3), (5, true, 94)] (sM s m))))
    refine hY _ _ _ _ (?_ : Y 32 [(0, 5, true, 74), (1, 0, true, x1), (2, 0, true, x2), (3, 0, true, x3)] [(2, true, 0), (0, true, x3), (5, true, 94)] (sM s m))
    refine hY _ _ _ _ ?_
    refine (And.intro h.1 (And.intro h.2.1 ?_))
    refine hY _ _ _ _ (hY _ _ _ _ (?_ : Y 20 [(3, 0, false, x3 + 1), (0, 5, true, 74), (1, 0, true, x1), (2, 0, true, x2)] [] (sM s (hy_u m 94 x3 0))))
    refine l20 _ _ ?_
    refine And.intro h.2.2.1 ?_
    exact (Exists.intro (hy_u m 94 x3 0) (And.intro rfl (And.intro rfl (And.intro rfl h.2.2.2))))
theorem wk_228_20 (Q : sQ) (R : Int → hy_m → Prop) (s : sS) (x1 : Int) (x2 : Int) (x3 : Int) (hQ : ∀ x m', R x m' → Q x (sM s m')) (hr : sRg [(0, 5, 74), (1, 0, 0), (2, 0, 0), (3, 0, 0)] [x1, x2, x3]) (h : wq_228_20 x1 x2 x3 s.2.2.2 R) : kX dM 6 im_m228 0 20 (sCan [(0, 5, 74), (1, 0, 0), (2, 0, 0), (3, 0, 0)] [x1, x2, x3]) [] s Q :=
  h (fun x3 m => sRg [(0, 5, 74), (1, 0, 0), (2, 0, 0), (3, 0, 0)] [x1, x2, x3] → kX dM 6 im_m228 0 20 (sCan [(0, 5, 74), (1, 0, 0), (2, 0, 0), (3, 0, 0)] [x1, x2, x3]) [] (sM s m) Q) (fun x3 m h hr => wj_228_20 Q R s (fun x3 m => sRg [(0, 5, 74), (1, 0, 0), (2, 0, 0), (3, 0, 0)] [x1, x2, x3] → kX dM 6 im_m228 0 20 (sCan [(0, 5, 74), (1, 0, 0), (2, 0, 0), (3, 0, 0)] [x1, x2, x3]) [] (sM s m) Q) x1 x2 x3 m  (fun _ _ hp hr => hp hr) hQ hr h) hr
def lb_228_0 (s : sS) (Q : sQ) (R : Int → hy_m → Prop) (x1 : Int) (x2 : Int) : Nat → Option (sL → sS → Prop) := sLb [(20, fun lv t => sG [(0, 5, 74), (1, 0, 0), (2, 0, 0), (3, 0, 0)] lv (ap3 (fun w1 w2 w3 => ∃ m', t = sM s m' ∧ wq_228_20 w1 w2 w3 m' R)))]
set_option maxRecDepth 30000 in
set_option maxHeartbeats 1000000 in
theorem wk_228_0 (Q : sQ) (R : Int → hy_m → Prop) (s : sS) (x1 : Int) (x2 : Int) (hQ : ∀ x m', R x m' → Q x (sM s m')) (hr : sRg [(0, 5, 74), (1, 0, 0), (2, 0, 0)] [x1, x2]) (h : wq_228 x1 x2 s.2.2.2 R) : kX dM 6 im_m228 0 0 (sCan [(0, 5, 74), (1, 0, 0), (2, 0, 0)] [x1, x2]) [] s Q := by
  unfold wq_228 at h
  refine wz2_ok (cs := cs_228) (wr := []) (lb := lb_228_0 s Q R x1 x2) cs_228_ok (kLb_c (kLab (Bd := fun xs t => ap3 (fun w1 w2 w3 => ∃ m', t = sM s m' ∧ wq_228_20 w1 w2 w3 m' R) xs) rfl (fun xs t r1 r2 hb => by obtain ⟨w1, w2, w3, rfl, hb⟩ := ap3_ok hb; obtain ⟨m', rfl, hx⟩ := hb; exact wk_228_20 Q R (sM s m') _ _ _ (fun x m'' hy => hQ x m'' hy) r1 hx)) kLb_n) (okL_can rfl hr) (fun Y hY hl => ?_)
  have l20 := hl 20 _ rfl
  refine hY _ _ _ _ (hY _ _ _ _ (?_ : Y 2 [(0, 5, true, 74), (1, 0, true, x1), (2, 0, true, x2)] [(0, true, x1), (5, true, 74)] s))
  refine hY _ _ _ _ ?_
  refine Exists.intro _ (And.intro (wc_205_r74_0t x1 _ _ h) (fun r1 m1 h => ?_))
  show Y 5 [(0, 5, true, 74), (1, 0, true, x1), (2, 0, true, x2)] [(2, true, r1)] (sM s m1)
  refine hY _ _ _ _ ?_
  refine And.intro (fun hc => ?_) (fun hc => ?_)
  · have h := h.1 hc
    refine hY _ _ _ _ (?_ : Y 17 [(0, 5, true, 74), (1, 0, true, x1), (2, 0, true, x2)] [(0, true, (-1))] (sM s m1))
    refine hY _ _ _ _ ?_
    exact hQ (-1) m1 h
  · have h := h.2 hc
    refine hY _ _ _ _ (hY _ _ _ _ (?_ : Y 10 [(0, 5, true, 74), (1, 0, true, x1), (2, 0, true, x2)] [(0, true, x2), (5, true, 74)] (sM s m1)))
    refine hY _ _ _ _ ?_
    refine Exists.intro _ (And.intro (wc_205_r74_0t x2 _ _ h) (fun r2 m2 h => ?_))
    show Y 13 [(0, 5, true, 74), (1, 0, true, x1), (2, 0, true, x2)] [(2, true, r2)] (sM s m2)
    refine hY _ _ _ _ ?_
    refine And.intro (fun hc => ?_) (fun hc => ?_)
    · have h := h.1 hc
      refine hY _ _ _ _ (hY _ _ _ _ (?_ : Y 20 [(3, 2, true, 0), (0, 5, true, 74), (1, 0, true, x1), (2, 0, true, x2)] [] (sM s m2)))
      refine l20 _ _ ?_
      exact (Exists.intro m2 (And.intro rfl h))
    · have h := h.2 hc
      refine hY _ _ _ _ (?_ : Y 17 [(0, 5, true, 74), (1, 0, true, x1), (2, 0, true, x2)] [(0, true, (-1))] (sM s m2))
      refine hY _ _ _ _ ?_
      exact hQ (-1) m2 h
def we_228 : sFf := sEf 5 [(0, 5, 74), (1, 0, 0), (2, 0, 0)] (fun xs s Q => ap2 (fun x1 x2 => wq_228 x1 x2 s.2.2.2 Q) xs)
theorem we_228_ok : kS dM 7 228 0 (.inl we_228) := sEf_ok (mi := im_m228) rfl rfl rfl (fun R xs s r1 hb => by obtain ⟨x1, x2, rfl, hb⟩ := ap2_ok hb; exact wk_228_0 _ R s x1 x2 (fun x m' hx => ⟨m', rfl, hx⟩) r1 hb)
/-- LMModel.isFree(J)Z -/
def wq_230 (x0 : Int) (m : hy_m) (Q : Int → hy_m → Prop) : Prop := ((jA x0 2305843009213693952) = 0 → (Q 0 m)) ∧ ((jA x0 2305843009213693952) ≠ 0 → (((jA x0 4611686018427387904) ≠ 0 → (Q 0 m)) ∧ ((jA x0 4611686018427387904) = 0 → (Q 1 m))))
def cs_230 : List (Nat × Nat × sFS) := []
theorem cs_230_ok : kCs dM 0 cs_230 := kCs_n
def lb_230_0 (s : sS) (Q : sQ) (R : Int → hy_m → Prop) (x0 : Int) : Nat → Option (sL → sS → Prop) := sLb []
set_option maxRecDepth 30000 in
set_option maxHeartbeats 1000000 in
theorem wk_230_0 (Q : sQ) (R : Int → hy_m → Prop) (s : sS) (x0 : Int) (hQ : ∀ x m', R x m' → Q x (sM s m')) (hr : sRg [(0, 1, 0)] [x0]) (h : wq_230 x0 s.2.2.2 R) : kX dM 0 im_m230 2 0 (sCan [(0, 1, 0)] [x0]) [] s Q := by
  unfold wq_230 at h
  refine wz2_ok (cs := cs_230) (wr := []) (lb := lb_230_0 s Q R x0) cs_230_ok kLb_n (okL_can rfl hr) (fun Y hY hl => ?_)
  refine hY _ _ _ _ (hY _ _ _ _ (?_ : Y 4 [(0, 1, true, x0)] [(1, true, 2305843009213693952), (1, true, x0)] s))
  refine hY _ _ _ _ (?_ : Y 5 [(0, 1, true, x0)] [(1, true, jA x0 2305843009213693952)] s)
  refine hY _ _ _ _ (?_ : Y 6 [(0, 1, true, x0)] [(1, true, 0), (1, true, jA x0 2305843009213693952)] s)
  refine hY _ _ _ _ ?_
  refine And.intro (fun hc => ?_) (fun hc => ?_)
  · have h := h.1 hc
    refine hY _ _ _ _ (?_ : Y 25 [(0, 1, true, x0)] [(2, true, 0)] s)
    refine hY _ _ _ _ ?_
    exact hQ 0 s.2.2.2 h
  · have h := h.2 hc
    refine hY _ _ _ _ (hY _ _ _ _ (?_ : Y 14 [(0, 1, true, x0)] [(1, true, 4611686018427387904), (1, true, x0)] s))
    refine hY _ _ _ _ (?_ : Y 15 [(0, 1, true, x0)] [(1, true, jA x0 4611686018427387904)] s)
    refine hY _ _ _ _ (?_ : Y 16 [(0, 1, true, x0)] [(1, true, 0), (1, true, jA x0 4611686018427387904)] s)
    refine hY _ _ _ _ ?_
    refine And.intro (fun hc => ?_) (fun hc => ?_)
    · have h := h.1 hc
      refine hY _ _ _ _ (?_ : Y 25 [(0, 1, true, x0)] [(2, true, 0)] s)
      refine hY _ _ _ _ ?_
      exact hQ 0 s.2.2.2 h
    · have h := h.2 hc
      refine hY _ _ _ _ (hY _ _ _ _ (?_ : Y 25 [(0, 1, true, x0)] [(2, true, 1)] s))
      refine hY _ _ _ _ ?_
      exact hQ 1 s.2.2.2 h
def we_230 : sFf := sEf 2 [(0, 1, 0)] (fun xs s Q => ap1 (fun x0 => wq_230 x0 s.2.2.2 Q) xs)
theorem we_230_ok : kS dM 1 230 2 (.inl we_230) := sEf_ok (mi := im_m230) rfl rfl rfl (fun R xs s r1 hb => by obtain ⟨x0, rfl, hb⟩ := ap1_ok hb; exact wk_230_0 _ R s x0 (fun x m' hx => ⟨m', rfl, hx⟩) r1 hb)
/-- LMModel.isComputed(J)Z -/
def wq_231 (x0 : Int) (m : hy_m) (Q : Int → hy_m → Prop) : Prop := ((jA x0 4611686018427387904) = 0 → (Q 0 m)) ∧ ((jA x0 4611686018427387904) ≠ 0 → (Q 1 m))
def cs_231 : List (Nat × Nat × sFS) := []
theorem cs_231_ok : kCs dM 0 cs_231 := kCs_n
def lb_231_0 (s : sS) (Q : sQ) (R : Int → hy_m → Prop) (x0 : Int) : Nat → Option (sL → sS → Prop) := sLb []
set_option maxRecDepth 30000 in
set_option maxHeartbeats 1000000 in
theorem wk_231_0 (Q : sQ) (R : Int → hy_m → Prop) (s : sS) (x0 : Int) (hQ : ∀ x m', R x m' → Q x (sM s m')) (hr : sRg [(0, 1, 0)] [x0]) (h : wq_231 x0 s.2.2.2 R) : kX dM 0 im_m231 2 0 (sCan [(0, 1, 0)] [x0]) [] s Q := by
  unfold wq_231 at h
  refine wz2_ok (cs := cs_231) (wr := []) (lb := lb_231_0 s Q R x0) cs_231_ok kLb_n (okL_can rfl hr) (fun Y hY hl => ?_)
  refine hY _ _ _ _ (hY _ _ _ _ (?_ : Y 4 [(0, 1, true, x0)] [(1, true, 4611686018427387904), (1, true, x0)] s))
  refine hY _ _ _ _ (?_ : Y 5 [(0, 1, true, x0)] [(1, true, jA x0 4611686018427387904)] s)
  refine hY _ _ _ _ (?_ : Y 6 [(0, 1, true, x0)] [(1, true, 0), (1, true, jA x0 4611686018427387904)] s)
  refine hY _ _ _ _ ?_
  refine And.intro (fun hc => ?_) (fun hc => ?_)
  · have h := h.1 hc
    refine hY _ _ _ _ (?_ : Y 15 [(0, 1, true, x0)] [(2, true, 0)] s)
    refine hY _ _ _ _ ?_
    exact hQ 0 s.2.2.2 h
  · have h := h.2 hc
    refine hY _ _ _ _ (hY _ _ _ _ (?_ : Y 15 [(0, 1, true, x0)] [(2, true, 1)] s))
    refine hY _ _ _ _ ?_
    exact hQ 1 s.2.2.2 h
def we_231 : sFf := sEf 2 [(0, 1, 0)] (fun xs s Q => ap1 (fun x0 => wq_231 x0 s.2.2.2 Q) xs)
theorem we_231_ok : kS dM 1 231 2 (.inl we_231) := sEf_ok (mi := im_m231) rfl rfl rfl (fun R xs s r1 hb => by obtain ⟨x0, rfl, hb⟩ := ap1_ok hb; exact wk_231_0 _ R s x0 (fun x m' hx => ⟨m', rfl, hx⟩) r1 hb)
/-- LMModel.nodeOf(J)I -/
def wq_232 (x0 : Int) (m : hy_m) (Q : Int → hy_m → Prop) : Prop := 0 ≤ x0 ∧ 0 < (4096 : Int) ∧ (hy_r 0 (x0 % 4096) ∧ (Q (x0 % 4096) m))
def cs_232 : List (Nat × Nat × sFS) := []
theorem cs_232_ok : kCs dM 0 cs_232 := kCs_n
def lb_232_0 (s : sS) (Q : sQ) (R : Int → hy_m → Prop) (x0 : Int) : Nat → Option (sL → sS → Prop) := sLb []
set_option maxRecDepth 30000 in
set_option maxHeartbeats 1000000 in
theorem wk_232_0 (Q : sQ) (R : Int → hy_m → Prop) (s : sS) (x0 : Int) (hQ : ∀ x m', R x m' → Q x (sM s m')) (hr : sRg [(0, 1, 0)] [x0]) (h : wq_232 x0 s.2.2.2 R) : kX dM 0 im_m232 0 0 (sCan [(0, 1, 0)] [x0]) [] s Q := by
  unfold wq_232 at h
  refine wz2_ok (cs := cs_232) (wr := []) (lb := lb_232_0 s Q R x0) cs_232_ok kLb_n (okL_can rfl hr) (fun Y hY hl => ?_)
  refine hY _ _ _ _ (hY _ _ _ _ (?_ : Y 4 [(0, 1, true, x0)] [(1, true, 4096), (1, true, x0)] s))
  refine hY _ _ _ _ ?_
  refine (And.intro h.1 (And.intro h.2.1 ?_))
  refine hY _ _ _ _ (?_ : Y 6 [(0, 1, true, x0)] [(0, false, x0 % 4096)] s)
  refine hY _ _ _ _ ?_
  refine And.intro h.2.2.1 ?_
  exact hQ (x0 % 4096) s.2.2.2 h.2.2.2
def we_232 : sFf := sEf 2 [(0, 1, 0)] (fun xs s Q => ap1 (fun x0 => wq_232 x0 s.2.2.2 Q) xs)
theorem we_232_ok : kS dM 1 232 0 (.inl we_232) := sEf_ok (mi := im_m232) rfl rfl rfl (fun R xs s r1 hb => by obtain ⟨x0, rfl, hb⟩ := ap1_ok hb; exact wk_232_0 _ R s x0 (fun x m' hx => ⟨m', rfl, hx⟩) r1 hb)
/-- LMModel.placeOf(J)I -/
def wq_233 (x0 : Int) (m : hy_m) (Q : Int → hy_m → Prop) : Prop := 0 ≤ x0 ∧ 0 < (4096 : Int) ∧ (hy_r 0 (x0 / 4096) ∧ (Q (x0 / 4096) m))
def cs_233 : List (Nat × Nat × sFS) := []
theorem cs_233_ok : kCs dM 0 cs_233 := kCs_n
def lb_233_0 (s : sS) (Q : sQ) (R : Int → hy_m → Prop) (x0 : Int) : Nat → Option (sL → sS → Prop) := sLb []
set_option maxRecDepth 30000 in
set_option maxHeartbeats 1000000 in
theorem wk_233_0 (Q : sQ) (R : Int → hy_m → Prop) (s : sS) (x0 : Int) (hQ : ∀ x m', R x m' → Q x (sM s m')) (hr : sRg [(0, 1, 0)] [x0]) (h : wq_233 x0 s.2.2.2 R) : kX dM 0 im_m233 0 0 (sCan [(0, 1, 0)] [x0]) [] s Q := by
  unfold wq_233 at h
  refine wz2_ok (cs := cs_233) (wr := []) (lb := lb_233_0 s Q R x0) cs_233_ok kLb_n (okL_can rfl hr) (fun Y hY hl => ?_)
  refine hY _ _ _ _ (hY _ _ _ _ (?_ : Y 4 [(0, 1, true, x0)] [(1, true, 4096), (1, true, x0)] s))
  refine hY _ _ _ _ ?_
  refine (And.intro h.1 (And.intro h.2.1 ?_))
  refine hY _ _ _ _ (?_ : Y 6 [(0, 1, true, x0)] [(0, false, x0 / 4096)] s)
  refine hY _ _ _ _ ?_
  refine And.intro h.2.2.1 ?_
  exact hQ (x0 / 4096) s.2.2.2 h.2.2.2
def we_233 : sFf := sEf 2 [(0, 1, 0)] (fun xs s Q => ap1 (fun x0 => wq_233 x0 s.2.2.2 Q) xs)
theorem we_233_ok : kS dM 1 233 0 (.inl we_233) := sEf_ok (mi := im_m233) rfl rfl rfl (fun R xs s r1 hb => by obtain ⟨x0, rfl, hb⟩ := ap1_ok hb; exact wk_233_0 _ R s x0 (fun x m' hx => ⟨m', rfl, hx⟩) r1 hb)
/-- LMModel.termOf(II)J -/
def wq_234 (x0 : Int) (x1 : Int) (m : hy_m) (Q : Int → hy_m → Prop) : Prop := hy_r 1 ((4096 * x1) + x0) ∧ (Q ((4096 * x1) + x0) m)
def cs_234 : List (Nat × Nat × sFS) := []
theorem cs_234_ok : kCs dM 0 cs_234 := kCs_n
def lb_234_0 (s : sS) (Q : sQ) (R : Int → hy_m → Prop) (x0 : Int) (x1 : Int) : Nat → Option (sL → sS → Prop) := sLb []
set_option maxRecDepth 30000 in
set_option maxHeartbeats 1000000 in
theorem wk_234_0 (Q : sQ) (R : Int → hy_m → Prop) (s : sS) (x0 : Int) (x1 : Int) (hQ : ∀ x m', R x m' → Q x (sM s m')) (hr : sRg [(0, 0, 0), (1, 0, 0)] [x0, x1]) (h : wq_234 x0 x1 s.2.2.2 R) : kX dM 0 im_m234 1 0 (sCan [(0, 0, 0), (1, 0, 0)] [x0, x1]) [] s Q := by
  unfold wq_234 at h
  refine wz2_ok (cs := cs_234) (wr := []) (lb := lb_234_0 s Q R x0 x1) cs_234_ok kLb_n (okL_can rfl hr) (fun Y hY hl => ?_)
  refine hY _ _ _ _ (hY _ _ _ _ (?_ : Y 4 [(0, 0, true, x0), (1, 0, true, x1)] [(0, true, x1), (1, true, 4096)] s))
  refine hY _ _ _ _ ?_
  refine hY _ _ _ _ (hY _ _ _ _ (?_ : Y 7 [(0, 0, true, x0), (1, 0, true, x1)] [(0, true, x0), (1, false, 4096 * x1)] s))
  refine hY _ _ _ _ ?_
  refine hY _ _ _ _ (?_ : Y 9 [(0, 0, true, x0), (1, 0, true, x1)] [(1, false, (4096 * x1) + x0)] s)
  refine hY _ _ _ _ ?_
  refine And.intro h.1 ?_
  exact hQ ((4096 * x1) + x0) s.2.2.2 h.2
def we_234 : sFf := sEf 2 [(0, 0, 0), (1, 0, 0)] (fun xs s Q => ap2 (fun x0 x1 => wq_234 x0 x1 s.2.2.2 Q) xs)
theorem we_234_ok : kS dM 1 234 1 (.inl we_234) := sEf_ok (mi := im_m234) rfl rfl rfl (fun R xs s r1 hb => by obtain ⟨x0, x1, rfl, hb⟩ := ap2_ok hb; exact wk_234_0 _ R s x0 x1 (fun x m' hx => ⟨m', rfl, hx⟩) r1 hb)
/-- LMModel.integer(I)J -/
def wq_235 (x0 : Int) (m : hy_m) (Q : Int → hy_m → Prop) : Prop := Q (jO 4611686018427387904 (jA x0 4294967295)) m
def cs_235 : List (Nat × Nat × sFS) := []
theorem cs_235_ok : kCs dM 0 cs_235 := kCs_n
def lb_235_0 (s : sS) (Q : sQ) (R : Int → hy_m → Prop) (x0 : Int) : Nat → Option (sL → sS → Prop) := sLb []
set_option maxRecDepth 30000 in
set_option maxHeartbeats 1000000 in
theorem wk_235_0 (Q : sQ) (R : Int → hy_m → Prop) (s : sS) (x0 : Int) (hQ : ∀ x m', R x m' → Q x (sM s m')) (hr : sRg [(0, 0, 0)] [x0]) (h : wq_235 x0 s.2.2.2 R) : kX dM 0 im_m235 1 0 (sCan [(0, 0, 0)] [x0]) [] s Q := by
  unfold wq_235 at h
  refine wz2_ok (cs := cs_235) (wr := []) (lb := lb_235_0 s Q R x0) cs_235_ok kLb_n (okL_can rfl hr) (fun Y hY hl => ?_)
  refine hY _ _ _ _ (hY _ _ _ _ (?_ : Y 4 [(0, 0, true, x0)] [(0, true, x0), (1, true, 4611686018427387904)] s))
  refine hY _ _ _ _ ?_
  refine hY _ _ _ _ (?_ : Y 8 [(0, 0, true, x0)] [(1, true, 4294967295), (1, true, x0), (1, true, 4611686018427387904)] s)
  refine hY _ _ _ _ (?_ : Y 9 [(0, 0, true, x0)] [(1, true, jA x0 4294967295), (1, true, 4611686018427387904)] s)
  refine hY _ _ _ _ (?_ : Y 10 [(0, 0, true, x0)] [(1, true, jO 4611686018427387904 (jA x0 4294967295))] s)
  refine hY _ _ _ _ ?_
  exact hQ (jO 4611686018427387904 (jA x0 4294967295)) s.2.2.2 h
def we_235 : sFf := sEf 1 [(0, 0, 0)] (fun xs s Q => ap1 (fun x0 => wq_235 x0 s.2.2.2 Q) xs)
theorem we_235_ok : kS dM 1 235 1 (.inl we_235) := sEf_ok (mi := im_m235) rfl rfl rfl (fun R xs s r1 hb => by obtain ⟨x0, rfl, hb⟩ := ap1_ok hb; exact wk_235_0 _ R s x0 (fun x m' hx => ⟨m', rfl, hx⟩) r1 hb)
/-- LMModel.argument(JI)J -/
def wq_236 (x1 : Int) (x3 : Int) (m : hy_m) (Q : Int → hy_m → Prop) : Prop := wq_232 x1 m (fun r1 m1 => 0 ≤ ((3 * r1) + x3) ∧ ((3 * r1) + x3) < 10752 ∧ (wq_233 x1 m1 (fun r2 m2 => wq_234 (m1 79 ((3 * r1) + x3)) r2 m2 (fun r3 m3 => Q r3 m3))))
theorem wc_232_1t (x0 : Int) (s : sS) (R : Int → hy_m → Prop) (h : wq_232 x0 s.2.2.2 R) : we_232 [(1, true, x0)] s R := h
theorem wc_233_1t (x0 : Int) (s : sS) (R : Int → hy_m → Prop) (h : wq_233 x0 s.2.2.2 R) : we_233 [(1, true, x0)] s R := h
theorem wc_234_0t_0t (x0 : Int) (x1 : Int) (s : sS) (R : Int → hy_m → Prop) (h : wq_234 x0 x1 s.2.2.2 R) : we_234 [(0, true, x0), (0, true, x1)] s R := h
def cs_236 : List (Nat × Nat × sFS) := [(232, 0, .inl we_232), (233, 0, .inl we_233), (234, 1, .inl we_234)]
theorem cs_236_ok : kCs dM 1 cs_236 := (kCs_c (Or.inl rfl) (we_232_ok.deep (by decide)) (kCs_c (Or.inl rfl) (we_233_ok.deep (by decide)) (kCs_c (Or.inr (Or.inl rfl)) (we_234_ok.deep (by decide)) kCs_n)))
def lb_236_0 (s : sS) (Q : sQ) (R : Int → hy_m → Prop) (x1 : Int) (x3 : Int) : Nat → Option (sL → sS → Prop) := sLb []
set_option maxRecDepth 30000 in
set_option maxHeartbeats 1000000 in
theorem wk_236_0 (Q : sQ) (R : Int → hy_m → Prop) (s : sS) (x1 : Int) (x3 : Int) (hQ : ∀ x m', R x m' → Q x (sM s m')) (hr : sRg [(0, 5, 74), (1, 1, 0), (3, 0, 0)] [x1, x3]) (h : wq_236 x1 x3 s.2.2.2 R) : kX dM 1 im_m236 1 0 (sCan [(0, 5, 74), (1, 1, 0), (3, 0, 0)] [x1, x3]) [] s Q := by
  unfold wq_236 at h
  refine wz2_ok (cs := cs_236) (wr := []) (lb := lb_236_0 s Q R x1 x3) cs_236_ok kLb_n (okL_can rfl hr) (fun Y hY hl => ?_)
  refine hY _ _ _ _ (hY _ _ _ _ (hY _ _ _ _ (?_ : Y 5 [(0, 5, true, 74), (1, 1, true, x1), (3, 0, true, x3)] [(0, true, 3), (5, true, 79)] s)))
  refine hY _ _ _ _ (?_ : Y 6 [(0, 5, true, 74), (1, 1, true, x1), (3, 0, true, x3)] [(1, true, x1), (0, true, 3), (5, true, 79)] s)
  refine hY _ _ _ _ ?_
  refine Exists.intro _ (And.intro (wc_232_1t x1 _ _ h) (fun r1 m1 h => ?_))
  refine hY _ _ _ _ (hY _ _ _ _ (hY _ _ _ _ (?_ : Y 12 [(0, 5, true, 74), (1, 1, true, x1), (3, 0, true, x3)] [(0, false, (3 * r1) + x3), (5, true, 79)] (sM s m1))))
  refine hY _ _ _ _ ?_
  refine (And.intro h.1 (And.intro h.2.1 ?_))
  refine hY _ _ _ _ (?_ : Y 14 [(0, 5, true, 74), (1, 1, true, x1), (3, 0, true, x3)] [(1, true, x1), (0, true, m1 79 ((3 * r1) + x3))] (sM s m1))
  refine hY _ _ _ _ ?_
  refine Exists.intro _ (And.intro (wc_233_1t x1 _ _ h.2.2) (fun r2 m2 h => ?_))
  show Y 17 [(0, 5, true, 74), (1, 1, true, x1), (3, 0, true, x3)] [(0, true, r2), (0, true, m1 79 ((3 * r1) + x3))] (sM s m2)
  refine hY _ _ _ _ ?_
  refine Exists.intro _ (And.intro (wc_234_0t_0t (m1 79 ((3 * r1) + x3)) r2 _ _ h) (fun r3 m3 h => ?_))
  show Y 20 [(0, 5, true, 74), (1, 1, true, x1), (3, 0, true, x3)] [(1, true, r3)] (sM s m3)
  refine hY _ _ _ _ ?_
  exact hQ r3 m3 h
def we_236 : sFf := sEf 4 [(0, 5, 74), (1, 1, 0), (3, 0, 0)] (fun xs s Q => ap2 (fun x1 x3 => wq_236 x1 x3 s.2.2.2 Q) xs)
theorem we_236_ok : kS dM 2 236 1 (.inl we_236) := sEf_ok (mi := im_m236) rfl rfl rfl (fun R xs s r1 hb => by obtain ⟨x1, x3, rfl, hb⟩ := ap2_ok hb; exact wk_236_0 _ R s x1 x3 (fun x m' hx => ⟨m', rfl, hx⟩) r1 hb)
