/-- LMModel.write(I)I -/
def wq_200 (x1 : Int) (m : hy_m) (Q : Int → hy_m → Prop) : Prop := wq_170 x1 32 126 m (fun r1 m1 => (r1 ≠ 0 → (((m1 74 1) ≠ 120 → (0 ≤ (m1 74 1) ∧ (m1 74 1) < 120 ∧ (hy_r 0 ((m1 74 1) + 1) ∧ (Q ((m1 74 1) + 1) (hy_u (hy_u m1 75 (m1 74 1) x1) 74 1 ((m1 74 1) + 1)))))) ∧ ((m1 74 1) = 120 → (Q (-3) m1)))) ∧ (r1 = 0 → (Q (-1) m1)))
theorem wc_170_0t_0t_0t (x0 : Int) (x1 : Int) (x2 : Int) (s : sS) (R : Int → hy_m → Prop) (h : wq_170 x0 x1 x2 s.2.2.2 R) : we_170 [(0, true, x0), (0, true, x1), (0, true, x2)] s R := h
def cs_200 : List (Nat × Nat × sFS) := [(170, 2, .inl we_170)]
theorem cs_200_ok : kCs dM 1 cs_200 := (kCs_c (Or.inr (Or.inr (Or.inl rfl))) (we_170_ok.deep (by decide)) kCs_n)
def lb_200_0 (s : sS) (Q : sQ) (R : Int → hy_m → Prop) (x1 : Int) : Nat → Option (sL → sS → Prop) := sLb []
set_option maxRecDepth 30000 in
set_option maxHeartbeats 1000000 in
theorem wk_200_0 (Q : sQ) (R : Int → hy_m → Prop) (s : sS) (x1 : Int) (hQ : ∀ x m', R x m' → Q x (sM s m')) (hr : sRg [(0, 5, 74), (1, 0, 0)] [x1]) (h : wq_200 x1 s.2.2.2 R) : kX dM 1 im_m200 0 0 (sCan [(0, 5, 74), (1, 0, 0)] [x1]) [] s Q := by
  unfold wq_200 at h
  refine wz2_ok (cs := cs_200) (wr := []) (lb := lb_200_0 s Q R x1) cs_200_ok kLb_n (okL_can rfl hr) (fun Y hY hl => ?_)
  refine hY _ _ _ _ (hY _ _ _ _ (hY _ _ _ _ (?_ : Y 5 [(0, 5, true, 74), (1, 0, true, x1)] [(0, true, 126), (0, true, 32), (0, true, x1)] s)))
  refine hY _ _ _ _ ?_
  refine Exists.intro _ (And.intro (wc_170_0t_0t_0t x1 32 126 _ _ h) (fun r1 m1 h => ?_))
  show Y 8 [(0, 5, true, 74), (1, 0, true, x1)] [(2, true, r1)] (sM s m1)
  refine hY _ _ _ _ ?_
  refine And.intro (fun hc => ?_) (fun hc => ?_)
  · have h := h.1 hc
    refine hY _ _ _ _ (hY _ _ _ _ (hY _ _ _ _ (?_ : Y 19 [(0, 5, true, 74), (1, 0, true, x1)] [(0, true, 120), (0, true, m1 74 1)] (sM s m1))))
    refine hY _ _ _ _ ?_
    refine And.intro (fun hc => ?_) (fun hc => ?_)
    · have h := h.1 hc
      refine hY _ _ _ _ (hY _ _ _ _ (hY _ _ _ _ (?_ : Y 30 [(0, 5, true, 74), (1, 0, true, x1)] [(5, true, 74), (5, true, 75)] (sM s m1))))
      refine hY _ _ _ _ (hY _ _ _ _ (?_ : Y 34 [(0, 5, true, 74), (1, 0, true, x1)] [(0, true, x1), (0, true, m1 74 1), (5, true, 75)] (sM s m1)))
      refine hY _ _ _ _ ?_
      refine (And.intro h.1 (And.intro h.2.1 ?_))
      refine hY _ _ _ _ (hY _ _ _ _ (hY _ _ _ _ (?_ : Y 40 [(0, 5, true, 74), (1, 0, true, x1)] [(0, true, m1 74 1), (5, true, 74)] (sM s (hy_u m1 75 (m1 74 1) x1)))))
      refine hY _ _ _ _ (hY _ _ _ _ (?_ : Y 42 [(0, 5, true, 74), (1, 0, true, x1)] [(0, false, (m1 74 1) + 1), (5, true, 74)] (sM s (hy_u m1 75 (m1 74 1) x1))))
      refine hY _ _ _ _ ?_
      refine And.intro h.2.2.1 ?_
      refine hY _ _ _ _ (hY _ _ _ _ (?_ : Y 49 [(0, 5, true, 74), (1, 0, true, x1)] [(0, true, (m1 74 1) + 1)] (sM s (hy_u (hy_u m1 75 (m1 74 1) x1) 74 1 ((m1 74 1) + 1)))))
      refine hY _ _ _ _ ?_
      exact hQ ((m1 74 1) + 1) (hy_u (hy_u m1 75 (m1 74 1) x1) 74 1 ((m1 74 1) + 1)) h.2.2.2
    · have h := h.2 hc
      refine hY _ _ _ _ (?_ : Y 24 [(0, 5, true, 74), (1, 0, true, x1)] [(0, true, (-3))] (sM s m1))
      refine hY _ _ _ _ ?_
      exact hQ (-3) m1 h
  · have h := h.2 hc
    refine hY _ _ _ _ (?_ : Y 12 [(0, 5, true, 74), (1, 0, true, x1)] [(0, true, (-1))] (sM s m1))
    refine hY _ _ _ _ ?_
    exact hQ (-1) m1 h
def we_200 : sFf := sEf 2 [(0, 5, 74), (1, 0, 0)] (fun xs s Q => ap1 (fun x1 => wq_200 x1 s.2.2.2 Q) xs)
theorem we_200_ok : kS dM 2 200 0 (.inl we_200) := sEf_ok (mi := im_m200) rfl rfl rfl (fun R xs s r1 hb => by obtain ⟨x1, rfl, hb⟩ := ap1_ok hb; exact wk_200_0 _ R s x1 (fun x m' hx => ⟨m', rfl, hx⟩) r1 hb)
/-- LMModel.wipe()I -/
def wq_201 (m : hy_m) (Q : Int → hy_m → Prop) : Prop := Q (m 74 1) (hy_u m 74 1 0)
def cs_201 : List (Nat × Nat × sFS) := []
theorem cs_201_ok : kCs dM 0 cs_201 := kCs_n
def lb_201_0 (s : sS) (Q : sQ) (R : Int → hy_m → Prop) : Nat → Option (sL → sS → Prop) := sLb []
set_option maxRecDepth 30000 in
set_option maxHeartbeats 1000000 in
theorem wk_201_0 (Q : sQ) (R : Int → hy_m → Prop) (s : sS) (hQ : ∀ x m', R x m' → Q x (sM s m')) (hr : sRg [(0, 5, 74)] []) (h : wq_201 s.2.2.2 R) : kX dM 0 im_m201 0 0 (sCan [(0, 5, 74)] []) [] s Q := by
  unfold wq_201 at h
  refine wz2_ok (cs := cs_201) (wr := []) (lb := lb_201_0 s Q R) cs_201_ok kLb_n (okL_can rfl hr) (fun Y hY hl => ?_)
  refine hY _ _ _ _ (hY _ _ _ _ (hY _ _ _ _ (?_ : Y 5 [(1, 0, true, s.2.2.2 74 1), (0, 5, true, 74)] [] s)))
  refine hY _ _ _ _ (hY _ _ _ _ (?_ : Y 7 [(1, 0, true, s.2.2.2 74 1), (0, 5, true, 74)] [(2, true, 0), (5, true, 74)] s))
  refine hY _ _ _ _ ?_
  refine hY _ _ _ _ (?_ : Y 11 [(1, 0, true, s.2.2.2 74 1), (0, 5, true, 74)] [(0, true, s.2.2.2 74 1)] (sM s (hy_u s.2.2.2 74 1 0)))
  refine hY _ _ _ _ ?_
  exact hQ (s.2.2.2 74 1) (hy_u s.2.2.2 74 1 0) h
def we_201 : sFf := sEf 2 [(0, 5, 74)] (fun xs s Q => ap0 (wq_201 s.2.2.2 Q) xs)
theorem we_201_ok : kS dM 1 201 0 (.inl we_201) := sEf_ok (mi := im_m201) rfl rfl rfl (fun R xs s r1 hb => by obtain ⟨rfl, hb⟩ := ap0_ok hb; exact wk_201_0 _ R s (fun x m' hx => ⟨m', rfl, hx⟩) r1 hb)
/-- LMModel.fault(I)I -/
def wq_202 (x1 : Int) (m : hy_m) (Q : Int → hy_m → Prop) : Prop := wq_170 x1 0 1 m (fun r1 m1 => (r1 = 0 → (Q (-1) m1)) ∧ (r1 ≠ 0 → (wq_199 x1 m1 (fun r2 m2 => Q r2 m2))))
theorem wc_170_0t_2t_2t (x0 : Int) (x1 : Int) (x2 : Int) (s : sS) (R : Int → hy_m → Prop) (h : wq_170 x0 x1 x2 s.2.2.2 R) : we_170 [(0, true, x0), (2, true, x1), (2, true, x2)] s R := h
theorem wc_199_r74_0t (x1 : Int) (s : sS) (R : Int → hy_m → Prop) (h : wq_199 x1 s.2.2.2 R) : we_199 [(5, true, 74), (0, true, x1)] s R := h
def cs_202 : List (Nat × Nat × sFS) := [(170, 2, .inl we_170), (199, 0, .inl we_199)]
theorem cs_202_ok : kCs dM 9 cs_202 := (kCs_c (Or.inr (Or.inr (Or.inl rfl))) (we_170_ok.deep (by decide)) (kCs_c (Or.inl rfl) (we_199_ok.deep (by decide)) kCs_n))
def lb_202_0 (s : sS) (Q : sQ) (R : Int → hy_m → Prop) (x1 : Int) : Nat → Option (sL → sS → Prop) := sLb []
set_option maxRecDepth 30000 in
set_option maxHeartbeats 1000000 in
theorem wk_202_0 (Q : sQ) (R : Int → hy_m → Prop) (s : sS) (x1 : Int) (hQ : ∀ x m', R x m' → Q x (sM s m')) (hr : sRg [(0, 5, 74), (1, 0, 0)] [x1]) (h : wq_202 x1 s.2.2.2 R) : kX dM 9 im_m202 0 0 (sCan [(0, 5, 74), (1, 0, 0)] [x1]) [] s Q := by
  unfold wq_202 at h
  refine wz2_ok (cs := cs_202) (wr := []) (lb := lb_202_0 s Q R x1) cs_202_ok kLb_n (okL_can rfl hr) (fun Y hY hl => ?_)
  refine hY _ _ _ _ (hY _ _ _ _ (hY _ _ _ _ (?_ : Y 3 [(0, 5, true, 74), (1, 0, true, x1)] [(2, true, 1), (2, true, 0), (0, true, x1)] s)))
  refine hY _ _ _ _ ?_
  refine Exists.intro _ (And.intro (wc_170_0t_2t_2t x1 0 1 _ _ h) (fun r1 m1 h => ?_))
  show Y 6 [(0, 5, true, 74), (1, 0, true, x1)] [(2, true, r1)] (sM s m1)
  refine hY _ _ _ _ ?_
  refine And.intro (fun hc => ?_) (fun hc => ?_)
  · have h := h.1 hc
    refine hY _ _ _ _ (?_ : Y 18 [(0, 5, true, 74), (1, 0, true, x1)] [(0, true, (-1))] (sM s m1))
    refine hY _ _ _ _ ?_
    exact hQ (-1) m1 h
  · have h := h.2 hc
    refine hY _ _ _ _ (hY _ _ _ _ (?_ : Y 11 [(0, 5, true, 74), (1, 0, true, x1)] [(0, true, x1), (5, true, 74)] (sM s m1)))
    refine hY _ _ _ _ ?_
    refine Exists.intro _ (And.intro (wc_199_r74_0t x1 _ _ h) (fun r2 m2 h => ?_))
    refine hY _ _ _ _ (?_ : Y 18 [(0, 5, true, 74), (1, 0, true, x1)] [(0, true, r2)] (sM s m2))
    refine hY _ _ _ _ ?_
    exact hQ r2 m2 h
def we_202 : sFf := sEf 2 [(0, 5, 74), (1, 0, 0)] (fun xs s Q => ap1 (fun x1 => wq_202 x1 s.2.2.2 Q) xs)
theorem we_202_ok : kS dM 10 202 0 (.inl we_202) := sEf_ok (mi := im_m202) rfl rfl rfl (fun R xs s r1 hb => by obtain ⟨x1, rfl, hb⟩ := ap1_ok hb; exact wk_202_0 _ R s x1 (fun x m' hx => ⟨m', rfl, hx⟩) r1 hb)
/-- LMModel.copyList([II[II)V -/
def wf_203_3 (x1 : Int) (x2 : Int) (x3 : Int) (x4 : Int) (T : hy_T) (Q : Int → hy_m → Prop) (P3 : Int → hy_m → Prop) (x5 : Int) (m : hy_m) : Prop := (21 ≤ x5 → (Q 0 m)) ∧ (x5 < 21 → (∃ n1 : Nat, T.1 (x1).toNat = some (100, n1) ∧ (0 ≤ (x2 + x5) ∧ (x2 + x5) < (n1 : Int) ∧ (∃ n2 : Nat, T.1 (x3).toNat = some (100, n2) ∧ (0 ≤ (x4 + x5) ∧ (x4 + x5) < (n2 : Int) ∧ (hy_r 0 (x5 + 1) ∧ (P3 (x5 + 1) (hy_u m ((x3).toNat) (x4 + x5) (m ((x1).toNat) (x2 + x5))))))))))
def wq_203_3 (x1 : Int) (x2 : Int) (x3 : Int) (x4 : Int) (x5 : Int) (T : hy_T) (m : hy_m) (Q : Int → hy_m → Prop) : Prop := wL1 hy_m (wf_203_3 x1 x2 x3 x4 T Q) x5 m
def wq_203 (x1 : Int) (x2 : Int) (x3 : Int) (x4 : Int) (T : hy_T) (m : hy_m) (Q : Int → hy_m → Prop) : Prop := wq_203_3 x1 x2 x3 x4 0 T m Q
def cs_203 : List (Nat × Nat × sFS) := []
theorem cs_203_ok : kCs dM 0 cs_203 := kCs_n
def lb_203_3 (s : sS) (Q : sQ) (P3 : Int → hy_m → Prop) (R : Int → hy_m → Prop) (x1 : Int) (x2 : Int) (x3 : Int) (x4 : Int) (x5 : Int) : Nat → Option (sL → sS → Prop) := sLb [(3, fun lv t => sG [(1, 3, 0), (2, 0, 0), (3, 3, 0), (4, 0, 0), (5, 0, 0)] lv (ap5 (fun w1 w2 w3 w4 w5 => ∃ m', t = sM s m' ∧ w1 = x1 ∧ w2 = x2 ∧ w3 = x3 ∧ w4 = x4 ∧ P3 w5 m')))]
set_option maxRecDepth 30000 in
set_option maxHeartbeats 1000000 in
theorem wj_203_3 (Q : sQ) (R : Int → hy_m → Prop) (s : sS) (P3 : Int → hy_m → Prop) (x1 : Int) (x2 : Int) (x3 : Int) (x4 : Int) (x5 : Int) (m : hy_m) (hP3 : ∀ (z5 : Int) (m : hy_m), P3 z5 m → sRg [(1, 3, 0), (2, 0, 0), (3, 3, 0), (4, 0, 0), (5, 0, 0)] [x1, x2, x3, x4, z5] → kX dM 0 im_m203 9 3 (sCan [(1, 3, 0), (2, 0, 0), (3, 3, 0), (4, 0, 0), (5, 0, 0)] [x1, x2, x3, x4, z5]) [] (sM s m) Q) (hQ : ∀ x m', R x m' → Q x (sM s m')) (hr : sRg [(1, 3, 0), (2, 0, 0), (3, 3, 0), (4, 0, 0), (5, 0, 0)] [x1, x2, x3, x4, x5]) (h : wf_203_3 x1 x2 x3 x4 s.1 R P3 x5 m) : kX dM 0 im_m203 9 3 (sCan [(1, 3, 0), (2, 0, 0), (3, 3, 0), (4, 0, 0), (5, 0, 0)] [x1, x2, x3, x4, x5]) [] (sM s m) Q := by
  unfold wf_203_3 at h
  refine wz2_ok (cs := cs_203) (wr := []) (lb := lb_203_3 s Q P3 R x1 x2 x3 x4 x5) cs_203_ok (kLb_c (kLab (Bd := fun xs t => ap5 (fun w1 w2 w3 w4 w5 => ∃ m', t = sM s m' ∧ w1 = x1 ∧ w2 = x2 ∧ w3 = x3 ∧ w4 = x4 ∧ P3 w5 m') xs) rfl (fun xs t r1 r2 hb => by obtain ⟨w1, w2, w3, w4, w5, rfl, hb⟩ := ap5_ok hb; obtain ⟨m', rfl, rfl, rfl, rfl, rfl, hx⟩ := hb; exact hP3 _ m' hx r1)) kLb_n) (okL_can rfl hr) (fun Y hY hl => ?_)
  have l3 := hl 3 _ rfl
  refine hY _ _ _ _ (hY _ _ _ _ (?_ : Y 7 [(1, 3, true, x1), (2, 0, true, x2), (3, 3, true, x3), (4, 0, true, x4), (5, 0, true, x5)] [(0, true, 21), (0, true, x5)] (sM s m)))
  refine hY _ _ _ _ ?_
  refine And.intro (fun hc => ?_) (fun hc => ?_)
  · have h := h.1 hc
    show Y 29 [(1, 3, true, x1), (2, 0, true, x2), (3, 3, true, x3), (4, 0, true, x4), (5, 0, true, x5)] [] (sM s m)
    refine hY _ _ _ _ ?_
    exact hQ 0 m h
  · have h := h.2 hc
    refine hY _ _ _ _ (hY _ _ _ _ (hY _ _ _ _ (?_ : Y 15 [(1, 3, true, x1), (2, 0, true, x2), (3, 3, true, x3), (4, 0, true, x4), (5, 0, true, x5)] [(0, true, x5), (0, true, x4), (3, true, x3)] (sM s m))))
    refine hY _ _ _ _ (hY _ _ _ _ (hY _ _ _ _ (?_ : Y 18 [(1, 3, true, x1), (2, 0, true, x2), (3, 3, true, x3), (4, 0, true, x4), (5, 0, true, x5)] [(0, true, x2), (3, true, x1), (0, false, x4 + x5), (3, true, x3)] (sM s m))))
    refine hY _ _ _ _ (hY _ _ _ _ (?_ : Y 21 [(1, 3, true, x1), (2, 0, true, x2), (3, 3, true, x3), (4, 0, true, x4), (5, 0, true, x5)] [(0, false, x2 + x5), (3, true, x1), (0, false, x4 + x5), (3, true, x3)] (sM s m)))
    refine hY _ _ _ _ ?_
    obtain ⟨n1, h⟩ := h
    refine Exists.intro n1 (And.intro h.1 ?_)
    refine (And.intro h.2.1 (And.intro h.2.2.1 ?_))
    show Y 22 [(1, 3, true, x1), (2, 0, true, x2), (3, 3, true, x3), (4, 0, true, x4), (5, 0, true, x5)] [(0, true, m ((x1).toNat) (x2 + x5)), (0, false, x4 + x5), (3, true, x3)] (sM s m)
    refine hY _ _ _ _ ?_
    obtain ⟨n2, h⟩ := h.2.2.2
    refine Exists.intro n2 (And.intro h.1 ?_)
    refine (And.intro h.2.1 (And.intro h.2.2.1 ?_))
    refine hY _ _ _ _ (hY _ _ _ _ (?_ : Y 3 [(5, 0, false, x5 + 1), (1, 3, true, x1), (2, 0, true, x2), (3, 3, true, x3), (4, 0, true, x4)] [] (sM s (hy_u m ((x3).toNat) (x4 + x5) (m ((x1).toNat) (x2 + x5))))))
    refine l3 _ _ ?_
    refine And.intro h.2.2.2.1 ?_
    exact (Exists.intro (hy_u m ((x3).toNat) (x4 + x5) (m ((x1).toNat) (x2 + x5))) (And.intro rfl (And.intro rfl (And.intro rfl (And.intro rfl (And.intro rfl h.2.2.2.2))))))
theorem wk_203_3 (Q : sQ) (R : Int → hy_m → Prop) (s : sS) (x1 : Int) (x2 : Int) (x3 : Int) (x4 : Int) (x5 : Int) (hQ : ∀ x m', R x m' → Q x (sM s m')) (hr : sRg [(1, 3, 0), (2, 0, 0), (3, 3, 0), (4, 0, 0), (5, 0, 0)] [x1, x2, x3, x4, x5]) (h : wq_203_3 x1 x2 x3 x4 x5 s.1 s.2.2.2 R) : kX dM 0 im_m203 9 3 (sCan [(1, 3, 0), (2, 0, 0), (3, 3, 0), (4, 0, 0), (5, 0, 0)] [x1, x2, x3, x4, x5]) [] s Q :=
  h (fun x5 m => sRg [(1, 3, 0), (2, 0, 0), (3, 3, 0), (4, 0, 0), (5, 0, 0)] [x1, x2, x3, x4, x5] → kX dM 0 im_m203 9 3 (sCan [(1, 3, 0), (2, 0, 0), (3, 3, 0), (4, 0, 0), (5, 0, 0)] [x1, x2, x3, x4, x5]) [] (sM s m) Q) (fun x5 m h hr => wj_203_3 Q R s (fun x5 m => sRg [(1, 3, 0), (2, 0, 0), (3, 3, 0), (4, 0, 0), (5, 0, 0)] [x1, x2, x3, x4, x5] → kX dM 0 im_m203 9 3 (sCan [(1, 3, 0), (2, 0, 0), (3, 3, 0), (4, 0, 0), (5, 0, 0)] [x1, x2, x3, x4, x5]) [] (sM s m) Q) x1 x2 x3 x4 x5 m  (fun _ _ hp hr => hp hr) hQ hr h) hr
def lb_203_0 (s : sS) (Q : sQ) (R : Int → hy_m → Prop) (x1 : Int) (x2 : Int) (x3 : Int) (x4 : Int) : Nat → Option (sL → sS → Prop) := sLb [(3, fun lv t => sG [(1, 3, 0), (2, 0, 0), (3, 3, 0), (4, 0, 0), (5, 0, 0)] lv (ap5 (fun w1 w2 w3 w4 w5 => ∃ m', t = sM s m' ∧ wq_203_3 w1 w2 w3 w4 w5 s.1 m' R)))]
set_option maxRecDepth 30000 in
set_option maxHeartbeats 1000000 in
theorem wk_203_0 (Q : sQ) (R : Int → hy_m → Prop) (s : sS) (x1 : Int) (x2 : Int) (x3 : Int) (x4 : Int) (hQ : ∀ x m', R x m' → Q x (sM s m')) (hr : sRg [(0, 5, 74), (1, 3, 0), (2, 0, 0), (3, 3, 0), (4, 0, 0)] [x1, x2, x3, x4]) (h : wq_203 x1 x2 x3 x4 s.1 s.2.2.2 R) : kX dM 0 im_m203 9 0 (sCan [(0, 5, 74), (1, 3, 0), (2, 0, 0), (3, 3, 0), (4, 0, 0)] [x1, x2, x3, x4]) [] s Q := by
  unfold wq_203 at h
  refine wz2_ok (cs := cs_203) (wr := []) (lb := lb_203_0 s Q R x1 x2 x3 x4) cs_203_ok (kLb_c (kLab (Bd := fun xs t => ap5 (fun w1 w2 w3 w4 w5 => ∃ m', t = sM s m' ∧ wq_203_3 w1 w2 w3 w4 w5 s.1 m' R) xs) rfl (fun xs t r1 r2 hb => by obtain ⟨w1, w2, w3, w4, w5, rfl, hb⟩ := ap5_ok hb; obtain ⟨m', rfl, hx⟩ := hb; exact wk_203_3 Q R (sM s m') _ _ _ _ _ (fun x m'' hy => hQ x m'' hy) r1 hx)) kLb_n) (okL_can rfl hr) (fun Y hY hl => ?_)
  have l3 := hl 3 _ rfl
  refine hY _ _ _ _ (hY _ _ _ _ (?_ : Y 3 [(5, 2, true, 0), (0, 5, true, 74), (1, 3, true, x1), (2, 0, true, x2), (3, 3, true, x3), (4, 0, true, x4)] [] s))
  refine l3 _ _ ?_
  exact (Exists.intro s.2.2.2 (And.intro rfl h))
def we_203 : sFf := sEf 6 [(0, 5, 74), (1, 3, 0), (2, 0, 0), (3, 3, 0), (4, 0, 0)] (fun xs s Q => ap4 (fun x1 x2 x3 x4 => wq_203 x1 x2 x3 x4 s.1 s.2.2.2 Q) xs)
theorem we_203_ok : kS dM 1 203 9 (.inl we_203) := sEf_ok (mi := im_m203) rfl rfl rfl (fun R xs s r1 hb => by obtain ⟨x1, x2, x3, x4, rfl, hb⟩ := ap4_ok hb; exact wk_203_0 _ R s x1 x2 x3 x4 (fun x m' hx => ⟨m', rfl, hx⟩) r1 hb)
/-- LMModel.remember()V -/
def wq_204_55 (T : hy_T) (m : hy_m) (Q : Int → hy_m → Prop) : Prop := hy_r 0 (21 * (m 74 13)) ∧ (wq_203 85 0 86 (21 * (m 74 13)) T m (fun _ m1 => hy_r 0 ((m1 74 13) + 1) ∧ (wq_229 (hy_u m1 74 13 ((m1 74 13) + 1)) (fun _ m2 => Q 0 m2))))
def wf_204_11 (T : hy_T) (Q : Int → hy_m → Prop) (P11 : Int → hy_m → Prop) (x1 : Int) (m : hy_m) : Prop := (6 ≤ x1 → (hy_r 0 ((m 74 13) - 1) ∧ (wq_204_55 T (hy_u m 74 13 ((m 74 13) - 1)) Q))) ∧ (x1 < 6 → (hy_r 0 (21 * x1) ∧ (hy_r 0 (21 * (x1 - 1)) ∧ (wq_203 86 (21 * x1) 86 (21 * (x1 - 1)) T m (fun _ m1 => hy_r 0 (x1 + 1) ∧ (P11 (x1 + 1) m1))))))
def wq_204_11 (x1 : Int) (T : hy_T) (m : hy_m) (Q : Int → hy_m → Prop) : Prop := wL1 hy_m (wf_204_11 T Q) x1 m
def wq_204 (T : hy_T) (m : hy_m) (Q : Int → hy_m → Prop) : Prop := ((m 74 13) ≠ 6 → (wq_204_55 T m Q)) ∧ ((m 74 13) = 6 → (wq_204_11 1 T m Q))
theorem wc_203_r74_r85_2t_r86_0f (x2 : Int) (x4 : Int) (s : sS) (R : Int → hy_m → Prop) (h : hy_r 0 x4 ∧ wq_203 85 x2 86 x4 s.1 s.2.2.2 R) : we_203 [(5, true, 74), (5, true, 85), (2, true, x2), (5, true, 86), (0, false, x4)] s R := h
theorem wc_229_r74 (s : sS) (R : Int → hy_m → Prop) (h : wq_229 s.2.2.2 R) : we_229 [(5, true, 74)] s R := h
theorem wc_203_r74_r86_0f_r86_0f (x2 : Int) (x4 : Int) (s : sS) (R : Int → hy_m → Prop) (h : hy_r 0 x2 ∧ hy_r 0 x4 ∧ wq_203 86 x2 86 x4 s.1 s.2.2.2 R) : we_203 [(5, true, 74), (5, true, 86), (0, false, x2), (5, true, 86), (0, false, x4)] s R := h
def cs_204 : List (Nat × Nat × sFS) := [(203, 9, .inl we_203), (229, 9, .inl we_229)]
theorem cs_204_ok : kCs dM 1 cs_204 := (kCs_c (Or.inr (Or.inr (Or.inr (Or.inr rfl)))) (we_203_ok.deep (by decide)) (kCs_c (Or.inr (Or.inr (Or.inr (Or.inr rfl)))) (we_229_ok.deep (by decide)) kCs_n))
def lb_204_55 (s : sS) (Q : sQ) (R : Int → hy_m → Prop) : Nat → Option (sL → sS → Prop) := sLb []
set_option maxRecDepth 30000 in
set_option maxHeartbeats 1000000 in
theorem wk_204_55 (Q : sQ) (R : Int → hy_m → Prop) (s : sS) (hQ : ∀ x m', R x m' → Q x (sM s m')) (hr : sRg [(0, 5, 74)] []) (h : wq_204_55 s.1 s.2.2.2 R) : kX dM 1 im_m204 9 55 (sCan [(0, 5, 74)] []) [] s Q := by
  unfold wq_204_55 at h
  refine wz2_ok (cs := cs_204) (wr := []) (lb := lb_204_55 s Q R) cs_204_ok kLb_n (okL_can rfl hr) (fun Y hY hl => ?_)
  refine hY _ _ _ _ (hY _ _ _ _ (hY _ _ _ _ (?_ : Y 60 [(0, 5, true, 74)] [(5, true, 85), (5, true, 74)] s)))
  refine hY _ _ _ _ (hY _ _ _ _ (hY _ _ _ _ (?_ : Y 65 [(0, 5, true, 74)] [(5, true, 86), (2, true, 0), (5, true, 85), (5, true, 74)] s)))
  refine hY _ _ _ _ (hY _ _ _ _ (hY _ _ _ _ (?_ : Y 71 [(0, 5, true, 74)] [(0, true, s.2.2.2 74 13), (0, true, 21), (5, true, 86), (2, true, 0), (5, true, 85), (5, true, 74)] s)))
  refine hY _ _ _ _ (?_ : Y 72 [(0, 5, true, 74)] [(0, false, 21 * (s.2.2.2 74 13)), (5, true, 86), (2, true, 0), (5, true, 85), (5, true, 74)] s)
  refine hY _ _ _ _ ?_
  refine Exists.intro _ (And.intro (wc_203_r74_r85_2t_r86_0f 0 (21 * (s.2.2.2 74 13)) _ _ h) (fun r1 m1 h => ?_))
  refine hY _ _ _ _ (hY _ _ _ _ (hY _ _ _ _ (?_ : Y 80 [(0, 5, true, 74)] [(0, true, m1 74 13), (5, true, 74)] (sM s m1))))
  refine hY _ _ _ _ (hY _ _ _ _ (?_ : Y 82 [(0, 5, true, 74)] [(0, false, (m1 74 13) + 1), (5, true, 74)] (sM s m1)))
  refine hY _ _ _ _ ?_
  refine And.intro h.1 ?_
  refine hY _ _ _ _ (?_ : Y 86 [(0, 5, true, 74)] [(5, true, 74)] (sM s (hy_u m1 74 13 ((m1 74 13) + 1))))
  refine hY _ _ _ _ ?_
  refine Exists.intro _ (And.intro (wc_229_r74 _ _ h.2) (fun r2 m2 h => ?_))
  show Y 89 [(0, 5, true, 74)] [] (sM s m2)
  refine hY _ _ _ _ ?_
  exact hQ 0 m2 h
def lb_204_11 (s : sS) (Q : sQ) (P11 : Int → hy_m → Prop) (R : Int → hy_m → Prop) (x1 : Int) : Nat → Option (sL → sS → Prop) := sLb [(55, fun lv t => sG [(0, 5, 74)] lv (ap0 (∃ m', t = sM s m' ∧ wq_204_55 s.1 m' R))), (11, fun lv t => sG [(0, 5, 74), (1, 0, 0)] lv (ap1 (fun w1 => ∃ m', t = sM s m' ∧ P11 w1 m')))]
set_option maxRecDepth 30000 in
set_option maxHeartbeats 1000000 in
theorem wj_204_11 (Q : sQ) (R : Int → hy_m → Prop) (s : sS) (P11 : Int → hy_m → Prop) (x1 : Int) (m : hy_m) (hP11 : ∀ (z1 : Int) (m : hy_m), P11 z1 m → sRg [(0, 5, 74), (1, 0, 0)] [z1] → kX dM 1 im_m204 9 11 (sCan [(0, 5, 74), (1, 0, 0)] [z1]) [] (sM s m) Q) (hQ : ∀ x m', R x m' → Q x (sM s m')) (hr : sRg [(0, 5, 74), (1, 0, 0)] [x1]) (h : wf_204_11 s.1 R P11 x1 m) : kX dM 1 im_m204 9 11 (sCan [(0, 5, 74), (1, 0, 0)] [x1]) [] (sM s m) Q := by
  unfold wf_204_11 at h
  refine wz2_ok (cs := cs_204) (wr := []) (lb := lb_204_11 s Q P11 R x1) cs_204_ok (kLb_c (kLab (Bd := fun xs t => ap0 (∃ m', t = sM s m' ∧ wq_204_55 s.1 m' R) xs) rfl (fun xs t r1 r2 hb => by obtain ⟨rfl, hb⟩ := ap0_ok hb; obtain ⟨m', rfl, hx⟩ := hb; exact wk_204_55 Q R (sM s m')  (fun x m'' hy => hQ x m'' hy) r1 hx)) (kLb_c (kLab (Bd := fun xs t => ap1 (fun w1 => ∃ m', t = sM s m' ∧ P11 w1 m') xs) rfl (fun xs t r1 r2 hb => by obtain ⟨w1, rfl, hb⟩ := ap1_ok hb; obtain ⟨m', rfl, hx⟩ := hb; exact hP11 _ m' hx r1)) kLb_n)) (okL_can rfl hr) (fun Y hY hl => ?_)
  have l55 := hl 55 _ rfl
  have l11 := hl 11 _ rfl
  refine hY _ _ _ _ (hY _ _ _ _ (?_ : Y 14 [(0, 5, true, 74), (1, 0, true, x1)] [(0, true, 6), (0, true, x1)] (sM s m)))
  refine hY _ _ _ _ ?_
  refine And.intro (fun hc => ?_) (fun hc => ?_)
  · have h := h.1 hc
    refine hY _ _ _ _ (hY _ _ _ _ (hY _ _ _ _ (?_ : Y 50 [(0, 5, true, 74), (1, 0, true, x1)] [(0, true, m 74 13), (5, true, 74)] (sM s m))))
    refine hY _ _ _ _ (hY _ _ _ _ (?_ : Y 52 [(0, 5, true, 74), (1, 0, true, x1)] [(0, false, (m 74 13) - 1), (5, true, 74)] (sM s m)))
    refine hY _ _ _ _ ?_
    refine And.intro h.1 ?_
    show Y 55 [(0, 5, true, 74), (1, 0, true, x1)] [] (sM s (hy_u m 74 13 ((m 74 13) - 1)))
    refine l55 _ _ ?_
    exact (Exists.intro (hy_u m 74 13 ((m 74 13) - 1)) (And.intro rfl h.2))
  · have h := h.2 hc
    refine hY _ _ _ _ (hY _ _ _ _ (hY _ _ _ _ (?_ : Y 22 [(0, 5, true, 74), (1, 0, true, x1)] [(5, true, 86), (5, true, 74)] (sM s m))))
    refine hY _ _ _ _ (hY _ _ _ _ (hY _ _ _ _ (?_ : Y 26 [(0, 5, true, 74), (1, 0, true, x1)] [(0, false, 21 * x1), (5, true, 86), (5, true, 74)] (sM s m))))
    refine hY _ _ _ _ (hY _ _ _ _ (hY _ _ _ _ (?_ : Y 32 [(0, 5, true, 74), (1, 0, true, x1)] [(0, true, 21), (5, true, 86), (0, false, 21 * x1), (5, true, 86), (5, true, 74)] (sM s m))))
    refine hY _ _ _ _ (hY _ _ _ _ (hY _ _ _ _ (?_ : Y 35 [(0, 5, true, 74), (1, 0, true, x1)] [(0, false, x1 - 1), (0, true, 21), (5, true, 86), (0, false, 21 * x1), (5, true, 86), (5, true, 74)] (sM s m))))
    refine hY _ _ _ _ (?_ : Y 36 [(0, 5, true, 74), (1, 0, true, x1)] [(0, false, 21 * (x1 - 1)), (5, true, 86), (0, false, 21 * x1), (5, true, 86), (5, true, 74)] (sM s m))
    refine hY _ _ _ _ ?_
    refine Exists.intro _ (And.intro (wc_203_r74_r86_0f_r86_0f (21 * x1) (21 * (x1 - 1)) _ _ h) (fun r1 m1 h => ?_))
    refine hY _ _ _ _ (hY _ _ _ _ (?_ : Y 11 [(1, 0, false, x1 + 1), (0, 5, true, 74)] [] (sM s m1)))
    refine l11 _ _ ?_
    refine And.intro h.1 ?_
    exact (Exists.intro m1 (And.intro rfl h.2))
theorem wk_204_11 (Q : sQ) (R : Int → hy_m → Prop) (s : sS) (x1 : Int) (hQ : ∀ x m', R x m' → Q x (sM s m')) (hr : sRg [(0, 5, 74), (1, 0, 0)] [x1]) (h : wq_204_11 x1 s.1 s.2.2.2 R) : kX dM 1 im_m204 9 11 (sCan [(0, 5, 74), (1, 0, 0)] [x1]) [] s Q :=
  h (fun x1 m => sRg [(0, 5, 74), (1, 0, 0)] [x1] → kX dM 1 im_m204 9 11 (sCan [(0, 5, 74), (1, 0, 0)] [x1]) [] (sM s m) Q) (fun x1 m h hr => wj_204_11 Q R s (fun x1 m => sRg [(0, 5, 74), (1, 0, 0)] [x1] → kX dM 1 im_m204 9 11 (sCan [(0, 5, 74), (1, 0, 0)] [x1]) [] (sM s m) Q) x1 m  (fun _ _ hp hr => hp hr) hQ hr h) hr
def lb_204_0 (s : sS) (Q : sQ) (R : Int → hy_m → Prop) : Nat → Option (sL → sS → Prop) := sLb [(11, fun lv t => sG [(0, 5, 74), (1, 0, 0)] lv (ap1 (fun w1 => ∃ m', t = sM s m' ∧ wq_204_11 w1 s.1 m' R))), (55, fun lv t => sG [(0, 5, 74)] lv (ap0 (∃ m', t = sM s m' ∧ wq_204_55 s.1 m' R)))]
set_option maxRecDepth 30000 in
set_option maxHeartbeats 1000000 in
theorem wk_204_0 (Q : sQ) (R : Int → hy_m → Prop) (s : sS) (hQ : ∀ x m', R x m' → Q x (sM s m')) (hr : sRg [(0, 5, 74)] []) (h : wq_204 s.1 s.2.2.2 R) : kX dM 1 im_m204 9 0 (sCan [(0, 5, 74)] []) [] s Q := by
  unfold wq_204 at h
  refine wz2_ok (cs := cs_204) (wr := []) (lb := lb_204_0 s Q R) cs_204_ok (kLb_c (kLab (Bd := fun xs t => ap1 (fun w1 => ∃ m', t = sM s m' ∧ wq_204_11 w1 s.1 m' R) xs) rfl (fun xs t r1 r2 hb => by obtain ⟨w1, rfl, hb⟩ := ap1_ok hb; obtain ⟨m', rfl, hx⟩ := hb; exact wk_204_11 Q R (sM s m') _ (fun x m'' hy => hQ x m'' hy) r1 hx)) (kLb_c (kLab (Bd := fun xs t => ap0 (∃ m', t = sM s m' ∧ wq_204_55 s.1 m' R) xs) rfl (fun xs t r1 r2 hb => by obtain ⟨rfl, hb⟩ := ap0_ok hb; obtain ⟨m', rfl, hx⟩ := hb; exact wk_204_55 Q R (sM s m')  (fun x m'' hy => hQ x m'' hy) r1 hx)) kLb_n)) (okL_can rfl hr) (fun Y hY hl => ?_)
  have l11 := hl 11 _ rfl
  have l55 := hl 55 _ rfl
  refine hY _ _ _ _ (hY _ _ _ _ (hY _ _ _ _ (?_ : Y 6 [(0, 5, true, 74)] [(0, true, 6), (0, true, s.2.2.2 74 13)] s)))
  refine hY _ _ _ _ ?_
  refine And.intro (fun hc => ?_) (fun hc => ?_)
  · have h := h.1 hc
    show Y 55 [(0, 5, true, 74)] [] s
    refine l55 _ _ ?_
    exact (Exists.intro s.2.2.2 (And.intro rfl h))
  · have h := h.2 hc
    refine hY _ _ _ _ (hY _ _ _ _ (?_ : Y 11 [(1, 2, true, 1), (0, 5, true, 74)] [] s))
    refine l11 _ _ ?_
    exact (Exists.intro s.2.2.2 (And.intro rfl h))
def we_204 : sFf := sEf 2 [(0, 5, 74)] (fun xs s Q => ap0 (wq_204 s.1 s.2.2.2 Q) xs)
theorem we_204_ok : kS dM 2 204 9 (.inl we_204) := sEf_ok (mi := im_m204) rfl rfl rfl (fun R xs s r1 hb => by obtain ⟨rfl, hb⟩ := ap0_ok hb; exact wk_204_0 _ R s (fun x m' hx => ⟨m', rfl, hx⟩) r1 hb)
/-- LMModel.isClause(I)Z -/
def wq_205 (x1 : Int) (m : hy_m) (Q : Int → hy_m → Prop) : Prop := 0 ≤ (0 : Int) ∧ (0 : Int) < 21 ∧ (hy_r 0 ((m 85 0) - 1) ∧ (wq_170 x1 0 ((m 85 0) - 1) m (fun r1 m1 => Q r1 m1)))
theorem wc_170_0t_2t_0f (x0 : Int) (x1 : Int) (x2 : Int) (s : sS) (R : Int → hy_m → Prop) (h : hy_r 0 x2 ∧ wq_170 x0 x1 x2 s.2.2.2 R) : we_170 [(0, true, x0), (2, true, x1), (0, false, x2)] s R := h
def cs_205 : List (Nat × Nat × sFS) := [(170, 2, .inl we_170)]
theorem cs_205_ok : kCs dM 1 cs_205 := (kCs_c (Or.inr (Or.inr (Or.inl rfl))) (we_170_ok.deep (by decide)) kCs_n)
def lb_205_0 (s : sS) (Q : sQ) (R : Int → hy_m → Prop) (x1 : Int) : Nat → Option (sL → sS → Prop) := sLb []
set_option maxRecDepth 30000 in
set_option maxHeartbeats 1000000 in
theorem wk_205_0 (Q : sQ) (R : Int → hy_m → Prop) (s : sS) (x1 : Int) (hQ : ∀ x m', R x m' → Q x (sM s m')) (hr : sRg [(0, 5, 74), (1, 0, 0)] [x1]) (h : wq_205 x1 s.2.2.2 R) : kX dM 1 im_m205 2 0 (sCan [(0, 5, 74), (1, 0, 0)] [x1]) [] s Q := by
  unfold wq_205 at h
  refine wz2_ok (cs := cs_205) (wr := []) (lb := lb_205_0 s Q R x1) cs_205_ok kLb_n (okL_can rfl hr) (fun Y hY hl => ?_)
  refine hY _ _ _ _ (hY _ _ _ _ (hY _ _ _ _ (?_ : Y 3 [(0, 5, true, 74), (1, 0, true, x1)] [(5, true, 74), (2, true, 0), (0, true, x1)] s)))
  refine hY _ _ _ _ (hY _ _ _ _ (?_ : Y 7 [(0, 5, true, 74), (1, 0, true, x1)] [(2, true, 0), (5, true, 85), (2, true, 0), (0, true, x1)] s))
  refine hY _ _ _ _ ?_
  refine (And.intro h.1 (And.intro h.2.1 ?_))
  refine hY _ _ _ _ (hY _ _ _ _ (?_ : Y 10 [(0, 5, true, 74), (1, 0, true, x1)] [(0, false, (s.2.2.2 85 0) - 1), (2, true, 0), (0, true, x1)] s))
  refine hY _ _ _ _ ?_
  refine Exists.intro _ (And.intro (wc_170_0t_2t_0f x1 0 ((s.2.2.2 85 0) - 1) _ _ h.2.2) (fun r1 m1 h => ?_))
  show Y 13 [(0, 5, true, 74), (1, 0, true, x1)] [(2, true, r1)] (sM s m1)
  refine hY _ _ _ _ ?_
  exact hQ r1 m1 h
def we_205 : sFf := sEf 2 [(0, 5, 74), (1, 0, 0)] (fun xs s Q => ap1 (fun x1 => wq_205 x1 s.2.2.2 Q) xs)
theorem we_205_ok : kS dM 2 205 2 (.inl we_205) := sEf_ok (mi := im_m205) rfl rfl rfl (fun R xs s r1 hb => by obtain ⟨x1, rfl, hb⟩ := ap1_ok hb; exact wk_205_0 _ R s x1 (fun x m' hx => ⟨m', rfl, hx⟩) r1 hb)
/-- LMModel.slotOf(I)I -/
def wq_206 (x1 : Int) (m : hy_m) (Q : Int → hy_m → Prop) : Prop := 0 ≤ (1 + x1) ∧ (1 + x1) < 21 ∧ (Q (m 85 (1 + x1)) m)
def cs_206 : List (Nat × Nat × sFS) := []
theorem cs_206_ok : kCs dM 0 cs_206 := kCs_n
def lb_206_0 (s : sS) (Q : sQ) (R : Int → hy_m → Prop) (x1 : Int) : Nat → Option (sL → sS → Prop) := sLb []
set_option maxRecDepth 30000 in
set_option maxHeartbeats 1000000 in
theorem wk_206_0 (Q : sQ) (R : Int → hy_m → Prop) (s : sS) (x1 : Int) (hQ : ∀ x m', R x m' → Q x (sM s m')) (hr : sRg [(0, 5, 74), (1, 0, 0)] [x1]) (h : wq_206 x1 s.2.2.2 R) : kX dM 0 im_m206 0 0 (sCan [(0, 5, 74), (1, 0, 0)] [x1]) [] s Q := by
  unfold wq_206 at h
  refine wz2_ok (cs := cs_206) (wr := []) (lb := lb_206_0 s Q R x1) cs_206_ok kLb_n (okL_can rfl hr) (fun Y hY hl => ?_)
  refine hY _ _ _ _ (hY _ _ _ _ (hY _ _ _ _ (?_ : Y 5 [(0, 5, true, 74), (1, 0, true, x1)] [(2, true, 1), (5, true, 85)] s)))
  refine hY _ _ _ _ (hY _ _ _ _ (?_ : Y 7 [(0, 5, true, 74), (1, 0, true, x1)] [(0, false, 1 + x1), (5, true, 85)] s))
  refine hY _ _ _ _ ?_
  refine (And.intro h.1 (And.intro h.2.1 ?_))
  show Y 8 [(0, 5, true, 74), (1, 0, true, x1)] [(0, true, s.2.2.2 85 (1 + x1))] s
  refine hY _ _ _ _ ?_
  exact hQ (s.2.2.2 85 (1 + x1)) s.2.2.2 h.2.2
def we_206 : sFf := sEf 2 [(0, 5, 74), (1, 0, 0)] (fun xs s Q => ap1 (fun x1 => wq_206 x1 s.2.2.2 Q) xs)
theorem we_206_ok : kS dM 1 206 0 (.inl we_206) := sEf_ok (mi := im_m206) rfl rfl rfl (fun R xs s r1 hb => by obtain ⟨x1, rfl, hb⟩ := ap1_ok hb; exact wk_206_0 _ R s x1 (fun x m' hx => ⟨m', rfl, hx⟩) r1 hb)
/-- LMModel.consult()I -/
def wf_207_19 (T : hy_T) (Q : Int → hy_m → Prop) (P19 : Int → hy_m → Prop) (x1 : Int) (m : hy_m) : Prop := ((m 74 27) ≤ x1 → (Q (m 74 27) m)) ∧ (x1 < (m 74 27) → (0 ≤ (0 : Int) ∧ (0 : Int) < 21 ∧ (0 ≤ (0 : Int) ∧ (0 : Int) < 21 ∧ (hy_r 0 ((m 85 0) + 1) ∧ (0 ≤ (0 : Int) ∧ (0 : Int) < 21 ∧ (0 ≤ x1 ∧ x1 < 20 ∧ (0 ≤ ((m 85 0) + 1) ∧ ((m 85 0) + 1) < 21 ∧ (hy_r 0 (x1 + 1) ∧ (P19 (x1 + 1) (hy_u (hy_u m 85 0 ((m 85 0) + 1)) 85 ((m 85 0) + 1) (m 91 x1)))))))))))
def wq_207_19 (x1 : Int) (T : hy_T) (m : hy_m) (Q : Int → hy_m → Prop) : Prop := wL1 hy_m (wf_207_19 T Q) x1 m
def wq_207 (T : hy_T) (m : hy_m) (Q : Int → hy_m → Prop) : Prop := wq_199 0 m (fun r1 m1 => (r1 = (-9) → (wq_204 T m1 (fun _ m2 => wq_207_19 0 T m2 Q))) ∧ (r1 ≠ (-9) → (Q (-2) m1)))
theorem wc_199_r74_2t (x1 : Int) (s : sS) (R : Int → hy_m → Prop) (h : wq_199 x1 s.2.2.2 R) : we_199 [(5, true, 74), (2, true, x1)] s R := h
theorem wc_204_r74 (s : sS) (R : Int → hy_m → Prop) (h : wq_204 s.1 s.2.2.2 R) : we_204 [(5, true, 74)] s R := h
def cs_207 : List (Nat × Nat × sFS) := [(199, 0, .inl we_199), (204, 9, .inl we_204)]
theorem cs_207_ok : kCs dM 9 cs_207 := (kCs_c (Or.inl rfl) (we_199_ok.deep (by decide)) (kCs_c (Or.inr (Or.inr (Or.inr (Or.inr rfl)))) (we_204_ok.deep (by decide)) kCs_n))
def lb_207_19 (s : sS) (Q : sQ) (P19 : Int → hy_m → Prop) (R : Int → hy_m → Prop) (x1 : Int) : Nat → Option (sL → sS → Prop) := sLb [(19, fun lv t => sG [(0, 5, 74), (1, 0, 0)] lv (ap1 (fun w1 => ∃ m', t = sM s m' ∧ P19 w1 m')))]
set_option maxRecDepth 30000 in
set_option maxHeartbeats 1000000 in
theorem wj_207_19 (Q : sQ) (R : Int → hy_m → Prop) (s : sS) (P19 : Int → hy_m → Prop) (x1 : Int) (m : hy_m) (hP19 : ∀ (z1 : Int) (m : hy_m), P19 z1 m → sRg [(0, 5, 74), (1, 0, 0)] [z1] → kX dM 9 im_m207 0 19 (sCan [(0, 5, 74), (1, 0, 0)] [z1]) [] (sM s m) Q) (hQ : ∀ x m', R x m' → Q x (sM s m')) (hr : sRg [(0, 5, 74), (1, 0, 0)] [x1]) (h : wf_207_19 s.1 R P19 x1 m) : kX dM 9 im_m207 0 19 (sCan [(0, 5, 74), (1, 0, 0)] [x1]) [] (sM s m) Q := by
  unfold wf_207_19 at h
  refine wz2_ok (cs := cs_207) (wr := []) (lb := lb_207_19 s Q P19 R x1) cs_207_ok (kLb_c (kLab (Bd := fun xs t => ap1 (fun w1 => ∃ m', t = sM s m' ∧ P19 w1 m') xs) rfl (fun xs t r1 r2 hb => by obtain ⟨w1, rfl, hb⟩ := ap1_ok hb; obtain ⟨m', rfl, hx⟩ := hb; exact hP19 _ m' hx r1)) kLb_n) (okL_can rfl hr) (fun Y hY hl => ?_)
  have l19 := hl 19 _ rfl
  refine hY _ _ _ _ (hY _ _ _ _ (hY _ _ _ _ (?_ : Y 24 [(0, 5, true, 74), (1, 0, true, x1)] [(0, true, m 74 27), (0, true, x1)] (sM s m))))
  refine hY _ _ _ _ ?_
  refine And.intro (fun hc => ?_) (fun hc => ?_)
  · have h := h.1 hc
    refine hY _ _ _ _ (hY _ _ _ _ (?_ : Y 64 [(0, 5, true, 74), (1, 0, true, x1)] [(0, true, m 74 27)] (sM s m)))
    refine hY _ _ _ _ ?_
    exact hQ (m 74 27) m h
  · have h := h.2 hc
    refine hY _ _ _ _ (hY _ _ _ _ (hY _ _ _ _ (?_ : Y 32 [(0, 5, true, 74), (1, 0, true, x1)] [(2, true, 0), (5, true, 85)] (sM s m))))
    refine hY _ _ _ _ (?_ : Y 33 [(0, 5, true, 74), (1, 0, true, x1)] [(2, true, 0), (5, true, 85), (2, true, 0), (5, true, 85)] (sM s m))
    refine hY _ _ _ _ ?_
    refine (And.intro h.1 (And.intro h.2.1 ?_))
    refine hY _ _ _ _ (hY _ _ _ _ (?_ : Y 36 [(0, 5, true, 74), (1, 0, true, x1)] [(0, false, (m 85 0) + 1), (2, true, 0), (5, true, 85)] (sM s m)))
    refine hY _ _ _ _ ?_
    refine (And.intro h.2.2.1 (And.intro h.2.2.2.1 ?_))
    refine And.intro h.2.2.2.2.1 ?_
    refine hY _ _ _ _ (hY _ _ _ _ (hY _ _ _ _ (?_ : Y 42 [(0, 5, true, 74), (1, 0, true, x1)] [(5, true, 74), (5, true, 85)] (sM s (hy_u m 85 0 ((m 85 0) + 1))))))
    refine hY _ _ _ _ (hY _ _ _ _ (?_ : Y 46 [(0, 5, true, 74), (1, 0, true, x1)] [(2, true, 0), (5, true, 85), (5, true, 85)] (sM s (hy_u m 85 0 ((m 85 0) + 1)))))
    refine hY _ _ _ _ ?_
    refine (And.intro h.2.2.2.2.2.1 (And.intro h.2.2.2.2.2.2.1 ?_))
    refine hY _ _ _ _ (hY _ _ _ _ (hY _ _ _ _ (?_ : Y 52 [(0, 5, true, 74), (1, 0, true, x1)] [(0, true, x1), (5, true, 91), (0, true, (m 85 0) + 1), (5, true, 85)] (sM s (hy_u m 85 0 ((m 85 0) + 1))))))
    refine hY _ _ _ _ ?_
    refine (And.intro h.2.2.2.2.2.2.2.1 (And.intro h.2.2.2.2.2.2.2.2.1 ?_))
    show Y 53 [(0, 5, true, 74), (1, 0, true, x1)] [(0, true, m 91 x1), (0, true, (m 85 0) + 1), (5, true, 85)] (sM s (hy_u m 85 0 ((m 85 0) + 1)))
    refine hY _ _ _ _ ?_
    refine (And.intro h.2.2.2.2.2.2.2.2.2.1 (And.intro h.2.2.2.2.2.2.2.2.2.2.1 ?_))
    refine hY _ _ _ _ (hY _ _ _ _ (?_ : Y 19 [(1, 0, false, x1 + 1), (0, 5, true, 74)] [] (sM s (hy_u (hy_u m 85 0 ((m 85 0) + 1)) 85 ((m 85 0) + 1) (m 91 x1)))))
    refine l19 _ _ ?_
    refine And.intro h.2.2.2.2.2.2.2.2.2.2.2.1 ?_
    exact (Exists.intro (hy_u (hy_u m 85 0 ((m 85 0) + 1)) 85 ((m 85 0) + 1) (m 91 x1)) (And.intro rfl h.2.2.2.2.2.2.2.2.2.2.2.2))
theorem wk_207_19 (Q : sQ) (R : Int → hy_m → Prop) (s : sS) (x1 : Int) (hQ : ∀ x m', R x m' → Q x (sM s m')) (hr : sRg [(0, 5, 74), (1, 0, 0)] [x1]) (h : wq_207_19 x1 s.1 s.2.2.2 R) : kX dM 9 im_m207 0 19 (sCan [(0, 5, 74), (1, 0, 0)] [x1]) [] s Q :=
  h (fun x1 m => sRg [(0, 5, 74), (1, 0, 0)] [x1] → kX dM 9 im_m207 0 19 (sCan [(0, 5, 74), (1, 0, 0)] [x1]) [] (sM s m) Q) (fun x1 m h hr => wj_207_19 Q R s (fun x1 m => sRg [(0, 5, 74), (1, 0, 0)] [x1] → kX dM 9 im_m207 0 19 (sCan [(0, 5, 74), (1, 0, 0)] [x1]) [] (sM s m) Q) x1 m  (fun _ _ hp hr => hp hr) hQ hr h) hr
def lb_207_0 (s : sS) (Q : sQ) (R : Int → hy_m → Prop) : Nat → Option (sL → sS → Prop) := sLb [(19, fun lv t => sG [(0, 5, 74), (1, 0, 0)] lv (ap1 (fun w1 => ∃ m', t = sM s m' ∧ wq_207_19 w1 s.1 m' R)))]
set_option maxRecDepth 30000 in
set_option maxHeartbeats 1000000 in
theorem wk_207_0 (Q : sQ) (R : Int → hy_m → Prop) (s : sS) (hQ : ∀ x m', R x m' → Q x (sM s m')) (hr : sRg [(0, 5, 74)] []) (h : wq_207 s.1 s.2.2.2 R) : kX dM 9 im_m207 0 0 (sCan [(0, 5, 74)] []) [] s Q := by
  unfold wq_207 at h
  refine wz2_ok (cs := cs_207) (wr := []) (lb := lb_207_0 s Q R) cs_207_ok (kLb_c (kLab (Bd := fun xs t => ap1 (fun w1 => ∃ m', t = sM s m' ∧ wq_207_19 w1 s.1 m' R) xs) rfl (fun xs t r1 r2 hb => by obtain ⟨w1, rfl, hb⟩ := ap1_ok hb; obtain ⟨m', rfl, hx⟩ := hb; exact wk_207_19 Q R (sM s m') _ (fun x m'' hy => hQ x m'' hy) r1 hx)) kLb_n) (okL_can rfl hr) (fun Y hY hl => ?_)
  have l19 := hl 19 _ rfl
  refine hY _ _ _ _ (hY _ _ _ _ (?_ : Y 2 [(0, 5, true, 74)] [(2, true, 0), (5, true, 74)] s))
  refine hY _ _ _ _ ?_
  refine Exists.intro _ (And.intro (wc_199_r74_2t 0 _ _ h) (fun r1 m1 h => ?_))
  refine hY _ _ _ _ (?_ : Y 7 [(0, 5, true, 74)] [(0, true, (-9)), (0, true, r1)] (sM s m1))
  refine hY _ _ _ _ ?_
  refine And.intro (fun hc => ?_) (fun hc => ?_)
  · have h := h.1 hc
    refine hY _ _ _ _ (?_ : Y 14 [(0, 5, true, 74)] [(5, true, 74)] (sM s m1))
    refine hY _ _ _ _ ?_
    refine Exists.intro _ (And.intro (wc_204_r74 _ _ h) (fun r2 m2 h => ?_))
    refine hY _ _ _ _ (hY _ _ _ _ (?_ : Y 19 [(1, 2, true, 0), (0, 5, true, 74)] [] (sM s m2)))
    refine l19 _ _ ?_
    exact (Exists.intro m2 (And.intro rfl h))
  · have h := h.2 hc
    refine hY _ _ _ _ (?_ : Y 12 [(0, 5, true, 74)] [(0, true, (-2))] (sM s m1))
    refine hY _ _ _ _ ?_
    exact hQ (-2) m1 h
def we_207 : sFf := sEf 2 [(0, 5, 74)] (fun xs s Q => ap0 (wq_207 s.1 s.2.2.2 Q) xs)
theorem we_207_ok : kS dM 10 207 0 (.inl we_207) := sEf_ok (mi := im_m207) rfl rfl rfl (fun R xs s r1 hb => by obtain ⟨rfl, hb⟩ := ap0_ok hb; exact wk_207_0 _ R s (fun x m' hx => ⟨m', rfl, hx⟩) r1 hb)
/-- LMModel.retract(I)I -/
def wf_208_18 (T : hy_T) (Q : Int → hy_m → Prop) (P18 : Int → hy_m → Prop) (x2 : Int) (m : hy_m) : Prop := 0 ≤ (0 : Int) ∧ (0 : Int) < 21 ∧ (((m 85 0) ≤ x2 → (0 ≤ (0 : Int) ∧ (0 : Int) < 21 ∧ (0 ≤ (0 : Int) ∧ (0 : Int) < 21 ∧ (hy_r 0 ((m 85 0) - 1) ∧ (0 ≤ (0 : Int) ∧ (0 : Int) < 21 ∧ (Q ((m 85 0) - 1) (hy_u m 85 0 ((m 85 0) - 1)))))))) ∧ (x2 < (m 85 0) → (0 ≤ (x2 + 1) ∧ (x2 + 1) < 21 ∧ (0 ≤ x2 ∧ x2 < 21 ∧ (hy_r 0 (x2 + 1) ∧ (P18 (x2 + 1) (hy_u m 85 x2 (m 85 (x2 + 1)))))))))
def wq_208_18 (x2 : Int) (T : hy_T) (m : hy_m) (Q : Int → hy_m → Prop) : Prop := wL1 hy_m (wf_208_18 T Q) x2 m
def wq_208 (x1 : Int) (T : hy_T) (m : hy_m) (Q : Int → hy_m → Prop) : Prop := wq_205 x1 m (fun r1 m1 => (r1 ≠ 0 → (wq_204 T m1 (fun _ m2 => hy_r 0 (x1 + 1) ∧ (wq_208_18 (x1 + 1) T m2 Q)))) ∧ (r1 = 0 → (Q (-1) m1)))
theorem wc_205_r74_0t (x1 : Int) (s : sS) (R : Int → hy_m → Prop) (h : wq_205 x1 s.2.2.2 R) : we_205 [(5, true, 74), (0, true, x1)] s R := h
def cs_208 : List (Nat × Nat × sFS) := [(204, 9, .inl we_204), (205, 2, .inl we_205)]
theorem cs_208_ok : kCs dM 2 cs_208 := (kCs_c (Or.inr (Or.inr (Or.inr (Or.inr rfl)))) (we_204_ok.deep (by decide)) (kCs_c (Or.inr (Or.inr (Or.inl rfl))) (we_205_ok.deep (by decide)) kCs_n))
def lb_208_18 (s : sS) (Q : sQ) (P18 : Int → hy_m → Prop) (R : Int → hy_m → Prop) (x2 : Int) : Nat → Option (sL → sS → Prop) := sLb [(18, fun lv t => sG [(0, 5, 74), (2, 0, 0)] lv (ap1 (fun w2 => ∃ m', t = sM s m' ∧ P18 w2 m')))]
set_option maxRecDepth 30000 in
set_option maxHeartbeats 1000000 in
theorem wj_208_18 (Q : sQ) (R : Int → hy_m → Prop) (s : sS) (P18 : Int → hy_m → Prop) (x2 : Int) (m : hy_m) (hP18 : ∀ (z2 : Int) (m : hy_m), P18 z2 m → sRg [(0, 5, 74), (2, 0, 0)] [z2] → kX dM 2 im_m208 0 18 (sCan [(0, 5, 74), (2, 0, 0)] [z2]) [] (sM s m) Q) (hQ : ∀ x m', R x m' → Q x (sM s m')) (hr : sRg [(0, 5, 74), (2, 0, 0)] [x2]) (h : wf_208_18 s.1 R P18 x2 m) : kX dM 2 im_m208 0 18 (sCan [(0, 5, 74), (2, 0, 0)] [x2]) [] (sM s m) Q := by
  unfold wf_208_18 at h
  refine wz2_ok (cs := cs_208) (wr := []) (lb := lb_208_18 s Q P18 R x2) cs_208_ok (kLb_c (kLab (Bd := fun xs t => ap1 (fun w2 => ∃ m', t = sM s m' ∧ P18 w2 m') xs) rfl (fun xs t r1 r2 hb => by obtain ⟨w2, rfl, hb⟩ := ap1_ok hb; obtain ⟨m', rfl, hx⟩ := hb; exact hP18 _ m' hx r1)) kLb_n) (okL_can rfl hr) (fun Y hY hl => ?_)
  have l18 := hl 18 _ rfl
  refine hY _ _ _ _ (hY _ _ _ _ (hY _ _ _ _ (?_ : Y 23 [(0, 5, true, 74), (2, 0, true, x2)] [(5, true, 85), (0, true, x2)] (sM s m))))
  refine hY _ _ _ _ (?_ : Y 24 [(0, 5, true, 74), (2, 0, true, x2)] [(2, true, 0), (5, true, 85), (0, true, x2)] (sM s m))
  refine hY _ _ _ _ ?_
  refine (And.intro h.1 (And.intro h.2.1 ?_))
  show Y 25 [(0, 5, true, 74), (2, 0, true, x2)] [(0, true, m 85 0), (0, true, x2)] (sM s m)
  refine hY _ _ _ _ ?_
  refine And.intro (fun hc => ?_) (fun hc => ?_)
  · have h := h.2.2.1 hc
    refine hY _ _ _ _ (hY _ _ _ _ (hY _ _ _ _ (?_ : Y 53 [(0, 5, true, 74), (2, 0, true, x2)] [(2, true, 0), (5, true, 85)] (sM s m))))
    refine hY _ _ _ _ (?_ : Y 54 [(0, 5, true, 74), (2, 0, true, x2)] [(2, true, 0), (5, true, 85), (2, true, 0), (5, true, 85)] (sM s m))
    refine hY _ _ _ _ ?_
    refine (And.intro h.1 (And.intro h.2.1 ?_))
    refine hY _ _ _ _ (hY _ _ _ _ (?_ : Y 57 [(0, 5, true, 74), (2, 0, true, x2)] [(0, false, (m 85 0) - 1), (2, true, 0), (5, true, 85)] (sM s m)))
    refine hY _ _ _ _ ?_
    refine (And.intro h.2.2.1 (And.intro h.2.2.2.1 ?_))
    refine And.intro h.2.2.2.2.1 ?_
    refine hY _ _ _ _ (hY _ _ _ _ (hY _ _ _ _ (?_ : Y 63 [(0, 5, true, 74), (2, 0, true, x2)] [(2, true, 0), (5, true, 85)] (sM s (hy_u m 85 0 ((m 85 0) - 1))))))
    refine hY _ _ _ _ ?_
    refine (And.intro h.2.2.2.2.2.1 (And.intro h.2.2.2.2.2.2.1 ?_))
    show Y 64 [(0, 5, true, 74), (2, 0, true, x2)] [(0, true, (m 85 0) - 1)] (sM s (hy_u m 85 0 ((m 85 0) - 1)))
    refine hY _ _ _ _ ?_
    exact hQ ((m 85 0) - 1) (hy_u m 85 0 ((m 85 0) - 1)) h.2.2.2.2.2.2.2
  · have h := h.2.2.2 hc
    refine hY _ _ _ _ (hY _ _ _ _ (hY _ _ _ _ (?_ : Y 33 [(0, 5, true, 74), (2, 0, true, x2)] [(0, true, x2), (5, true, 85)] (sM s m))))
    refine hY _ _ _ _ (hY _ _ _ _ (hY _ _ _ _ (?_ : Y 38 [(0, 5, true, 74), (2, 0, true, x2)] [(0, true, x2), (5, true, 85), (0, true, x2), (5, true, 85)] (sM s m))))
    refine hY _ _ _ _ (hY _ _ _ _ (?_ : Y 40 [(0, 5, true, 74), (2, 0, true, x2)] [(0, false, x2 + 1), (5, true, 85), (0, true, x2), (5, true, 85)] (sM s m)))
    refine hY _ _ _ _ ?_
    refine (And.intro h.1 (And.intro h.2.1 ?_))
    show Y 41 [(0, 5, true, 74), (2, 0, true, x2)] [(0, true, m 85 (x2 + 1)), (0, true, x2), (5, true, 85)] (sM s m)
    refine hY _ _ _ _ ?_
    refine (And.intro h.2.2.1 (And.intro h.2.2.2.1 ?_))
    refine hY _ _ _ _ (hY _ _ _ _ (?_ : Y 18 [(2, 0, false, x2 + 1), (0, 5, true, 74)] [] (sM s (hy_u m 85 x2 (m 85 (x2 + 1))))))
    refine l18 _ _ ?_
    refine And.intro h.2.2.2.2.1 ?_
    exact (Exists.intro (hy_u m 85 x2 (m 85 (x2 + 1))) (And.intro rfl h.2.2.2.2.2))
theorem wk_208_18 (Q : sQ) (R : Int → hy_m → Prop) (s : sS) (x2 : Int) (hQ : ∀ x m', R x m' → Q x (sM s m')) (hr : sRg [(0, 5, 74), (2, 0, 0)] [x2]) (h : wq_208_18 x2 s.1 s.2.2.2 R) : kX dM 2 im_m208 0 18 (sCan [(0, 5, 74), (2, 0, 0)] [x2]) [] s Q :=
  h (fun x2 m => sRg [(0, 5, 74), (2, 0, 0)] [x2] → kX dM 2 im_m208 0 18 (sCan [(0, 5, 74), (2, 0, 0)] [x2]) [] (sM s m) Q) (fun x2 m h hr => wj_208_18 Q R s (fun x2 m => sRg [(0, 5, 74), (2, 0, 0)] [x2] → kX dM 2 im_m208 0 18 (sCan [(0, 5, 74), (2, 0, 0)] [x2]) [] (sM s m) Q) x2 m  (fun _ _ hp hr => hp hr) hQ hr h) hr
def lb_208_0 (s : sS) (Q : sQ) (R : Int → hy_m → Prop) (x1 : Int) : Nat → Option (sL → sS → Prop) := sLb [(18, fun lv t => sG [(0, 5, 74), (2, 0, 0)] lv (ap1 (fun w2 => ∃ m', t = sM s m' ∧ wq_208_18 w2 s.1 m' R)))]
set_option maxRecDepth 30000 in
set_option maxHeartbeats 1000000 in
theorem wk_208_0 (Q : sQ) (R : Int → hy_m → Prop) (s : sS) (x1 : Int) (hQ : ∀ x m', R x m' → Q x (sM s m')) (hr : sRg [(0, 5, 74), (1, 0, 0)] [x1]) (h : wq_208 x1 s.1 s.2.2.2 R) : kX dM 2 im_m208 0 0 (sCan [(0, 5, 74), (1, 0, 0)] [x1]) [] s Q := by
  unfold wq_208 at h
  refine wz2_ok (cs := cs_208) (wr := []) (lb := lb_208_0 s Q R x1) cs_208_ok (kLb_c (kLab (Bd := fun xs t => ap1 (fun w2 => ∃ m', t = sM s m' ∧ wq_208_18 w2 s.1 m' R) xs) rfl (fun xs t r1 r2 hb => by obtain ⟨w2, rfl, hb⟩ := ap1_ok hb; obtain ⟨m', rfl, hx⟩ := hb; exact wk_208_18 Q R (sM s m') _ (fun x m'' hy => hQ x m'' hy) r1 hx)) kLb_n) (okL_can rfl hr) (fun Y hY hl => ?_)
  have l18 := hl 18 _ rfl
  refine hY _ _ _ _ (hY _ _ _ _ (?_ : Y 2 [(0, 5, true, 74), (1, 0, true, x1)] [(0, true, x1), (5, true, 74)] s))
  refine hY _ _ _ _ ?_
  refine Exists.intro _ (And.intro (wc_205_r74_0t x1 _ _ h) (fun r1 m1 h => ?_))
  show Y 5 [(0, 5, true, 74), (1, 0, true, x1)] [(2, true, r1)] (sM s m1)
  refine hY _ _ _ _ ?_
  refine And.intro (fun hc => ?_) (fun hc => ?_)
  · have h := h.1 hc
    refine hY _ _ _ _ (?_ : Y 11 [(0, 5, true, 74), (1, 0, true, x1)] [(5, true, 74)] (sM s m1))
    refine hY _ _ _ _ ?_
    refine Exists.intro _ (And.intro (wc_204_r74 _ _ h) (fun r2 m2 h => ?_))
    refine hY _ _ _ _ (hY _ _ _ _ (hY _ _ _ _ (?_ : Y 17 [(0, 5, true, 74), (1, 0, true, x1)] [(0, false, x1 + 1)] (sM s m2))))
    refine hY _ _ _ _ (?_ : Y 18 [(2, 0, false, x1 + 1), (0, 5, true, 74), (1, 0, true, x1)] [] (sM s m2))
    refine l18 _ _ ?_
    refine And.intro h.1 ?_
    exact (Exists.intro m2 (And.intro rfl h.2))
  · have h := h.2 hc
    refine hY _ _ _ _ (?_ : Y 9 [(0, 5, true, 74), (1, 0, true, x1)] [(0, true, (-1))] (sM s m1))
    refine hY _ _ _ _ ?_
    exact hQ (-1) m1 h
def we_208 : sFf := sEf 3 [(0, 5, 74), (1, 0, 0)] (fun xs s Q => ap1 (fun x1 => wq_208 x1 s.1 s.2.2.2 Q) xs)
theorem we_208_ok : kS dM 3 208 0 (.inl we_208) := sEf_ok (mi := im_m208) rfl rfl rfl (fun R xs s r1 hb => by obtain ⟨x1, rfl, hb⟩ := ap1_ok hb; exact wk_208_0 _ R s x1 (fun x m' hx => ⟨m', rfl, hx⟩) r1 hb)
/-- LMModel.move(II)I -/
def wf_209_67 (x2 : Int) (x3 : Int) (T : hy_T) (Q : Int → hy_m → Prop) (P67 : Int → hy_m → Prop) (x4 : Int) (m : hy_m) : Prop := (x4 ≤ x2 → (0 ≤ (1 + x2) ∧ (1 + x2) < 21 ∧ (Q x2 (hy_u m 85 (1 + x2) x3)))) ∧ (x2 < x4 → (0 ≤ x4 ∧ x4 < 21 ∧ (0 ≤ (1 + x4) ∧ (1 + x4) < 21 ∧ (hy_r 0 (x4 + (-1)) ∧ (P67 (x4 + (-1)) (hy_u m 85 (1 + x4) (m 85 x4)))))))
def wq_209_67 (x2 : Int) (x3 : Int) (x4 : Int) (T : hy_T) (m : hy_m) (Q : Int → hy_m → Prop) : Prop := wL1 hy_m (wf_209_67 x2 x3 T Q) x4 m
def wf_209_34 (x1 : Int) (x2 : Int) (x3 : Int) (T : hy_T) (Q : Int → hy_m → Prop) (P34 : Int → hy_m → Prop) (x4 : Int) (m : hy_m) : Prop := (x2 ≤ x4 → (wq_209_67 x2 x3 x1 T m Q)) ∧ (x4 < x2 → (0 ≤ (2 + x4) ∧ (2 + x4) < 21 ∧ (0 ≤ (1 + x4) ∧ (1 + x4) < 21 ∧ (hy_r 0 (x4 + 1) ∧ (P34 (x4 + 1) (hy_u m 85 (1 + x4) (m 85 (2 + x4))))))))
def wq_209_34 (x1 : Int) (x2 : Int) (x3 : Int) (x4 : Int) (T : hy_T) (m : hy_m) (Q : Int → hy_m → Prop) : Prop := wL1 hy_m (wf_209_34 x1 x2 x3 T Q) x4 m
def wq_209 (x1 : Int) (x2 : Int) (T : hy_T) (m : hy_m) (Q : Int → hy_m → Prop) : Prop := wq_205 x1 m (fun r1 m1 => (r1 = 0 → (Q (-1) m1)) ∧ (r1 ≠ 0 → (wq_205 x2 m1 (fun r2 m2 => (r2 ≠ 0 → (wq_204 T m2 (fun _ m3 => 0 ≤ (1 + x1) ∧ (1 + x1) < 21 ∧ (wq_209_34 x1 x2 (m3 85 (1 + x1)) x1 T m3 Q)))) ∧ (r2 = 0 → (Q (-1) m2))))))
def cs_209 : List (Nat × Nat × sFS) := [(204, 9, .inl we_204), (205, 2, .inl we_205)]
theorem cs_209_ok : kCs dM 2 cs_209 := (kCs_c (Or.inr (Or.inr (Or.inr (Or.inr rfl)))) (we_204_ok.deep (by decide)) (kCs_c (Or.inr (Or.inr (Or.inl rfl))) (we_205_ok.deep (by decide)) kCs_n))
def lb_209_67 (s : sS) (Q : sQ) (P67 : Int → hy_m → Prop) (R : Int → hy_m → Prop) (x2 : Int) (x3 : Int) (x4 : Int) : Nat → Option (sL → sS → Prop) := sLb [(67, fun lv t => sG [(0, 5, 74), (2, 0, 0), (3, 0, 0), (4, 0, 0)] lv (ap3 (fun w2 w3 w4 => ∃ m', t = sM s m' ∧ w2 = x2 ∧ w3 = x3 ∧ P67 w4 m')))]
set_option maxRecDepth 30000 in
set_option maxHeartbeats 1000000 in
theorem wj_209_67 (Q : sQ) (R : Int → hy_m → Prop) (s : sS) (P67 : Int → hy_m → Prop) (x2 : Int) (x3 : Int) (x4 : Int) (m : hy_m) (hP67 : ∀ (z4 : Int) (m : hy_m), P67 z4 m → sRg [(0, 5, 74), (2, 0, 0), (3, 0, 0), (4, 0, 0)] [x2, x3, z4] → kX dM 2 im_m209 0 67 (sCan [(0, 5, 74), (2, 0, 0), (3, 0, 0), (4, 0, 0)] [x2, x3, z4]) [] (sM s m) Q) (hQ : ∀ x m', R x m' → Q x (sM s m')) (hr : sRg [(0, 5, 74), (2, 0, 0), (3, 0, 0), (4, 0, 0)] [x2, x3, x4]) (h : wf_209_67 x2 x3 s.1 R P67 x4 m) : kX dM 2 im_m209 0 67 (sCan [(0, 5, 74), (2, 0, 0), (3, 0, 0), (4, 0, 0)] [x2, x3, x4]) [] (sM s m) Q := by
  unfold wf_209_67 at h
  refine wz2_ok (cs := cs_209) (wr := []) (lb := lb_209_67 s Q P67 R x2 x3 x4) cs_209_ok (kLb_c (kLab (Bd := fun xs t => ap3 (fun w2 w3 w4 => ∃ m', t = sM s m' ∧ w2 = x2 ∧ w3 = x3 ∧ P67 w4 m') xs) rfl (fun xs t r1 r2 hb => by obtain ⟨w2, w3, w4, rfl, hb⟩ := ap3_ok hb; obtain ⟨m', rfl, rfl, rfl, hx⟩ := hb; exact hP67 _ m' hx r1)) kLb_n) (okL_can rfl hr) (fun Y hY hl => ?_)
  have l67 := hl 67 _ rfl
  refine hY _ _ _ _ (hY _ _ _ _ (?_ : Y 70 [(0, 5, true, 74), (2, 0, true, x2), (3, 0, true, x3), (4, 0, true, x4)] [(0, true, x2), (0, true, x4)] (sM s m)))
  refine hY _ _ _ _ ?_
  refine And.intro (fun hc => ?_) (fun hc => ?_)
  · have h := h.1 hc
    refine hY _ _ _ _ (hY _ _ _ _ (hY _ _ _ _ (?_ : Y 100 [(0, 5, true, 74), (2, 0, true, x2), (3, 0, true, x3), (4, 0, true, x4)] [(2, true, 1), (5, true, 85)] (sM s m))))
    refine hY _ _ _ _ (hY _ _ _ _ (hY _ _ _ _ (?_ : Y 103 [(0, 5, true, 74), (2, 0, true, x2), (3, 0, true, x3), (4, 0, true, x4)] [(0, true, x3), (0, false, 1 + x2), (5, true, 85)] (sM s m))))
    refine hY _ _ _ _ ?_
    refine (And.intro h.1 (And.intro h.2.1 ?_))
    refine hY _ _ _ _ (?_ : Y 105 [(0, 5, true, 74), (2, 0, true, x2), (3, 0, true, x3), (4, 0, true, x4)] [(0, true, x2)] (sM s (hy_u m 85 (1 + x2) x3)))
    refine hY _ _ _ _ ?_
    exact hQ x2 (hy_u m 85 (1 + x2) x3) h.2.2
  · have h := h.2 hc
    refine hY _ _ _ _ (hY _ _ _ _ (hY _ _ _ _ (?_ : Y 78 [(0, 5, true, 74), (2, 0, true, x2), (3, 0, true, x3), (4, 0, true, x4)] [(2, true, 1), (5, true, 85)] (sM s m))))
    refine hY _ _ _ _ (hY _ _ _ _ (hY _ _ _ _ (?_ : Y 82 [(0, 5, true, 74), (2, 0, true, x2), (3, 0, true, x3), (4, 0, true, x4)] [(5, true, 74), (0, false, 1 + x4), (5, true, 85)] (sM s m))))
    refine hY _ _ _ _ (hY _ _ _ _ (?_ : Y 87 [(0, 5, true, 74), (2, 0, true, x2), (3, 0, true, x3), (4, 0, true, x4)] [(0, true, x4), (5, true, 85), (0, false, 1 + x4), (5, true, 85)] (sM s m)))
    refine hY _ _ _ _ ?_
    refine (And.intro h.1 (And.intro h.2.1 ?_))
    show Y 88 [(0, 5, true, 74), (2, 0, true, x2), (3, 0, true, x3), (4, 0, true, x4)] [(0, true, m 85 x4), (0, false, 1 + x4), (5, true, 85)] (sM s m)
    refine hY _ _ _ _ ?_
    refine (And.intro h.2.2.1 (And.intro h.2.2.2.1 ?_))
    refine hY _ _ _ _ (hY _ _ _ _ (?_ : Y 67 [(4, 0, false, x4 + (-1)), (0, 5, true, 74), (2, 0, true, x2), (3, 0, true, x3)] [] (sM s (hy_u m 85 (1 + x4) (m 85 x4)))))
    refine l67 _ _ ?_
    refine And.intro h.2.2.2.2.1 ?_
    exact (Exists.intro (hy_u m 85 (1 + x4) (m 85 x4)) (And.intro rfl (And.intro rfl (And.intro rfl h.2.2.2.2.2))))
theorem wk_209_67 (Q : sQ) (R : Int → hy_m → Prop) (s : sS) (x2 : Int) (x3 : Int) (x4 : Int) (hQ : ∀ x m', R x m' → Q x (sM s m')) (hr : sRg [(0, 5, 74), (2, 0, 0), (3, 0, 0), (4, 0, 0)] [x2, x3, x4]) (h : wq_209_67 x2 x3 x4 s.1 s.2.2.2 R) : kX dM 2 im_m209 0 67 (sCan [(0, 5, 74), (2, 0, 0), (3, 0, 0), (4, 0, 0)] [x2, x3, x4]) [] s Q :=
  h (fun x4 m => sRg [(0, 5, 74), (2, 0, 0), (3, 0, 0), (4, 0, 0)] [x2, x3, x4] → kX dM 2 im_m209 0 67 (sCan [(0, 5, 74), (2, 0, 0), (3, 0, 0), (4, 0, 0)] [x2, x3, x4]) [] (sM s m) Q) (fun x4 m h hr => wj_209_67 Q R s (fun x4 m => sRg [(0, 5, 74), (2, 0, 0), (3, 0, 0), (4, 0, 0)] [x2, x3, x4] → kX dM 2 im_m209 0 67 (sCan [(0, 5, 74), (2, 0, 0), (3, 0, 0), (4, 0, 0)] [x2, x3, x4]) [] (sM s m) Q) x2 x3 x4 m  (fun _ _ hp hr => hp hr) hQ hr h) hr
def lb_209_34 (s : sS) (Q : sQ) (P34 : Int → hy_m → Prop) (R : Int → hy_m → Prop) (x1 : Int) (x2 : Int) (x3 : Int) (x4 : Int) : Nat → Option (sL → sS → Prop) := sLb [(67, fun lv t => sG [(0, 5, 74), (2, 0, 0), (3, 0, 0), (4, 0, 0)] lv (ap3 (fun w2 w3 w4 => ∃ m', t = sM s m' ∧ wq_209_67 w2 w3 w4 s.1 m' R))), (34, fun lv t => sG [(0, 5, 74), (1, 0, 0), (2, 0, 0), (3, 0, 0), (4, 0, 0)] lv (ap4 (fun w1 w2 w3 w4 => ∃ m', t = sM s m' ∧ w1 = x1 ∧ w2 = x2 ∧ w3 = x3 ∧ P34 w4 m')))]
set_option maxRecDepth 30000 in
set_option maxHeartbeats 1000000 in
theorem wj_209_34 (Q : sQ) (R : Int → hy_m → Prop) (s : sS) (P34 : Int → hy_m → Prop) (x1 : Int) (x2 : Int) (x3 : Int) (x4 : Int) (m : hy_m) (hP34 : ∀ (z4 : Int) (m : hy_m), P34 z4 m → sRg [(0, 5, 74), (1, 0, 0), (2, 0, 0), (3, 0, 0), (4, 0, 0)] [x1, x2, x3, z4] → kX dM 2 im_m209 0 34 (sCan [(0, 5, 74), (1, 0, 0), (2, 0, 0), (3, 0, 0), (4, 0, 0)] [x1, x2, x3, z4]) [] (sM s m) Q) (hQ : ∀ x m', R x m' → Q x (sM s m')) (hr : sRg [(0, 5, 74), (1, 0, 0), (2, 0, 0), (3, 0, 0), (4, 0, 0)] [x1, x2, x3, x4]) (h : wf_209_34 x1 x2 x3 s.1 R P34 x4 m) : kX dM 2 im_m209 0 34 (sCan [(0, 5, 74), (1, 0, 0), (2, 0, 0), (3, 0, 0), (4, 0, 0)] [x1, x2, x3, x4]) [] (sM s m) Q := by
  unfold wf_209_34 at h
  refine wz2_ok (cs := cs_209) (wr := []) (lb := lb_209_34 s Q P34 R x1 x2 x3 x4) cs_209_ok (kLb_c (kLab (Bd := fun xs t => ap3 (fun w2 w3 w4 => ∃ m', t = sM s m' ∧ wq_209_67 w2 w3 w4 s.1 m' R) xs) rfl (fun xs t r1 r2 hb => by obtain ⟨w2, w3, w4, rfl, hb⟩ := ap3_ok hb; obtain ⟨m', rfl, hx⟩ := hb; exact wk_209_67 Q R (sM s m') _ _ _ (fun x m'' hy => hQ x m'' hy) r1 hx)) (kLb_c (kLab (Bd := fun xs t => ap4 (fun w1 w2 w3 w4 => ∃ m', t = sM s m' ∧ w1 = x1 ∧ w2 = x2 ∧ w3 = x3 ∧ P34 w4 m') xs) rfl (fun xs t r1 r2 hb => by obtain ⟨w1, w2, w3, w4, rfl, hb⟩ := ap4_ok hb; obtain ⟨m', rfl, rfl, rfl, rfl, hx⟩ := hb; exact hP34 _ m' hx r1)) kLb_n)) (okL_can rfl hr) (fun Y hY hl => ?_)
  have l67 := hl 67 _ rfl
  have l34 := hl 34 _ rfl
  refine hY _ _ _ _ (hY _ _ _ _ (?_ : Y 37 [(0, 5, true, 74), (1, 0, true, x1), (2, 0, true, x2), (3, 0, true, x3), (4, 0, true, x4)] [(0, true, x2), (0, true, x4)] (sM s m)))
  refine hY _ _ _ _ ?_
  refine And.intro (fun hc => ?_) (fun hc => ?_)
  · have h := h.1 hc
    refine hY _ _ _ _ (hY _ _ _ _ (?_ : Y 67 [(4, 0, true, x1), (0, 5, true, 74), (1, 0, true, x1), (2, 0, true, x2), (3, 0, true, x3)] [] (sM s m)))
    refine l67 _ _ ?_
    exact (Exists.intro m (And.intro rfl h))
  · have h := h.2 hc
    refine hY _ _ _ _ (hY _ _ _ _ (hY _ _ _ _ (?_ : Y 45 [(0, 5, true, 74), (1, 0, true, x1), (2, 0, true, x2), (3, 0, true, x3), (4, 0, true, x4)] [(2, true, 1), (5, true, 85)] (sM s m))))
    refine hY _ _ _ _ (hY _ _ _ _ (hY _ _ _ _ (?_ : Y 49 [(0, 5, true, 74), (1, 0, true, x1), (2, 0, true, x2), (3, 0, true, x3), (4, 0, true, x4)] [(5, true, 74), (0, false, 1 + x4), (5, true, 85)] (sM s m))))
    refine hY _ _ _ _ (hY _ _ _ _ (hY _ _ _ _ (?_ : Y 55 [(0, 5, true, 74), (1, 0, true, x1), (2, 0, true, x2), (3, 0, true, x3), (4, 0, true, x4)] [(0, true, x4), (0, true, 2), (5, true, 85), (0, false, 1 + x4), (5, true, 85)] (sM s m))))
    refine hY _ _ _ _ (?_ : Y 56 [(0, 5, true, 74), (1, 0, true, x1), (2, 0, true, x2), (3, 0, true, x3), (4, 0, true, x4)] [(0, false, 2 + x4), (5, true, 85), (0, false, 1 + x4), (5, true, 85)] (sM s m))
    refine hY _ _ _ _ ?_
    refine (And.intro h.1 (And.intro h.2.1 ?_))
    show Y 57 [(0, 5, true, 74), (1, 0, true, x1), (2, 0, true, x2), (3, 0, true, x3), (4, 0, true, x4)] [(0, true, m 85 (2 + x4)), (0, false, 1 + x4), (5, true, 85)] (sM s m)
    refine hY _ _ _ _ ?_
    refine (And.intro h.2.2.1 (And.intro h.2.2.2.1 ?_))
    refine hY _ _ _ _ (hY _ _ _ _ (?_ : Y 34 [(4, 0, false, x4 + 1), (0, 5, true, 74), (1, 0, true, x1), (2, 0, true, x2), (3, 0, true, x3)] [] (sM s (hy_u m 85 (1 + x4) (m 85 (2 + x4))))))
    refine l34 _ _ ?_
    refine And.intro h.2.2.2.2.1 ?_
    exact (Exists.intro (hy_u m 85 (1 + x4) (m 85 (2 + x4))) (And.intro rfl (And.intro rfl (And.intro rfl (And.intro rfl h.2.2.2.2.2)))))
theorem wk_209_34 (Q : sQ) (R : Int → hy_m → Prop) (s : sS) (x1 : Int) (x2 : Int) (x3 : Int) (x4 : Int) (hQ : ∀ x m', R x m' → Q x (sM s m')) (hr : sRg [(0, 5, 74), (1, 0, 0), (2, 0, 0), (3, 0, 0), (4, 0, 0)] [x1, x2, x3, x4]) (h : wq_209_34 x1 x2 x3 x4 s.1 s.2.2.2 R) : kX dM 2 im_m209 0 34 (sCan [(0, 5, 74), (1, 0, 0), (2, 0, 0), (3, 0, 0), (4, 0, 0)] [x1, x2, x3, x4]) [] s Q :=
  h (fun x4 m => sRg [(0, 5, 74), (1, 0, 0), (2, 0, 0), (3, 0, 0), (4, 0, 0)] [x1, x2, x3, x4] → kX dM 2 im_m209 0 34 (sCan [(0, 5, 74), (1, 0, 0), (2, 0, 0), (3, 0, 0), (4, 0, 0)] [x1, x2, x3, x4]) [] (sM s m) Q) (fun x4 m h hr => wj_209_34 Q R s (fun x4 m => sRg [(0, 5, 74), (1, 0, 0), (2, 0, 0), (3, 0, 0), (4, 0, 0)] [x1, x2, x3, x4] → kX dM 2 im_m209 0 34 (sCan [(0, 5, 74), (1, 0, 0), (2, 0, 0), (3, 0, 0), (4, 0, 0)] [x1, x2, x3, x4]) [] (sM s m) Q) x1 x2 x3 x4 m  (fun _ _ hp hr => hp hr) hQ hr h) hr
def lb_209_0 (s : sS) (Q : sQ) (R : Int → hy_m → Prop) (x1 : Int) (x2 : Int) : Nat → Option (sL → sS → Prop) := sLb [(34, fun lv t => sG [(0, 5, 74), (1, 0, 0), (2, 0, 0), (3, 0, 0), (4, 0, 0)] lv (ap4 (fun w1 w2 w3 w4 => ∃ m', t = sM s m' ∧ wq_209_34 w1 w2 w3 w4 s.1 m' R)))]
set_option maxRecDepth 30000 in
set_option maxHeartbeats 1000000 in
theorem wk_209_0 (Q : sQ) (R : Int → hy_m → Prop) (s : sS) (x1 : Int) (x2 : Int) (hQ : ∀ x m', R x m' → Q x (sM s m')) (hr : sRg [(0, 5, 74), (1, 0, 0), (2, 0, 0)] [x1, x2]) (h : wq_209 x1 x2 s.1 s.2.2.2 R) : kX dM 2 im_m209 0 0 (sCan [(0, 5, 74), (1, 0, 0), (2, 0, 0)] [x1, x2]) [] s Q := by
  unfold wq_209 at h
  refine wz2_ok (cs := cs_209) (wr := []) (lb := lb_209_0 s Q R x1 x2) cs_209_ok (kLb_c (kLab (Bd := fun xs t => ap4 (fun w1 w2 w3 w4 => ∃ m', t = sM s m' ∧ wq_209_34 w1 w2 w3 w4 s.1 m' R) xs) rfl (fun xs t r1 r2 hb => by obtain ⟨w1, w2, w3, w4, rfl, hb⟩ := ap4_ok hb; obtain ⟨m', rfl, hx⟩ := hb; exact wk_209_34 Q R (sM s m') _ _ _ _ (fun x m'' hy => hQ x m'' hy) r1 hx)) kLb_n) (okL_can rfl hr) (fun Y hY hl => ?_)
  have l34 := hl 34 _ rfl
  refine hY _ _ _ _ (hY _ _ _ _ (?_ : Y 2 [(0, 5, true, 74), (1, 0, true, x1), (2, 0, true, x2)] [(0, true, x1), (5, true, 74)] s))
  refine hY _ _ _ _ ?_
  refine Exists.intro _ (And.intro (wc_205_r74_0t x1 _ _ h) (fun r1 m1 h => ?_))
  show Y 5 [(0, 5, true, 74), (1, 0, true, x1), (2, 0, true, x2)] [(2, true, r1)] (sM s m1)
  refine hY _ _ _ _ ?_
  refine And.intro (fun hc => ?_) (fun hc => ?_)
  · have h := h.1 hc
    refine hY _ _ _ _ (?_ : Y 17 [(0, 5, true, 74), (1, 0, true, x1), (2, 0, true, x2)] [(0, true, (-1))] (sM s m1))
    refine hY _ _ _ _ ?_
    exact hQ (-1) m1 h
  · have h := h.2 hc
    refine hY _ _ _ _ (hY _ _ _ _ (?_ : Y 10 [(0, 5, true, 74), (1, 0, true, x1), (2, 0, true, x2)] [(0, true, x2), (5, true, 74)] (sM s m1)))
    refine hY _ _ _ _ ?_
    refine Exists.intro _ (And.intro (wc_205_r74_0t x2 _ _ h) (fun r2 m2 h => ?_))
    show Y 13 [(0, 5, true, 74), (1, 0, true, x1), (2, 0, true, x2)] [(2, true, r2)] (sM s m2)
    refine hY _ _ _ _ ?_
    refine And.intro (fun hc => ?_) (fun hc => ?_)
    · have h := h.1 hc
      refine hY _ _ _ _ (?_ : Y 19 [(0, 5, true, 74), (1, 0, true, x1), (2, 0, true, x2)] [(5, true, 74)] (sM s m2))
      refine hY _ _ _ _ ?_
      refine Exists.intro _ (And.intro (wc_204_r74 _ _ h) (fun r3 m3 h => ?_))
      refine hY _ _ _ _ (hY _ _ _ _ (hY _ _ _ _ (?_ : Y 27 [(0, 5, true, 74), (1, 0, true, x1), (2, 0, true, x2)] [(2, true, 1), (5, true, 85)] (sM s m3))))
      refine hY _ _ _ _ (hY _ _ _ _ (?_ : Y 29 [(0, 5, true, 74), (1, 0, true, x1), (2, 0, true, x2)] [(0, false, 1 + x1), (5, true, 85)] (sM s m3)))
      refine hY _ _ _ _ ?_
      refine (And.intro h.1 (And.intro h.2.1 ?_))
      refine hY _ _ _ _ (hY _ _ _ _ (hY _ _ _ _ (?_ : Y 34 [(4, 0, true, x1), (3, 0, true, m3 85 (1 + x1)), (0, 5, true, 74), (1, 0, true, x1), (2, 0, true, x2)] [] (sM s m3))))
      refine l34 _ _ ?_
      exact (Exists.intro m3 (And.intro rfl h.2.2))
    · have h := h.2 hc
      refine hY _ _ _ _ (?_ : Y 17 [(0, 5, true, 74), (1, 0, true, x1), (2, 0, true, x2)] [(0, true, (-1))] (sM s m2))
      refine hY _ _ _ _ ?_
      exact hQ (-1) m2 h
def we_209 : sFf := sEf 5 [(0, 5, 74), (1, 0, 0), (2, 0, 0)] (fun xs s Q => ap2 (fun x1 x2 => wq_209 x1 x2 s.1 s.2.2.2 Q) xs)
theorem we_209_ok : kS dM 3 209 0 (.inl we_209) := sEf_ok (mi := im_m209) rfl rfl rfl (fun R xs s r1 hb => by obtain ⟨x1, x2, rfl, hb⟩ := ap2_ok hb; exact wk_209_0 _ R s x1 x2 (fun x m' hx => ⟨m', rfl, hx⟩) r1 hb)
/-- LMModel.undo()I -/
def wq_210 (T : hy_T) (m : hy_m) (Q : Int → hy_m → Prop) : Prop := ((m 74 13) ≠ 0 → (hy_r 0 ((m 74 13) - 1) ∧ (hy_r 0 (21 * ((m 74 13) - 1)) ∧ (wq_203 86 (21 * ((m 74 13) - 1)) 85 0 T (hy_u m 74 13 ((m 74 13) - 1)) (fun _ m1 => wq_229 m1 (fun _ m2 => Q (m2 74 13) m2)))))) ∧ ((m 74 13) = 0 → (Q (-2) m))
theorem wc_203_r74_r86_0f_r85_2t (x2 : Int) (x4 : Int) (s : sS) (R : Int → hy_m → Prop) (h : hy_r 0 x2 ∧ wq_203 86 x2 85 x4 s.1 s.2.2.2 R) : we_203 [(5, true, 74), (5, true, 86), (0, false, x2), (5, true, 85), (2, true, x4)] s R := h
def cs_210 : List (Nat × Nat × sFS) := [(203, 9, .inl we_203), (229, 9, .inl we_229)]
theorem cs_210_ok : kCs dM 1 cs_210 := (kCs_c (Or.inr (Or.inr (Or.inr (Or.inr rfl)))) (we_203_ok.deep (by decide)) (kCs_c (Or.inr (Or.inr (Or.inr (Or.inr rfl)))) (we_229_ok.deep (by decide)) kCs_n))
def lb_210_0 (s : sS) (Q : sQ) (R : Int → hy_m → Prop) : Nat → Option (sL → sS → Prop) := sLb []
set_option maxRecDepth 30000 in
set_option maxHeartbeats 1000000 in
theorem wk_210_0 (Q : sQ) (R : Int → hy_m → Prop) (s : sS) (hQ : ∀ x m', R x m' → Q x (sM s m')) (hr : sRg [(0, 5, 74)] []) (h : wq_210 s.1 s.2.2.2 R) : kX dM 1 im_m210 0 0 (sCan [(0, 5, 74)] []) [] s Q := by
  unfold wq_210 at h
  refine wz2_ok (cs := cs_210) (wr := []) (lb := lb_210_0 s Q R) cs_210_ok kLb_n (okL_can rfl hr) (fun Y hY hl => ?_)
  refine hY _ _ _ _ (hY _ _ _ _ (?_ : Y 4 [(0, 5, true, 74)] [(0, true, s.2.2.2 74 13)] s))
  refine hY _ _ _ _ ?_
  refine And.intro (fun hc => ?_) (fun hc => ?_)
  · have h := h.1 hc
    refine hY _ _ _ _ (hY _ _ _ _ (hY _ _ _ _ (?_ : Y 15 [(0, 5, true, 74)] [(0, true, s.2.2.2 74 13), (5, true, 74)] s)))
    refine hY _ _ _ _ (hY _ _ _ _ (?_ : Y 17 [(0, 5, true, 74)] [(0, false, (s.2.2.2 74 13) - 1), (5, true, 74)] s))
    refine hY _ _ _ _ ?_
    refine And.intro h.1 ?_
    refine hY _ _ _ _ (hY _ _ _ _ (hY _ _ _ _ (?_ : Y 25 [(0, 5, true, 74)] [(5, true, 86), (5, true, 74)] (sM s (hy_u s.2.2.2 74 13 ((s.2.2.2 74 13) - 1))))))
    refine hY _ _ _ _ (hY _ _ _ _ (hY _ _ _ _ (?_ : Y 31 [(0, 5, true, 74)] [(0, true, (s.2.2.2 74 13) - 1), (0, true, 21), (5, true, 86), (5, true, 74)] (sM s (hy_u s.2.2.2 74 13 ((s.2.2.2 74 13) - 1))))))
    refine hY _ _ _ _ (hY _ _ _ _ (hY _ _ _ _ (?_ : Y 36 [(0, 5, true, 74)] [(5, true, 85), (0, false, 21 * ((s.2.2.2 74 13) - 1)), (5, true, 86), (5, true, 74)] (sM s (hy_u s.2.2.2 74 13 ((s.2.2.2 74 13) - 1))))))
    refine hY _ _ _ _ (?_ : Y 37 [(0, 5, true, 74)] [(2, true, 0), (5, true, 85), (0, false, 21 * ((s.2.2.2 74 13) - 1)), (5, true, 86), (5, true, 74)] (sM s (hy_u s.2.2.2 74 13 ((s.2.2.2 74 13) - 1))))
    refine hY _ _ _ _ ?_
    refine Exists.intro _ (And.intro (wc_203_r74_r86_0f_r85_2t (21 * ((s.2.2.2 74 13) - 1)) 0 _ _ h.2) (fun r1 m1 h => ?_))
    refine hY _ _ _ _ (?_ : Y 41 [(0, 5, true, 74)] [(5, true, 74)] (sM s m1))
    refine hY _ _ _ _ ?_
    refine Exists.intro _ (And.intro (wc_229_r74 _ _ h) (fun r2 m2 h => ?_))
    refine hY _ _ _ _ (hY _ _ _ _ (?_ : Y 48 [(0, 5, true, 74)] [(0, true, m2 74 13)] (sM s m2)))
    refine hY _ _ _ _ ?_
    exact hQ (m2 74 13) m2 h
  · have h := h.2 hc
    refine hY _ _ _ _ (?_ : Y 9 [(0, 5, true, 74)] [(0, true, (-2))] s)
    refine hY _ _ _ _ ?_
    exact hQ (-2) s.2.2.2 h
def we_210 : sFf := sEf 1 [(0, 5, 74)] (fun xs s Q => ap0 (wq_210 s.1 s.2.2.2 Q) xs)
theorem we_210_ok : kS dM 2 210 0 (.inl we_210) := sEf_ok (mi := im_m210) rfl rfl rfl (fun R xs s r1 hb => by obtain ⟨rfl, hb⟩ := ap0_ok hb; exact wk_210_0 _ R s (fun x m' hx => ⟨m', rfl, hx⟩) r1 hb)
/-- LMModel.isAlike(II)Z -/
def wq_211 (x1 : Int) (x2 : Int) (m : hy_m) (Q : Int → hy_m → Prop) : Prop := 0 ≤ x1 ∧ x1 < 3584 ∧ (0 ≤ x2 ∧ x2 < 3584 ∧ (((m 77 x1) ≠ (m 77 x2) → (Q 0 m)) ∧ ((m 77 x1) = (m 77 x2) → (0 ≤ x1 ∧ x1 < 3584 ∧ (0 ≤ x2 ∧ x2 < 3584 ∧ (((m 78 x1) ≠ (m 78 x2) → (Q 0 m)) ∧ ((m 78 x1) = (m 78 x2) → (Q 1 m))))))))
def cs_211 : List (Nat × Nat × sFS) := []
theorem cs_211_ok : kCs dM 0 cs_211 := kCs_n
def lb_211_0 (s : sS) (Q : sQ) (R : Int → hy_m → Prop) (x1 : Int) (x2 : Int) : Nat → Option (sL → sS → Prop) := sLb []
set_option maxRecDepth 30000 in
set_option maxHeartbeats 1000000 in
theorem wk_211_0 (Q : sQ) (R : Int → hy_m → Prop) (s : sS) (x1 : Int) (x2 : Int) (hQ : ∀ x m', R x m' → Q x (sM s m')) (hr : sRg [(0, 5, 74), (1, 0, 0), (2, 0, 0)] [x1, x2]) (h : wq_211 x1 x2 s.2.2.2 R) : kX dM 0 im_m211 2 0 (sCan [(0, 5, 74), (1, 0, 0), (2, 0, 0)] [x1, x2]) [] s Q := by
  unfold wq_211 at h
  refine wz2_ok (cs := cs_211) (wr := []) (lb := lb_211_0 s Q R x1 x2) cs_211_ok kLb_n (okL_can rfl hr) (fun Y hY hl => ?_)
  refine hY _ _ _ _ (hY _ _ _ _ (hY _ _ _ _ (?_ : Y 5 [(0, 5, true, 74), (1, 0, true, x1), (2, 0, true, x2)] [(0, true, x1), (5, true, 77)] s)))
  refine hY _ _ _ _ ?_
  refine (And.intro h.1 (And.intro h.2.1 ?_))
  refine hY _ _ _ _ (hY _ _ _ _ (hY _ _ _ _ (?_ : Y 11 [(0, 5, true, 74), (1, 0, true, x1), (2, 0, true, x2)] [(0, true, x2), (5, true, 77), (1, true, s.2.2.2 77 x1)] s)))
  refine hY _ _ _ _ ?_
  refine (And.intro h.2.2.1 (And.intro h.2.2.2.1 ?_))
  show Y 12 [(0, 5, true, 74), (1, 0, true, x1), (2, 0, true, x2)] [(1, true, s.2.2.2 77 x2), (1, true, s.2.2.2 77 x1)] s
  refine hY _ _ _ _ ?_
  refine And.intro (fun hc => ?_) (fun hc => ?_)
  · have h := h.2.2.2.2.1 hc
    refine hY _ _ _ _ (?_ : Y 36 [(0, 5, true, 74), (1, 0, true, x1), (2, 0, true, x2)] [(2, true, 0)] s)
    refine hY _ _ _ _ ?_
    exact hQ 0 s.2.2.2 h
  · have h := h.2.2.2.2.2 hc
    refine hY _ _ _ _ (hY _ _ _ _ (hY _ _ _ _ (?_ : Y 21 [(0, 5, true, 74), (1, 0, true, x1), (2, 0, true, x2)] [(0, true, x1), (5, true, 78)] s)))
    refine hY _ _ _ _ ?_
    refine (And.intro h.1 (And.intro h.2.1 ?_))
    refine hY _ _ _ _ (hY _ _ _ _ (hY _ _ _ _ (?_ : Y 27 [(0, 5, true, 74), (1, 0, true, x1), (2, 0, true, x2)] [(0, true, x2), (5, true, 78), (0, true, s.2.2.2 78 x1)] s)))
    refine hY _ _ _ _ ?_
    refine (And.intro h.2.2.1 (And.intro h.2.2.2.1 ?_))
    show Y 28 [(0, 5, true, 74), (1, 0, true, x1), (2, 0, true, x2)] [(0, true, s.2.2.2 78 x2), (0, true, s.2.2.2 78 x1)] s
    refine hY _ _ _ _ ?_
    refine And.intro (fun hc => ?_) (fun hc => ?_)
    · have h := h.2.2.2.2.1 hc
      refine hY _ _ _ _ (?_ : Y 36 [(0, 5, true, 74), (1, 0, true, x1), (2, 0, true, x2)] [(2, true, 0)] s)
      refine hY _ _ _ _ ?_
      exact hQ 0 s.2.2.2 h
    · have h := h.2.2.2.2.2 hc
      refine hY _ _ _ _ (hY _ _ _ _ (?_ : Y 36 [(0, 5, true, 74), (1, 0, true, x1), (2, 0, true, x2)] [(2, true, 1)] s))
      refine hY _ _ _ _ ?_
      exact hQ 1 s.2.2.2 h
def we_211 : sFf := sEf 3 [(0, 5, 74), (1, 0, 0), (2, 0, 0)] (fun xs s Q => ap2 (fun x1 x2 => wq_211 x1 x2 s.2.2.2 Q) xs)
theorem we_211_ok : kS dM 1 211 2 (.inl we_211) := sEf_ok (mi := im_m211) rfl rfl rfl (fun R xs s r1 hb => by obtain ⟨x1, x2, rfl, hb⟩ := ap2_ok hb; exact wk_211_0 _ R s x1 x2 (fun x m' hx => ⟨m', rfl, hx⟩) r1 hb)
/-- LMModel.firstClauseOf(I)I -/
def wf_212_2 (x1 : Int) (Q : Int → hy_m → Prop) (P2 : Int → hy_m → Prop) (x2 : Int) (m : hy_m) : Prop := 0 ≤ (0 : Int) ∧ (0 : Int) < 21 ∧ (((m 85 0) ≤ x2 → (Q (-9) m)) ∧ (x2 < (m 85 0) → (wq_206 x2 m (fun r1 m1 => 0 ≤ r1 ∧ r1 < 28 ∧ (wq_211 x1 (m1 81 r1) m1 (fun r2 m2 => (r2 = 0 → (hy_r 0 (x2 + 1) ∧ (P2 (x2 + 1) m2))) ∧ (r2 ≠ 0 → (Q x2 m2))))))))
def wq_212_2 (x1 : Int) (x2 : Int) (m : hy_m) (Q : Int → hy_m → Prop) : Prop := wL1 hy_m (wf_212_2 x1 Q) x2 m
def wq_212 (x1 : Int) (m : hy_m) (Q : Int → hy_m → Prop) : Prop := wq_212_2 x1 0 m Q
theorem wc_206_r74_0t (x1 : Int) (s : sS) (R : Int → hy_m → Prop) (h : wq_206 x1 s.2.2.2 R) : we_206 [(5, true, 74), (0, true, x1)] s R := h
theorem wc_211_r74_0t_0t (x1 : Int) (x2 : Int) (s : sS) (R : Int → hy_m → Prop) (h : wq_211 x1 x2 s.2.2.2 R) : we_211 [(5, true, 74), (0, true, x1), (0, true, x2)] s R := h
def cs_212 : List (Nat × Nat × sFS) := [(206, 0, .inl we_206), (211, 2, .inl we_211)]
theorem cs_212_ok : kCs dM 1 cs_212 := (kCs_c (Or.inl rfl) (we_206_ok.deep (by decide)) (kCs_c (Or.inr (Or.inr (Or.inl rfl))) (we_211_ok.deep (by decide)) kCs_n))
def lb_212_2 (s : sS) (Q : sQ) (P2 : Int → hy_m → Prop) (R : Int → hy_m → Prop) (x1 : Int) (x2 : Int) : Nat → Option (sL → sS → Prop) := sLb [(2, fun lv t => sG [(0, 5, 74), (1, 0, 0), (2, 0, 0)] lv (ap2 (fun w1 w2 => ∃ m', t = sM s m' ∧ w1 = x1 ∧ P2 w2 m')))]
set_option maxRecDepth 30000 in
set_option maxHeartbeats 1000000 in
theorem wj_212_2 (Q : sQ) (R : Int → hy_m → Prop) (s : sS) (P2 : Int → hy_m → Prop) (x1 : Int) (x2 : Int) (m : hy_m) (hP2 : ∀ (z2 : Int) (m : hy_m), P2 z2 m → sRg [(0, 5, 74), (1, 0, 0), (2, 0, 0)] [x1, z2] → kX dM 1 im_m212 0 2 (sCan [(0, 5, 74), (1, 0, 0), (2, 0, 0)] [x1, z2]) [] (sM s m) Q) (hQ : ∀ x m', R x m' → Q x (sM s m')) (hr : sRg [(0, 5, 74), (1, 0, 0), (2, 0, 0)] [x1, x2]) (h : wf_212_2 x1 R P2 x2 m) : kX dM 1 im_m212 0 2 (sCan [(0, 5, 74), (1, 0, 0), (2, 0, 0)] [x1, x2]) [] (sM s m) Q := by
  unfold wf_212_2 at h
  refine wz2_ok (cs := cs_212) (wr := []) (lb := lb_212_2 s Q P2 R x1 x2) cs_212_ok (kLb_c (kLab (Bd := fun xs t => ap2 (fun w1 w2 => ∃ m', t = sM s m' ∧ w1 = x1 ∧ P2 w2 m') xs) rfl (fun xs t r1 r2 hb => by obtain ⟨w1, w2, rfl, hb⟩ := ap2_ok hb; obtain ⟨m', rfl, rfl, hx⟩ := hb; exact hP2 _ m' hx r1)) kLb_n) (okL_can rfl hr) (fun Y hY hl => ?_)
  have l2 := hl 2 _ rfl
  refine hY _ _ _ _ (hY _ _ _ _ (hY _ _ _ _ (?_ : Y 7 [(0, 5, true, 74), (1, 0, true, x1), (2, 0, true, x2)] [(5, true, 85), (0, true, x2)] (sM s m))))
  refine hY _ _ _ _ (?_ : Y 8 [(0, 5, true, 74), (1, 0, true, x1), (2, 0, true, x2)] [(2, true, 0), (5, true, 85), (0, true, x2)] (sM s m))
  refine hY _ _ _ _ ?_
  refine (And.intro h.1 (And.intro h.2.1 ?_))
  show Y 9 [(0, 5, true, 74), (1, 0, true, x1), (2, 0, true, x2)] [(0, true, m 85 0), (0, true, x2)] (sM s m)
  refine hY _ _ _ _ ?_
  refine And.intro (fun hc => ?_) (fun hc => ?_)
  · have h := h.2.2.1 hc
    refine hY _ _ _ _ (?_ : Y 40 [(0, 5, true, 74), (1, 0, true, x1), (2, 0, true, x2)] [(0, true, (-9))] (sM s m))
    refine hY _ _ _ _ ?_
    exact hQ (-9) m h
  · have h := h.2.2.2 hc
    refine hY _ _ _ _ (hY _ _ _ _ (hY _ _ _ _ (?_ : Y 15 [(0, 5, true, 74), (1, 0, true, x1), (2, 0, true, x2)] [(5, true, 74), (0, true, x1), (5, true, 74)] (sM s m))))
    refine hY _ _ _ _ (hY _ _ _ _ (hY _ _ _ _ (?_ : Y 20 [(0, 5, true, 74), (1, 0, true, x1), (2, 0, true, x2)] [(0, true, x2), (5, true, 74), (5, true, 81), (0, true, x1), (5, true, 74)] (sM s m))))
    refine hY _ _ _ _ ?_
    refine Exists.intro _ (And.intro (wc_206_r74_0t x2 _ _ h) (fun r1 m1 h => ?_))
    show Y 23 [(0, 5, true, 74), (1, 0, true, x1), (2, 0, true, x2)] [(0, true, r1), (5, true, 81), (0, true, x1), (5, true, 74)] (sM s m1)
    refine hY _ _ _ _ ?_
    refine (And.intro h.1 (And.intro h.2.1 ?_))
    show Y 24 [(0, 5, true, 74), (1, 0, true, x1), (2, 0, true, x2)] [(0, true, m1 81 r1), (0, true, x1), (5, true, 74)] (sM s m1)
    refine hY _ _ _ _ ?_
    refine Exists.intro _ (And.intro (wc_211_r74_0t_0t x1 (m1 81 r1) _ _ h.2.2) (fun r2 m2 h => ?_))
    show Y 27 [(0, 5, true, 74), (1, 0, true, x1), (2, 0, true, x2)] [(2, true, r2)] (sM s m2)
    refine hY _ _ _ _ ?_
    refine And.intro (fun hc => ?_) (fun hc => ?_)
    · have h := h.1 hc
      refine hY _ _ _ _ (hY _ _ _ _ (?_ : Y 2 [(2, 0, false, x2 + 1), (0, 5, true, 74), (1, 0, true, x1)] [] (sM s m2)))
      refine l2 _ _ ?_
      refine And.intro h.1 ?_
      exact (Exists.intro m2 (And.intro rfl (And.intro rfl h.2)))
    · have h := h.2 hc
      refine hY _ _ _ _ (?_ : Y 31 [(0, 5, true, 74), (1, 0, true, x1), (2, 0, true, x2)] [(0, true, x2)] (sM s m2))
      refine hY _ _ _ _ ?_
      exact hQ x2 m2 h
theorem wk_212_2 (Q : sQ) (R : Int → hy_m → Prop) (s : sS) (x1 : Int) (x2 : Int) (hQ : ∀ x m', R x m' → Q x (sM s m')) (hr : sRg [(0, 5, 74), (1, 0, 0), (2, 0, 0)] [x1, x2]) (h : wq_212_2 x1 x2 s.2.2.2 R) : kX dM 1 im_m212 0 2 (sCan [(0, 5, 74), (1, 0, 0), (2, 0, 0)] [x1, x2]) [] s Q :=
  h (fun x2 m => sRg [(0, 5, 74), (1, 0, 0), (2, 0, 0)] [x1, x2] → kX dM 1 im_m212 0 2 (sCan [(0, 5, 74), (1, 0, 0), (2, 0, 0)] [x1, x2]) [] (sM s m) Q) (fun x2 m h hr => wj_212_2 Q R s (fun x2 m => sRg [(0, 5, 74), (1, 0, 0), (2, 0, 0)] [x1, x2] → kX dM 1 im_m212 0 2 (sCan [(0, 5, 74), (1, 0, 0), (2, 0, 0)] [x1, x2]) [] (sM s m) Q) x1 x2 m  (fun _ _ hp hr => hp hr) hQ hr h) hr
def lb_212_0 (s : sS) (Q : sQ) (R : Int → hy_m → Prop) (x1 : Int) : Nat → Option (sL → sS → Prop) := sLb [(2, fun lv t => sG [(0, 5, 74), (1, 0, 0), (2, 0, 0)] lv (ap2 (fun w1 w2 => ∃ m', t = sM s m' ∧ wq_212_2 w1 w2 m' R)))]
set_option maxRecDepth 30000 in
set_option maxHeartbeats 1000000 in
theorem wk_212_0 (Q : sQ) (R : Int → hy_m → Prop) (s : sS) (x1 : Int) (hQ : ∀ x m', R x m' → Q x (sM s m')) (hr : sRg [(0, 5, 74), (1, 0, 0)] [x1]) (h : wq_212 x1 s.2.2.2 R) : kX dM 1 im_m212 0 0 (sCan [(0, 5, 74), (1, 0, 0)] [x1]) [] s Q := by
  unfold wq_212 at h
  refine wz2_ok (cs := cs_212) (wr := []) (lb := lb_212_0 s Q R x1) cs_212_ok (kLb_c (kLab (Bd := fun xs t => ap2 (fun w1 w2 => ∃ m', t = sM s m' ∧ wq_212_2 w1 w2 m' R) xs) rfl (fun xs t r1 r2 hb => by obtain ⟨w1, w2, rfl, hb⟩ := ap2_ok hb; obtain ⟨m', rfl, hx⟩ := hb; exact wk_212_2 Q R (sM s m') _ _ (fun x m'' hy => hQ x m'' hy) r1 hx)) kLb_n) (okL_can rfl hr) (fun Y hY hl => ?_)
  have l2 := hl 2 _ rfl
  refine hY _ _ _ _ (hY _ _ _ _ (?_ : Y 2 [(2, 2, true, 0), (0, 5, true, 74), (1, 0, true, x1)] [] s))
  refine l2 _ _ ?_
  exact (Exists.intro s.2.2.2 (And.intro rfl h))
def we_212 : sFf := sEf 3 [(0, 5, 74), (1, 0, 0)] (fun xs s Q => ap1 (fun x1 => wq_212 x1 s.2.2.2 Q) xs)
theorem we_212_ok : kS dM 2 212 0 (.inl we_212) := sEf_ok (mi := im_m212) rfl rfl rfl (fun R xs s r1 hb => by obtain ⟨x1, rfl, hb⟩ := ap1_ok hb; exact wk_212_0 _ R s x1 (fun x m' hx => ⟨m', rfl, hx⟩) r1 hb)
/-- LMModel.definedMany()I -/
def wf_213_4 (Q : Int → hy_m → Prop) (P4 : Int → Int → hy_m → Prop) (x1 : Int) (x2 : Int) (m : hy_m) : Prop := 0 ≤ (0 : Int) ∧ (0 : Int) < 21 ∧ (((m 85 0) ≤ x2 → (Q x1 m)) ∧ (x2 < (m 85 0) → (wq_206 x2 m (fun r1 m1 => 0 ≤ r1 ∧ r1 < 28 ∧ (wq_212 (m1 81 r1) m1 (fun r2 m2 => (r2 ≠ x2 → (hy_r 0 (x1 + 0) ∧ (hy_r 0 (x2 + 1) ∧ (P4 (x1 + 0) (x2 + 1) m2)))) ∧ (r2 = x2 → (hy_r 0 (x1 + 1) ∧ (hy_r 0 (x2 + 1) ∧ (P4 (x1 + 1) (x2 + 1) m2))))))))))
def wq_213_4 (x1 : Int) (x2 : Int) (m : hy_m) (Q : Int → hy_m → Prop) : Prop := wL2 hy_m (wf_213_4 Q) x1 x2 m
def wq_213 (m : hy_m) (Q : Int → hy_m → Prop) : Prop := wq_213_4 0 0 m Q
theorem wc_212_r74_0t (x1 : Int) (s : sS) (R : Int → hy_m → Prop) (h : wq_212 x1 s.2.2.2 R) : we_212 [(5, true, 74), (0, true, x1)] s R := h
def cs_213 : List (Nat × Nat × sFS) := [(206, 0, .inl we_206), (212, 0, .inl we_212)]
theorem cs_213_ok : kCs dM 2 cs_213 := (kCs_c (Or.inl rfl) (we_206_ok.deep (by decide)) (kCs_c (Or.inl rfl) (we_212_ok.deep (by decide)) kCs_n))
def lb_213_4 (s : sS) (Q : sQ) (P4 : Int → Int → hy_m → Prop) (R : Int → hy_m → Prop) (x1 : Int) (x2 : Int) : Nat → Option (sL → sS → Prop) := sLb [(4, fun lv t => sG [(0, 5, 74), (1, 0, 0), (2, 0, 0)] lv (ap2 (fun w1 w2 => ∃ m', t = sM s m' ∧ P4 w1 w2 m')))]
set_option maxRecDepth 30000 in
set_option maxHeartbeats 1000000 in
theorem wj_213_4 (Q : sQ) (R : Int → hy_m → Prop) (s : sS) (P4 : Int → Int → hy_m → Prop) (x1 : Int) (x2 : Int) (m : hy_m) (hP4 : ∀ (z1 z2 : Int) (m : hy_m), P4 z1 z2 m → sRg [(0, 5, 74), (1, 0, 0), (2, 0, 0)] [z1, z2] → kX dM 2 im_m213 0 4 (sCan [(0, 5, 74), (1, 0, 0), (2, 0, 0)] [z1, z2]) [] (sM s m) Q) (hQ : ∀ x m', R x m' → Q x (sM s m')) (hr : sRg [(0, 5, 74), (1, 0, 0), (2, 0, 0)] [x1, x2]) (h : wf_213_4 R P4 x1 x2 m) : kX dM 2 im_m213 0 4 (sCan [(0, 5, 74), (1, 0, 0), (2, 0, 0)] [x1, x2]) [] (sM s m) Q := by
  unfold wf_213_4 at h
  refine wz2_ok (cs := cs_213) (wr := []) (lb := lb_213_4 s Q P4 R x1 x2) cs_213_ok (kLb_c (kLab (Bd := fun xs t => ap2 (fun w1 w2 => ∃ m', t = sM s m' ∧ P4 w1 w2 m') xs) rfl (fun xs t r1 r2 hb => by obtain ⟨w1, w2, rfl, hb⟩ := ap2_ok hb; obtain ⟨m', rfl, hx⟩ := hb; exact hP4 _ _ m' hx r1)) kLb_n) (okL_can rfl hr) (fun Y hY hl => ?_)
  have l4 := hl 4 _ rfl
  refine hY _ _ _ _ (hY _ _ _ _ (hY _ _ _ _ (?_ : Y 9 [(0, 5, true, 74), (1, 0, true, x1), (2, 0, true, x2)] [(5, true, 85), (0, true, x2)] (sM s m))))
  refine hY _ _ _ _ (?_ : Y 10 [(0, 5, true, 74), (1, 0, true, x1), (2, 0, true, x2)] [(2, true, 0), (5, true, 85), (0, true, x2)] (sM s m))
  refine hY _ _ _ _ ?_
  refine (And.intro h.1 (And.intro h.2.1 ?_))
  show Y 11 [(0, 5, true, 74), (1, 0, true, x1), (2, 0, true, x2)] [(0, true, m 85 0), (0, true, x2)] (sM s m)
  refine hY _ _ _ _ ?_
  refine And.intro (fun hc => ?_) (fun hc => ?_)
  · have h := h.2.2.1 hc
    refine hY _ _ _ _ (?_ : Y 47 [(0, 5, true, 74), (1, 0, true, x1), (2, 0, true, x2)] [(0, true, x1)] (sM s m))
    refine hY _ _ _ _ ?_
    exact hQ x1 m h
  · have h := h.2.2.2 hc
    refine hY _ _ _ _ (hY _ _ _ _ (hY _ _ _ _ (?_ : Y 17 [(0, 5, true, 74), (1, 0, true, x1), (2, 0, true, x2)] [(5, true, 74), (5, true, 74), (0, true, x1)] (sM s m))))
    refine hY _ _ _ _ (hY _ _ _ _ (hY _ _ _ _ (?_ : Y 22 [(0, 5, true, 74), (1, 0, true, x1), (2, 0, true, x2)] [(0, true, x2), (5, true, 74), (5, true, 81), (5, true, 74), (0, true, x1)] (sM s m))))
    refine hY _ _ _ _ ?_
    refine Exists.intro _ (And.intro (wc_206_r74_0t x2 _ _ h) (fun r1 m1 h => ?_))
    show Y 25 [(0, 5, true, 74), (1, 0, true, x1), (2, 0, true, x2)] [(0, true, r1), (5, true, 81), (5, true, 74), (0, true, x1)] (sM s m1)
    refine hY _ _ _ _ ?_
    refine (And.intro h.1 (And.intro h.2.1 ?_))
    show Y 26 [(0, 5, true, 74), (1, 0, true, x1), (2, 0, true, x2)] [(0, true, m1 81 r1), (5, true, 74), (0, true, x1)] (sM s m1)
    refine hY _ _ _ _ ?_
    refine Exists.intro _ (And.intro (wc_212_r74_0t (m1 81 r1) _ _ h.2.2) (fun r2 m2 h => ?_))
    refine hY _ _ _ _ (?_ : Y 30 [(0, 5, true, 74), (1, 0, true, x1), (2, 0, true, x2)] [(0, true, x2), (0, true, r2), (0, true, x1)] (sM s m2))
    refine hY _ _ _ _ ?_
    refine And.intro (fun hc => ?_) (fun hc => ?_)
    · have h := h.1 hc
      refine hY _ _ _ _ (hY _ _ _ _ (hY _ _ _ _ (?_ : Y 40 [(1, 0, false, x1 + 0), (0, 5, true, 74), (2, 0, true, x2)] [] (sM s m2))))
      refine hY _ _ _ _ (hY _ _ _ _ (?_ : Y 4 [(2, 0, false, x2 + 1), (1, 0, false, x1 + 0), (0, 5, true, 74)] [] (sM s m2)))
      refine l4 _ _ ?_
      refine And.intro h.1 ?_
      refine And.intro h.2.1 ?_
      exact (Exists.intro m2 (And.intro rfl h.2.2))
    · have h := h.2 hc
      refine hY _ _ _ _ (hY _ _ _ _ (hY _ _ _ _ (?_ : Y 39 [(0, 5, true, 74), (1, 0, true, x1), (2, 0, true, x2)] [(0, false, x1 + 1)] (sM s m2))))
      refine hY _ _ _ _ (hY _ _ _ _ (hY _ _ _ _ (?_ : Y 4 [(2, 0, false, x2 + 1), (1, 0, false, x1 + 1), (0, 5, true, 74)] [] (sM s m2))))
      refine l4 _ _ ?_
      refine And.intro h.1 ?_
      refine And.intro h.2.1 ?_
      exact (Exists.intro m2 (And.intro rfl h.2.2))
theorem wk_213_4 (Q : sQ) (R : Int → hy_m → Prop) (s : sS) (x1 : Int) (x2 : Int) (hQ : ∀ x m', R x m' → Q x (sM s m')) (hr : sRg [(0, 5, 74), (1, 0, 0), (2, 0, 0)] [x1, x2]) (h : wq_213_4 x1 x2 s.2.2.2 R) : kX dM 2 im_m213 0 4 (sCan [(0, 5, 74), (1, 0, 0), (2, 0, 0)] [x1, x2]) [] s Q :=
  h (fun x1 x2 m => sRg [(0, 5, 74), (1, 0, 0), (2, 0, 0)] [x1, x2] → kX dM 2 im_m213 0 4 (sCan [(0, 5, 74), (1, 0, 0), (2, 0, 0)] [x1, x2]) [] (sM s m) Q) (fun x1 x2 m h hr => wj_213_4 Q R s (fun x1 x2 m => sRg [(0, 5, 74), (1, 0, 0), (2, 0, 0)] [x1, x2] → kX dM 2 im_m213 0 4 (sCan [(0, 5, 74), (1, 0, 0), (2, 0, 0)] [x1, x2]) [] (sM s m) Q) x1 x2 m  (fun _ _ _ hp hr => hp hr) hQ hr h) hr
def lb_213_0 (s : sS) (Q : sQ) (R : Int → hy_m → Prop) : Nat → Option (sL → sS → Prop) := sLb [(4, fun lv t => sG [(0, 5, 74), (1, 0, 0), (2, 0, 0)] lv (ap2 (fun w1 w2 => ∃ m', t = sM s m' ∧ wq_213_4 w1 w2 m' R)))]
set_option maxRecDepth 30000 in
set_option maxHeartbeats 1000000 in
theorem wk_213_0 (Q : sQ) (R : Int → hy_m → Prop) (s : sS) (hQ : ∀ x m', R x m' → Q x (sM s m')) (hr : sRg [(0, 5, 74)] []) (h : wq_213 s.2.2.2 R) : kX dM 2 im_m213 0 0 (sCan [(0, 5, 74)] []) [] s Q := by
  unfold wq_213 at h
  refine wz2_ok (cs := cs_213) (wr := []) (lb := lb_213_0 s Q R) cs_213_ok (kLb_c (kLab (Bd := fun xs t => ap2 (fun w1 w2 => ∃ m', t = sM s m' ∧ wq_213_4 w1 w2 m' R) xs) rfl (fun xs t r1 r2 hb => by obtain ⟨w1, w2, rfl, hb⟩ := ap2_ok hb; obtain ⟨m', rfl, hx⟩ := hb; exact wk_213_4 Q R (sM s m') _ _ (fun x m'' hy => hQ x m'' hy) r1 hx)) kLb_n) (okL_can rfl hr) (fun Y hY hl => ?_)
  have l4 := hl 4 _ rfl
  refine hY _ _ _ _ (hY _ _ _ _ (hY _ _ _ _ (?_ : Y 3 [(1, 2, true, 0), (0, 5, true, 74)] [(2, true, 0)] s)))
  refine hY _ _ _ _ (?_ : Y 4 [(2, 2, true, 0), (1, 2, true, 0), (0, 5, true, 74)] [] s)
  refine l4 _ _ ?_
  exact (Exists.intro s.2.2.2 (And.intro rfl h))
def we_213 : sFf := sEf 3 [(0, 5, 74)] (fun xs s Q => ap0 (wq_213 s.2.2.2 Q) xs)
theorem we_213_ok : kS dM 3 213 0 (.inl we_213) := sEf_ok (mi := im_m213) rfl rfl rfl (fun R xs s r1 hb => by obtain ⟨rfl, hb⟩ := ap0_ok hb; exact wk_213_0 _ R s (fun x m' hx => ⟨m', rfl, hx⟩) r1 hb)
/-- LMModel.isCallable(I)Z -/
def wq_214_21 (x1 : Int) (m : hy_m) (Q : Int → hy_m → Prop) : Prop := 0 ≤ x1 ∧ x1 < 3584 ∧ (((m 76 x1) ≠ 4 → (Q 0 m)) ∧ ((m 76 x1) = 4 → (0 ≤ x1 ∧ x1 < 3584 ∧ (((m 77 x1) = 2 → (Q 0 m)) ∧ ((m 77 x1) ≠ 2 → (Q 1 m))))))
def wq_214 (x1 : Int) (m : hy_m) (Q : Int → hy_m → Prop) : Prop := 0 ≤ x1 ∧ x1 < 3584 ∧ (((m 76 x1) ≠ 3 → (wq_214_21 x1 m Q)) ∧ ((m 76 x1) = 3 → (0 ≤ x1 ∧ x1 < 3584 ∧ (((m 77 x1) ≠ 1 → (Q 1 m)) ∧ ((m 77 x1) = 1 → (wq_214_21 x1 m Q))))))
def cs_214 : List (Nat × Nat × sFS) := []
theorem cs_214_ok : kCs dM 0 cs_214 := kCs_n
def lb_214_21 (s : sS) (Q : sQ) (R : Int → hy_m → Prop) (x1 : Int) : Nat → Option (sL → sS → Prop) := sLb []
set_option maxRecDepth 30000 in
set_option maxHeartbeats 1000000 in
theorem wk_214_21 (Q : sQ) (R : Int → hy_m → Prop) (s : sS) (x1 : Int) (hQ : ∀ x m', R x m' → Q x (sM s m')) (hr : sRg [(0, 5, 74), (1, 0, 0)] [x1]) (h : wq_214_21 x1 s.2.2.2 R) : kX dM 0 im_m214 2 21 (sCan [(0, 5, 74), (1, 0, 0)] [x1]) [] s Q := by
  unfold wq_214_21 at h
  refine wz2_ok (cs := cs_214) (wr := []) (lb := lb_214_21 s Q R x1) cs_214_ok kLb_n (okL_can rfl hr) (fun Y hY hl => ?_)
  refine hY _ _ _ _ (hY _ _ _ _ (hY _ _ _ _ (?_ : Y 26 [(0, 5, true, 74), (1, 0, true, x1)] [(0, true, x1), (5, true, 76)] s)))
  refine hY _ _ _ _ ?_
  refine (And.intro h.1 (And.intro h.2.1 ?_))
  refine hY _ _ _ _ (?_ : Y 28 [(0, 5, true, 74), (1, 0, true, x1)] [(0, true, 4), (0, true, s.2.2.2 76 x1)] s)
  refine hY _ _ _ _ ?_
  refine And.intro (fun hc => ?_) (fun hc => ?_)
  · have h := h.2.2.1 hc
    refine hY _ _ _ _ (?_ : Y 49 [(0, 5, true, 74), (1, 0, true, x1)] [(2, true, 0)] s)
    refine hY _ _ _ _ ?_
    exact hQ 0 s.2.2.2 h
  · have h := h.2.2.2 hc
    refine hY _ _ _ _ (hY _ _ _ _ (hY _ _ _ _ (?_ : Y 36 [(0, 5, true, 74), (1, 0, true, x1)] [(0, true, x1), (5, true, 77)] s)))
    refine hY _ _ _ _ ?_
    refine (And.intro h.1 (And.intro h.2.1 ?_))
    refine hY _ _ _ _ (?_ : Y 40 [(0, 5, true, 74), (1, 0, true, x1)] [(1, true, 2), (1, true, s.2.2.2 77 x1)] s)
    refine hY _ _ _ _ ?_
    refine And.intro (fun hc => ?_) (fun hc => ?_)
    · have h := h.2.2.1 hc
      refine hY _ _ _ _ (?_ : Y 49 [(0, 5, true, 74), (1, 0, true, x1)] [(2, true, 0)] s)
      refine hY _ _ _ _ ?_
      exact hQ 0 s.2.2.2 h
    · have h := h.2.2.2 hc
      refine hY _ _ _ _ (hY _ _ _ _ (?_ : Y 49 [(0, 5, true, 74), (1, 0, true, x1)] [(2, true, 1)] s))
      refine hY _ _ _ _ ?_
      exact hQ 1 s.2.2.2 h
def lb_214_0 (s : sS) (Q : sQ) (R : Int → hy_m → Prop) (x1 : Int) : Nat → Option (sL → sS → Prop) := sLb [(21, fun lv t => sG [(0, 5, 74), (1, 0, 0)] lv (ap1 (fun w1 => ∃ m', t = sM s m' ∧ wq_214_21 w1 m' R)))]
set_option maxRecDepth 30000 in
set_option maxHeartbeats 1000000 in
theorem wk_214_0 (Q : sQ) (R : Int → hy_m → Prop) (s : sS) (x1 : Int) (hQ : ∀ x m', R x m' → Q x (sM s m')) (hr : sRg [(0, 5, 74), (1, 0, 0)] [x1]) (h : wq_214 x1 s.2.2.2 R) : kX dM 0 im_m214 2 0 (sCan [(0, 5, 74), (1, 0, 0)] [x1]) [] s Q := by
  unfold wq_214 at h
  refine wz2_ok (cs := cs_214) (wr := []) (lb := lb_214_0 s Q R x1) cs_214_ok (kLb_c (kLab (Bd := fun xs t => ap1 (fun w1 => ∃ m', t = sM s m' ∧ wq_214_21 w1 m' R) xs) rfl (fun xs t r1 r2 hb => by obtain ⟨w1, rfl, hb⟩ := ap1_ok hb; obtain ⟨m', rfl, hx⟩ := hb; exact wk_214_21 Q R (sM s m') _ (fun x m'' hy => hQ x m'' hy) r1 hx)) kLb_n) (okL_can rfl hr) (fun Y hY hl => ?_)
  have l21 := hl 21 _ rfl
  refine hY _ _ _ _ (hY _ _ _ _ (hY _ _ _ _ (?_ : Y 5 [(0, 5, true, 74), (1, 0, true, x1)] [(0, true, x1), (5, true, 76)] s)))
  refine hY _ _ _ _ ?_
  refine (And.intro h.1 (And.intro h.2.1 ?_))
  refine hY _ _ _ _ (?_ : Y 7 [(0, 5, true, 74), (1, 0, true, x1)] [(0, true, 3), (0, true, s.2.2.2 76 x1)] s)
  refine hY _ _ _ _ ?_
  refine And.intro (fun hc => ?_) (fun hc => ?_)
  · have h := h.2.2.1 hc
    show Y 21 [(0, 5, true, 74), (1, 0, true, x1)] [] s
    refine l21 _ _ ?_
    exact (Exists.intro s.2.2.2 (And.intro rfl h))
  · have h := h.2.2.2 hc
    refine hY _ _ _ _ (hY _ _ _ _ (hY _ _ _ _ (?_ : Y 15 [(0, 5, true, 74), (1, 0, true, x1)] [(0, true, x1), (5, true, 77)] s)))
    refine hY _ _ _ _ ?_
    refine (And.intro h.1 (And.intro h.2.1 ?_))
    refine hY _ _ _ _ (?_ : Y 17 [(0, 5, true, 74), (1, 0, true, x1)] [(1, true, 1), (1, true, s.2.2.2 77 x1)] s)
    refine hY _ _ _ _ ?_
    refine And.intro (fun hc => ?_) (fun hc => ?_)
    · have h := h.2.2.1 hc
      refine hY _ _ _ _ (hY _ _ _ _ (?_ : Y 49 [(0, 5, true, 74), (1, 0, true, x1)] [(2, true, 1)] s))
      refine hY _ _ _ _ ?_
      exact hQ 1 s.2.2.2 h
    · have h := h.2.2.2 hc
      show Y 21 [(0, 5, true, 74), (1, 0, true, x1)] [] s
      refine l21 _ _ ?_
      exact (Exists.intro s.2.2.2 (And.intro rfl h))
def we_214 : sFf := sEf 2 [(0, 5, 74), (1, 0, 0)] (fun xs s Q => ap1 (fun x1 => wq_214 x1 s.2.2.2 Q) xs)
theorem we_214_ok : kS dM 1 214 2 (.inl we_214) := sEf_ok (mi := im_m214) rfl rfl rfl (fun R xs s r1 hb => by obtain ⟨x1, rfl, hb⟩ := ap1_ok hb; exact wk_214_0 _ R s x1 (fun x m' hx => ⟨m', rfl, hx⟩) r1 hb)
/-- LMModel.isCallOrNot(I)Z -/
def wq_215 (x1 : Int) (m : hy_m) (Q : Int → hy_m → Prop) : Prop := 0 ≤ x1 ∧ x1 < 3584 ∧ (((m 78 x1) ≠ 1 → (Q 0 m)) ∧ ((m 78 x1) = 1 → (0 ≤ x1 ∧ x1 < 3584 ∧ (wq_184 (m 77 x1) 1 m (fun r1 m1 => (r1 = 0 → (Q 0 m1)) ∧ (r1 ≠ 0 → (Q 1 m1)))))))
def cs_215 : List (Nat × Nat × sFS) := [(184, 2, .inl we_184)]
theorem cs_215_ok : kCs dM 2 cs_215 := (kCs_c (Or.inr (Or.inr (Or.inl rfl))) (we_184_ok.deep (by decide)) kCs_n)
def lb_215_0 (s : sS) (Q : sQ) (R : Int → hy_m → Prop) (x1 : Int) : Nat → Option (sL → sS → Prop) := sLb []
set_option maxRecDepth 30000 in
set_option maxHeartbeats 1000000 in
theorem wk_215_0 (Q : sQ) (R : Int → hy_m → Prop) (s : sS) (x1 : Int) (hQ : ∀ x m', R x m' → Q x (sM s m')) (hr : sRg [(0, 5, 74), (1, 0, 0)] [x1]) (h : wq_215 x1 s.2.2.2 R) : kX dM 2 im_m215 2 0 (sCan [(0, 5, 74), (1, 0, 0)] [x1]) [] s Q := by
  unfold wq_215 at h
  refine wz2_ok (cs := cs_215) (wr := []) (lb := lb_215_0 s Q R x1) cs_215_ok kLb_n (okL_can rfl hr) (fun Y hY hl => ?_)
  refine hY _ _ _ _ (hY _ _ _ _ (hY _ _ _ _ (?_ : Y 5 [(0, 5, true, 74), (1, 0, true, x1)] [(0, true, x1), (5, true, 78)] s)))
  refine hY _ _ _ _ ?_
  refine (And.intro h.1 (And.intro h.2.1 ?_))
  refine hY _ _ _ _ (?_ : Y 7 [(0, 5, true, 74), (1, 0, true, x1)] [(2, true, 1), (0, true, s.2.2.2 78 x1)] s)
  refine hY _ _ _ _ ?_
  refine And.intro (fun hc => ?_) (fun hc => ?_)
  · have h := h.2.2.1 hc
    refine hY _ _ _ _ (?_ : Y 28 [(0, 5, true, 74), (1, 0, true, x1)] [(2, true, 0)] s)
    refine hY _ _ _ _ ?_
    exact hQ 0 s.2.2.2 h
  · have h := h.2.2.2 hc
    refine hY _ _ _ _ (hY _ _ _ _ (hY _ _ _ _ (?_ : Y 15 [(0, 5, true, 74), (1, 0, true, x1)] [(0, true, x1), (5, true, 77)] s)))
    refine hY _ _ _ _ ?_
    refine (And.intro h.1 (And.intro h.2.1 ?_))
    refine hY _ _ _ _ (?_ : Y 17 [(0, 5, true, 74), (1, 0, true, x1)] [(2, true, 1), (1, true, s.2.2.2 77 x1)] s)
    refine hY _ _ _ _ ?_
    refine Exists.intro _ (And.intro (wc_184_1t_2t (s.2.2.2 77 x1) 1 _ _ h.2.2) (fun r1 m1 h => ?_))
    show Y 20 [(0, 5, true, 74), (1, 0, true, x1)] [(2, true, r1)] (sM s m1)
    refine hY _ _ _ _ ?_
    refine And.intro (fun hc => ?_) (fun hc => ?_)
    · have h := h.1 hc
      refine hY _ _ _ _ (?_ : Y 28 [(0, 5, true, 74), (1, 0, true, x1)] [(2, true, 0)] (sM s m1))
      refine hY _ _ _ _ ?_
      exact hQ 0 m1 h
    · have h := h.2 hc
      refine hY _ _ _ _ (hY _ _ _ _ (?_ : Y 28 [(0, 5, true, 74), (1, 0, true, x1)] [(2, true, 1)] (sM s m1)))
      refine hY _ _ _ _ ?_
      exact hQ 1 m1 h
def we_215 : sFf := sEf 2 [(0, 5, 74), (1, 0, 0)] (fun xs s Q => ap1 (fun x1 => wq_215 x1 s.2.2.2 Q) xs)
theorem we_215_ok : kS dM 3 215 2 (.inl we_215) := sEf_ok (mi := im_m215) rfl rfl rfl (fun R xs s r1 hb => by obtain ⟨x1, rfl, hb⟩ := ap1_ok hb; exact wk_215_0 _ R s x1 (fun x m' hx => ⟨m', rfl, hx⟩) r1 hb)
/-- LMModel.inner(I)I -/
def wq_216 (x1 : Int) (m : hy_m) (Q : Int → hy_m → Prop) : Prop := wq_215 x1 m (fun r1 m1 => (r1 = 0 → (Q (-9) m1)) ∧ (r1 ≠ 0 → (0 ≤ (3 * x1) ∧ (3 * x1) < 10752 ∧ (wq_214 (m1 79 (3 * x1)) m1 (fun r2 m2 => (r2 = 0 → (Q (-9) m2)) ∧ (r2 ≠ 0 → (0 ≤ (3 * x1) ∧ (3 * x1) < 10752 ∧ (Q (m2 79 (3 * x1)) m2))))))))
theorem wc_215_r74_0t (x1 : Int) (s : sS) (R : Int → hy_m → Prop) (h : wq_215 x1 s.2.2.2 R) : we_215 [(5, true, 74), (0, true, x1)] s R := h
theorem wc_214_r74_0t (x1 : Int) (s : sS) (R : Int → hy_m → Prop) (h : wq_214 x1 s.2.2.2 R) : we_214 [(5, true, 74), (0, true, x1)] s R := h
def cs_216 : List (Nat × Nat × sFS) := [(214, 2, .inl we_214), (215, 2, .inl we_215)]
theorem cs_216_ok : kCs dM 3 cs_216 := (kCs_c (Or.inr (Or.inr (Or.inl rfl))) (we_214_ok.deep (by decide)) (kCs_c (Or.inr (Or.inr (Or.inl rfl))) (we_215_ok.deep (by decide)) kCs_n))
def lb_216_0 (s : sS) (Q : sQ) (R : Int → hy_m → Prop) (x1 : Int) : Nat → Option (sL → sS → Prop) := sLb []
set_option maxRecDepth 30000 in
set_option maxHeartbeats 1000000 in
theorem wk_216_0 (Q : sQ) (R : Int → hy_m → Prop) (s : sS) (x1 : Int) (hQ : ∀ x m', R x m' → Q x (sM s m')) (hr : sRg [(0, 5, 74), (1, 0, 0)] [x1]) (h : wq_216 x1 s.2.2.2 R) : kX dM 3 im_m216 0 0 (sCan [(0, 5, 74), (1, 0, 0)] [x1]) [] s Q := by
  unfold wq_216 at h
  refine wz2_ok (cs := cs_216) (wr := []) (lb := lb_216_0 s Q R x1) cs_216_ok kLb_n (okL_can rfl hr) (fun Y hY hl => ?_)
  refine hY _ _ _ _ (hY _ _ _ _ (?_ : Y 2 [(0, 5, true, 74), (1, 0, true, x1)] [(0, true, x1), (5, true, 74)] s))
  refine hY _ _ _ _ ?_
  refine Exists.intro _ (And.intro (wc_215_r74_0t x1 _ _ h) (fun r1 m1 h => ?_))
  show Y 5 [(0, 5, true, 74), (1, 0, true, x1)] [(2, true, r1)] (sM s m1)
  refine hY _ _ _ _ ?_
  refine And.intro (fun hc => ?_) (fun hc => ?_)
  · have h := h.1 hc
    refine hY _ _ _ _ (?_ : Y 36 [(0, 5, true, 74), (1, 0, true, x1)] [(0, true, (-9))] (sM s m1))
    refine hY _ _ _ _ ?_
    exact hQ (-9) m1 h
  · have h := h.2 hc
    refine hY _ _ _ _ (hY _ _ _ _ (hY _ _ _ _ (?_ : Y 13 [(0, 5, true, 74), (1, 0, true, x1)] [(5, true, 79), (5, true, 74)] (sM s m1))))
    refine hY _ _ _ _ (hY _ _ _ _ (hY _ _ _ _ (?_ : Y 16 [(0, 5, true, 74), (1, 0, true, x1)] [(0, false, 3 * x1), (5, true, 79), (5, true, 74)] (sM s m1))))
    refine hY _ _ _ _ ?_
    refine (And.intro h.1 (And.intro h.2.1 ?_))
    show Y 17 [(0, 5, true, 74), (1, 0, true, x1)] [(0, true, m1 79 (3 * x1)), (5, true, 74)] (sM s m1)
    refine hY _ _ _ _ ?_
    refine Exists.intro _ (And.intro (wc_214_r74_0t (m1 79 (3 * x1)) _ _ h.2.2) (fun r2 m2 h => ?_))
    show Y 20 [(0, 5, true, 74), (1, 0, true, x1)] [(2, true, r2)] (sM s m2)
    refine hY _ _ _ _ ?_
    refine And.intro (fun hc => ?_) (fun hc => ?_)
    · have h := h.1 hc
      refine hY _ _ _ _ (?_ : Y 36 [(0, 5, true, 74), (1, 0, true, x1)] [(0, true, (-9))] (sM s m2))
      refine hY _ _ _ _ ?_
      exact hQ (-9) m2 h
    · have h := h.2 hc
      refine hY _ _ _ _ (hY _ _ _ _ (hY _ _ _ _ (?_ : Y 28 [(0, 5, true, 74), (1, 0, true, x1)] [(0, true, 3), (5, true, 79)] (sM s m2))))
      refine hY _ _ _ _ (hY _ _ _ _ (?_ : Y 30 [(0, 5, true, 74), (1, 0, true, x1)] [(0, false, 3 * x1), (5, true, 79)] (sM s m2)))
      refine hY _ _ _ _ ?_
      refine (And.intro h.1 (And.intro h.2.1 ?_))
      refine hY _ _ _ _ (?_ : Y 36 [(0, 5, true, 74), (1, 0, true, x1)] [(0, true, m2 79 (3 * x1))] (sM s m2))
      refine hY _ _ _ _ ?_
      exact hQ (m2 79 (3 * x1)) m2 h.2.2
def we_216 : sFf := sEf 2 [(0, 5, 74), (1, 0, 0)] (fun xs s Q => ap1 (fun x1 => wq_216 x1 s.2.2.2 Q) xs)
theorem we_216_ok : kS dM 4 216 0 (.inl we_216) := sEf_ok (mi := im_m216) rfl rfl rfl (fun R xs s r1 hb => by obtain ⟨x1, rfl, hb⟩ := ap1_ok hb; exact wk_216_0 _ R s x1 (fun x m' hx => ⟨m', rfl, hx⟩) r1 hb)
/-- LMModel.notesMissing(I)V -/
def wq_217_74 (x1 : Int) (x2 : Int) (m : hy_m) (Q : Int → hy_m → Prop) : Prop := (x2 = 0 → (Q 0 m)) ∧ (x2 ≠ 0 → (0 ≤ (m 74 29) ∧ (m 74 29) < 1800 ∧ (hy_r 0 ((m 74 29) + 1) ∧ (Q 0 (hy_u (hy_u m 92 (m 74 29) x1) 74 29 ((m 74 29) + 1))))))
def wf_217_36 (x1 : Int) (Q : Int → hy_m → Prop) (P36 : Int → Int → hy_m → Prop) (x2 : Int) (x3 : Int) (m : hy_m) : Prop := ((m 74 29) ≤ x3 → (wq_217_74 x1 x2 m Q)) ∧ (x3 < (m 74 29) → ((x2 = 0 → (wq_217_74 x1 x2 m Q)) ∧ (x2 ≠ 0 → (0 ≤ x3 ∧ x3 < 1800 ∧ (wq_211 x1 (m 92 x3) m (fun r1 m1 => (r1 ≠ 0 → (hy_r 0 (x3 + 1) ∧ (P36 0 (x3 + 1) m1))) ∧ (r1 = 0 → (hy_r 0 (x3 + 1) ∧ (P36 1 (x3 + 1) m1)))))))))
def wq_217_36 (x1 : Int) (x2 : Int) (x3 : Int) (m : hy_m) (Q : Int → hy_m → Prop) : Prop := wL2 hy_m (wf_217_36 x1 Q) x2 x3 m
def wq_217 (x1 : Int) (m : hy_m) (Q : Int → hy_m → Prop) : Prop := 0 ≤ x1 ∧ x1 < 3584 ∧ (0 ≤ x1 ∧ x1 < 3584 ∧ (wq_184 (m 77 x1) (m 78 x1) m (fun r1 m1 => (r1 ≠ 0 → (wq_217_36 x1 0 0 m1 Q)) ∧ (r1 = 0 → (wq_212 x1 m1 (fun r2 m2 => (r2 ≠ (-9) → (wq_217_36 x1 0 0 m2 Q)) ∧ (r2 = (-9) → (wq_217_36 x1 1 0 m2 Q))))))))
def cs_217 : List (Nat × Nat × sFS) := [(184, 2, .inl we_184), (211, 2, .inl we_211), (212, 0, .inl we_212)]
theorem cs_217_ok : kCs dM 2 cs_217 := (kCs_c (Or.inr (Or.inr (Or.inl rfl))) (we_184_ok.deep (by decide)) (kCs_c (Or.inr (Or.inr (Or.inl rfl))) (we_211_ok.deep (by decide)) (kCs_c (Or.inl rfl) (we_212_ok.deep (by decide)) kCs_n)))
def lb_217_74 (s : sS) (Q : sQ) (R : Int → hy_m → Prop) (x1 : Int) (x2 : Int) : Nat → Option (sL → sS → Prop) := sLb []
set_option maxRecDepth 30000 in
set_option maxHeartbeats 1000000 in
theorem wk_217_74 (Q : sQ) (R : Int → hy_m → Prop) (s : sS) (x1 : Int) (x2 : Int) (hQ : ∀ x m', R x m' → Q x (sM s m')) (hr : sRg [(0, 5, 74), (1, 0, 0), (2, 2, 0)] [x1, x2]) (h : wq_217_74 x1 x2 s.2.2.2 R) : kX dM 2 im_m217 9 74 (sCan [(0, 5, 74), (1, 0, 0), (2, 2, 0)] [x1, x2]) [] s Q := by
  unfold wq_217_74 at h
  refine wz2_ok (cs := cs_217) (wr := []) (lb := lb_217_74 s Q R x1 x2) cs_217_ok kLb_n (okL_can rfl hr) (fun Y hY hl => ?_)
  refine hY _ _ _ _ (?_ : Y 75 [(0, 5, true, 74), (1, 0, true, x1), (2, 2, true, x2)] [(2, true, x2)] s)
  refine hY _ _ _ _ ?_
  refine And.intro (fun hc => ?_) (fun hc => ?_)
  · have h := h.1 hc
    show Y 98 [(0, 5, true, 74), (1, 0, true, x1), (2, 2, true, x2)] [] s
    refine hY _ _ _ _ ?_
    exact hQ 0 s.2.2.2 h
  · have h := h.2 hc
    refine hY _ _ _ _ (hY _ _ _ _ (hY _ _ _ _ (?_ : Y 83 [(0, 5, true, 74), (1, 0, true, x1), (2, 2, true, x2)] [(5, true, 74), (5, true, 92)] s)))
    refine hY _ _ _ _ (hY _ _ _ _ (?_ : Y 87 [(0, 5, true, 74), (1, 0, true, x1), (2, 2, true, x2)] [(0, true, x1), (0, true, s.2.2.2 74 29), (5, true, 92)] s))
    refine hY _ _ _ _ ?_
    refine (And.intro h.1 (And.intro h.2.1 ?_))
    refine hY _ _ _ _ (hY _ _ _ _ (hY _ _ _ _ (?_ : Y 93 [(0, 5, true, 74), (1, 0, true, x1), (2, 2, true, x2)] [(0, true, s.2.2.2 74 29), (5, true, 74)] (sM s (hy_u s.2.2.2 92 (s.2.2.2 74 29) x1)))))
    refine hY _ _ _ _ (hY _ _ _ _ (?_ : Y 95 [(0, 5, true, 74), (1, 0, true, x1), (2, 2, true, x2)] [(0, false, (s.2.2.2 74 29) + 1), (5, true, 74)] (sM s (hy_u s.2.2.2 92 (s.2.2.2 74 29) x1))))
    refine hY _ _ _ _ ?_
    refine And.intro h.2.2.1 ?_
    show Y 98 [(0, 5, true, 74), (1, 0, true, x1), (2, 2, true, x2)] [] (sM s (hy_u (hy_u s.2.2.2 92 (s.2.2.2 74 29) x1) 74 29 ((s.2.2.2 74 29) + 1)))
    refine hY _ _ _ _ ?_
    exact hQ 0 (hy_u (hy_u s.2.2.2 92 (s.2.2.2 74 29) x1) 74 29 ((s.2.2.2 74 29) + 1)) h.2.2.2
def lb_217_36 (s : sS) (Q : sQ) (P36 : Int → Int → hy_m → Prop) (R : Int → hy_m → Prop) (x1 : Int) (x2 : Int) (x3 : Int) : Nat → Option (sL → sS → Prop) := sLb [(74, fun lv t => sG [(0, 5, 74), (1, 0, 0), (2, 2, 0)] lv (ap2 (fun w1 w2 => ∃ m', t = sM s m' ∧ wq_217_74 w1 w2 m' R))), (36, fun lv t => sG [(0, 5, 74), (1, 0, 0), (2, 2, 0), (3, 0, 0)] lv (ap3 (fun w1 w2 w3 => ∃ m', t = sM s m' ∧ w1 = x1 ∧ P36 w2 w3 m')))]
set_option maxRecDepth 30000 in
set_option maxHeartbeats 1000000 in
theorem wj_217_36 (Q : sQ) (R : Int → hy_m → Prop) (s : sS) (P36 : Int → Int → hy_m → Prop) (x1 : Int) (x2 : Int) (x3 : Int) (m : hy_m) (hP36 : ∀ (z2 z3 : Int) (m : hy_m), P36 z2 z3 m → sRg [(0, 5, 74), (1, 0, 0), (2, 2, 0), (3, 0, 0)] [x1, z2, z3] → kX dM 2 im_m217 9 36 (sCan [(0, 5, 74), (1, 0, 0), (2, 2, 0), (3, 0, 0)] [x1, z2, z3]) [] (sM s m) Q) (hQ : ∀ x m', R x m' → Q x (sM s m')) (hr : sRg [(0, 5, 74), (1, 0, 0), (2, 2, 0), (3, 0, 0)] [x1, x2, x3]) (h : wf_217_36 x1 R P36 x2 x3 m) : kX dM 2 im_m217 9 36 (sCan [(0, 5, 74), (1, 0, 0), (2, 2, 0), (3, 0, 0)] [x1, x2, x3]) [] (sM s m) Q := by
  unfold wf_217_36 at h
  refine wz2_ok (cs := cs_217) (wr := []) (lb := lb_217_36 s Q P36 R x1 x2 x3) cs_217_ok (kLb_c (kLab (Bd := fun xs t => ap2 (fun w1 w2 => ∃ m', t = sM s m' ∧ wq_217_74 w1 w2 m' R) xs) rfl (fun xs t r1 r2 hb => by obtain ⟨w1, w2, rfl, hb⟩ := ap2_ok hb; obtain ⟨m', rfl, hx⟩ := hb; exact wk_217_74 Q R (sM s m') _ _ (fun x m'' hy => hQ x m'' hy) r1 hx)) (kLb_c (kLab (Bd := fun xs t => ap3 (fun w1 w2 w3 => ∃ m', t = sM s m' ∧ w1 = x1 ∧ P36 w2 w3 m') xs) rfl (fun xs t r1 r2 hb => by obtain ⟨w1, w2, w3, rfl, hb⟩ := ap3_ok hb; obtain ⟨m', rfl, rfl, hx⟩ := hb; exact hP36 _ _ m' hx r1)) kLb_n)) (okL_can rfl hr) (fun Y hY hl => ?_)
  have l74 := hl 74 _ rfl
  have l36 := hl 36 _ rfl
  refine hY _ _ _ _ (hY _ _ _ _ (hY _ _ _ _ (?_ : Y 41 [(0, 5, true, 74), (1, 0, true, x1), (2, 2, true, x2), (3, 0, true, x3)] [(0, true, m 74 29), (0, true, x3)] (sM s m))))
  refine hY _ _ _ _ ?_
  refine And.intro (fun hc => ?_) (fun hc => ?_)
  · have h := h.1 hc
    show Y 74 [(0, 5, true, 74), (1, 0, true, x1), (2, 2, true, x2), (3, 0, true, x3)] [] (sM s m)
    refine l74 _ _ ?_
    exact (Exists.intro m (And.intro rfl h))
  · have h := h.2 hc
    refine hY _ _ _ _ (?_ : Y 45 [(0, 5, true, 74), (1, 0, true, x1), (2, 2, true, x2), (3, 0, true, x3)] [(2, true, x2)] (sM s m))
    refine hY _ _ _ _ ?_
    refine And.intro (fun hc => ?_) (fun hc => ?_)
    · have h := h.1 hc
      show Y 74 [(0, 5, true, 74), (1, 0, true, x1), (2, 2, true, x2), (3, 0, true, x3)] [] (sM s m)
      refine l74 _ _ ?_
      exact (Exists.intro m (And.intro rfl h))
    · have h := h.2 hc
      refine hY _ _ _ _ (hY _ _ _ _ (hY _ _ _ _ (?_ : Y 51 [(0, 5, true, 74), (1, 0, true, x1), (2, 2, true, x2), (3, 0, true, x3)] [(5, true, 74), (0, true, x1), (5, true, 74)] (sM s m))))
      refine hY _ _ _ _ (hY _ _ _ _ (?_ : Y 55 [(0, 5, true, 74), (1, 0, true, x1), (2, 2, true, x2), (3, 0, true, x3)] [(0, true, x3), (5, true, 92), (0, true, x1), (5, true, 74)] (sM s m)))
      refine hY _ _ _ _ ?_
      refine (And.intro h.1 (And.intro h.2.1 ?_))
      show Y 56 [(0, 5, true, 74), (1, 0, true, x1), (2, 2, true, x2), (3, 0, true, x3)] [(0, true, m 92 x3), (0, true, x1), (5, true, 74)] (sM s m)
      refine hY _ _ _ _ ?_
      refine Exists.intro _ (And.intro (wc_211_r74_0t_0t x1 (m 92 x3) _ _ h.2.2) (fun r1 m1 h => ?_))
      show Y 59 [(0, 5, true, 74), (1, 0, true, x1), (2, 2, true, x2), (3, 0, true, x3)] [(2, true, r1)] (sM s m1)
      refine hY _ _ _ _ ?_
      refine And.intro (fun hc => ?_) (fun hc => ?_)
      · have h := h.1 hc
        refine hY _ _ _ _ (hY _ _ _ _ (hY _ _ _ _ (?_ : Y 71 [(3, 0, false, x3 + 1), (2, 2, true, 0), (0, 5, true, 74), (1, 0, true, x1)] [] (sM s m1))))
        refine hY _ _ _ _ (?_ : Y 36 [(3, 0, false, x3 + 1), (2, 2, true, 0), (0, 5, true, 74), (1, 0, true, x1)] [] (sM s m1))
        refine l36 _ _ ?_
        refine And.intro h.1 ?_
        exact (Exists.intro m1 (And.intro rfl (And.intro rfl h.2)))
      · have h := h.2 hc
        refine hY _ _ _ _ (hY _ _ _ _ (hY _ _ _ _ (?_ : Y 68 [(2, 2, true, 1), (0, 5, true, 74), (1, 0, true, x1), (3, 0, true, x3)] [] (sM s m1))))
        refine hY _ _ _ _ (hY _ _ _ _ (?_ : Y 36 [(3, 0, false, x3 + 1), (2, 2, true, 1), (0, 5, true, 74), (1, 0, true, x1)] [] (sM s m1)))
        refine l36 _ _ ?_
        refine And.intro h.1 ?_
        exact (Exists.intro m1 (And.intro rfl (And.intro rfl h.2)))
theorem wk_217_36 (Q : sQ) (R : Int → hy_m → Prop) (s : sS) (x1 : Int) (x2 : Int) (x3 : Int) (hQ : ∀ x m', R x m' → Q x (sM s m')) (hr : sRg [(0, 5, 74), (1, 0, 0), (2, 2, 0), (3, 0, 0)] [x1, x2, x3]) (h : wq_217_36 x1 x2 x3 s.2.2.2 R) : kX dM 2 im_m217 9 36 (sCan [(0, 5, 74), (1, 0, 0), (2, 2, 0), (3, 0, 0)] [x1, x2, x3]) [] s Q :=
  h (fun x2 x3 m => sRg [(0, 5, 74), (1, 0, 0), (2, 2, 0), (3, 0, 0)] [x1, x2, x3] → kX dM 2 im_m217 9 36 (sCan [(0, 5, 74), (1, 0, 0), (2, 2, 0), (3, 0, 0)] [x1, x2, x3]) [] (sM s m) Q) (fun x2 x3 m h hr => wj_217_36 Q R s (fun x2 x3 m => sRg [(0, 5, 74), (1, 0, 0), (2, 2, 0), (3, 0, 0)] [x1, x2, x3] → kX dM 2 im_m217 9 36 (sCan [(0, 5, 74), (1, 0, 0), (2, 2, 0), (3, 0, 0)] [x1, x2, x3]) [] (sM s m) Q) x1 x2 x3 m  (fun _ _ _ hp hr => hp hr) hQ hr h) hr
def lb_217_0 (s : sS) (Q : sQ) (R : Int → hy_m → Prop) (x1 : Int) : Nat → Option (sL → sS → Prop) := sLb [(36, fun lv t => sG [(0, 5, 74), (1, 0, 0), (2, 2, 0), (3, 0, 0)] lv (ap3 (fun w1 w2 w3 => ∃ m', t = sM s m' ∧ wq_217_36 w1 w2 w3 m' R)))]
set_option maxRecDepth 30000 in
set_option maxHeartbeats 1000000 in
theorem wk_217_0 (Q : sQ) (R : Int → hy_m → Prop) (s : sS) (x1 : Int) (hQ : ∀ x m', R x m' → Q x (sM s m')) (hr : sRg [(0, 5, 74), (1, 0, 0)] [x1]) (h : wq_217 x1 s.2.2.2 R) : kX dM 2 im_m217 9 0 (sCan [(0, 5, 74), (1, 0, 0)] [x1]) [] s Q := by
  unfold wq_217 at h
  refine wz2_ok (cs := cs_217) (wr := []) (lb := lb_217_0 s Q R x1) cs_217_ok (kLb_c (kLab (Bd := fun xs t => ap3 (fun w1 w2 w3 => ∃ m', t = sM s m' ∧ wq_217_36 w1 w2 w3 m' R) xs) rfl (fun xs t r1 r2 hb => by obtain ⟨w1, w2, w3, rfl, hb⟩ := ap3_ok hb; obtain ⟨m', rfl, hx⟩ := hb; exact wk_217_36 Q R (sM s m') _ _ _ (fun x m'' hy => hQ x m'' hy) r1 hx)) kLb_n) (okL_can rfl hr) (fun Y hY hl => ?_)
  have l36 := hl 36 _ rfl
  refine hY _ _ _ _ (hY _ _ _ _ (hY _ _ _ _ (?_ : Y 5 [(0, 5, true, 74), (1, 0, true, x1)] [(0, true, x1), (5, true, 77)] s)))
  refine hY _ _ _ _ ?_
  refine (And.intro h.1 (And.intro h.2.1 ?_))
  refine hY _ _ _ _ (hY _ _ _ _ (hY _ _ _ _ (?_ : Y 11 [(0, 5, true, 74), (1, 0, true, x1)] [(0, true, x1), (5, true, 78), (1, true, s.2.2.2 77 x1)] s)))
  refine hY _ _ _ _ ?_
  refine (And.intro h.2.2.1 (And.intro h.2.2.2.1 ?_))
  show Y 12 [(0, 5, true, 74), (1, 0, true, x1)] [(0, true, s.2.2.2 78 x1), (1, true, s.2.2.2 77 x1)] s
  refine hY _ _ _ _ ?_
  refine Exists.intro _ (And.intro (wc_184_1t_0t (s.2.2.2 77 x1) (s.2.2.2 78 x1) _ _ h.2.2.2.2) (fun r1 m1 h => ?_))
  show Y 15 [(0, 5, true, 74), (1, 0, true, x1)] [(2, true, r1)] (sM s m1)
  refine hY _ _ _ _ ?_
  refine And.intro (fun hc => ?_) (fun hc => ?_)
  · have h := h.1 hc
    refine hY _ _ _ _ (hY _ _ _ _ (hY _ _ _ _ (?_ : Y 35 [(2, 2, true, 0), (0, 5, true, 74), (1, 0, true, x1)] [(2, true, 0)] (sM s m1))))
    refine hY _ _ _ _ (?_ : Y 36 [(3, 2, true, 0), (2, 2, true, 0), (0, 5, true, 74), (1, 0, true, x1)] [] (sM s m1))
    refine l36 _ _ ?_
    exact (Exists.intro m1 (And.intro rfl h))
  · have h := h.2 hc
    refine hY _ _ _ _ (hY _ _ _ _ (?_ : Y 20 [(0, 5, true, 74), (1, 0, true, x1)] [(0, true, x1), (5, true, 74)] (sM s m1)))
    refine hY _ _ _ _ ?_
    refine Exists.intro _ (And.intro (wc_212_r74_0t x1 _ _ h) (fun r2 m2 h => ?_))
    refine hY _ _ _ _ (?_ : Y 25 [(0, 5, true, 74), (1, 0, true, x1)] [(0, true, (-9)), (0, true, r2)] (sM s m2))
    refine hY _ _ _ _ ?_
    refine And.intro (fun hc => ?_) (fun hc => ?_)
    · have h := h.1 hc
      refine hY _ _ _ _ (hY _ _ _ _ (hY _ _ _ _ (?_ : Y 35 [(2, 2, true, 0), (0, 5, true, 74), (1, 0, true, x1)] [(2, true, 0)] (sM s m2))))
      refine hY _ _ _ _ (?_ : Y 36 [(3, 2, true, 0), (2, 2, true, 0), (0, 5, true, 74), (1, 0, true, x1)] [] (sM s m2))
      refine l36 _ _ ?_
      exact (Exists.intro m2 (And.intro rfl h))
    · have h := h.2 hc
      refine hY _ _ _ _ (hY _ _ _ _ (hY _ _ _ _ (?_ : Y 34 [(2, 2, true, 1), (0, 5, true, 74), (1, 0, true, x1)] [] (sM s m2))))
      refine hY _ _ _ _ (hY _ _ _ _ (?_ : Y 36 [(3, 2, true, 0), (2, 2, true, 1), (0, 5, true, 74), (1, 0, true, x1)] [] (sM s m2)))
      refine l36 _ _ ?_
      exact (Exists.intro m2 (And.intro rfl h))
def we_217 : sFf := sEf 4 [(0, 5, 74), (1, 0, 0)] (fun xs s Q => ap1 (fun x1 => wq_217 x1 s.2.2.2 Q) xs)
theorem we_217_ok : kS dM 3 217 9 (.inl we_217) := sEf_ok (mi := im_m217) rfl rfl rfl (fun R xs s r1 hb => by obtain ⟨x1, rfl, hb⟩ := ap1_ok hb; exact wk_217_0 _ R s x1 (fun x m' hx => ⟨m', rfl, hx⟩) r1 hb)
/-- LMModel.undefinedMany()I -/
def wf_218_47 (P7 : Int → hy_m → Prop) (P25 : Int → hy_m → Prop) (x1 : Int) (x2 : Int) (x3 : Int) (Q : Int → hy_m → Prop) (P47 : Int → hy_m → Prop) (x4 : Int) (m : hy_m) : Prop := (x4 = (-9) → (hy_r 0 (x3 + 1) ∧ (P25 (x3 + 1) m))) ∧ (x4 ≠ (-9) → (wq_217 x4 m (fun _ m1 => wq_216 x4 m1 (fun r2 m2 => P47 r2 m2))))
def wq_218_47 (P7 : Int → hy_m → Prop) (P25 : Int → hy_m → Prop) (x1 : Int) (x2 : Int) (x3 : Int) (x4 : Int) (m : hy_m) (Q : Int → hy_m → Prop) : Prop := wL1 hy_m (wf_218_47 P7 P25 x1 x2 x3 Q) x4 m
def wf_218_25 (P7 : Int → hy_m → Prop) (x1 : Int) (x2 : Int) (Q : Int → hy_m → Prop) (P25 : Int → hy_m → Prop) (x3 : Int) (m : hy_m) : Prop := 0 ≤ x2 ∧ x2 < 28 ∧ (((m 82 x2) ≤ x3 → (hy_r 0 (x1 + 1) ∧ (P7 (x1 + 1) m))) ∧ (x3 < (m 82 x2) → (0 ≤ ((5 * x2) + x3) ∧ ((5 * x2) + x3) < 140 ∧ (wq_218_47 P7 P25 x1 x2 x3 (m 83 ((5 * x2) + x3)) m Q))))
def wq_218_25 (P7 : Int → hy_m → Prop) (x1 : Int) (x2 : Int) (x3 : Int) (m : hy_m) (Q : Int → hy_m → Prop) : Prop := wL1 hy_m (wf_218_25 P7 x1 x2 Q) x3 m
def wf_218_7 (Q : Int → hy_m → Prop) (P7 : Int → hy_m → Prop) (x1 : Int) (m : hy_m) : Prop := 0 ≤ (0 : Int) ∧ (0 : Int) < 21 ∧ (((m 85 0) ≤ x1 → (Q (m 74 29) m)) ∧ (x1 < (m 85 0) → (wq_206 x1 m (fun r1 m1 => wq_218_25 P7 x1 r1 0 m1 Q))))
def wq_218_7 (x1 : Int) (m : hy_m) (Q : Int → hy_m → Prop) : Prop := wL1 hy_m (wf_218_7 Q) x1 m
def wq_218 (m : hy_m) (Q : Int → hy_m → Prop) : Prop := wq_218_7 0 (hy_u m 74 29 0) Q
theorem wc_217_r74_0t (x1 : Int) (s : sS) (R : Int → hy_m → Prop) (h : wq_217 x1 s.2.2.2 R) : we_217 [(5, true, 74), (0, true, x1)] s R := h
theorem wc_216_r74_0t (x1 : Int) (s : sS) (R : Int → hy_m → Prop) (h : wq_216 x1 s.2.2.2 R) : we_216 [(5, true, 74), (0, true, x1)] s R := h
def cs_218 : List (Nat × Nat × sFS) := [(206, 0, .inl we_206), (216, 0, .inl we_216), (217, 9, .inl we_217)]
theorem cs_218_ok : kCs dM 4 cs_218 := (kCs_c (Or.inl rfl) (we_206_ok.deep (by decide)) (kCs_c (Or.inl rfl) (we_216_ok.deep (by decide)) (kCs_c (Or.inr (Or.inr (Or.inr (Or.inr rfl)))) (we_217_ok.deep (by decide)) kCs_n)))
def lb_218_47 (s : sS) (Q : sQ) (P7 : Int → hy_m → Prop) (P25 : Int → hy_m → Prop) (P47 : Int → hy_m → Prop) (R : Int → hy_m → Prop) (x1 : Int) (x2 : Int) (x3 : Int) (x4 : Int) : Nat → Option (sL → sS → Prop) := sLb [(7, fun lv t => sG [(0, 5, 74), (1, 0, 0)] lv (ap1 (fun w1 => ∃ m', t = sM s m' ∧ P7 w1 m'))), (25, fun lv t => sG [(0, 5, 74), (1, 0, 0), (2, 0, 0), (3, 0, 0)] lv (ap3 (fun w1 w2 w3 => ∃ m', t = sM s m' ∧ w1 = x1 ∧ w2 = x2 ∧ P25 w3 m'))), (47, fun lv t => sG [(0, 5, 74), (1, 0, 0), (2, 0, 0), (3, 0, 0), (4, 0, 0)] lv (ap4 (fun w1 w2 w3 w4 => ∃ m', t = sM s m' ∧ w1 = x1 ∧ w2 = x2 ∧ w3 = x3 ∧ P47 w4 m')))]
set_option maxRecDepth 30000 in
set_option maxHeartbeats 1000000 in
theorem wj_218_47 (Q : sQ) (R : Int → hy_m → Prop) (s : sS) (P7 : Int → hy_m → Prop) (P25 : Int → hy_m → Prop) (P47 : Int → hy_m → Prop) (x1 : Int) (x2 : Int) (x3 : Int) (x4 : Int) (m : hy_m) (hP7 : ∀ (z1 : Int) (m : hy_m), P7 z1 m → sRg [(0, 5, 74), (1, 0, 0)] [z1] → kX dM 4 im_m218 0 7 (sCan [(0, 5, 74), (1, 0, 0)] [z1]) [] (sM s m) Q) (hP25 : ∀ (z3 : Int) (m : hy_m), P25 z3 m → sRg [(0, 5, 74), (1, 0, 0), (2, 0, 0), (3, 0, 0)] [x1, x2, z3] → kX dM 4 im_m218 0 25 (sCan [(0, 5, 74), (1, 0, 0), (2, 0, 0), (3, 0, 0)] [x1, x2, z3]) [] (sM s m) Q) (hP47 : ∀ (z4 : Int) (m : hy_m), P47 z4 m → sRg [(0, 5, 74), (1, 0, 0), (2, 0, 0), (3, 0, 0), (4, 0, 0)] [x1, x2, x3, z4] → kX dM 4 im_m218 0 47 (sCan [(0, 5, 74), (1, 0, 0), (2, 0, 0), (3, 0, 0), (4, 0, 0)] [x1, x2, x3, z4]) [] (sM s m) Q) (hQ : ∀ x m', R x m' → Q x (sM s m')) (hr : sRg [(0, 5, 74), (1, 0, 0), (2, 0, 0), (3, 0, 0), (4, 0, 0)] [x1, x2, x3, x4]) (h : wf_218_47 P7 P25 x1 x2 x3 R P47 x4 m) : kX dM 4 im_m218 0 47 (sCan [(0, 5, 74), (1, 0, 0), (2, 0, 0), (3, 0, 0), (4, 0, 0)] [x1, x2, x3, x4]) [] (sM s m) Q := by
  unfold wf_218_47 at h
  refine wz2_ok (cs := cs_218) (wr := []) (lb := lb_218_47 s Q P7 P25 P47 R x1 x2 x3 x4) cs_218_ok (kLb_c (kLab (Bd := fun xs t => ap1 (fun w1 => ∃ m', t = sM s m' ∧ P7 w1 m') xs) rfl (fun xs t r1 r2 hb => by obtain ⟨w1, rfl, hb⟩ := ap1_ok hb; obtain ⟨m', rfl, hx⟩ := hb; exact hP7 _ m' hx r1)) (kLb_c (kLab (Bd := fun xs t => ap3 (fun w1 w2 w3 => ∃ m', t = sM s m' ∧ w1 = x1 ∧ w2 = x2 ∧ P25 w3 m') xs) rfl (fun xs t r1 r2 hb => by obtain ⟨w1, w2, w3, rfl, hb⟩ := ap3_ok hb; obtain ⟨m', rfl, rfl, rfl, hx⟩ := hb; exact hP25 _ m' hx r1)) (kLb_c (kLab (Bd := fun xs t => ap4 (fun w1 w2 w3 w4 => ∃ m', t = sM s m' ∧ w1 = x1 ∧ w2 = x2 ∧ w3 = x3 ∧ P47 w4 m') xs) rfl (fun xs t r1 r2 hb => by obtain ⟨w1, w2, w3, w4, rfl, hb⟩ := ap4_ok hb; obtain ⟨m', rfl, rfl, rfl, rfl, hx⟩ := hb; exact hP47 _ m' hx r1)) kLb_n))) (okL_can rfl hr) (fun Y hY hl => ?_)
  have l7 := hl 7 _ rfl
  have l25 := hl 25 _ rfl
  have l47 := hl 47 _ rfl
  refine hY _ _ _ _ (hY _ _ _ _ (?_ : Y 51 [(0, 5, true, 74), (1, 0, true, x1), (2, 0, true, x2), (3, 0, true, x3), (4, 0, true, x4)] [(0, true, (-9)), (0, true, x4)] (sM s m)))
  refine hY _ _ _ _ ?_
  refine And.intro (fun hc => ?_) (fun hc => ?_)
  · have h := h.1 hc
    refine hY _ _ _ _ (hY _ _ _ _ (?_ : Y 25 [(3, 0, false, x3 + 1), (0, 5, true, 74), (1, 0, true, x1), (2, 0, true, x2), (4, 0, true, x4)] [] (sM s m)))
    refine l25 _ _ ?_
    refine And.intro h.1 ?_
    exact (Exists.intro m (And.intro rfl (And.intro rfl (And.intro rfl h.2))))
  · have h := h.2 hc
    refine hY _ _ _ _ (hY _ _ _ _ (?_ : Y 57 [(0, 5, true, 74), (1, 0, true, x1), (2, 0, true, x2), (3, 0, true, x3), (4, 0, true, x4)] [(0, true, x4), (5, true, 74)] (sM s m)))
    refine hY _ _ _ _ ?_
    refine Exists.intro _ (And.intro (wc_217_r74_0t x4 _ _ h) (fun r1 m1 h => ?_))
    refine hY _ _ _ _ (hY _ _ _ _ (?_ : Y 63 [(0, 5, true, 74), (1, 0, true, x1), (2, 0, true, x2), (3, 0, true, x3), (4, 0, true, x4)] [(0, true, x4), (5, true, 74)] (sM s m1)))
    refine hY _ _ _ _ ?_
    refine Exists.intro _ (And.intro (wc_216_r74_0t x4 _ _ h) (fun r2 m2 h => ?_))
    refine hY _ _ _ _ (hY _ _ _ _ (?_ : Y 47 [(4, 0, true, r2), (0, 5, true, 74), (1, 0, true, x1), (2, 0, true, x2), (3, 0, true, x3)] [] (sM s m2)))
    refine l47 _ _ ?_
    exact (Exists.intro m2 (And.intro rfl (And.intro rfl (And.intro rfl (And.intro rfl h)))))
theorem wk_218_47 (Q : sQ) (R : Int → hy_m → Prop) (s : sS) (P7 : Int → hy_m → Prop) (P25 : Int → hy_m → Prop) (x1 : Int) (x2 : Int) (x3 : Int) (x4 : Int) (hP7 : ∀ (z1 : Int) (m : hy_m), P7 z1 m → sRg [(0, 5, 74), (1, 0, 0)] [z1] → kX dM 4 im_m218 0 7 (sCan [(0, 5, 74), (1, 0, 0)] [z1]) [] (sM s m) Q) (hP25 : ∀ (z3 : Int) (m : hy_m), P25 z3 m → sRg [(0, 5, 74), (1, 0, 0), (2, 0, 0), (3, 0, 0)] [x1, x2, z3] → kX dM 4 im_m218 0 25 (sCan [(0, 5, 74), (1, 0, 0), (2, 0, 0), (3, 0, 0)] [x1, x2, z3]) [] (sM s m) Q) (hQ : ∀ x m', R x m' → Q x (sM s m')) (hr : sRg [(0, 5, 74), (1, 0, 0), (2, 0, 0), (3, 0, 0), (4, 0, 0)] [x1, x2, x3, x4]) (h : wq_218_47 P7 P25 x1 x2 x3 x4 s.2.2.2 R) : kX dM 4 im_m218 0 47 (sCan [(0, 5, 74), (1, 0, 0), (2, 0, 0), (3, 0, 0), (4, 0, 0)] [x1, x2, x3, x4]) [] s Q :=
  h (fun x4 m => sRg [(0, 5, 74), (1, 0, 0), (2, 0, 0), (3, 0, 0), (4, 0, 0)] [x1, x2, x3, x4] → kX dM 4 im_m218 0 47 (sCan [(0, 5, 74), (1, 0, 0), (2, 0, 0), (3, 0, 0), (4, 0, 0)] [x1, x2, x3, x4]) [] (sM s m) Q) (fun x4 m h hr => wj_218_47 Q R s P7 P25 (fun x4 m => sRg [(0, 5, 74), (1, 0, 0), (2, 0, 0), (3, 0, 0), (4, 0, 0)] [x1, x2, x3, x4] → kX dM 4 im_m218 0 47 (sCan [(0, 5, 74), (1, 0, 0), (2, 0, 0), (3, 0, 0), (4, 0, 0)] [x1, x2, x3, x4]) [] (sM s m) Q) x1 x2 x3 x4 m  hP7 hP25 (fun _ _ hp hr => hp hr) hQ hr h) hr
def lb_218_25 (s : sS) (Q : sQ) (P7 : Int → hy_m → Prop) (P25 : Int → hy_m → Prop) (R : Int → hy_m → Prop) (x1 : Int) (x2 : Int) (x3 : Int) : Nat → Option (sL → sS → Prop) := sLb [(47, fun lv t => sG [(0, 5, 74), (1, 0, 0), (2, 0, 0), (3, 0, 0), (4, 0, 0)] lv (ap4 (fun w1 w2 w3 w4 => ∃ m', t = sM s m' ∧ w1 = x1 ∧ w2 = x2 ∧ wq_218_47 P7 P25 w1 w2 w3 w4 m' R))), (7, fun lv t => sG [(0, 5, 74), (1, 0, 0)] lv (ap1 (fun w1 => ∃ m', t = sM s m' ∧ P7 w1 m'))), (25, fun lv t => sG [(0, 5, 74), (1, 0, 0), (2, 0, 0), (3, 0, 0)] lv (ap3 (fun w1 w2 w3 => ∃ m', t = sM s m' ∧ w1 = x1 ∧ w2 = x2 ∧ P25 w3 m')))]
set_option maxRecDepth 30000 in
set_option maxHeartbeats 1000000 in
theorem wj_218_25 (Q : sQ) (R : Int → hy_m → Prop) (s : sS) (P7 : Int → hy_m → Prop) (P25 : Int → hy_m → Prop) (x1 : Int) (x2 : Int) (x3 : Int) (m : hy_m) (hP7 : ∀ (z1 : Int) (m : hy_m), P7 z1 m → sRg [(0, 5, 74), (1, 0, 0)] [z1] → kX dM 4 im_m218 0 7 (sCan [(0, 5, 74), (1, 0, 0)] [z1]) [] (sM s m) Q) (hP25 : ∀ (z3 : Int) (m : hy_m), P25 z3 m → sRg [(0, 5, 74), (1, 0, 0), (2, 0, 0), (3, 0, 0)] [x1, x2, z3] → kX dM 4 im_m218 0 25 (sCan [(0, 5, 74), (1, 0, 0), (2, 0, 0), (3, 0, 0)] [x1, x2, z3]) [] (sM s m) Q) (hQ : ∀ x m', R x m' → Q x (sM s m')) (hr : sRg [(0, 5, 74), (1, 0, 0), (2, 0, 0), (3, 0, 0)] [x1, x2, x3]) (h : wf_218_25 P7 x1 x2 R P25 x3 m) : kX dM 4 im_m218 0 25 (sCan [(0, 5, 74), (1, 0, 0), (2, 0, 0), (3, 0, 0)] [x1, x2, x3]) [] (sM s m) Q := by
  unfold wf_218_25 at h
  refine wz2_ok (cs := cs_218) (wr := []) (lb := lb_218_25 s Q P7 P25 R x1 x2 x3) cs_218_ok (kLb_c (kLab (Bd := fun xs t => ap4 (fun w1 w2 w3 w4 => ∃ m', t = sM s m' ∧ w1 = x1 ∧ w2 = x2 ∧ wq_218_47 P7 P25 w1 w2 w3 w4 m' R) xs) rfl (fun xs t r1 r2 hb => by obtain ⟨w1, w2, w3, w4, rfl, hb⟩ := ap4_ok hb; obtain ⟨m', rfl, rfl, rfl, hx⟩ := hb; exact wk_218_47 Q R (sM s m') P7 P25 _ _ _ _ hP7 hP25 (fun x m'' hy => hQ x m'' hy) r1 hx)) (kLb_c (kLab (Bd := fun xs t => ap1 (fun w1 => ∃ m', t = sM s m' ∧ P7 w1 m') xs) rfl (fun xs t r1 r2 hb => by obtain ⟨w1, rfl, hb⟩ := ap1_ok hb; obtain ⟨m', rfl, hx⟩ := hb; exact hP7 _ m' hx r1)) (kLb_c (kLab (Bd := fun xs t => ap3 (fun w1 w2 w3 => ∃ m', t = sM s m' ∧ w1 = x1 ∧ w2 = x2 ∧ P25 w3 m') xs) rfl (fun xs t r1 r2 hb => by obtain ⟨w1, w2, w3, rfl, hb⟩ := ap3_ok hb; obtain ⟨m', rfl, rfl, rfl, hx⟩ := hb; exact hP25 _ m' hx r1)) kLb_n))) (okL_can rfl hr) (fun Y hY hl => ?_)
  have l47 := hl 47 _ rfl
  have l7 := hl 7 _ rfl
  have l25 := hl 25 _ rfl
  refine hY _ _ _ _ (hY _ _ _ _ (hY _ _ _ _ (?_ : Y 30 [(0, 5, true, 74), (1, 0, true, x1), (2, 0, true, x2), (3, 0, true, x3)] [(5, true, 82), (0, true, x3)] (sM s m))))
  refine hY _ _ _ _ (?_ : Y 31 [(0, 5, true, 74), (1, 0, true, x1), (2, 0, true, x2), (3, 0, true, x3)] [(0, true, x2), (5, true, 82), (0, true, x3)] (sM s m))
  refine hY _ _ _ _ ?_
  refine (And.intro h.1 (And.intro h.2.1 ?_))
  show Y 32 [(0, 5, true, 74), (1, 0, true, x1), (2, 0, true, x2), (3, 0, true, x3)] [(0, true, m 82 x2), (0, true, x3)] (sM s m)
  refine hY _ _ _ _ ?_
  refine And.intro (fun hc => ?_) (fun hc => ?_)
  · have h := h.2.2.1 hc
    refine hY _ _ _ _ (hY _ _ _ _ (?_ : Y 7 [(1, 0, false, x1 + 1), (0, 5, true, 74), (2, 0, true, x2), (3, 0, true, x3)] [] (sM s m)))
    refine l7 _ _ ?_
    refine And.intro h.1 ?_
    exact (Exists.intro m (And.intro rfl h.2))
  · have h := h.2.2.2 hc
    refine hY _ _ _ _ (hY _ _ _ _ (hY _ _ _ _ (?_ : Y 40 [(0, 5, true, 74), (1, 0, true, x1), (2, 0, true, x2), (3, 0, true, x3)] [(0, true, 5), (5, true, 83)] (sM s m))))
    refine hY _ _ _ _ (hY _ _ _ _ (hY _ _ _ _ (?_ : Y 43 [(0, 5, true, 74), (1, 0, true, x1), (2, 0, true, x2), (3, 0, true, x3)] [(0, true, x3), (0, false, 5 * x2), (5, true, 83)] (sM s m))))
    refine hY _ _ _ _ (?_ : Y 44 [(0, 5, true, 74), (1, 0, true, x1), (2, 0, true, x2), (3, 0, true, x3)] [(0, false, (5 * x2) + x3), (5, true, 83)] (sM s m))
    refine hY _ _ _ _ ?_
    refine (And.intro h.1 (And.intro h.2.1 ?_))
    refine hY _ _ _ _ (?_ : Y 47 [(4, 0, true, m 83 ((5 * x2) + x3)), (0, 5, true, 74), (1, 0, true, x1), (2, 0, true, x2), (3, 0, true, x3)] [] (sM s m))
    refine l47 _ _ ?_
    exact (Exists.intro m (And.intro rfl (And.intro rfl (And.intro rfl h.2.2))))
theorem wk_218_25 (Q : sQ) (R : Int → hy_m → Prop) (s : sS) (P7 : Int → hy_m → Prop) (x1 : Int) (x2 : Int) (x3 : Int) (hP7 : ∀ (z1 : Int) (m : hy_m), P7 z1 m → sRg [(0, 5, 74), (1, 0, 0)] [z1] → kX dM 4 im_m218 0 7 (sCan [(0, 5, 74), (1, 0, 0)] [z1]) [] (sM s m) Q) (hQ : ∀ x m', R x m' → Q x (sM s m')) (hr : sRg [(0, 5, 74), (1, 0, 0), (2, 0, 0), (3, 0, 0)] [x1, x2, x3]) (h : wq_218_25 P7 x1 x2 x3 s.2.2.2 R) : kX dM 4 im_m218 0 25 (sCan [(0, 5, 74), (1, 0, 0), (2, 0, 0), (3, 0, 0)] [x1, x2, x3]) [] s Q :=
  h (fun x3 m => sRg [(0, 5, 74), (1, 0, 0), (2, 0, 0), (3, 0, 0)] [x1, x2, x3] → kX dM 4 im_m218 0 25 (sCan [(0, 5, 74), (1, 0, 0), (2, 0, 0), (3, 0, 0)] [x1, x2, x3]) [] (sM s m) Q) (fun x3 m h hr => wj_218_25 Q R s P7 (fun x3 m => sRg [(0, 5, 74), (1, 0, 0), (2, 0, 0), (3, 0, 0)] [x1, x2, x3] → kX dM 4 im_m218 0 25 (sCan [(0, 5, 74), (1, 0, 0), (2, 0, 0), (3, 0, 0)] [x1, x2, x3]) [] (sM s m) Q) x1 x2 x3 m  hP7 (fun _ _ hp hr => hp hr) hQ hr h) hr
def lb_218_7 (s : sS) (Q : sQ) (P7 : Int → hy_m → Prop) (R : Int → hy_m → Prop) (x1 : Int) : Nat → Option (sL → sS → Prop) := sLb [(25, fun lv t => sG [(0, 5, 74), (1, 0, 0), (2, 0, 0), (3, 0, 0)] lv (ap3 (fun w1 w2 w3 => ∃ m', t = sM s m' ∧ wq_218_25 P7 w1 w2 w3 m' R))), (7, fun lv t => sG [(0, 5, 74), (1, 0, 0)] lv (ap1 (fun w1 => ∃ m', t = sM s m' ∧ P7 w1 m')))]
set_option maxRecDepth 30000 in
set_option maxHeartbeats 1000000 in
theorem wj_218_7 (Q : sQ) (R : Int → hy_m → Prop) (s : sS) (P7 : Int → hy_m → Prop) (x1 : Int) (m : hy_m) (hP7 : ∀ (z1 : Int) (m : hy_m), P7 z1 m → sRg [(0, 5, 74), (1, 0, 0)] [z1] → kX dM 4 im_m218 0 7 (sCan [(0, 5, 74), (1, 0, 0)] [z1]) [] (sM s m) Q) (hQ : ∀ x m', R x m' → Q x (sM s m')) (hr : sRg [(0, 5, 74), (1, 0, 0)] [x1]) (h : wf_218_7 R P7 x1 m) : kX dM 4 im_m218 0 7 (sCan [(0, 5, 74), (1, 0, 0)] [x1]) [] (sM s m) Q := by
  unfold wf_218_7 at h
  refine wz2_ok (cs := cs_218) (wr := []) (lb := lb_218_7 s Q P7 R x1) cs_218_ok (kLb_c (kLab (Bd := fun xs t => ap3 (fun w1 w2 w3 => ∃ m', t = sM s m' ∧ wq_218_25 P7 w1 w2 w3 m' R) xs) rfl (fun xs t r1 r2 hb => by obtain ⟨w1, w2, w3, rfl, hb⟩ := ap3_ok hb; obtain ⟨m', rfl, hx⟩ := hb; exact wk_218_25 Q R (sM s m') P7 _ _ _ hP7 (fun x m'' hy => hQ x m'' hy) r1 hx)) (kLb_c (kLab (Bd := fun xs t => ap1 (fun w1 => ∃ m', t = sM s m' ∧ P7 w1 m') xs) rfl (fun xs t r1 r2 hb => by obtain ⟨w1, rfl, hb⟩ := ap1_ok hb; obtain ⟨m', rfl, hx⟩ := hb; exact hP7 _ m' hx r1)) kLb_n)) (okL_can rfl hr) (fun Y hY hl => ?_)
  have l25 := hl 25 _ rfl
  have l7 := hl 7 _ rfl
  refine hY _ _ _ _ (hY _ _ _ _ (hY _ _ _ _ (?_ : Y 12 [(0, 5, true, 74), (1, 0, true, x1)] [(5, true, 85), (0, true, x1)] (sM s m))))
  refine hY _ _ _ _ (?_ : Y 13 [(0, 5, true, 74), (1, 0, true, x1)] [(2, true, 0), (5, true, 85), (0, true, x1)] (sM s m))
  refine hY _ _ _ _ ?_
  refine (And.intro h.1 (And.intro h.2.1 ?_))
  show Y 14 [(0, 5, true, 74), (1, 0, true, x1)] [(0, true, m 85 0), (0, true, x1)] (sM s m)
  refine hY _ _ _ _ ?_
  refine And.intro (fun hc => ?_) (fun hc => ?_)
  · have h := h.2.2.1 hc
    refine hY _ _ _ _ (hY _ _ _ _ (?_ : Y 87 [(0, 5, true, 74), (1, 0, true, x1)] [(0, true, m 74 29)] (sM s m)))
    refine hY _ _ _ _ ?_
    exact hQ (m 74 29) m h
  · have h := h.2.2.2 hc
    refine hY _ _ _ _ (hY _ _ _ _ (?_ : Y 19 [(0, 5, true, 74), (1, 0, true, x1)] [(0, true, x1), (5, true, 74)] (sM s m)))
    refine hY _ _ _ _ ?_
    refine Exists.intro _ (And.intro (wc_206_r74_0t x1 _ _ h) (fun r1 m1 h => ?_))
    refine hY _ _ _ _ (hY _ _ _ _ (hY _ _ _ _ (?_ : Y 25 [(3, 2, true, 0), (2, 0, true, r1), (0, 5, true, 74), (1, 0, true, x1)] [] (sM s m1))))
    refine l25 _ _ ?_
    exact (Exists.intro m1 (And.intro rfl h))
theorem wk_218_7 (Q : sQ) (R : Int → hy_m → Prop) (s : sS) (x1 : Int) (hQ : ∀ x m', R x m' → Q x (sM s m')) (hr : sRg [(0, 5, 74), (1, 0, 0)] [x1]) (h : wq_218_7 x1 s.2.2.2 R) : kX dM 4 im_m218 0 7 (sCan [(0, 5, 74), (1, 0, 0)] [x1]) [] s Q :=
  h (fun x1 m => sRg [(0, 5, 74), (1, 0, 0)] [x1] → kX dM 4 im_m218 0 7 (sCan [(0, 5, 74), (1, 0, 0)] [x1]) [] (sM s m) Q) (fun x1 m h hr => wj_218_7 Q R s (fun x1 m => sRg [(0, 5, 74), (1, 0, 0)] [x1] → kX dM 4 im_m218 0 7 (sCan [(0, 5, 74), (1, 0, 0)] [x1]) [] (sM s m) Q) x1 m  (fun _ _ hp hr => hp hr) hQ hr h) hr
def lb_218_0 (s : sS) (Q : sQ) (R : Int → hy_m → Prop) : Nat → Option (sL → sS → Prop) := sLb [(7, fun lv t => sG [(0, 5, 74), (1, 0, 0)] lv (ap1 (fun w1 => ∃ m', t = sM s m' ∧ wq_218_7 w1 m' R)))]
set_option maxRecDepth 30000 in
set_option maxHeartbeats 1000000 in
theorem wk_218_0 (Q : sQ) (R : Int → hy_m → Prop) (s : sS) (hQ : ∀ x m', R x m' → Q x (sM s m')) (hr : sRg [(0, 5, 74)] []) (h : wq_218 s.2.2.2 R) : kX dM 4 im_m218 0 0 (sCan [(0, 5, 74)] []) [] s Q := by
  unfold wq_218 at h
  refine wz2_ok (cs := cs_218) (wr := []) (lb := lb_218_0 s Q R) cs_218_ok (kLb_c (kLab (Bd := fun xs t => ap1 (fun w1 => ∃ m', t = sM s m' ∧ wq_218_7 w1 m' R) xs) rfl (fun xs t r1 r2 hb => by obtain ⟨w1, rfl, hb⟩ := ap1_ok hb; obtain ⟨m', rfl, hx⟩ := hb; exact wk_218_7 Q R (sM s m') _ (fun x m'' hy => hQ x m'' hy) r1 hx)) kLb_n) (okL_can rfl hr) (fun Y hY hl => ?_)
  have l7 := hl 7 _ rfl
  refine hY _ _ _ _ (hY _ _ _ _ (?_ : Y 2 [(0, 5, true, 74)] [(2, true, 0), (5, true, 74)] s))
  refine hY _ _ _ _ ?_
  refine hY _ _ _ _ (hY _ _ _ _ (?_ : Y 7 [(1, 2, true, 0), (0, 5, true, 74)] [] (sM s (hy_u s.2.2.2 74 29 0))))
  refine l7 _ _ ?_
  exact (Exists.intro (hy_u s.2.2.2 74 29 0) (And.intro rfl h))
def we_218 : sFf := sEf 5 [(0, 5, 74)] (fun xs s Q => ap0 (wq_218 s.2.2.2 Q) xs)
theorem we_218_ok : kS dM 5 218 0 (.inl we_218) := sEf_ok (mi := im_m218) rfl rfl rfl (fun R xs s r1 hb => by obtain ⟨rfl, hb⟩ := ap0_ok hb; exact wk_218_0 _ R s (fun x m' hx => ⟨m', rfl, hx⟩) r1 hb)
/-- LMModel.told(I)I -/
def wq_219 (x1 : Int) (m : hy_m) (Q : Int → hy_m → Prop) : Prop := ((x1 = 0 + 0 → (0 ≤ (0 : Int) ∧ (0 : Int) < 21 ∧ (Q (m 85 0) m))) ∧ ((x1 = 0 + 1 → (wq_213 m (fun r1 m1 => Q r1 m1))) ∧ ((x1 = 0 + 2 → (wq_218 m (fun r2 m2 => Q r2 m2))) ∧ ((x1 = 0 + 3 → (Q (m 74 13) m)) ∧ ((x1 = 0 + 4 → (Q (m 74 1) m)) ∧ (True)))))) ∧ (x1 < 0 ∨ 4 < x1 → (Q (-1) m))
theorem wc_213_r74 (s : sS) (R : Int → hy_m → Prop) (h : wq_213 s.2.2.2 R) : we_213 [(5, true, 74)] s R := h
theorem wc_218_r74 (s : sS) (R : Int → hy_m → Prop) (h : wq_218 s.2.2.2 R) : we_218 [(5, true, 74)] s R := h
def cs_219 : List (Nat × Nat × sFS) := [(213, 0, .inl we_213), (218, 0, .inl we_218)]
theorem cs_219_ok : kCs dM 5 cs_219 := (kCs_c (Or.inl rfl) (we_213_ok.deep (by decide)) (kCs_c (Or.inl rfl) (we_218_ok.deep (by decide)) kCs_n))
def lb_219_0 (s : sS) (Q : sQ) (R : Int → hy_m → Prop) (x1 : Int) : Nat → Option (sL → sS → Prop) := sLb []
set_option maxRecDepth 30000 in
set_option maxHeartbeats 1000000 in
theorem wk_219_0 (Q : sQ) (R : Int → hy_m → Prop) (s : sS) (x1 : Int) (hQ : ∀ x m', R x m' → Q x (sM s m')) (hr : sRg [(0, 5, 74), (1, 0, 0)] [x1]) (h : wq_219 x1 s.2.2.2 R) : kX dM 5 im_m219 0 0 (sCan [(0, 5, 74), (1, 0, 0)] [x1]) [] s Q := by
  unfold wq_219 at h
  refine wz2_ok (cs := cs_219) (wr := []) (lb := lb_219_0 s Q R x1) cs_219_ok kLb_n (okL_can rfl hr) (fun Y hY hl => ?_)
  refine hY _ _ _ _ (?_ : Y 1 [(0, 5, true, 74), (1, 0, true, x1)] [(0, true, x1)] s)
  refine hY _ _ _ _ ?_
  refine And.intro (And.intro (fun hc => ?_) (And.intro (fun hc => ?_) (And.intro (fun hc => ?_) (And.intro (fun hc => ?_) (And.intro (fun hc => ?_) trivial))))) (fun hc => ?_)
  · have h := h.1.1 hc
    refine hY _ _ _ _ (hY _ _ _ _ (hY _ _ _ _ (?_ : Y 41 [(0, 5, true, 74), (1, 0, true, x1)] [(2, true, 0), (5, true, 85)] s)))
    refine hY _ _ _ _ ?_
    refine (And.intro h.1 (And.intro h.2.1 ?_))
    show Y 42 [(0, 5, true, 74), (1, 0, true, x1)] [(0, true, s.2.2.2 85 0)] s
    refine hY _ _ _ _ ?_
    exact hQ (s.2.2.2 85 0) s.2.2.2 h.2.2
  · have h := h.1.2.1 hc
    refine hY _ _ _ _ (?_ : Y 44 [(0, 5, true, 74), (1, 0, true, x1)] [(5, true, 74)] s)
    refine hY _ _ _ _ ?_
    refine Exists.intro _ (And.intro (wc_213_r74 _ _ h) (fun r1 m1 h => ?_))
    show Y 47 [(0, 5, true, 74), (1, 0, true, x1)] [(0, true, r1)] (sM s m1)
    refine hY _ _ _ _ ?_
    exact hQ r1 m1 h
  · have h := h.1.2.2.1 hc
    refine hY _ _ _ _ (?_ : Y 49 [(0, 5, true, 74), (1, 0, true, x1)] [(5, true, 74)] s)
    refine hY _ _ _ _ ?_
    refine Exists.intro _ (And.intro (wc_218_r74 _ _ h) (fun r2 m2 h => ?_))
    show Y 52 [(0, 5, true, 74), (1, 0, true, x1)] [(0, true, r2)] (sM s m2)
    refine hY _ _ _ _ ?_
    exact hQ r2 m2 h
  · have h := h.1.2.2.2.1 hc
    refine hY _ _ _ _ (hY _ _ _ _ (?_ : Y 57 [(0, 5, true, 74), (1, 0, true, x1)] [(0, true, s.2.2.2 74 13)] s))
    refine hY _ _ _ _ ?_
    exact hQ (s.2.2.2 74 13) s.2.2.2 h
  · have h := h.1.2.2.2.2.1 hc
    refine hY _ _ _ _ (hY _ _ _ _ (?_ : Y 62 [(0, 5, true, 74), (1, 0, true, x1)] [(0, true, s.2.2.2 74 1)] s))
    refine hY _ _ _ _ ?_
    exact hQ (s.2.2.2 74 1) s.2.2.2 h
  · have h := h.2 hc
    refine hY _ _ _ _ (?_ : Y 64 [(0, 5, true, 74), (1, 0, true, x1)] [(0, true, (-1))] s)
    refine hY _ _ _ _ ?_
    exact hQ (-1) s.2.2.2 h
def we_219 : sFf := sEf 2 [(0, 5, 74), (1, 0, 0)] (fun xs s Q => ap1 (fun x1 => wq_219 x1 s.2.2.2 Q) xs)
theorem we_219_ok : kS dM 6 219 0 (.inl we_219) := sEf_ok (mi := im_m219) rfl rfl rfl (fun R xs s r1 hb => by obtain ⟨x1, rfl, hb⟩ := ap1_ok hb; exact wk_219_0 _ R s x1 (fun x m' hx => ⟨m', rfl, hx⟩) r1 hb)
