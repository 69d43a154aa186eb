/-- LM.frame(II)I -/
def wq_20 (x1 : Int) (x2 : Int) (T : hy_T) (m : hy_m) (Q : Int → hy_m → Prop) : Prop := wq_109 x1 T m (fun r1 m1 => (r1 = 0 → (Q (-1) m1)) ∧ (r1 ≠ 0 → (((x2 = 0 + 0 → (wq_103 r1 T m1 (fun r2 m2 => Q r2 m2))) ∧ ((x2 = 0 + 1 → (wq_104 r1 T m1 (fun r3 m3 => Q r3 m3))) ∧ ((x2 = 0 + 2 → (T.1 (r1).toNat = some (4, 5) ∧ (wq_128 (m1 ((r1).toNat) 0) T m1 (fun r4 m4 => Q r4 m4)))) ∧ (True)))) ∧ (x2 < 0 ∨ 2 < x2 → (Q (-1) m1)))))
theorem wc_109_r36_0t (x1 : Int) (s : sS) (R : Int → hy_m → Prop) (h : wq_109 x1 s.1 s.2.2.2 R) : we_109 [(5, true, 36), (0, true, x1)] s R := h
theorem wc_128_r41_0t (x1 : Int) (s : sS) (R : Int → hy_m → Prop) (h : wq_128 x1 s.1 s.2.2.2 R) : we_128 [(5, true, 41), (0, true, x1)] s R := h
def cs_20 : List (Nat × Nat × sFS) := [(103, 0, .inl we_103), (104, 0, .inl we_104), (109, 3, .inl we_109), (128, 0, .inl we_128)]
theorem cs_20_ok : kCs dC 2 cs_20 := (kCs_c (Or.inl rfl) (we_103_ok.deep (by decide)) (kCs_c (Or.inl rfl) (we_104_ok.deep (by decide)) (kCs_c (Or.inr (Or.inr (Or.inr (Or.inl rfl)))) (we_109_ok.deep (by decide)) (kCs_c (Or.inl rfl) (we_128_ok.deep (by decide)) kCs_n))))
def lb_20_0 (s : sS) (Q : sQ) (R : Int → hy_m → Prop) (x1 : Int) (x2 : Int) : Nat → Option (sL → sS → Prop) := sLb []
set_option maxRecDepth 30000 in
set_option maxHeartbeats 1000000 in
theorem wk_20_0 (Q : sQ) (R : Int → hy_m → Prop) (s : sS) (x1 : Int) (x2 : Int) (hQ : ∀ x m', R x m' → Q x (sM s m')) (hr : sRg [(0, 5, 1), (1, 0, 0), (2, 0, 0)] [x1, x2]) (h : wq_20 x1 x2 s.1 s.2.2.2 R) : kX dC 2 im_m20 0 0 (sCan [(0, 5, 1), (1, 0, 0), (2, 0, 0)] [x1, x2]) [] s Q := by
  unfold wq_20 at h
  refine wz2_ok (cs := cs_20) (wr := []) (lb := lb_20_0 s Q R x1 x2) cs_20_ok kLb_n (okL_can rfl hr) (fun Y hY hl => ?_)
  refine hY _ _ _ _ (hY _ _ _ _ (hY _ _ _ _ (?_ : Y 5 [(0, 5, true, 1), (1, 0, true, x1), (2, 0, true, x2)] [(0, true, x1), (5, true, 36)] s)))
  refine hY _ _ _ _ ?_
  refine Exists.intro _ (And.intro (wc_109_r36_0t x1 _ _ h) (fun r1 m1 h => ?_))
  refine hY _ _ _ _ (hY _ _ _ _ (?_ : Y 10 [(3, 3, true, r1), (0, 5, true, 1), (1, 0, true, x1), (2, 0, true, x2)] [(3, true, r1)] (sM s m1)))
  refine hY _ _ _ _ ?_
  refine And.intro (fun hc => ?_) (fun hc => ?_)
  · have h := h.1 hc
    refine hY _ _ _ _ (?_ : Y 14 [(3, 3, true, r1), (0, 5, true, 1), (1, 0, true, x1), (2, 0, true, x2)] [(0, true, (-1))] (sM s m1))
    refine hY _ _ _ _ ?_
    exact hQ (-1) m1 h
  · have h := h.2 hc
    refine hY _ _ _ _ (?_ : Y 16 [(3, 3, true, r1), (0, 5, true, 1), (1, 0, true, x1), (2, 0, true, x2)] [(0, true, x2)] (sM s m1))
    refine hY _ _ _ _ ?_
    refine And.intro (And.intro (fun hc => ?_) (And.intro (fun hc => ?_) (And.intro (fun hc => ?_) trivial))) (fun hc => ?_)
    · have h := h.1.1 hc
      refine hY _ _ _ _ (hY _ _ _ _ (hY _ _ _ _ (?_ : Y 49 [(3, 3, true, r1), (0, 5, true, 1), (1, 0, true, x1), (2, 0, true, x2)] [(3, true, r1), (5, true, 36)] (sM s m1))))
      refine hY _ _ _ _ ?_
      refine Exists.intro _ (And.intro (wc_103_r36_3t r1 _ _ h) (fun r2 m2 h => ?_))
      show Y 52 [(3, 3, true, r1), (0, 5, true, 1), (1, 0, true, x1), (2, 0, true, x2)] [(0, true, r2)] (sM s m2)
      refine hY _ _ _ _ ?_
      exact hQ r2 m2 h
    · have h := h.1.2.1 hc
      refine hY _ _ _ _ (hY _ _ _ _ (hY _ _ _ _ (?_ : Y 58 [(3, 3, true, r1), (0, 5, true, 1), (1, 0, true, x1), (2, 0, true, x2)] [(3, true, r1), (5, true, 36)] (sM s m1))))
      refine hY _ _ _ _ ?_
      refine Exists.intro _ (And.intro (wc_104_r36_3t r1 _ _ h) (fun r3 m3 h => ?_))
      show Y 61 [(3, 3, true, r1), (0, 5, true, 1), (1, 0, true, x1), (2, 0, true, x2)] [(0, true, r3)] (sM s m3)
      refine hY _ _ _ _ ?_
      exact hQ r3 m3 h
    · have h := h.1.2.2.1 hc
      refine hY _ _ _ _ (hY _ _ _ _ (hY _ _ _ _ (?_ : Y 69 [(3, 3, true, r1), (0, 5, true, 1), (1, 0, true, x1), (2, 0, true, x2)] [(5, true, 41)] (sM s m1))))
      refine hY _ _ _ _ (?_ : Y 70 [(3, 3, true, r1), (0, 5, true, 1), (1, 0, true, x1), (2, 0, true, x2)] [(3, true, r1), (5, true, 41)] (sM s m1))
      refine hY _ _ _ _ ?_
      refine (And.intro h.1 ?_)
      show Y 73 [(3, 3, true, r1), (0, 5, true, 1), (1, 0, true, x1), (2, 0, true, x2)] [(0, true, m1 ((r1).toNat) 0), (5, true, 41)] (sM s m1)
      refine hY _ _ _ _ ?_
      refine Exists.intro _ (And.intro (wc_128_r41_0t (m1 ((r1).toNat) 0) _ _ h.2) (fun r4 m4 h => ?_))
      show Y 76 [(3, 3, true, r1), (0, 5, true, 1), (1, 0, true, x1), (2, 0, true, x2)] [(0, true, r4)] (sM s m4)
      refine hY _ _ _ _ ?_
      exact hQ r4 m4 h
    · have h := h.2 hc
      refine hY _ _ _ _ (?_ : Y 78 [(3, 3, true, r1), (0, 5, true, 1), (1, 0, true, x1), (2, 0, true, x2)] [(0, true, (-1))] (sM s m1))
      refine hY _ _ _ _ ?_
      exact hQ (-1) m1 h
def we_20 : sFf := sEf 4 [(0, 5, 1), (1, 0, 0), (2, 0, 0)] (fun xs s Q => ap2 (fun x1 x2 => wq_20 x1 x2 s.1 s.2.2.2 Q) xs)
theorem we_20_ok : kS dC 3 20 0 (.inl we_20) := sEf_ok (mi := im_m20) rfl rfl rfl (fun R xs s r1 hb => by obtain ⟨x1, x2, rfl, hb⟩ := ap2_ok hb; exact wk_20_0 _ R s x1 x2 (fun x m' hx => ⟨m', rfl, hx⟩) r1 hb)
/-- LM.choice(II)I -/
def wq_21 (x1 : Int) (x2 : Int) (T : hy_T) (m : hy_m) (Q : Int → hy_m → Prop) : Prop := wq_110 x1 m (fun r1 m1 => (r1 = 0 → (Q (-1) m1)) ∧ (r1 ≠ 0 → (((x2 = 0 + 0 → (T.1 (r1).toNat = some (2, 6) ∧ (wq_38 r1 T m1 (fun r2 m2 => (r2 = 0 → (T.1 (r1).toNat = some (2, 6) ∧ (wq_27 (m2 ((r1).toNat) 2) m2 (fun r3 m3 => Q r3 m3)))) ∧ (r2 ≠ 0 → (Q (-9) m2)))))) ∧ ((x2 = 0 + 1 → (T.1 (r1).toNat = some (2, 6) ∧ (wq_307 (m1 ((r1).toNat) 2) m1 (fun r4 m4 => Q r4 m4)))) ∧ ((x2 = 0 + 2 → (T.1 (r1).toNat = some (2, 6) ∧ (((m1 ((r1).toNat) 0) = 0 → (Q 0 m1)) ∧ ((m1 ((r1).toNat) 0) ≠ 0 → (T.1 (r1).toNat = some (2, 6) ∧ (T.1 (m1 ((r1).toNat) 0).toNat = some (4, 5) ∧ (Q (m1 ((m1 ((r1).toNat) 0).toNat) 4) m1))))))) ∧ ((x2 = 0 + 3 → (T.1 (r1).toNat = some (2, 6) ∧ (hy_r 0 ((m1 41 6) - (m1 ((r1).toNat) 4)) ∧ (Q ((m1 41 6) - (m1 ((r1).toNat) 4)) m1)))) ∧ (True))))) ∧ (x2 < 0 ∨ 3 < x2 → (Q (-1) m1)))))
def cs_21 : List (Nat × Nat × sFS) := [(27, 0, .inl we_27), (38, 2, .inl we_38), (110, 3, .inl we_110), (307, 0, .inl we_307)]
theorem cs_21_ok : kCs dC 2 cs_21 := (kCs_c (Or.inl rfl) (we_27_ok.deep (by decide)) (kCs_c (Or.inr (Or.inr (Or.inl rfl))) (we_38_ok.deep (by decide)) (kCs_c (Or.inr (Or.inr (Or.inr (Or.inl rfl)))) (we_110_ok.deep (by decide)) (kCs_c (Or.inl rfl) (we_307_ok.deep (by decide)) kCs_n))))
def lb_21_0 (s : sS) (Q : sQ) (R : Int → hy_m → Prop) (x1 : Int) (x2 : Int) : Nat → Option (sL → sS → Prop) := sLb []
set_option maxRecDepth 30000 in
set_option maxHeartbeats 1000000 in
theorem wk_21_0 (Q : sQ) (R : Int → hy_m → Prop) (s : sS) (x1 : Int) (x2 : Int) (hQ : ∀ x m', R x m' → Q x (sM s m')) (hr : sRg [(0, 5, 1), (1, 0, 0), (2, 0, 0)] [x1, x2]) (h : wq_21 x1 x2 s.1 s.2.2.2 R) : kX dC 2 im_m21 0 0 (sCan [(0, 5, 1), (1, 0, 0), (2, 0, 0)] [x1, x2]) [] s Q := by
  unfold wq_21 at h
  refine wz2_ok (cs := cs_21) (wr := []) (lb := lb_21_0 s Q R x1 x2) cs_21_ok kLb_n (okL_can rfl hr) (fun Y hY hl => ?_)
  refine hY _ _ _ _ (hY _ _ _ _ (hY _ _ _ _ (?_ : Y 5 [(0, 5, true, 1), (1, 0, true, x1), (2, 0, true, x2)] [(0, true, x1), (5, true, 36)] s)))
  refine hY _ _ _ _ ?_
  refine Exists.intro _ (And.intro (wc_110_r36_0t x1 _ _ h) (fun r1 m1 h => ?_))
  refine hY _ _ _ _ (hY _ _ _ _ (?_ : Y 10 [(3, 3, true, r1), (0, 5, true, 1), (1, 0, true, x1), (2, 0, true, x2)] [(3, true, r1)] (sM s m1)))
  refine hY _ _ _ _ ?_
  refine And.intro (fun hc => ?_) (fun hc => ?_)
  · have h := h.1 hc
    refine hY _ _ _ _ (?_ : Y 14 [(3, 3, true, r1), (0, 5, true, 1), (1, 0, true, x1), (2, 0, true, x2)] [(0, true, (-1))] (sM s m1))
    refine hY _ _ _ _ ?_
    exact hQ (-1) m1 h
  · have h := h.2 hc
    refine hY _ _ _ _ (?_ : Y 16 [(3, 3, true, r1), (0, 5, true, 1), (1, 0, true, x1), (2, 0, true, x2)] [(0, true, x2)] (sM s m1))
    refine hY _ _ _ _ ?_
    refine And.intro (And.intro (fun hc => ?_) (And.intro (fun hc => ?_) (And.intro (fun hc => ?_) (And.intro (fun hc => ?_) trivial)))) (fun hc => ?_)
    · have h := h.1.1 hc
      refine hY _ _ _ _ (?_ : Y 49 [(3, 3, true, r1), (0, 5, true, 1), (1, 0, true, x1), (2, 0, true, x2)] [(3, true, r1)] (sM s m1))
      refine hY _ _ _ _ ?_
      refine (And.intro h.1 ?_)
      refine Exists.intro _ (And.intro (wc_38_3t r1 _ _ h.2) (fun r2 m2 h => ?_))
      show Y 52 [(3, 3, true, r1), (0, 5, true, 1), (1, 0, true, x1), (2, 0, true, x2)] [(2, true, r2)] (sM s m2)
      refine hY _ _ _ _ ?_
      refine And.intro (fun hc => ?_) (fun hc => ?_)
      · have h := h.1 hc
        refine hY _ _ _ _ (?_ : Y 61 [(3, 3, true, r1), (0, 5, true, 1), (1, 0, true, x1), (2, 0, true, x2)] [(3, true, r1)] (sM s m2))
        refine hY _ _ _ _ ?_
        refine (And.intro h.1 ?_)
        show Y 64 [(3, 3, true, r1), (0, 5, true, 1), (1, 0, true, x1), (2, 0, true, x2)] [(0, true, m2 ((r1).toNat) 2)] (sM s m2)
        refine hY _ _ _ _ ?_
        refine Exists.intro _ (And.intro (wc_27_0t (m2 ((r1).toNat) 2) _ _ h.2) (fun r3 m3 h => ?_))
        show Y 67 [(3, 3, true, r1), (0, 5, true, 1), (1, 0, true, x1), (2, 0, true, x2)] [(0, true, r3)] (sM s m3)
        refine hY _ _ _ _ ?_
        exact hQ r3 m3 h
      · have h := h.2 hc
        refine hY _ _ _ _ (hY _ _ _ _ (?_ : Y 67 [(3, 3, true, r1), (0, 5, true, 1), (1, 0, true, x1), (2, 0, true, x2)] [(0, true, (-9))] (sM s m2)))
        refine hY _ _ _ _ ?_
        exact hQ (-9) m2 h
    · have h := h.1.2.1 hc
      refine hY _ _ _ _ (?_ : Y 69 [(3, 3, true, r1), (0, 5, true, 1), (1, 0, true, x1), (2, 0, true, x2)] [(3, true, r1)] (sM s m1))
      refine hY _ _ _ _ ?_
      refine (And.intro h.1 ?_)
      show Y 72 [(3, 3, true, r1), (0, 5, true, 1), (1, 0, true, x1), (2, 0, true, x2)] [(0, true, m1 ((r1).toNat) 2)] (sM s m1)
      refine hY _ _ _ _ ?_
      refine Exists.intro _ (And.intro (wc_307_0t (m1 ((r1).toNat) 2) _ _ h.2) (fun r4 m4 h => ?_))
      show Y 75 [(3, 3, true, r1), (0, 5, true, 1), (1, 0, true, x1), (2, 0, true, x2)] [(0, true, r4)] (sM s m4)
      refine hY _ _ _ _ ?_
      exact hQ r4 m4 h
    · have h := h.1.2.2.1 hc
      refine hY _ _ _ _ (?_ : Y 77 [(3, 3, true, r1), (0, 5, true, 1), (1, 0, true, x1), (2, 0, true, x2)] [(3, true, r1)] (sM s m1))
      refine hY _ _ _ _ ?_
      refine (And.intro h.1 ?_)
      show Y 80 [(3, 3, true, r1), (0, 5, true, 1), (1, 0, true, x1), (2, 0, true, x2)] [(3, true, m1 ((r1).toNat) 0)] (sM s m1)
      refine hY _ _ _ _ ?_
      refine And.intro (fun hc => ?_) (fun hc => ?_)
      · have h := h.2.1 hc
        refine hY _ _ _ _ (hY _ _ _ _ (?_ : Y 94 [(3, 3, true, r1), (0, 5, true, 1), (1, 0, true, x1), (2, 0, true, x2)] [(2, true, 0)] (sM s m1)))
        refine hY _ _ _ _ ?_
        exact hQ 0 m1 h
      · have h := h.2.2 hc
        refine hY _ _ _ _ (?_ : Y 88 [(3, 3, true, r1), (0, 5, true, 1), (1, 0, true, x1), (2, 0, true, x2)] [(3, true, r1)] (sM s m1))
        refine hY _ _ _ _ ?_
        refine (And.intro h.1 ?_)
        show Y 91 [(3, 3, true, r1), (0, 5, true, 1), (1, 0, true, x1), (2, 0, true, x2)] [(3, true, m1 ((r1).toNat) 0)] (sM s m1)
        refine hY _ _ _ _ ?_
        refine (And.intro h.2.1 ?_)
        show Y 94 [(3, 3, true, r1), (0, 5, true, 1), (1, 0, true, x1), (2, 0, true, x2)] [(0, true, m1 ((m1 ((r1).toNat) 0).toNat) 4)] (sM s m1)
        refine hY _ _ _ _ ?_
        exact hQ (m1 ((m1 ((r1).toNat) 0).toNat) 4) m1 h.2.2
    · have h := h.1.2.2.2.1 hc
      refine hY _ _ _ _ (hY _ _ _ _ (hY _ _ _ _ (?_ : Y 102 [(3, 3, true, r1), (0, 5, true, 1), (1, 0, true, x1), (2, 0, true, x2)] [(5, true, 41)] (sM s m1))))
      refine hY _ _ _ _ (hY _ _ _ _ (?_ : Y 106 [(3, 3, true, r1), (0, 5, true, 1), (1, 0, true, x1), (2, 0, true, x2)] [(3, true, r1), (0, true, m1 41 6)] (sM s m1)))
      refine hY _ _ _ _ ?_
      refine (And.intro h.1 ?_)
      refine hY _ _ _ _ (?_ : Y 110 [(3, 3, true, r1), (0, 5, true, 1), (1, 0, true, x1), (2, 0, true, x2)] [(0, false, (m1 41 6) - (m1 ((r1).toNat) 4))] (sM s m1))
      refine hY _ _ _ _ ?_
      refine And.intro h.2.1 ?_
      exact hQ ((m1 41 6) - (m1 ((r1).toNat) 4)) m1 h.2.2
    · have h := h.2 hc
      refine hY _ _ _ _ (?_ : Y 112 [(3, 3, true, r1), (0, 5, true, 1), (1, 0, true, x1), (2, 0, true, x2)] [(0, true, (-1))] (sM s m1))
      refine hY _ _ _ _ ?_
      exact hQ (-1) m1 h
def we_21 : sFf := sEf 4 [(0, 5, 1), (1, 0, 0), (2, 0, 0)] (fun xs s Q => ap2 (fun x1 x2 => wq_21 x1 x2 s.1 s.2.2.2 Q) xs)
theorem we_21_ok : kS dC 3 21 0 (.inl we_21) := sEf_ok (mi := im_m21) rfl rfl rfl (fun R xs s r1 hb => by obtain ⟨x1, x2, rfl, hb⟩ := ap2_ok hb; exact wk_21_0 _ R s x1 x2 (fun x m' hx => ⟨m', rfl, hx⟩) r1 hb)
