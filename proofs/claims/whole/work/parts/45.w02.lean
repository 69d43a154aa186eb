/-- LMModel.beginTerm(ZZ)I -/
def wq_186_48 (m : hy_m) (Q : Int → hy_m → Prop) : Prop := ((m 74 15) ≠ 8 → (((m 74 15) ≠ 3 → (wq_183 m (fun r1 m1 => (r1 = (-9) → (Q r1 m1)) ∧ (r1 ≠ (-9) → (wq_179 m1 (fun _ m2 => Q r1 m2)))))) ∧ ((m 74 15) = 3 → (wq_181 2 (m 74 17) m (fun r3 m3 => (r3 = (-9) → (Q r3 m3)) ∧ (r3 ≠ (-9) → (wq_179 m3 (fun _ m4 => Q r3 m4)))))))) ∧ ((m 74 15) = 8 → (wq_179 m (fun _ m5 => ((m5 74 15) ≠ 9 → (wq_185 1 (-9) m5 (fun _ m6 => Q (-9) m6))) ∧ ((m5 74 15) = 9 → (wq_179 m5 (fun _ m7 => wq_181 3 1 m7 (fun r8 m8 => Q r8 m8)))))))
def wq_186 (x1 : Int) (x2 : Int) (m : hy_m) (Q : Int → hy_m → Prop) : Prop := ((m 74 15) ≠ 1 → ((x1 ≠ 0 → (wq_180 m (fun r1 m1 => Q r1 m1))) ∧ (x1 = 0 → (((m 74 15) = 2 → (wq_186_48 m Q)) ∧ ((m 74 15) ≠ 2 → (((m 74 15) = 3 → (wq_186_48 m Q)) ∧ ((m 74 15) ≠ 3 → (((m 74 15) = 8 → (wq_186_48 m Q)) ∧ ((m 74 15) ≠ 8 → (wq_180 m (fun r2 m2 => Q r2 m2))))))))))) ∧ ((m 74 15) = 1 → (wq_187 x2 m (fun r3 m3 => Q r3 m3)))
theorem wc_183_r74 (s : sS) (R : Int → hy_m → Prop) (h : wq_183 s.2.2.2 R) : we_183 [(5, true, 74)] s R := h
theorem wc_187_r74_2t (x1 : Int) (s : sS) (R : Int → hy_m → Prop) (h : wq_187 x1 s.2.2.2 R) : we_187 [(5, true, 74), (2, true, x1)] s R := h
def cs_186 : List (Nat × Nat × sFS) := [(179, 9, .inl we_179), (180, 0, .inl we_180), (181, 0, .inl we_181), (183, 0, .inl we_183), (185, 9, .inl we_185), (187, 0, .inl we_187)]
theorem cs_186_ok : kCs dM 4 cs_186 := (kCs_c (Or.inr (Or.inr (Or.inr (Or.inr rfl)))) (we_179_ok.deep (by decide)) (kCs_c (Or.inl rfl) (we_180_ok.deep (by decide)) (kCs_c (Or.inl rfl) (we_181_ok.deep (by decide)) (kCs_c (Or.inl rfl) (we_183_ok.deep (by decide)) (kCs_c (Or.inr (Or.inr (Or.inr (Or.inr rfl)))) (we_185_ok.deep (by decide)) (kCs_c (Or.inl rfl) (we_187_ok.deep (by decide)) kCs_n))))))
def lb_186_48 (s : sS) (Q : sQ) (R : Int → hy_m → Prop) : Nat → Option (sL → sS → Prop) := sLb []
set_option maxRecDepth 30000 in
set_option maxHeartbeats 1000000 in
theorem wk_186_48 (Q : sQ) (R : Int → hy_m → Prop) (s : sS) (hQ : ∀ x m', R x m' → Q x (sM s m')) (hr : sRg [(0, 5, 74)] []) (h : wq_186_48 s.2.2.2 R) : kX dM 4 im_m186 0 48 (sCan [(0, 5, 74)] []) [] s Q := by
  unfold wq_186_48 at h
  refine wz2_ok (cs := cs_186) (wr := []) (lb := lb_186_48 s Q R) cs_186_ok kLb_n (okL_can rfl hr) (fun Y hY hl => ?_)
  refine hY _ _ _ _ (hY _ _ _ _ (hY _ _ _ _ (?_ : Y 54 [(0, 5, true, 74)] [(0, true, 8), (0, true, s.2.2.2 74 15)] s)))
  refine hY _ _ _ _ ?_
  refine And.intro (fun hc => ?_) (fun hc => ?_)
  · have h := h.1 hc
    refine hY _ _ _ _ (hY _ _ _ _ (hY _ _ _ _ (?_ : Y 96 [(0, 5, true, 74)] [(0, true, 3), (0, true, s.2.2.2 74 15)] s)))
    refine hY _ _ _ _ ?_
    refine And.intro (fun hc => ?_) (fun hc => ?_)
    · have h := h.1 hc
      refine hY _ _ _ _ (?_ : Y 112 [(0, 5, true, 74)] [(5, true, 74)] s)
      refine hY _ _ _ _ ?_
      refine Exists.intro _ (And.intro (wc_183_r74 _ _ h) (fun r1 m1 h => ?_))
      refine hY _ _ _ _ (hY _ _ _ _ (hY _ _ _ _ (?_ : Y 119 [(3, 0, true, r1), (0, 5, true, 74)] [(0, true, (-9)), (0, true, r1)] (sM s m1))))
      refine hY _ _ _ _ ?_
      refine And.intro (fun hc => ?_) (fun hc => ?_)
      · have h := h.1 hc
        refine hY _ _ _ _ (?_ : Y 127 [(3, 0, true, r1), (0, 5, true, 74)] [(0, true, r1)] (sM s m1))
        refine hY _ _ _ _ ?_
        exact hQ r1 m1 h
      · have h := h.2 hc
        refine hY _ _ _ _ (?_ : Y 123 [(3, 0, true, r1), (0, 5, true, 74)] [(5, true, 74)] (sM s m1))
        refine hY _ _ _ _ ?_
        refine Exists.intro _ (And.intro (wc_179_r74 _ _ h) (fun r2 m2 h => ?_))
        refine hY _ _ _ _ (?_ : Y 127 [(3, 0, true, r1), (0, 5, true, 74)] [(0, true, r1)] (sM s m2))
        refine hY _ _ _ _ ?_
        exact hQ r1 m2 h
    · have h := h.2 hc
      refine hY _ _ _ _ (hY _ _ _ _ (hY _ _ _ _ (?_ : Y 102 [(0, 5, true, 74)] [(5, true, 74), (0, true, 2), (5, true, 74)] s)))
      refine hY _ _ _ _ (?_ : Y 105 [(0, 5, true, 74)] [(1, true, s.2.2.2 74 17), (0, true, 2), (5, true, 74)] s)
      refine hY _ _ _ _ ?_
      refine Exists.intro _ (And.intro (wc_181_r74_0t_1t 2 (s.2.2.2 74 17) _ _ h) (fun r3 m3 h => ?_))
      refine hY _ _ _ _ (hY _ _ _ _ (hY _ _ _ _ (?_ : Y 117 [(3, 0, true, r3), (0, 5, true, 74)] [(0, true, r3)] (sM s m3))))
      refine hY _ _ _ _ (?_ : Y 119 [(3, 0, true, r3), (0, 5, true, 74)] [(0, true, (-9)), (0, true, r3)] (sM s m3))
      refine hY _ _ _ _ ?_
      refine And.intro (fun hc => ?_) (fun hc => ?_)
      · have h := h.1 hc
        refine hY _ _ _ _ (?_ : Y 127 [(3, 0, true, r3), (0, 5, true, 74)] [(0, true, r3)] (sM s m3))
        refine hY _ _ _ _ ?_
        exact hQ r3 m3 h
      · have h := h.2 hc
        refine hY _ _ _ _ (?_ : Y 123 [(3, 0, true, r3), (0, 5, true, 74)] [(5, true, 74)] (sM s m3))
        refine hY _ _ _ _ ?_
        refine Exists.intro _ (And.intro (wc_179_r74 _ _ h) (fun r4 m4 h => ?_))
        refine hY _ _ _ _ (?_ : Y 127 [(3, 0, true, r3), (0, 5, true, 74)] [(0, true, r3)] (sM s m4))
        refine hY _ _ _ _ ?_
        exact hQ r3 m4 h
  · have h := h.2 hc
    refine hY _ _ _ _ (?_ : Y 58 [(0, 5, true, 74)] [(5, true, 74)] s)
    refine hY _ _ _ _ ?_
    refine Exists.intro _ (And.intro (wc_179_r74 _ _ h) (fun r5 m5 h => ?_))
    refine hY _ _ _ _ (hY _ _ _ _ (hY _ _ _ _ (?_ : Y 67 [(0, 5, true, 74)] [(0, true, 9), (0, true, m5 74 15)] (sM s m5))))
    refine hY _ _ _ _ ?_
    refine And.intro (fun hc => ?_) (fun hc => ?_)
    · have h := h.1 hc
      refine hY _ _ _ _ (hY _ _ _ _ (hY _ _ _ _ (?_ : Y 85 [(0, 5, true, 74)] [(0, true, (-9)), (2, true, 1), (5, true, 74)] (sM s m5))))
      refine hY _ _ _ _ ?_
      refine Exists.intro _ (And.intro (wc_185_r74_2t_0t 1 (-9) _ _ h) (fun r6 m6 h => ?_))
      refine hY _ _ _ _ (?_ : Y 90 [(0, 5, true, 74)] [(0, true, (-9))] (sM s m6))
      refine hY _ _ _ _ ?_
      exact hQ (-9) m6 h
    · have h := h.2 hc
      refine hY _ _ _ _ (?_ : Y 71 [(0, 5, true, 74)] [(5, true, 74)] (sM s m5))
      refine hY _ _ _ _ ?_
      refine Exists.intro _ (And.intro (wc_179_r74 _ _ h) (fun r7 m7 h => ?_))
      refine hY _ _ _ _ (hY _ _ _ _ (hY _ _ _ _ (?_ : Y 77 [(0, 5, true, 74)] [(1, true, 1), (0, true, 3), (5, true, 74)] (sM s m7))))
      refine hY _ _ _ _ ?_
      refine Exists.intro _ (And.intro (wc_181_r74_0t_1t 3 1 _ _ h) (fun r8 m8 h => ?_))
      show Y 80 [(0, 5, true, 74)] [(0, true, r8)] (sM s m8)
      refine hY _ _ _ _ ?_
      exact hQ r8 m8 h
def lb_186_0 (s : sS) (Q : sQ) (R : Int → hy_m → Prop) (x1 : Int) (x2 : Int) : Nat → Option (sL → sS → Prop) := sLb [(48, fun lv t => sG [(0, 5, 74)] lv (ap0 (∃ m', t = sM s m' ∧ wq_186_48 m' R)))]
set_option maxRecDepth 30000 in
set_option maxHeartbeats 1000000 in
theorem wk_186_0 (Q : sQ) (R : Int → hy_m → Prop) (s : sS) (x1 : Int) (x2 : Int) (hQ : ∀ x m', R x m' → Q x (sM s m')) (hr : sRg [(0, 5, 74), (1, 2, 0), (2, 2, 0)] [x1, x2]) (h : wq_186 x1 x2 s.2.2.2 R) : kX dM 4 im_m186 0 0 (sCan [(0, 5, 74), (1, 2, 0), (2, 2, 0)] [x1, x2]) [] s Q := by
  unfold wq_186 at h
  refine wz2_ok (cs := cs_186) (wr := []) (lb := lb_186_0 s Q R x1 x2) cs_186_ok (kLb_c (kLab (Bd := fun xs t => ap0 (∃ m', t = sM s m' ∧ wq_186_48 m' R) xs) rfl (fun xs t r1 r2 hb => by obtain ⟨rfl, hb⟩ := ap0_ok hb; obtain ⟨m', rfl, hx⟩ := hb; exact wk_186_48 Q R (sM s m')  (fun x m'' hy => hQ x m'' hy) r1 hx)) kLb_n) (okL_can rfl hr) (fun Y hY hl => ?_)
  have l48 := hl 48 _ rfl
  refine hY _ _ _ _ (hY _ _ _ _ (hY _ _ _ _ (?_ : Y 5 [(0, 5, true, 74), (1, 2, true, x1), (2, 2, true, x2)] [(2, true, 1), (0, true, s.2.2.2 74 15)] s)))
  refine hY _ _ _ _ ?_
  refine And.intro (fun hc => ?_) (fun hc => ?_)
  · have h := h.1 hc
    refine hY _ _ _ _ (?_ : Y 15 [(0, 5, true, 74), (1, 2, true, x1), (2, 2, true, x2)] [(2, true, x1)] s)
    refine hY _ _ _ _ ?_
    refine And.intro (fun hc => ?_) (fun hc => ?_)
    · have h := h.1 hc
      refine hY _ _ _ _ (?_ : Y 44 [(0, 5, true, 74), (1, 2, true, x1), (2, 2, true, x2)] [(5, true, 74)] s)
      refine hY _ _ _ _ ?_
      refine Exists.intro _ (And.intro (wc_180_r74 _ _ h) (fun r1 m1 h => ?_))
      show Y 47 [(0, 5, true, 74), (1, 2, true, x1), (2, 2, true, x2)] [(0, true, r1)] (sM s m1)
      refine hY _ _ _ _ ?_
      exact hQ r1 m1 h
    · have h := h.2 hc
      refine hY _ _ _ _ (hY _ _ _ _ (hY _ _ _ _ (?_ : Y 23 [(0, 5, true, 74), (1, 2, true, x1), (2, 2, true, x2)] [(0, true, 2), (0, true, s.2.2.2 74 15)] s)))
      refine hY _ _ _ _ ?_
      refine And.intro (fun hc => ?_) (fun hc => ?_)
      · have h := h.1 hc
        show Y 48 [(0, 5, true, 74), (1, 2, true, x1), (2, 2, true, x2)] [] s
        refine l48 _ _ ?_
        exact (Exists.intro s.2.2.2 (And.intro rfl h))
      · have h := h.2 hc
        refine hY _ _ _ _ (hY _ _ _ _ (hY _ _ _ _ (?_ : Y 31 [(0, 5, true, 74), (1, 2, true, x1), (2, 2, true, x2)] [(0, true, 3), (0, true, s.2.2.2 74 15)] s)))
        refine hY _ _ _ _ ?_
        refine And.intro (fun hc => ?_) (fun hc => ?_)
        · have h := h.1 hc
          show Y 48 [(0, 5, true, 74), (1, 2, true, x1), (2, 2, true, x2)] [] s
          refine l48 _ _ ?_
          exact (Exists.intro s.2.2.2 (And.intro rfl h))
        · have h := h.2 hc
          refine hY _ _ _ _ (hY _ _ _ _ (hY _ _ _ _ (?_ : Y 40 [(0, 5, true, 74), (1, 2, true, x1), (2, 2, true, x2)] [(0, true, 8), (0, true, s.2.2.2 74 15)] s)))
          refine hY _ _ _ _ ?_
          refine And.intro (fun hc => ?_) (fun hc => ?_)
          · have h := h.1 hc
            show Y 48 [(0, 5, true, 74), (1, 2, true, x1), (2, 2, true, x2)] [] s
            refine l48 _ _ ?_
            exact (Exists.intro s.2.2.2 (And.intro rfl h))
          · have h := h.2 hc
            refine hY _ _ _ _ (?_ : Y 44 [(0, 5, true, 74), (1, 2, true, x1), (2, 2, true, x2)] [(5, true, 74)] s)
            refine hY _ _ _ _ ?_
            refine Exists.intro _ (And.intro (wc_180_r74 _ _ h) (fun r2 m2 h => ?_))
            show Y 47 [(0, 5, true, 74), (1, 2, true, x1), (2, 2, true, x2)] [(0, true, r2)] (sM s m2)
            refine hY _ _ _ _ ?_
            exact hQ r2 m2 h
  · have h := h.2 hc
    refine hY _ _ _ _ (hY _ _ _ _ (?_ : Y 10 [(0, 5, true, 74), (1, 2, true, x1), (2, 2, true, x2)] [(2, true, x2), (5, true, 74)] s))
    refine hY _ _ _ _ ?_
    refine Exists.intro _ (And.intro (wc_187_r74_2t x2 _ _ h) (fun r3 m3 h => ?_))
    show Y 13 [(0, 5, true, 74), (1, 2, true, x1), (2, 2, true, x2)] [(0, true, r3)] (sM s m3)
    refine hY _ _ _ _ ?_
    exact hQ r3 m3 h
def we_186 : sFf := sEf 4 [(0, 5, 74), (1, 2, 0), (2, 2, 0)] (fun xs s Q => ap2 (fun x1 x2 => wq_186 x1 x2 s.2.2.2 Q) xs)
theorem we_186_ok : kS dM 5 186 0 (.inl we_186) := sEf_ok (mi := im_m186) rfl rfl rfl (fun R xs s r1 hb => by obtain ⟨x1, x2, rfl, hb⟩ := ap2_ok hb; exact wk_186_0 _ R s x1 x2 (fun x m' hx => ⟨m', rfl, hx⟩) r1 hb)
/-- LMModel.closes()I -/
def wq_188 (m : hy_m) (Q : Int → hy_m → Prop) : Prop := wq_179 m (fun _ m1 => hy_r 0 ((m1 74 25) - 1) ∧ (0 ≤ ((m1 74 25) - 1) ∧ ((m1 74 25) - 1) < 130 ∧ (Q (m1 89 ((m1 74 25) - 1)) (hy_u m1 74 25 ((m1 74 25) - 1)))))
def cs_188 : List (Nat × Nat × sFS) := [(179, 9, .inl we_179)]
theorem cs_188_ok : kCs dM 3 cs_188 := (kCs_c (Or.inr (Or.inr (Or.inr (Or.inr rfl)))) (we_179_ok.deep (by decide)) kCs_n)
def lb_188_0 (s : sS) (Q : sQ) (R : Int → hy_m → Prop) : Nat → Option (sL → sS → Prop) := sLb []
set_option maxRecDepth 30000 in
set_option maxHeartbeats 1000000 in
theorem wk_188_0 (Q : sQ) (R : Int → hy_m → Prop) (s : sS) (hQ : ∀ x m', R x m' → Q x (sM s m')) (hr : sRg [(0, 5, 74)] []) (h : wq_188 s.2.2.2 R) : kX dM 3 im_m188 0 0 (sCan [(0, 5, 74)] []) [] s Q := by
  unfold wq_188 at h
  refine wz2_ok (cs := cs_188) (wr := []) (lb := lb_188_0 s Q R) cs_188_ok kLb_n (okL_can rfl hr) (fun Y hY hl => ?_)
  refine hY _ _ _ _ (?_ : Y 1 [(0, 5, true, 74)] [(5, true, 74)] s)
  refine hY _ _ _ _ ?_
  refine Exists.intro _ (And.intro (wc_179_r74 _ _ h) (fun r1 m1 h => ?_))
  refine hY _ _ _ _ (hY _ _ _ _ (hY _ _ _ _ (?_ : Y 9 [(0, 5, true, 74)] [(0, true, m1 74 25), (5, true, 74)] (sM s m1))))
  refine hY _ _ _ _ (hY _ _ _ _ (?_ : Y 11 [(0, 5, true, 74)] [(0, false, (m1 74 25) - 1), (5, true, 74)] (sM s m1)))
  refine hY _ _ _ _ ?_
  refine And.intro h.1 ?_
  refine hY _ _ _ _ (hY _ _ _ _ (hY _ _ _ _ (?_ : Y 19 [(0, 5, true, 74)] [(5, true, 74), (5, true, 89)] (sM s (hy_u m1 74 25 ((m1 74 25) - 1))))))
  refine hY _ _ _ _ (?_ : Y 22 [(0, 5, true, 74)] [(0, true, (m1 74 25) - 1), (5, true, 89)] (sM s (hy_u m1 74 25 ((m1 74 25) - 1))))
  refine hY _ _ _ _ ?_
  refine (And.intro h.2.1 (And.intro h.2.2.1 ?_))
  show Y 23 [(0, 5, true, 74)] [(0, true, m1 89 ((m1 74 25) - 1))] (sM s (hy_u m1 74 25 ((m1 74 25) - 1)))
  refine hY _ _ _ _ ?_
  exact hQ (m1 89 ((m1 74 25) - 1)) (hy_u m1 74 25 ((m1 74 25) - 1)) h.2.2.2
def we_188 : sFf := sEf 1 [(0, 5, 74)] (fun xs s Q => ap0 (wq_188 s.2.2.2 Q) xs)
theorem we_188_ok : kS dM 4 188 0 (.inl we_188) := sEf_ok (mi := im_m188) rfl rfl rfl (fun R xs s r1 hb => by obtain ⟨rfl, hb⟩ := ap0_ok hb; exact wk_188_0 _ R s (fun x m' hx => ⟨m', rfl, hx⟩) r1 hb)
/-- LMModel.addArgument(IZ)I -/
def wq_189_48 (x2 : Int) (x3 : Int) (m : hy_m) (Q : Int → hy_m → Prop) : Prop := ((m 74 15) ≠ 7 → (wq_180 m (fun r1 m1 => Q r1 m1))) ∧ ((m 74 15) = 7 → ((x2 = 0 → (wq_188 m (fun r2 m2 => Q r2 m2))) ∧ (x2 ≠ 0 → (((m 74 25) ≠ 1 → (wq_188 m (fun r3 m3 => Q r3 m3))) ∧ ((m 74 25) = 1 → (0 ≤ x3 ∧ x3 < 130 ∧ (0 ≤ (m 89 x3) ∧ (m 89 x3) < 3584 ∧ (0 ≤ x3 ∧ x3 < 130 ∧ (0 ≤ (m 89 x3) ∧ (m 89 x3) < 3584 ∧ (wq_184 (m 77 (m 89 x3)) (m 78 (m 89 x3)) m (fun r4 m4 => (r4 = 0 → (wq_188 m4 (fun r5 m5 => Q r5 m5))) ∧ (r4 ≠ 0 → (wq_180 m4 (fun r6 m6 => Q r6 m6))))))))))))))
def wq_189 (x1 : Int) (x2 : Int) (m : hy_m) (Q : Int → hy_m → Prop) : Prop := 0 ≤ ((m 74 25) - 1) ∧ ((m 74 25) - 1) < 130 ∧ (wq_182 (m 89 ((m 74 25) - 1)) x1 m (fun _ m1 => ((m1 74 15) ≠ 5 → (hy_r 0 ((m 74 25) - 1) ∧ (wq_189_48 x2 ((m 74 25) - 1) m1 Q))) ∧ ((m1 74 15) = 5 → (0 ≤ ((m 74 25) - 1) ∧ ((m 74 25) - 1) < 130 ∧ (0 ≤ (m1 89 ((m 74 25) - 1)) ∧ (m1 89 ((m 74 25) - 1)) < 3584 ∧ ((3 ≤ (m1 78 (m1 89 ((m 74 25) - 1))) → (hy_r 0 ((m 74 25) - 1) ∧ (wq_189_48 x2 ((m 74 25) - 1) m1 Q))) ∧ ((m1 78 (m1 89 ((m 74 25) - 1))) < 3 → (wq_179 m1 (fun _ m2 => Q (-9) m2)))))))))
theorem wc_188_r74 (s : sS) (R : Int → hy_m → Prop) (h : wq_188 s.2.2.2 R) : we_188 [(5, true, 74)] s R := h
theorem wc_184_1t_0t (x0 : Int) (x1 : Int) (s : sS) (R : Int → hy_m → Prop) (h : wq_184 x0 x1 s.2.2.2 R) : we_184 [(1, true, x0), (0, true, x1)] s R := h
theorem wc_182_r74_0t_0t (x1 : Int) (x2 : Int) (s : sS) (R : Int → hy_m → Prop) (h : wq_182 x1 x2 s.2.2.2 R) : we_182 [(5, true, 74), (0, true, x1), (0, true, x2)] s R := h
def cs_189 : List (Nat × Nat × sFS) := [(179, 9, .inl we_179), (180, 0, .inl we_180), (182, 9, .inl we_182), (184, 2, .inl we_184), (188, 0, .inl we_188)]
theorem cs_189_ok : kCs dM 4 cs_189 := (kCs_c (Or.inr (Or.inr (Or.inr (Or.inr rfl)))) (we_179_ok.deep (by decide)) (kCs_c (Or.inl rfl) (we_180_ok.deep (by decide)) (kCs_c (Or.inr (Or.inr (Or.inr (Or.inr rfl)))) (we_182_ok.deep (by decide)) (kCs_c (Or.inr (Or.inr (Or.inl rfl))) (we_184_ok.deep (by decide)) (kCs_c (Or.inl rfl) (we_188_ok.deep (by decide)) kCs_n)))))
def lb_189_48 (s : sS) (Q : sQ) (R : Int → hy_m → Prop) (x2 : Int) (x3 : Int) : Nat → Option (sL → sS → Prop) := sLb []
set_option maxRecDepth 30000 in
set_option maxHeartbeats 1000000 in
theorem wk_189_48 (Q : sQ) (R : Int → hy_m → Prop) (s : sS) (x2 : Int) (x3 : Int) (hQ : ∀ x m', R x m' → Q x (sM s m')) (hr : sRg [(0, 5, 74), (2, 2, 0), (3, 0, 0)] [x2, x3]) (h : wq_189_48 x2 x3 s.2.2.2 R) : kX dM 4 im_m189 0 48 (sCan [(0, 5, 74), (2, 2, 0), (3, 0, 0)] [x2, x3]) [] s Q := by
  unfold wq_189_48 at h
  refine wz2_ok (cs := cs_189) (wr := []) (lb := lb_189_48 s Q R x2 x3) cs_189_ok kLb_n (okL_can rfl hr) (fun Y hY hl => ?_)
  refine hY _ _ _ _ (hY _ _ _ _ (hY _ _ _ _ (?_ : Y 54 [(0, 5, true, 74), (2, 2, true, x2), (3, 0, true, x3)] [(0, true, 7), (0, true, s.2.2.2 74 15)] s)))
  refine hY _ _ _ _ ?_
  refine And.intro (fun hc => ?_) (fun hc => ?_)
  · have h := h.1 hc
    refine hY _ _ _ _ (?_ : Y 98 [(0, 5, true, 74), (2, 2, true, x2), (3, 0, true, x3)] [(5, true, 74)] s)
    refine hY _ _ _ _ ?_
    refine Exists.intro _ (And.intro (wc_180_r74 _ _ h) (fun r1 m1 h => ?_))
    show Y 101 [(0, 5, true, 74), (2, 2, true, x2), (3, 0, true, x3)] [(0, true, r1)] (sM s m1)
    refine hY _ _ _ _ ?_
    exact hQ r1 m1 h
  · have h := h.2 hc
    refine hY _ _ _ _ (?_ : Y 58 [(0, 5, true, 74), (2, 2, true, x2), (3, 0, true, x3)] [(2, true, x2)] s)
    refine hY _ _ _ _ ?_
    refine And.intro (fun hc => ?_) (fun hc => ?_)
    · have h := h.1 hc
      refine hY _ _ _ _ (?_ : Y 103 [(0, 5, true, 74), (2, 2, true, x2), (3, 0, true, x3)] [(5, true, 74)] s)
      refine hY _ _ _ _ ?_
      refine Exists.intro _ (And.intro (wc_188_r74 _ _ h) (fun r2 m2 h => ?_))
      show Y 106 [(0, 5, true, 74), (2, 2, true, x2), (3, 0, true, x3)] [(0, true, r2)] (sM s m2)
      refine hY _ _ _ _ ?_
      exact hQ r2 m2 h
    · have h := h.2 hc
      refine hY _ _ _ _ (hY _ _ _ _ (hY _ _ _ _ (?_ : Y 66 [(0, 5, true, 74), (2, 2, true, x2), (3, 0, true, x3)] [(2, true, 1), (0, true, s.2.2.2 74 25)] s)))
      refine hY _ _ _ _ ?_
      refine And.intro (fun hc => ?_) (fun hc => ?_)
      · have h := h.1 hc
        refine hY _ _ _ _ (?_ : Y 103 [(0, 5, true, 74), (2, 2, true, x2), (3, 0, true, x3)] [(5, true, 74)] s)
        refine hY _ _ _ _ ?_
        refine Exists.intro _ (And.intro (wc_188_r74 _ _ h) (fun r3 m3 h => ?_))
        show Y 106 [(0, 5, true, 74), (2, 2, true, x2), (3, 0, true, x3)] [(0, true, r3)] (sM s m3)
        refine hY _ _ _ _ ?_
        exact hQ r3 m3 h
      · have h := h.2 hc
        refine hY _ _ _ _ (hY _ _ _ _ (hY _ _ _ _ (?_ : Y 74 [(0, 5, true, 74), (2, 2, true, x2), (3, 0, true, x3)] [(5, true, 74), (5, true, 77)] s)))
        refine hY _ _ _ _ (hY _ _ _ _ (?_ : Y 78 [(0, 5, true, 74), (2, 2, true, x2), (3, 0, true, x3)] [(0, true, x3), (5, true, 89), (5, true, 77)] s))
        refine hY _ _ _ _ ?_
        refine (And.intro h.1 (And.intro h.2.1 ?_))
        show Y 79 [(0, 5, true, 74), (2, 2, true, x2), (3, 0, true, x3)] [(0, true, s.2.2.2 89 x3), (5, true, 77)] s
        refine hY _ _ _ _ ?_
        refine (And.intro h.2.2.1 (And.intro h.2.2.2.1 ?_))
        refine hY _ _ _ _ (hY _ _ _ _ (hY _ _ _ _ (?_ : Y 85 [(0, 5, true, 74), (2, 2, true, x2), (3, 0, true, x3)] [(5, true, 74), (5, true, 78), (1, true, s.2.2.2 77 (s.2.2.2 89 x3))] s)))
        refine hY _ _ _ _ (hY _ _ _ _ (?_ : Y 89 [(0, 5, true, 74), (2, 2, true, x2), (3, 0, true, x3)] [(0, true, x3), (5, true, 89), (5, true, 78), (1, true, s.2.2.2 77 (s.2.2.2 89 x3))] s))
        refine hY _ _ _ _ ?_
        refine (And.intro h.2.2.2.2.1 (And.intro h.2.2.2.2.2.1 ?_))
        show Y 90 [(0, 5, true, 74), (2, 2, true, x2), (3, 0, true, x3)] [(0, true, s.2.2.2 89 x3), (5, true, 78), (1, true, s.2.2.2 77 (s.2.2.2 89 x3))] s
        refine hY _ _ _ _ ?_
        refine (And.intro h.2.2.2.2.2.2.1 (And.intro h.2.2.2.2.2.2.2.1 ?_))
        show Y 91 [(0, 5, true, 74), (2, 2, true, x2), (3, 0, true, x3)] [(0, true, s.2.2.2 78 (s.2.2.2 89 x3)), (1, true, s.2.2.2 77 (s.2.2.2 89 x3))] s
        refine hY _ _ _ _ ?_
        refine Exists.intro _ (And.intro (wc_184_1t_0t (s.2.2.2 77 (s.2.2.2 89 x3)) (s.2.2.2 78 (s.2.2.2 89 x3)) _ _ h.2.2.2.2.2.2.2.2) (fun r4 m4 h => ?_))
        show Y 94 [(0, 5, true, 74), (2, 2, true, x2), (3, 0, true, x3)] [(2, true, r4)] (sM s m4)
        refine hY _ _ _ _ ?_
        refine And.intro (fun hc => ?_) (fun hc => ?_)
        · have h := h.1 hc
          refine hY _ _ _ _ (?_ : Y 103 [(0, 5, true, 74), (2, 2, true, x2), (3, 0, true, x3)] [(5, true, 74)] (sM s m4))
          refine hY _ _ _ _ ?_
          refine Exists.intro _ (And.intro (wc_188_r74 _ _ h) (fun r5 m5 h => ?_))
          show Y 106 [(0, 5, true, 74), (2, 2, true, x2), (3, 0, true, x3)] [(0, true, r5)] (sM s m5)
          refine hY _ _ _ _ ?_
          exact hQ r5 m5 h
        · have h := h.2 hc
          refine hY _ _ _ _ (?_ : Y 98 [(0, 5, true, 74), (2, 2, true, x2), (3, 0, true, x3)] [(5, true, 74)] (sM s m4))
          refine hY _ _ _ _ ?_
          refine Exists.intro _ (And.intro (wc_180_r74 _ _ h) (fun r6 m6 h => ?_))
          show Y 101 [(0, 5, true, 74), (2, 2, true, x2), (3, 0, true, x3)] [(0, true, r6)] (sM s m6)
          refine hY _ _ _ _ ?_
          exact hQ r6 m6 h
def lb_189_0 (s : sS) (Q : sQ) (R : Int → hy_m → Prop) (x1 : Int) (x2 : Int) : Nat → Option (sL → sS → Prop) := sLb [(48, fun lv t => sG [(0, 5, 74), (2, 2, 0), (3, 0, 0)] lv (ap2 (fun w2 w3 => ∃ m', t = sM s m' ∧ wq_189_48 w2 w3 m' R)))]
set_option maxRecDepth 30000 in
set_option maxHeartbeats 1000000 in
theorem wk_189_0 (Q : sQ) (R : Int → hy_m → Prop) (s : sS) (x1 : Int) (x2 : Int) (hQ : ∀ x m', R x m' → Q x (sM s m')) (hr : sRg [(0, 5, 74), (1, 0, 0), (2, 2, 0)] [x1, x2]) (h : wq_189 x1 x2 s.2.2.2 R) : kX dM 4 im_m189 0 0 (sCan [(0, 5, 74), (1, 0, 0), (2, 2, 0)] [x1, x2]) [] s Q := by
  unfold wq_189 at h
  refine wz2_ok (cs := cs_189) (wr := []) (lb := lb_189_0 s Q R x1 x2) cs_189_ok (kLb_c (kLab (Bd := fun xs t => ap2 (fun w2 w3 => ∃ m', t = sM s m' ∧ wq_189_48 w2 w3 m' R) xs) rfl (fun xs t r1 r2 hb => by obtain ⟨w2, w3, rfl, hb⟩ := ap2_ok hb; obtain ⟨m', rfl, hx⟩ := hb; exact wk_189_48 Q R (sM s m') _ _ (fun x m'' hy => hQ x m'' hy) r1 hx)) kLb_n) (okL_can rfl hr) (fun Y hY hl => ?_)
  have l48 := hl 48 _ rfl
  refine hY _ _ _ _ (hY _ _ _ _ (hY _ _ _ _ (?_ : Y 5 [(0, 5, true, 74), (1, 0, true, x1), (2, 2, true, x2)] [(2, true, 1), (0, true, s.2.2.2 74 25)] s)))
  refine hY _ _ _ _ (hY _ _ _ _ (hY _ _ _ _ (?_ : Y 8 [(3, 0, false, (s.2.2.2 74 25) - 1), (0, 5, true, 74), (1, 0, true, x1), (2, 2, true, x2)] [(5, true, 74)] s)))
  refine hY _ _ _ _ (hY _ _ _ _ (hY _ _ _ _ (?_ : Y 13 [(3, 0, false, (s.2.2.2 74 25) - 1), (0, 5, true, 74), (1, 0, true, x1), (2, 2, true, x2)] [(0, false, (s.2.2.2 74 25) - 1), (5, true, 89), (5, true, 74)] s)))
  refine hY _ _ _ _ ?_
  refine (And.intro h.1 (And.intro h.2.1 ?_))
  refine hY _ _ _ _ (?_ : Y 15 [(3, 0, false, (s.2.2.2 74 25) - 1), (0, 5, true, 74), (1, 0, true, x1), (2, 2, true, x2)] [(0, true, x1), (0, true, s.2.2.2 89 ((s.2.2.2 74 25) - 1)), (5, true, 74)] s)
  refine hY _ _ _ _ ?_
  refine Exists.intro _ (And.intro (wc_182_r74_0t_0t (s.2.2.2 89 ((s.2.2.2 74 25) - 1)) x1 _ _ h.2.2) (fun r1 m1 h => ?_))
  refine hY _ _ _ _ (hY _ _ _ _ (hY _ _ _ _ (?_ : Y 23 [(3, 0, false, (s.2.2.2 74 25) - 1), (0, 5, true, 74), (1, 0, true, x1), (2, 2, true, x2)] [(0, true, 5), (0, true, m1 74 15)] (sM s m1))))
  refine hY _ _ _ _ ?_
  refine And.intro (fun hc => ?_) (fun hc => ?_)
  · have h := h.1 hc
    show Y 48 [(3, 0, false, (s.2.2.2 74 25) - 1), (0, 5, true, 74), (1, 0, true, x1), (2, 2, true, x2)] [] (sM s m1)
    refine l48 _ _ ?_
    refine And.intro h.1 ?_
    exact (Exists.intro m1 (And.intro rfl h.2))
  · have h := h.2 hc
    refine hY _ _ _ _ (hY _ _ _ _ (hY _ _ _ _ (?_ : Y 31 [(3, 0, false, (s.2.2.2 74 25) - 1), (0, 5, true, 74), (1, 0, true, x1), (2, 2, true, x2)] [(5, true, 74), (5, true, 78)] (sM s m1))))
    refine hY _ _ _ _ (hY _ _ _ _ (?_ : Y 35 [(3, 0, false, (s.2.2.2 74 25) - 1), (0, 5, true, 74), (1, 0, true, x1), (2, 2, true, x2)] [(0, false, (s.2.2.2 74 25) - 1), (5, true, 89), (5, true, 78)] (sM s m1)))
    refine hY _ _ _ _ ?_
    refine (And.intro h.1 (And.intro h.2.1 ?_))
    show Y 36 [(3, 0, false, (s.2.2.2 74 25) - 1), (0, 5, true, 74), (1, 0, true, x1), (2, 2, true, x2)] [(0, true, m1 89 ((s.2.2.2 74 25) - 1)), (5, true, 78)] (sM s m1)
    refine hY _ _ _ _ ?_
    refine (And.intro h.2.2.1 (And.intro h.2.2.2.1 ?_))
    refine hY _ _ _ _ (?_ : Y 38 [(3, 0, false, (s.2.2.2 74 25) - 1), (0, 5, true, 74), (1, 0, true, x1), (2, 2, true, x2)] [(0, true, 3), (0, true, m1 78 (m1 89 ((s.2.2.2 74 25) - 1)))] (sM s m1))
    refine hY _ _ _ _ ?_
    refine And.intro (fun hc => ?_) (fun hc => ?_)
    · have h := h.2.2.2.2.1 hc
      show Y 48 [(3, 0, false, (s.2.2.2 74 25) - 1), (0, 5, true, 74), (1, 0, true, x1), (2, 2, true, x2)] [] (sM s m1)
      refine l48 _ _ ?_
      refine And.intro h.1 ?_
      exact (Exists.intro m1 (And.intro rfl h.2))
    · have h := h.2.2.2.2.2 hc
      refine hY _ _ _ _ (?_ : Y 42 [(3, 0, false, (s.2.2.2 74 25) - 1), (0, 5, true, 74), (1, 0, true, x1), (2, 2, true, x2)] [(5, true, 74)] (sM s m1))
      refine hY _ _ _ _ ?_
      refine Exists.intro _ (And.intro (wc_179_r74 _ _ h) (fun r2 m2 h => ?_))
      refine hY _ _ _ _ (?_ : Y 47 [(3, 0, false, (s.2.2.2 74 25) - 1), (0, 5, true, 74), (1, 0, true, x1), (2, 2, true, x2)] [(0, true, (-9))] (sM s m2))
      refine hY _ _ _ _ ?_
      exact hQ (-9) m2 h
def we_189 : sFf := sEf 4 [(0, 5, 74), (1, 0, 0), (2, 2, 0)] (fun xs s Q => ap2 (fun x1 x2 => wq_189 x1 x2 s.2.2.2 Q) xs)
theorem we_189_ok : kS dM 5 189 0 (.inl we_189) := sEf_ok (mi := im_m189) rfl rfl rfl (fun R xs s r1 hb => by obtain ⟨x1, x2, rfl, hb⟩ := ap2_ok hb; exact wk_189_0 _ R s x1 x2 (fun x m' hx => ⟨m', rfl, hx⟩) r1 hb)
/-- LMModel.addItem(I)I -/
def wq_190_78 (x2 : Int) (m : hy_m) (Q : Int → hy_m → Prop) : Prop := ((m 74 15) ≠ 10 → (0 ≤ x2 ∧ x2 < 130 ∧ (wq_179 (hy_u m 88 x2 1) (fun _ m1 => Q (-9) m1)))) ∧ ((m 74 15) = 10 → (0 ≤ x2 ∧ x2 < 130 ∧ (wq_179 (hy_u m 88 x2 2) (fun _ m2 => Q (-9) m2))))
def wq_190_54 (x2 : Int) (x3 : Int) (m : hy_m) (Q : Int → hy_m → Prop) : Prop := 0 ≤ x2 ∧ x2 < 130 ∧ (((m 74 15) = 5 → (wq_190_78 x2 (hy_u m 90 x2 x3) Q)) ∧ ((m 74 15) ≠ 5 → (((m 74 15) ≠ 10 → (((m 74 15) = 9 → (wq_181 3 1 (hy_u m 90 x2 x3) (fun r1 m1 => wq_182 x3 r1 m1 (fun _ m2 => wq_188 m2 (fun r3 m3 => Q r3 m3))))) ∧ ((m 74 15) ≠ 9 → (wq_180 (hy_u m 90 x2 x3) (fun r4 m4 => Q r4 m4))))) ∧ ((m 74 15) = 10 → (wq_190_78 x2 (hy_u m 90 x2 x3) Q)))))
def wq_190 (x1 : Int) (m : hy_m) (Q : Int → hy_m → Prop) : Prop := wq_181 4 2 m (fun r1 m1 => wq_182 r1 x1 m1 (fun _ m2 => 0 ≤ ((m 74 25) - 1) ∧ ((m 74 25) - 1) < 130 ∧ (((m2 90 ((m 74 25) - 1)) ≠ (-9) → (0 ≤ ((m 74 25) - 1) ∧ ((m 74 25) - 1) < 130 ∧ (wq_182 (m2 90 ((m 74 25) - 1)) r1 m2 (fun _ m3 => hy_r 0 ((m 74 25) - 1) ∧ (wq_190_54 ((m 74 25) - 1) r1 m3 Q))))) ∧ ((m2 90 ((m 74 25) - 1)) = (-9) → (0 ≤ ((m 74 25) - 1) ∧ ((m 74 25) - 1) < 130 ∧ (hy_r 0 ((m 74 25) - 1) ∧ (wq_190_54 ((m 74 25) - 1) r1 (hy_u m2 89 ((m 74 25) - 1) r1) Q)))))))
def cs_190 : List (Nat × Nat × sFS) := [(179, 9, .inl we_179), (180, 0, .inl we_180), (181, 0, .inl we_181), (182, 9, .inl we_182), (188, 0, .inl we_188)]
theorem cs_190_ok : kCs dM 4 cs_190 := (kCs_c (Or.inr (Or.inr (Or.inr (Or.inr rfl)))) (we_179_ok.deep (by decide)) (kCs_c (Or.inl rfl) (we_180_ok.deep (by decide)) (kCs_c (Or.inl rfl) (we_181_ok.deep (by decide)) (kCs_c (Or.inr (Or.inr (Or.inr (Or.inr rfl)))) (we_182_ok.deep (by decide)) (kCs_c (Or.inl rfl) (we_188_ok.deep (by decide)) kCs_n)))))
def lb_190_78 (s : sS) (Q : sQ) (R : Int → hy_m → Prop) (x2 : Int) : Nat → Option (sL → sS → Prop) := sLb []
set_option maxRecDepth 30000 in
set_option maxHeartbeats 1000000 in
theorem wk_190_78 (Q : sQ) (R : Int → hy_m → Prop) (s : sS) (x2 : Int) (hQ : ∀ x m', R x m' → Q x (sM s m')) (hr : sRg [(0, 5, 74), (2, 0, 0)] [x2]) (h : wq_190_78 x2 s.2.2.2 R) : kX dM 4 im_m190 0 78 (sCan [(0, 5, 74), (2, 0, 0)] [x2]) [] s Q := by
  unfold wq_190_78 at h
  refine wz2_ok (cs := cs_190) (wr := []) (lb := lb_190_78 s Q R x2) cs_190_ok kLb_n (okL_can rfl hr) (fun Y hY hl => ?_)
  refine hY _ _ _ _ (hY _ _ _ _ (hY _ _ _ _ (?_ : Y 83 [(0, 5, true, 74), (2, 0, true, x2)] [(0, true, x2), (5, true, 88)] s)))
  refine hY _ _ _ _ (hY _ _ _ _ (hY _ _ _ _ (?_ : Y 89 [(0, 5, true, 74), (2, 0, true, x2)] [(0, true, 10), (0, true, s.2.2.2 74 15), (0, true, x2), (5, true, 88)] s)))
  refine hY _ _ _ _ ?_
  refine And.intro (fun hc => ?_) (fun hc => ?_)
  · have h := h.1 hc
    refine hY _ _ _ _ (?_ : Y 97 [(0, 5, true, 74), (2, 0, true, x2)] [(2, true, 1), (0, true, x2), (5, true, 88)] s)
    refine hY _ _ _ _ ?_
    refine (And.intro h.1 (And.intro h.2.1 ?_))
    refine hY _ _ _ _ (?_ : Y 99 [(0, 5, true, 74), (2, 0, true, x2)] [(5, true, 74)] (sM s (hy_u s.2.2.2 88 x2 1)))
    refine hY _ _ _ _ ?_
    refine Exists.intro _ (And.intro (wc_179_r74 _ _ h.2.2) (fun r1 m1 h => ?_))
    refine hY _ _ _ _ (?_ : Y 104 [(0, 5, true, 74), (2, 0, true, x2)] [(0, true, (-9))] (sM s m1))
    refine hY _ _ _ _ ?_
    exact hQ (-9) m1 h
  · have h := h.2 hc
    refine hY _ _ _ _ (hY _ _ _ _ (?_ : Y 97 [(0, 5, true, 74), (2, 0, true, x2)] [(0, true, 2), (0, true, x2), (5, true, 88)] s))
    refine hY _ _ _ _ ?_
    refine (And.intro h.1 (And.intro h.2.1 ?_))
    refine hY _ _ _ _ (?_ : Y 99 [(0, 5, true, 74), (2, 0, true, x2)] [(5, true, 74)] (sM s (hy_u s.2.2.2 88 x2 2)))
    refine hY _ _ _ _ ?_
    refine Exists.intro _ (And.intro (wc_179_r74 _ _ h.2.2) (fun r2 m2 h => ?_))
    refine hY _ _ _ _ (?_ : Y 104 [(0, 5, true, 74), (2, 0, true, x2)] [(0, true, (-9))] (sM s m2))
    refine hY _ _ _ _ ?_
    exact hQ (-9) m2 h
def lb_190_54 (s : sS) (Q : sQ) (R : Int → hy_m → Prop) (x2 : Int) (x3 : Int) : Nat → Option (sL → sS → Prop) := sLb [(78, fun lv t => sG [(0, 5, 74), (2, 0, 0)] lv (ap1 (fun w2 => ∃ m', t = sM s m' ∧ wq_190_78 w2 m' R)))]
set_option maxRecDepth 30000 in
set_option maxHeartbeats 1000000 in
theorem wk_190_54 (Q : sQ) (R : Int → hy_m → Prop) (s : sS) (x2 : Int) (x3 : Int) (hQ : ∀ x m', R x m' → Q x (sM s m')) (hr : sRg [(0, 5, 74), (2, 0, 0), (3, 0, 0)] [x2, x3]) (h : wq_190_54 x2 x3 s.2.2.2 R) : kX dM 4 im_m190 0 54 (sCan [(0, 5, 74), (2, 0, 0), (3, 0, 0)] [x2, x3]) [] s Q := by
  unfold wq_190_54 at h
  refine wz2_ok (cs := cs_190) (wr := []) (lb := lb_190_54 s Q R x2 x3) cs_190_ok (kLb_c (kLab (Bd := fun xs t => ap1 (fun w2 => ∃ m', t = sM s m' ∧ wq_190_78 w2 m' R) xs) rfl (fun xs t r1 r2 hb => by obtain ⟨w2, rfl, hb⟩ := ap1_ok hb; obtain ⟨m', rfl, hx⟩ := hb; exact wk_190_78 Q R (sM s m') _ (fun x m'' hy => hQ x m'' hy) r1 hx)) kLb_n) (okL_can rfl hr) (fun Y hY hl => ?_)
  have l78 := hl 78 _ rfl
  refine hY _ _ _ _ (hY _ _ _ _ (hY _ _ _ _ (?_ : Y 59 [(0, 5, true, 74), (2, 0, true, x2), (3, 0, true, x3)] [(0, true, x2), (5, true, 90)] s)))
  refine hY _ _ _ _ (?_ : Y 60 [(0, 5, true, 74), (2, 0, true, x2), (3, 0, true, x3)] [(0, true, x3), (0, true, x2), (5, true, 90)] s)
  refine hY _ _ _ _ ?_
  refine (And.intro h.1 (And.intro h.2.1 ?_))
  refine hY _ _ _ _ (hY _ _ _ _ (hY _ _ _ _ (?_ : Y 66 [(0, 5, true, 74), (2, 0, true, x2), (3, 0, true, x3)] [(0, true, 5), (0, true, s.2.2.2 74 15)] (sM s (hy_u s.2.2.2 90 x2 x3)))))
  refine hY _ _ _ _ ?_
  refine And.intro (fun hc => ?_) (fun hc => ?_)
  · have h := h.2.2.1 hc
    show Y 78 [(0, 5, true, 74), (2, 0, true, x2), (3, 0, true, x3)] [] (sM s (hy_u s.2.2.2 90 x2 x3))
    refine l78 _ _ ?_
    exact (Exists.intro (hy_u s.2.2.2 90 x2 x3) (And.intro rfl h))
  · have h := h.2.2.2 hc
    refine hY _ _ _ _ (hY _ _ _ _ (hY _ _ _ _ (?_ : Y 75 [(0, 5, true, 74), (2, 0, true, x2), (3, 0, true, x3)] [(0, true, 10), (0, true, s.2.2.2 74 15)] (sM s (hy_u s.2.2.2 90 x2 x3)))))
    refine hY _ _ _ _ ?_
    refine And.intro (fun hc => ?_) (fun hc => ?_)
    · have h := h.1 hc
      refine hY _ _ _ _ (hY _ _ _ _ (hY _ _ _ _ (?_ : Y 111 [(0, 5, true, 74), (2, 0, true, x2), (3, 0, true, x3)] [(0, true, 9), (0, true, s.2.2.2 74 15)] (sM s (hy_u s.2.2.2 90 x2 x3)))))
      refine hY _ _ _ _ ?_
      refine And.intro (fun hc => ?_) (fun hc => ?_)
      · have h := h.1 hc
        refine hY _ _ _ _ (hY _ _ _ _ (hY _ _ _ _ (?_ : Y 122 [(0, 5, true, 74), (2, 0, true, x2), (3, 0, true, x3)] [(5, true, 74), (0, true, x3), (5, true, 74)] (sM s (hy_u s.2.2.2 90 x2 x3)))))
        refine hY _ _ _ _ (hY _ _ _ _ (?_ : Y 124 [(0, 5, true, 74), (2, 0, true, x2), (3, 0, true, x3)] [(1, true, 1), (0, true, 3), (5, true, 74), (0, true, x3), (5, true, 74)] (sM s (hy_u s.2.2.2 90 x2 x3))))
        refine hY _ _ _ _ ?_
        refine Exists.intro _ (And.intro (wc_181_r74_0t_1t 3 1 _ _ h) (fun r1 m1 h => ?_))
        show Y 127 [(0, 5, true, 74), (2, 0, true, x2), (3, 0, true, x3)] [(0, true, r1), (0, true, x3), (5, true, 74)] (sM s m1)
        refine hY _ _ _ _ ?_
        refine Exists.intro _ (And.intro (wc_182_r74_0t_0t x3 r1 _ _ h) (fun r2 m2 h => ?_))
        refine hY _ _ _ _ (?_ : Y 131 [(0, 5, true, 74), (2, 0, true, x2), (3, 0, true, x3)] [(5, true, 74)] (sM s m2))
        refine hY _ _ _ _ ?_
        refine Exists.intro _ (And.intro (wc_188_r74 _ _ h) (fun r3 m3 h => ?_))
        show Y 134 [(0, 5, true, 74), (2, 0, true, x2), (3, 0, true, x3)] [(0, true, r3)] (sM s m3)
        refine hY _ _ _ _ ?_
        exact hQ r3 m3 h
      · have h := h.2 hc
        refine hY _ _ _ _ (?_ : Y 115 [(0, 5, true, 74), (2, 0, true, x2), (3, 0, true, x3)] [(5, true, 74)] (sM s (hy_u s.2.2.2 90 x2 x3)))
        refine hY _ _ _ _ ?_
        refine Exists.intro _ (And.intro (wc_180_r74 _ _ h) (fun r4 m4 h => ?_))
        show Y 118 [(0, 5, true, 74), (2, 0, true, x2), (3, 0, true, x3)] [(0, true, r4)] (sM s m4)
        refine hY _ _ _ _ ?_
        exact hQ r4 m4 h
    · have h := h.2 hc
      show Y 78 [(0, 5, true, 74), (2, 0, true, x2), (3, 0, true, x3)] [] (sM s (hy_u s.2.2.2 90 x2 x3))
      refine l78 _ _ ?_
      exact (Exists.intro (hy_u s.2.2.2 90 x2 x3) (And.intro rfl h))
def lb_190_0 (s : sS) (Q : sQ) (R : Int → hy_m → Prop) (x1 : Int) : Nat → Option (sL → sS → Prop) := sLb [(54, fun lv t => sG [(0, 5, 74), (2, 0, 0), (3, 0, 0)] lv (ap2 (fun w2 w3 => ∃ m', t = sM s m' ∧ wq_190_54 w2 w3 m' R)))]
set_option maxRecDepth 30000 in
set_option maxHeartbeats 1000000 in
theorem wk_190_0 (Q : sQ) (R : Int → hy_m → Prop) (s : sS) (x1 : Int) (hQ : ∀ x m', R x m' → Q x (sM s m')) (hr : sRg [(0, 5, 74), (1, 0, 0)] [x1]) (h : wq_190 x1 s.2.2.2 R) : kX dM 4 im_m190 0 0 (sCan [(0, 5, 74), (1, 0, 0)] [x1]) [] s Q := by
  unfold wq_190 at h
  refine wz2_ok (cs := cs_190) (wr := []) (lb := lb_190_0 s Q R x1) cs_190_ok (kLb_c (kLab (Bd := fun xs t => ap2 (fun w2 w3 => ∃ m', t = sM s m' ∧ wq_190_54 w2 w3 m' R) xs) rfl (fun xs t r1 r2 hb => by obtain ⟨w2, w3, rfl, hb⟩ := ap2_ok hb; obtain ⟨m', rfl, hx⟩ := hb; exact wk_190_54 Q R (sM s m') _ _ (fun x m'' hy => hQ x m'' hy) r1 hx)) kLb_n) (okL_can rfl hr) (fun Y hY hl => ?_)
  have l54 := hl 54 _ rfl
  refine hY _ _ _ _ (hY _ _ _ _ (hY _ _ _ _ (?_ : Y 5 [(0, 5, true, 74), (1, 0, true, x1)] [(2, true, 1), (0, true, s.2.2.2 74 25)] s)))
  refine hY _ _ _ _ (hY _ _ _ _ (hY _ _ _ _ (?_ : Y 8 [(2, 0, false, (s.2.2.2 74 25) - 1), (0, 5, true, 74), (1, 0, true, x1)] [(5, true, 74)] s)))
  refine hY _ _ _ _ (hY _ _ _ _ (?_ : Y 12 [(2, 0, false, (s.2.2.2 74 25) - 1), (0, 5, true, 74), (1, 0, true, x1)] [(1, true, 2), (0, true, 4), (5, true, 74)] s))
  refine hY _ _ _ _ ?_
  refine Exists.intro _ (And.intro (wc_181_r74_0t_1t 4 2 _ _ h) (fun r1 m1 h => ?_))
  refine hY _ _ _ _ (hY _ _ _ _ (hY _ _ _ _ (?_ : Y 18 [(3, 0, true, r1), (2, 0, false, (s.2.2.2 74 25) - 1), (0, 5, true, 74), (1, 0, true, x1)] [(0, true, r1), (5, true, 74)] (sM s m1))))
  refine hY _ _ _ _ (?_ : Y 19 [(3, 0, true, r1), (2, 0, false, (s.2.2.2 74 25) - 1), (0, 5, true, 74), (1, 0, true, x1)] [(0, true, x1), (0, true, r1), (5, true, 74)] (sM s m1))
  refine hY _ _ _ _ ?_
  refine Exists.intro _ (And.intro (wc_182_r74_0t_0t r1 x1 _ _ h) (fun r2 m2 h => ?_))
  refine hY _ _ _ _ (hY _ _ _ _ (hY _ _ _ _ (?_ : Y 27 [(3, 0, true, r1), (2, 0, false, (s.2.2.2 74 25) - 1), (0, 5, true, 74), (1, 0, true, x1)] [(0, false, (s.2.2.2 74 25) - 1), (5, true, 90)] (sM s m2))))
  refine hY _ _ _ _ ?_
  refine (And.intro h.1 (And.intro h.2.1 ?_))
  refine hY _ _ _ _ (?_ : Y 30 [(3, 0, true, r1), (2, 0, false, (s.2.2.2 74 25) - 1), (0, 5, true, 74), (1, 0, true, x1)] [(0, true, (-9)), (0, true, m2 90 ((s.2.2.2 74 25) - 1))] (sM s m2))
  refine hY _ _ _ _ ?_
  refine And.intro (fun hc => ?_) (fun hc => ?_)
  · have h := h.2.2.1 hc
    refine hY _ _ _ _ (hY _ _ _ _ (hY _ _ _ _ (?_ : Y 48 [(3, 0, true, r1), (2, 0, false, (s.2.2.2 74 25) - 1), (0, 5, true, 74), (1, 0, true, x1)] [(5, true, 90), (5, true, 74)] (sM s m2))))
    refine hY _ _ _ _ (?_ : Y 49 [(3, 0, true, r1), (2, 0, false, (s.2.2.2 74 25) - 1), (0, 5, true, 74), (1, 0, true, x1)] [(0, false, (s.2.2.2 74 25) - 1), (5, true, 90), (5, true, 74)] (sM s m2))
    refine hY _ _ _ _ ?_
    refine (And.intro h.1 (And.intro h.2.1 ?_))
    refine hY _ _ _ _ (?_ : Y 51 [(3, 0, true, r1), (2, 0, false, (s.2.2.2 74 25) - 1), (0, 5, true, 74), (1, 0, true, x1)] [(0, true, r1), (0, true, m2 90 ((s.2.2.2 74 25) - 1)), (5, true, 74)] (sM s m2))
    refine hY _ _ _ _ ?_
    refine Exists.intro _ (And.intro (wc_182_r74_0t_0t (m2 90 ((s.2.2.2 74 25) - 1)) r1 _ _ h.2.2) (fun r3 m3 h => ?_))
    show Y 54 [(3, 0, true, r1), (2, 0, false, (s.2.2.2 74 25) - 1), (0, 5, true, 74), (1, 0, true, x1)] [] (sM s m3)
    refine l54 _ _ ?_
    refine And.intro h.1 ?_
    exact (Exists.intro m3 (And.intro rfl h.2))
  · have h := h.2.2.2 hc
    refine hY _ _ _ _ (hY _ _ _ _ (hY _ _ _ _ (?_ : Y 38 [(3, 0, true, r1), (2, 0, false, (s.2.2.2 74 25) - 1), (0, 5, true, 74), (1, 0, true, x1)] [(0, false, (s.2.2.2 74 25) - 1), (5, true, 89)] (sM s m2))))
    refine hY _ _ _ _ (?_ : Y 39 [(3, 0, true, r1), (2, 0, false, (s.2.2.2 74 25) - 1), (0, 5, true, 74), (1, 0, true, x1)] [(0, true, r1), (0, false, (s.2.2.2 74 25) - 1), (5, true, 89)] (sM s m2))
    refine hY _ _ _ _ ?_
    refine (And.intro h.1 (And.intro h.2.1 ?_))
    refine hY _ _ _ _ (?_ : Y 54 [(3, 0, true, r1), (2, 0, false, (s.2.2.2 74 25) - 1), (0, 5, true, 74), (1, 0, true, x1)] [] (sM s (hy_u m2 89 ((s.2.2.2 74 25) - 1) r1)))
    refine l54 _ _ ?_
    refine And.intro h.2.2.1 ?_
    exact (Exists.intro (hy_u m2 89 ((s.2.2.2 74 25) - 1) r1) (And.intro rfl h.2.2.2))
def we_190 : sFf := sEf 4 [(0, 5, 74), (1, 0, 0)] (fun xs s Q => ap1 (fun x1 => wq_190 x1 s.2.2.2 Q) xs)
theorem we_190_ok : kS dM 5 190 0 (.inl we_190) := sEf_ok (mi := im_m190) rfl rfl rfl (fun R xs s r1 hb => by obtain ⟨x1, rfl, hb⟩ := ap1_ok hb; exact wk_190_0 _ R s x1 (fun x m' hx => ⟨m', rfl, hx⟩) r1 hb)
/-- LMModel.addTail(I)I -/
def wq_191 (x1 : Int) (m : hy_m) (Q : Int → hy_m → Prop) : Prop := 0 ≤ ((m 74 25) - 1) ∧ ((m 74 25) - 1) < 130 ∧ (wq_182 (m 90 ((m 74 25) - 1)) x1 m (fun _ m1 => ((m1 74 15) ≠ 9 → (wq_180 m1 (fun r2 m2 => Q r2 m2))) ∧ ((m1 74 15) = 9 → (wq_188 m1 (fun r3 m3 => Q r3 m3)))))
def cs_191 : List (Nat × Nat × sFS) := [(180, 0, .inl we_180), (182, 9, .inl we_182), (188, 0, .inl we_188)]
theorem cs_191_ok : kCs dM 4 cs_191 := (kCs_c (Or.inl rfl) (we_180_ok.deep (by decide)) (kCs_c (Or.inr (Or.inr (Or.inr (Or.inr rfl)))) (we_182_ok.deep (by decide)) (kCs_c (Or.inl rfl) (we_188_ok.deep (by decide)) kCs_n)))
def lb_191_0 (s : sS) (Q : sQ) (R : Int → hy_m → Prop) (x1 : Int) : Nat → Option (sL → sS → Prop) := sLb []
set_option maxRecDepth 30000 in
set_option maxHeartbeats 1000000 in
theorem wk_191_0 (Q : sQ) (R : Int → hy_m → Prop) (s : sS) (x1 : Int) (hQ : ∀ x m', R x m' → Q x (sM s m')) (hr : sRg [(0, 5, 74), (1, 0, 0)] [x1]) (h : wq_191 x1 s.2.2.2 R) : kX dM 4 im_m191 0 0 (sCan [(0, 5, 74), (1, 0, 0)] [x1]) [] s Q := by
  unfold wq_191 at h
  refine wz2_ok (cs := cs_191) (wr := []) (lb := lb_191_0 s Q R x1) cs_191_ok kLb_n (okL_can rfl hr) (fun Y hY hl => ?_)
  refine hY _ _ _ _ (hY _ _ _ _ (hY _ _ _ _ (?_ : Y 5 [(0, 5, true, 74), (1, 0, true, x1)] [(5, true, 90), (5, true, 74)] s)))
  refine hY _ _ _ _ (hY _ _ _ _ (hY _ _ _ _ (?_ : Y 10 [(0, 5, true, 74), (1, 0, true, x1)] [(2, true, 1), (0, true, s.2.2.2 74 25), (5, true, 90), (5, true, 74)] s)))
  refine hY _ _ _ _ (?_ : Y 11 [(0, 5, true, 74), (1, 0, true, x1)] [(0, false, (s.2.2.2 74 25) - 1), (5, true, 90), (5, true, 74)] s)
  refine hY _ _ _ _ ?_
  refine (And.intro h.1 (And.intro h.2.1 ?_))
  refine hY _ _ _ _ (?_ : Y 13 [(0, 5, true, 74), (1, 0, true, x1)] [(0, true, x1), (0, true, s.2.2.2 90 ((s.2.2.2 74 25) - 1)), (5, true, 74)] s)
  refine hY _ _ _ _ ?_
  refine Exists.intro _ (And.intro (wc_182_r74_0t_0t (s.2.2.2 90 ((s.2.2.2 74 25) - 1)) x1 _ _ h.2.2) (fun r1 m1 h => ?_))
  refine hY _ _ _ _ (hY _ _ _ _ (hY _ _ _ _ (?_ : Y 22 [(0, 5, true, 74), (1, 0, true, x1)] [(0, true, 9), (0, true, m1 74 15)] (sM s m1))))
  refine hY _ _ _ _ ?_
  refine And.intro (fun hc => ?_) (fun hc => ?_)
  · have h := h.1 hc
    refine hY _ _ _ _ (?_ : Y 33 [(0, 5, true, 74), (1, 0, true, x1)] [(5, true, 74)] (sM s m1))
    refine hY _ _ _ _ ?_
    refine Exists.intro _ (And.intro (wc_180_r74 _ _ h) (fun r2 m2 h => ?_))
    show Y 36 [(0, 5, true, 74), (1, 0, true, x1)] [(0, true, r2)] (sM s m2)
    refine hY _ _ _ _ ?_
    exact hQ r2 m2 h
  · have h := h.2 hc
    refine hY _ _ _ _ (?_ : Y 26 [(0, 5, true, 74), (1, 0, true, x1)] [(5, true, 74)] (sM s m1))
    refine hY _ _ _ _ ?_
    refine Exists.intro _ (And.intro (wc_188_r74 _ _ h) (fun r3 m3 h => ?_))
    refine hY _ _ _ _ (?_ : Y 36 [(0, 5, true, 74), (1, 0, true, x1)] [(0, true, r3)] (sM s m3))
    refine hY _ _ _ _ ?_
    exact hQ r3 m3 h
def we_191 : sFf := sEf 2 [(0, 5, 74), (1, 0, 0)] (fun xs s Q => ap1 (fun x1 => wq_191 x1 s.2.2.2 Q) xs)
theorem we_191_ok : kS dM 5 191 0 (.inl we_191) := sEf_ok (mi := im_m191) rfl rfl rfl (fun R xs s r1 hb => by obtain ⟨x1, rfl, hb⟩ := ap1_ok hb; exact wk_191_0 _ R s x1 (fun x m' hx => ⟨m', rfl, hx⟩) r1 hb)
/-- LMModel.readTerm(ZZ)I -/
def wq_192_34 (P12 : Int → hy_m → Prop) (x2 : Int) (x3 : Int) (m : hy_m) (Q : Int → hy_m → Prop) : Prop := (x3 ≠ (-9) → (0 ≤ ((m 74 25) - 1) ∧ ((m 74 25) - 1) < 130 ∧ (((m 88 ((m 74 25) - 1)) ≠ 0 → (0 ≤ ((m 74 25) - 1) ∧ ((m 74 25) - 1) < 130 ∧ (((m 88 ((m 74 25) - 1)) ≠ 1 → (wq_191 x3 m (fun r1 m1 => P12 r1 m1))) ∧ ((m 88 ((m 74 25) - 1)) = 1 → (wq_190 x3 m (fun r2 m2 => P12 r2 m2)))))) ∧ ((m 88 ((m 74 25) - 1)) = 0 → (wq_189 x3 x2 m (fun r3 m3 => P12 r3 m3)))))) ∧ (x3 = (-9) → (wq_186 0 0 m (fun r4 m4 => P12 r4 m4)))
def wf_192_12 (x2 : Int) (Q : Int → hy_m → Prop) (P12 : Int → hy_m → Prop) (x3 : Int) (m : hy_m) : Prop := ((m 74 18) ≠ (-9) → (Q x3 m)) ∧ ((m 74 18) = (-9) → ((x3 = (-9) → (wq_192_34 P12 x2 x3 m Q)) ∧ (x3 ≠ (-9) → (((m 74 25) ≤ 0 → (Q x3 m)) ∧ (0 < (m 74 25) → (wq_192_34 P12 x2 x3 m Q))))))
def wq_192_12 (x2 : Int) (x3 : Int) (m : hy_m) (Q : Int → hy_m → Prop) : Prop := wL1 hy_m (wf_192_12 x2 Q) x3 m
def wq_192 (x1 : Int) (x2 : Int) (m : hy_m) (Q : Int → hy_m → Prop) : Prop := wq_186 x1 x2 (hy_u m 74 25 0) (fun r1 m1 => wq_192_12 x2 r1 m1 Q)
theorem wc_191_r74_0t (x1 : Int) (s : sS) (R : Int → hy_m → Prop) (h : wq_191 x1 s.2.2.2 R) : we_191 [(5, true, 74), (0, true, x1)] s R := h
theorem wc_190_r74_0t (x1 : Int) (s : sS) (R : Int → hy_m → Prop) (h : wq_190 x1 s.2.2.2 R) : we_190 [(5, true, 74), (0, true, x1)] s R := h
theorem wc_189_r74_0t_2t (x1 : Int) (x2 : Int) (s : sS) (R : Int → hy_m → Prop) (h : wq_189 x1 x2 s.2.2.2 R) : we_189 [(5, true, 74), (0, true, x1), (2, true, x2)] s R := h
theorem wc_186_r74_2t_2t (x1 : Int) (x2 : Int) (s : sS) (R : Int → hy_m → Prop) (h : wq_186 x1 x2 s.2.2.2 R) : we_186 [(5, true, 74), (2, true, x1), (2, true, x2)] s R := h
def cs_192 : List (Nat × Nat × sFS) := [(186, 0, .inl we_186), (189, 0, .inl we_189), (190, 0, .inl we_190), (191, 0, .inl we_191)]
theorem cs_192_ok : kCs dM 5 cs_192 := (kCs_c (Or.inl rfl) (we_186_ok.deep (by decide)) (kCs_c (Or.inl rfl) (we_189_ok.deep (by decide)) (kCs_c (Or.inl rfl) (we_190_ok.deep (by decide)) (kCs_c (Or.inl rfl) (we_191_ok.deep (by decide)) kCs_n))))
def lb_192_34 (s : sS) (Q : sQ) (P12 : Int → hy_m → Prop) (R : Int → hy_m → Prop) (x2 : Int) (x3 : Int) : Nat → Option (sL → sS → Prop) := sLb [(12, fun lv t => sG [(0, 5, 74), (2, 2, 0), (3, 0, 0)] lv (ap2 (fun w2 w3 => ∃ m', t = sM s m' ∧ w2 = x2 ∧ P12 w3 m')))]
set_option maxRecDepth 30000 in
set_option maxHeartbeats 1000000 in
theorem wk_192_34 (Q : sQ) (R : Int → hy_m → Prop) (s : sS) (P12 : Int → hy_m → Prop) (x2 : Int) (x3 : Int) (hP12 : ∀ (z3 : Int) (m : hy_m), P12 z3 m → sRg [(0, 5, 74), (2, 2, 0), (3, 0, 0)] [x2, z3] → kX dM 5 im_m192 0 12 (sCan [(0, 5, 74), (2, 2, 0), (3, 0, 0)] [x2, z3]) [] (sM s m) Q) (hQ : ∀ x m', R x m' → Q x (sM s m')) (hr : sRg [(0, 5, 74), (2, 2, 0), (3, 0, 0)] [x2, x3]) (h : wq_192_34 P12 x2 x3 s.2.2.2 R) : kX dM 5 im_m192 0 34 (sCan [(0, 5, 74), (2, 2, 0), (3, 0, 0)] [x2, x3]) [] s Q := by
  unfold wq_192_34 at h
  refine wz2_ok (cs := cs_192) (wr := []) (lb := lb_192_34 s Q P12 R x2 x3) cs_192_ok (kLb_c (kLab (Bd := fun xs t => ap2 (fun w2 w3 => ∃ m', t = sM s m' ∧ w2 = x2 ∧ P12 w3 m') xs) rfl (fun xs t r1 r2 hb => by obtain ⟨w2, w3, rfl, hb⟩ := ap2_ok hb; obtain ⟨m', rfl, rfl, hx⟩ := hb; exact hP12 _ m' hx r1)) kLb_n) (okL_can rfl hr) (fun Y hY hl => ?_)
  have l12 := hl 12 _ rfl
  refine hY _ _ _ _ (hY _ _ _ _ (?_ : Y 37 [(0, 5, true, 74), (2, 2, true, x2), (3, 0, true, x3)] [(0, true, (-9)), (0, true, x3)] s))
  refine hY _ _ _ _ ?_
  refine And.intro (fun hc => ?_) (fun hc => ?_)
  · have h := h.1 hc
    refine hY _ _ _ _ (hY _ _ _ _ (hY _ _ _ _ (?_ : Y 55 [(0, 5, true, 74), (2, 2, true, x2), (3, 0, true, x3)] [(5, true, 74), (5, true, 88)] s)))
    refine hY _ _ _ _ (hY _ _ _ _ (hY _ _ _ _ (?_ : Y 60 [(0, 5, true, 74), (2, 2, true, x2), (3, 0, true, x3)] [(0, false, (s.2.2.2 74 25) - 1), (5, true, 88)] s)))
    refine hY _ _ _ _ ?_
    refine (And.intro h.1 (And.intro h.2.1 ?_))
    show Y 61 [(0, 5, true, 74), (2, 2, true, x2), (3, 0, true, x3)] [(0, true, s.2.2.2 88 ((s.2.2.2 74 25) - 1))] s
    refine hY _ _ _ _ ?_
    refine And.intro (fun hc => ?_) (fun hc => ?_)
    · have h := h.2.2.1 hc
      refine hY _ _ _ _ (hY _ _ _ _ (hY _ _ _ _ (?_ : Y 79 [(0, 5, true, 74), (2, 2, true, x2), (3, 0, true, x3)] [(5, true, 74), (5, true, 88)] s)))
      refine hY _ _ _ _ (hY _ _ _ _ (hY _ _ _ _ (?_ : Y 84 [(0, 5, true, 74), (2, 2, true, x2), (3, 0, true, x3)] [(0, false, (s.2.2.2 74 25) - 1), (5, true, 88)] s)))
      refine hY _ _ _ _ ?_
      refine (And.intro h.1 (And.intro h.2.1 ?_))
      refine hY _ _ _ _ (?_ : Y 86 [(0, 5, true, 74), (2, 2, true, x2), (3, 0, true, x3)] [(2, true, 1), (0, true, s.2.2.2 88 ((s.2.2.2 74 25) - 1))] s)
      refine hY _ _ _ _ ?_
      refine And.intro (fun hc => ?_) (fun hc => ?_)
      · have h := h.2.2.1 hc
        refine hY _ _ _ _ (hY _ _ _ _ (?_ : Y 99 [(0, 5, true, 74), (2, 2, true, x2), (3, 0, true, x3)] [(0, true, x3), (5, true, 74)] s))
        refine hY _ _ _ _ ?_
        refine Exists.intro _ (And.intro (wc_191_r74_0t x3 _ _ h) (fun r1 m1 h => ?_))
        refine hY _ _ _ _ (hY _ _ _ _ (?_ : Y 12 [(3, 0, true, r1), (0, 5, true, 74), (2, 2, true, x2)] [] (sM s m1)))
        refine l12 _ _ ?_
        exact (Exists.intro m1 (And.intro rfl (And.intro rfl h)))
      · have h := h.2.2.2 hc
        refine hY _ _ _ _ (hY _ _ _ _ (?_ : Y 91 [(0, 5, true, 74), (2, 2, true, x2), (3, 0, true, x3)] [(0, true, x3), (5, true, 74)] s))
        refine hY _ _ _ _ ?_
        refine Exists.intro _ (And.intro (wc_190_r74_0t x3 _ _ h) (fun r2 m2 h => ?_))
        refine hY _ _ _ _ (hY _ _ _ _ (hY _ _ _ _ (?_ : Y 12 [(3, 0, true, r2), (0, 5, true, 74), (2, 2, true, x2)] [] (sM s m2))))
        refine l12 _ _ ?_
        exact (Exists.intro m2 (And.intro rfl (And.intro rfl h)))
    · have h := h.2.2.2 hc
      refine hY _ _ _ _ (hY _ _ _ _ (hY _ _ _ _ (?_ : Y 67 [(0, 5, true, 74), (2, 2, true, x2), (3, 0, true, x3)] [(2, true, x2), (0, true, x3), (5, true, 74)] s)))
      refine hY _ _ _ _ ?_
      refine Exists.intro _ (And.intro (wc_189_r74_0t_2t x3 x2 _ _ h) (fun r3 m3 h => ?_))
      refine hY _ _ _ _ (hY _ _ _ _ (?_ : Y 12 [(3, 0, true, r3), (0, 5, true, 74), (2, 2, true, x2)] [] (sM s m3)))
      refine l12 _ _ ?_
      exact (Exists.intro m3 (And.intro rfl (And.intro rfl h)))
  · have h := h.2 hc
    refine hY _ _ _ _ (hY _ _ _ _ (hY _ _ _ _ (?_ : Y 43 [(0, 5, true, 74), (2, 2, true, x2), (3, 0, true, x3)] [(2, true, 0), (2, true, 0), (5, true, 74)] s)))
    refine hY _ _ _ _ ?_
    refine Exists.intro _ (And.intro (wc_186_r74_2t_2t 0 0 _ _ h) (fun r4 m4 h => ?_))
    refine hY _ _ _ _ (hY _ _ _ _ (?_ : Y 12 [(3, 0, true, r4), (0, 5, true, 74), (2, 2, true, x2)] [] (sM s m4)))
    refine l12 _ _ ?_
    exact (Exists.intro m4 (And.intro rfl (And.intro rfl h)))
def lb_192_12 (s : sS) (Q : sQ) (P12 : Int → hy_m → Prop) (R : Int → hy_m → Prop) (x2 : Int) (x3 : Int) : Nat → Option (sL → sS → Prop) := sLb [(34, fun lv t => sG [(0, 5, 74), (2, 2, 0), (3, 0, 0)] lv (ap2 (fun w2 w3 => ∃ m', t = sM s m' ∧ w2 = x2 ∧ wq_192_34 P12 w2 w3 m' R))), (12, fun lv t => sG [(0, 5, 74), (2, 2, 0), (3, 0, 0)] lv (ap2 (fun w2 w3 => ∃ m', t = sM s m' ∧ w2 = x2 ∧ P12 w3 m')))]
set_option maxRecDepth 30000 in
set_option maxHeartbeats 1000000 in
theorem wj_192_12 (Q : sQ) (R : Int → hy_m → Prop) (s : sS) (P12 : Int → hy_m → Prop) (x2 : Int) (x3 : Int) (m : hy_m) (hP12 : ∀ (z3 : Int) (m : hy_m), P12 z3 m → sRg [(0, 5, 74), (2, 2, 0), (3, 0, 0)] [x2, z3] → kX dM 5 im_m192 0 12 (sCan [(0, 5, 74), (2, 2, 0), (3, 0, 0)] [x2, z3]) [] (sM s m) Q) (hQ : ∀ x m', R x m' → Q x (sM s m')) (hr : sRg [(0, 5, 74), (2, 2, 0), (3, 0, 0)] [x2, x3]) (h : wf_192_12 x2 R P12 x3 m) : kX dM 5 im_m192 0 12 (sCan [(0, 5, 74), (2, 2, 0), (3, 0, 0)] [x2, x3]) [] (sM s m) Q := by
  unfold wf_192_12 at h
  refine wz2_ok (cs := cs_192) (wr := []) (lb := lb_192_12 s Q P12 R x2 x3) cs_192_ok (kLb_c (kLab (Bd := fun xs t => ap2 (fun w2 w3 => ∃ m', t = sM s m' ∧ w2 = x2 ∧ wq_192_34 P12 w2 w3 m' R) xs) rfl (fun xs t r1 r2 hb => by obtain ⟨w2, w3, rfl, hb⟩ := ap2_ok hb; obtain ⟨m', rfl, rfl, hx⟩ := hb; exact wk_192_34 Q R (sM s m') P12 _ _ hP12 (fun x m'' hy => hQ x m'' hy) r1 hx)) (kLb_c (kLab (Bd := fun xs t => ap2 (fun w2 w3 => ∃ m', t = sM s m' ∧ w2 = x2 ∧ P12 w3 m') xs) rfl (fun xs t r1 r2 hb => by obtain ⟨w2, w3, rfl, hb⟩ := ap2_ok hb; obtain ⟨m', rfl, rfl, hx⟩ := hb; exact hP12 _ m' hx r1)) kLb_n)) (okL_can rfl hr) (fun Y hY hl => ?_)
  have l34 := hl 34 _ rfl
  have l12 := hl 12 _ rfl
  refine hY _ _ _ _ (hY _ _ _ _ (hY _ _ _ _ (?_ : Y 18 [(0, 5, true, 74), (2, 2, true, x2), (3, 0, true, x3)] [(0, true, (-9)), (0, true, m 74 18)] (sM s m))))
  refine hY _ _ _ _ ?_
  refine And.intro (fun hc => ?_) (fun hc => ?_)
  · have h := h.1 hc
    refine hY _ _ _ _ (?_ : Y 107 [(0, 5, true, 74), (2, 2, true, x2), (3, 0, true, x3)] [(0, true, x3)] (sM s m))
    refine hY _ _ _ _ ?_
    exact hQ x3 m h
  · have h := h.2 hc
    refine hY _ _ _ _ (hY _ _ _ _ (?_ : Y 24 [(0, 5, true, 74), (2, 2, true, x2), (3, 0, true, x3)] [(0, true, (-9)), (0, true, x3)] (sM s m)))
    refine hY _ _ _ _ ?_
    refine And.intro (fun hc => ?_) (fun hc => ?_)
    · have h := h.1 hc
      show Y 34 [(0, 5, true, 74), (2, 2, true, x2), (3, 0, true, x3)] [] (sM s m)
      refine l34 _ _ ?_
      exact (Exists.intro m (And.intro rfl (And.intro rfl h)))
    · have h := h.2 hc
      refine hY _ _ _ _ (hY _ _ _ _ (?_ : Y 31 [(0, 5, true, 74), (2, 2, true, x2), (3, 0, true, x3)] [(0, true, m 74 25)] (sM s m)))
      refine hY _ _ _ _ ?_
      refine And.intro (fun hc => ?_) (fun hc => ?_)
      · have h := h.1 hc
        refine hY _ _ _ _ (?_ : Y 107 [(0, 5, true, 74), (2, 2, true, x2), (3, 0, true, x3)] [(0, true, x3)] (sM s m))
        refine hY _ _ _ _ ?_
        exact hQ x3 m h
      · have h := h.2 hc
        show Y 34 [(0, 5, true, 74), (2, 2, true, x2), (3, 0, true, x3)] [] (sM s m)
        refine l34 _ _ ?_
        exact (Exists.intro m (And.intro rfl (And.intro rfl h)))
theorem wk_192_12 (Q : sQ) (R : Int → hy_m → Prop) (s : sS) (x2 : Int) (x3 : Int) (hQ : ∀ x m', R x m' → Q x (sM s m')) (hr : sRg [(0, 5, 74), (2, 2, 0), (3, 0, 0)] [x2, x3]) (h : wq_192_12 x2 x3 s.2.2.2 R) : kX dM 5 im_m192 0 12 (sCan [(0, 5, 74), (2, 2, 0), (3, 0, 0)] [x2, x3]) [] s Q :=
  h (fun x3 m => sRg [(0, 5, 74), (2, 2, 0), (3, 0, 0)] [x2, x3] → kX dM 5 im_m192 0 12 (sCan [(0, 5, 74), (2, 2, 0), (3, 0, 0)] [x2, x3]) [] (sM s m) Q) (fun x3 m h hr => wj_192_12 Q R s (fun x3 m => sRg [(0, 5, 74), (2, 2, 0), (3, 0, 0)] [x2, x3] → kX dM 5 im_m192 0 12 (sCan [(0, 5, 74), (2, 2, 0), (3, 0, 0)] [x2, x3]) [] (sM s m) Q) x2 x3 m  (fun _ _ hp hr => hp hr) hQ hr h) hr
def lb_192_0 (s : sS) (Q : sQ) (R : Int → hy_m → Prop) (x1 : Int) (x2 : Int) : Nat → Option (sL → sS → Prop) := sLb [(12, fun lv t => sG [(0, 5, 74), (2, 2, 0), (3, 0, 0)] lv (ap2 (fun w2 w3 => ∃ m', t = sM s m' ∧ wq_192_12 w2 w3 m' R)))]
set_option maxRecDepth 30000 in
set_option maxHeartbeats 1000000 in
theorem wk_192_0 (Q : sQ) (R : Int → hy_m → Prop) (s : sS) (x1 : Int) (x2 : Int) (hQ : ∀ x m', R x m' → Q x (sM s m')) (hr : sRg [(0, 5, 74), (1, 2, 0), (2, 2, 0)] [x1, x2]) (h : wq_192 x1 x2 s.2.2.2 R) : kX dM 5 im_m192 0 0 (sCan [(0, 5, 74), (1, 2, 0), (2, 2, 0)] [x1, x2]) [] s Q := by
  unfold wq_192 at h
  refine wz2_ok (cs := cs_192) (wr := []) (lb := lb_192_0 s Q R x1 x2) cs_192_ok (kLb_c (kLab (Bd := fun xs t => ap2 (fun w2 w3 => ∃ m', t = sM s m' ∧ wq_192_12 w2 w3 m' R) xs) rfl (fun xs t r1 r2 hb => by obtain ⟨w2, w3, rfl, hb⟩ := ap2_ok hb; obtain ⟨m', rfl, hx⟩ := hb; exact wk_192_12 Q R (sM s m') _ _ (fun x m'' hy => hQ x m'' hy) r1 hx)) kLb_n) (okL_can rfl hr) (fun Y hY hl => ?_)
  have l12 := hl 12 _ rfl
  refine hY _ _ _ _ (hY _ _ _ _ (?_ : Y 2 [(0, 5, true, 74), (1, 2, true, x1), (2, 2, true, x2)] [(2, true, 0), (5, true, 74)] s))
  refine hY _ _ _ _ ?_
  refine hY _ _ _ _ (hY _ _ _ _ (hY _ _ _ _ (?_ : Y 8 [(0, 5, true, 74), (1, 2, true, x1), (2, 2, true, x2)] [(2, true, x2), (2, true, x1), (5, true, 74)] (sM s (hy_u s.2.2.2 74 25 0)))))
  refine hY _ _ _ _ ?_
  refine Exists.intro _ (And.intro (wc_186_r74_2t_2t x1 x2 _ _ h) (fun r1 m1 h => ?_))
  refine hY _ _ _ _ (?_ : Y 12 [(3, 0, true, r1), (0, 5, true, 74), (1, 2, true, x1), (2, 2, true, x2)] [] (sM s m1))
  refine l12 _ _ ?_
  exact (Exists.intro m1 (And.intro rfl h))
def we_192 : sFf := sEf 4 [(0, 5, 74), (1, 2, 0), (2, 2, 0)] (fun xs s Q => ap2 (fun x1 x2 => wq_192 x1 x2 s.2.2.2 Q) xs)
theorem we_192_ok : kS dM 6 192 0 (.inl we_192) := sEf_ok (mi := im_m192) rfl rfl rfl (fun R xs s r1 hb => by obtain ⟨x1, x2, rfl, hb⟩ := ap2_ok hb; exact wk_192_0 _ R s x1 x2 (fun x m' hx => ⟨m', rfl, hx⟩) r1 hb)
/-- LMModel.beginSlot(I)V -/
def wq_193 (x1 : Int) (m : hy_m) (Q : Int → hy_m → Prop) : Prop := 0 ≤ x1 ∧ x1 < 28 ∧ (0 ≤ x1 ∧ x1 < 28 ∧ (0 ≤ x1 ∧ x1 < 28 ∧ (Q 0 (hy_u (hy_u (hy_u (hy_u (hy_u m 74 19 x1) 80 x1 0) 82 x1 0) 81 x1 (-9)) 74 21 0))))
def cs_193 : List (Nat × Nat × sFS) := []
theorem cs_193_ok : kCs dM 0 cs_193 := kCs_n
def lb_193_0 (s : sS) (Q : sQ) (R : Int → hy_m → Prop) (x1 : Int) : Nat → Option (sL → sS → Prop) := sLb []
set_option maxRecDepth 30000 in
set_option maxHeartbeats 1000000 in
theorem wk_193_0 (Q : sQ) (R : Int → hy_m → Prop) (s : sS) (x1 : Int) (hQ : ∀ x m', R x m' → Q x (sM s m')) (hr : sRg [(0, 5, 74), (1, 0, 0)] [x1]) (h : wq_193 x1 s.2.2.2 R) : kX dM 0 im_m193 9 0 (sCan [(0, 5, 74), (1, 0, 0)] [x1]) [] s Q := by
  unfold wq_193 at h
  refine wz2_ok (cs := cs_193) (wr := []) (lb := lb_193_0 s Q R x1) cs_193_ok kLb_n (okL_can rfl hr) (fun Y hY hl => ?_)
  refine hY _ _ _ _ (hY _ _ _ _ (?_ : Y 2 [(0, 5, true, 74), (1, 0, true, x1)] [(0, true, x1), (5, true, 74)] s))
  refine hY _ _ _ _ ?_
  refine hY _ _ _ _ (hY _ _ _ _ (hY _ _ _ _ (?_ : Y 10 [(0, 5, true, 74), (1, 0, true, x1)] [(0, true, x1), (5, true, 80)] (sM s (hy_u s.2.2.2 74 19 x1)))))
  refine hY _ _ _ _ (?_ : Y 11 [(0, 5, true, 74), (1, 0, true, x1)] [(2, true, 0), (0, true, x1), (5, true, 80)] (sM s (hy_u s.2.2.2 74 19 x1)))
  refine hY _ _ _ _ ?_
  refine (And.intro h.1 (And.intro h.2.1 ?_))
  refine hY _ _ _ _ (hY _ _ _ _ (hY _ _ _ _ (?_ : Y 17 [(0, 5, true, 74), (1, 0, true, x1)] [(0, true, x1), (5, true, 82)] (sM s (hy_u (hy_u s.2.2.2 74 19 x1) 80 x1 0)))))
  refine hY _ _ _ _ (?_ : Y 18 [(0, 5, true, 74), (1, 0, true, x1)] [(2, true, 0), (0, true, x1), (5, true, 82)] (sM s (hy_u (hy_u s.2.2.2 74 19 x1) 80 x1 0)))
  refine hY _ _ _ _ ?_
  refine (And.intro h.2.2.1 (And.intro h.2.2.2.1 ?_))
  refine hY _ _ _ _ (hY _ _ _ _ (hY _ _ _ _ (?_ : Y 24 [(0, 5, true, 74), (1, 0, true, x1)] [(0, true, x1), (5, true, 81)] (sM s (hy_u (hy_u (hy_u s.2.2.2 74 19 x1) 80 x1 0) 82 x1 0)))))
  refine hY _ _ _ _ (?_ : Y 26 [(0, 5, true, 74), (1, 0, true, x1)] [(0, true, (-9)), (0, true, x1), (5, true, 81)] (sM s (hy_u (hy_u (hy_u s.2.2.2 74 19 x1) 80 x1 0) 82 x1 0)))
  refine hY _ _ _ _ ?_
  refine (And.intro h.2.2.2.2.1 (And.intro h.2.2.2.2.2.1 ?_))
  refine hY _ _ _ _ (hY _ _ _ _ (?_ : Y 29 [(0, 5, true, 74), (1, 0, true, x1)] [(2, true, 0), (5, true, 74)] (sM s (hy_u (hy_u (hy_u (hy_u s.2.2.2 74 19 x1) 80 x1 0) 82 x1 0) 81 x1 (-9)))))
  refine hY _ _ _ _ ?_
  show Y 32 [(0, 5, true, 74), (1, 0, true, x1)] [] (sM s (hy_u (hy_u (hy_u (hy_u (hy_u s.2.2.2 74 19 x1) 80 x1 0) 82 x1 0) 81 x1 (-9)) 74 21 0))
  refine hY _ _ _ _ ?_
  exact hQ 0 (hy_u (hy_u (hy_u (hy_u (hy_u s.2.2.2 74 19 x1) 80 x1 0) 82 x1 0) 81 x1 (-9)) 74 21 0) h.2.2.2.2.2.2
def we_193 : sFf := sEf 2 [(0, 5, 74), (1, 0, 0)] (fun xs s Q => ap1 (fun x1 => wq_193 x1 s.2.2.2 Q) xs)
theorem we_193_ok : kS dM 1 193 9 (.inl we_193) := sEf_ok (mi := im_m193) rfl rfl rfl (fun R xs s r1 hb => by obtain ⟨x1, rfl, hb⟩ := ap1_ok hb; exact wk_193_0 _ R s x1 (fun x m' hx => ⟨m', rfl, hx⟩) r1 hb)
/-- LMModel.endsHere()V -/
def wq_195 (m : hy_m) (Q : Int → hy_m → Prop) : Prop := 0 ≤ (m 74 19) ∧ (m 74 19) < 28 ∧ (((m 74 18) ≠ (-9) → (((m 74 18) ≠ (-9) → (Q 0 (hy_u m 84 (m 74 19) (m 74 21)))) ∧ ((m 74 18) = (-9) → (wq_179 (hy_u m 84 (m 74 19) (m 74 21)) (fun _ m1 => Q 0 m1))))) ∧ ((m 74 18) = (-9) → (((m 74 15) = 4 → (((m 74 18) ≠ (-9) → (Q 0 (hy_u m 84 (m 74 19) (m 74 21)))) ∧ ((m 74 18) = (-9) → (wq_179 (hy_u m 84 (m 74 19) (m 74 21)) (fun _ m2 => Q 0 m2))))) ∧ ((m 74 15) ≠ 4 → (wq_180 (hy_u m 84 (m 74 19) (m 74 21)) (fun r3 m3 => Q 0 m3))))))
def cs_195 : List (Nat × Nat × sFS) := [(179, 9, .inl we_179), (180, 0, .inl we_180)]
theorem cs_195_ok : kCs dM 3 cs_195 := (kCs_c (Or.inr (Or.inr (Or.inr (Or.inr rfl)))) (we_179_ok.deep (by decide)) (kCs_c (Or.inl rfl) (we_180_ok.deep (by decide)) kCs_n))
def lb_195_0 (s : sS) (Q : sQ) (R : Int → hy_m → Prop) : Nat → Option (sL → sS → Prop) := sLb []
set_option maxRecDepth 30000 in
set_option maxHeartbeats 1000000 in
theorem wk_195_0 (Q : sQ) (R : Int → hy_m → Prop) (s : sS) (hQ : ∀ x m', R x m' → Q x (sM s m')) (hr : sRg [(0, 5, 74)] []) (h : wq_195 s.2.2.2 R) : kX dM 3 im_m195 9 0 (sCan [(0, 5, 74)] []) [] s Q := by
  unfold wq_195 at h
  refine wz2_ok (cs := cs_195) (wr := []) (lb := lb_195_0 s Q R) cs_195_ok kLb_n (okL_can rfl hr) (fun Y hY hl => ?_)
  refine hY _ _ _ _ (hY _ _ _ _ (hY _ _ _ _ (?_ : Y 5 [(0, 5, true, 74)] [(5, true, 74), (5, true, 84)] s)))
  refine hY _ _ _ _ (hY _ _ _ _ (hY _ _ _ _ (?_ : Y 12 [(0, 5, true, 74)] [(0, true, s.2.2.2 74 21), (0, true, s.2.2.2 74 19), (5, true, 84)] s)))
  refine hY _ _ _ _ ?_
  refine (And.intro h.1 (And.intro h.2.1 ?_))
  refine hY _ _ _ _ (hY _ _ _ _ (hY _ _ _ _ (?_ : Y 19 [(0, 5, true, 74)] [(0, true, (-9)), (0, true, s.2.2.2 74 18)] (sM s (hy_u s.2.2.2 84 (s.2.2.2 74 19) (s.2.2.2 74 21))))))
  refine hY _ _ _ _ ?_
  refine And.intro (fun hc => ?_) (fun hc => ?_)
  · have h := h.2.2.1 hc
    refine hY _ _ _ _ (hY _ _ _ _ (hY _ _ _ _ (?_ : Y 44 [(0, 5, true, 74)] [(0, true, (-9)), (0, true, s.2.2.2 74 18)] (sM s (hy_u s.2.2.2 84 (s.2.2.2 74 19) (s.2.2.2 74 21))))))
    refine hY _ _ _ _ ?_
    refine And.intro (fun hc => ?_) (fun hc => ?_)
    · have h := h.1 hc
      show Y 51 [(0, 5, true, 74)] [] (sM s (hy_u s.2.2.2 84 (s.2.2.2 74 19) (s.2.2.2 74 21)))
      refine hY _ _ _ _ ?_
      exact hQ 0 (hy_u s.2.2.2 84 (s.2.2.2 74 19) (s.2.2.2 74 21)) h
    · have h := h.2 hc
      refine hY _ _ _ _ (?_ : Y 48 [(0, 5, true, 74)] [(5, true, 74)] (sM s (hy_u s.2.2.2 84 (s.2.2.2 74 19) (s.2.2.2 74 21))))
      refine hY _ _ _ _ ?_
      refine Exists.intro _ (And.intro (wc_179_r74 _ _ h) (fun r1 m1 h => ?_))
      show Y 51 [(0, 5, true, 74)] [] (sM s m1)
      refine hY _ _ _ _ ?_
      exact hQ 0 m1 h
  · have h := h.2.2.2 hc
    refine hY _ _ _ _ (hY _ _ _ _ (hY _ _ _ _ (?_ : Y 27 [(0, 5, true, 74)] [(0, true, 4), (0, true, s.2.2.2 74 15)] (sM s (hy_u s.2.2.2 84 (s.2.2.2 74 19) (s.2.2.2 74 21))))))
    refine hY _ _ _ _ ?_
    refine And.intro (fun hc => ?_) (fun hc => ?_)
    · have h := h.1 hc
      refine hY _ _ _ _ (hY _ _ _ _ (hY _ _ _ _ (?_ : Y 44 [(0, 5, true, 74)] [(0, true, (-9)), (0, true, s.2.2.2 74 18)] (sM s (hy_u s.2.2.2 84 (s.2.2.2 74 19) (s.2.2.2 74 21))))))
      refine hY _ _ _ _ ?_
      refine And.intro (fun hc => ?_) (fun hc => ?_)
      · have h := h.1 hc
        show Y 51 [(0, 5, true, 74)] [] (sM s (hy_u s.2.2.2 84 (s.2.2.2 74 19) (s.2.2.2 74 21)))
        refine hY _ _ _ _ ?_
        exact hQ 0 (hy_u s.2.2.2 84 (s.2.2.2 74 19) (s.2.2.2 74 21)) h
      · have h := h.2 hc
        refine hY _ _ _ _ (?_ : Y 48 [(0, 5, true, 74)] [(5, true, 74)] (sM s (hy_u s.2.2.2 84 (s.2.2.2 74 19) (s.2.2.2 74 21))))
        refine hY _ _ _ _ ?_
        refine Exists.intro _ (And.intro (wc_179_r74 _ _ h) (fun r2 m2 h => ?_))
        show Y 51 [(0, 5, true, 74)] [] (sM s m2)
        refine hY _ _ _ _ ?_
        exact hQ 0 m2 h
    · have h := h.2 hc
      refine hY _ _ _ _ (?_ : Y 31 [(0, 5, true, 74)] [(5, true, 74)] (sM s (hy_u s.2.2.2 84 (s.2.2.2 74 19) (s.2.2.2 74 21))))
      refine hY _ _ _ _ ?_
      refine Exists.intro _ (And.intro (wc_180_r74 _ _ h) (fun r3 m3 h => ?_))
      refine hY _ _ _ _ (hY _ _ _ _ (?_ : Y 51 [(1, 0, true, r3), (0, 5, true, 74)] [] (sM s m3)))
      refine hY _ _ _ _ ?_
      exact hQ 0 m3 h
def we_195 : sFf := sEf 2 [(0, 5, 74)] (fun xs s Q => ap0 (wq_195 s.2.2.2 Q) xs)
theorem we_195_ok : kS dM 4 195 9 (.inl we_195) := sEf_ok (mi := im_m195) rfl rfl rfl (fun R xs s r1 hb => by obtain ⟨rfl, hb⟩ := ap0_ok hb; exact wk_195_0 _ R s (fun x m' hx => ⟨m', rfl, hx⟩) r1 hb)
/-- LMModel.readGoals()V -/
def wf_194_2 (Q : Int → hy_m → Prop) (P2 : Int → hy_m → Prop) (x1 : Int) (m : hy_m) : Prop := (x1 = 0 → (wq_195 m (fun _ m1 => Q 0 m1))) ∧ (x1 ≠ 0 → (((m 74 18) ≠ (-9) → (wq_195 m (fun _ m2 => Q 0 m2))) ∧ ((m 74 18) = (-9) → (wq_192 1 0 m (fun r3 m3 => ((m3 74 18) ≠ (-9) → (P2 x1 m3)) ∧ ((m3 74 18) = (-9) → (0 ≤ (m3 74 19) ∧ (m3 74 19) < 28 ∧ (0 ≤ ((5 * (m3 74 19)) + (m3 82 (m3 74 19))) ∧ ((5 * (m3 74 19)) + (m3 82 (m3 74 19))) < 140 ∧ (0 ≤ (m3 74 19) ∧ (m3 74 19) < 28 ∧ (0 ≤ (m3 74 19) ∧ (m3 74 19) < 28 ∧ (hy_r 0 ((m3 82 (m3 74 19)) + 1) ∧ (((m3 74 15) ≠ 5 → (((0 : Int) = 0 → (P2 0 (hy_u (hy_u m3 83 ((5 * (m3 74 19)) + (m3 82 (m3 74 19))) r3) 82 (m3 74 19) ((m3 82 (m3 74 19)) + 1)))) ∧ ((0 : Int) ≠ 0 → (wq_179 (hy_u (hy_u m3 83 ((5 * (m3 74 19)) + (m3 82 (m3 74 19))) r3) 82 (m3 74 19) ((m3 82 (m3 74 19)) + 1)) (fun _ m4 => P2 0 m4))))) ∧ ((m3 74 15) = 5 → (0 ≤ (m3 74 19) ∧ (m3 74 19) < 28 ∧ ((5 ≤ ((hy_u (hy_u m3 83 ((5 * (m3 74 19)) + (m3 82 (m3 74 19))) r3) 82 (m3 74 19) ((m3 82 (m3 74 19)) + 1)) 82 (m3 74 19)) → (((0 : Int) = 0 → (P2 0 (hy_u (hy_u m3 83 ((5 * (m3 74 19)) + (m3 82 (m3 74 19))) r3) 82 (m3 74 19) ((m3 82 (m3 74 19)) + 1)))) ∧ ((0 : Int) ≠ 0 → (wq_179 (hy_u (hy_u m3 83 ((5 * (m3 74 19)) + (m3 82 (m3 74 19))) r3) 82 (m3 74 19) ((m3 82 (m3 74 19)) + 1)) (fun _ m5 => P2 0 m5))))) ∧ (((hy_u (hy_u m3 83 ((5 * (m3 74 19)) + (m3 82 (m3 74 19))) r3) 82 (m3 74 19) ((m3 82 (m3 74 19)) + 1)) 82 (m3 74 19)) < 5 → (((1 : Int) = 0 → (P2 1 (hy_u (hy_u m3 83 ((5 * (m3 74 19)) + (m3 82 (m3 74 19))) r3) 82 (m3 74 19) ((m3 82 (m3 74 19)) + 1)))) ∧ ((1 : Int) ≠ 0 → (wq_179 (hy_u (hy_u m3 83 ((5 * (m3 74 19)) + (m3 82 (m3 74 19))) r3) 82 (m3 74 19) ((m3 82 (m3 74 19)) + 1)) (fun _ m6 => P2 1 m6))))))))))))))))))))
def wq_194_2 (x1 : Int) (m : hy_m) (Q : Int → hy_m → Prop) : Prop := wL1 hy_m (wf_194_2 Q) x1 m
def wq_194 (m : hy_m) (Q : Int → hy_m → Prop) : Prop := wq_194_2 1 m Q
theorem wc_195_r74 (s : sS) (R : Int → hy_m → Prop) (h : wq_195 s.2.2.2 R) : we_195 [(5, true, 74)] s R := h
theorem wc_192_r74_2t_2t (x1 : Int) (x2 : Int) (s : sS) (R : Int → hy_m → Prop) (h : wq_192 x1 x2 s.2.2.2 R) : we_192 [(5, true, 74), (2, true, x1), (2, true, x2)] s R := h
def cs_194 : List (Nat × Nat × sFS) := [(179, 9, .inl we_179), (192, 0, .inl we_192), (195, 9, .inl we_195)]
theorem cs_194_ok : kCs dM 6 cs_194 := (kCs_c (Or.inr (Or.inr (Or.inr (Or.inr rfl)))) (we_179_ok.deep (by decide)) (kCs_c (Or.inl rfl) (we_192_ok.deep (by decide)) (kCs_c (Or.inr (Or.inr (Or.inr (Or.inr rfl)))) (we_195_ok.deep (by decide)) kCs_n)))
def lb_194_2 (s : sS) (Q : sQ) (P2 : Int → hy_m → Prop) (R : Int → hy_m → Prop) (x1 : Int) : Nat → Option (sL → sS → Prop) := sLb [(2, fun lv t => sG [(0, 5, 74), (1, 2, 0)] lv (ap1 (fun w1 => ∃ m', t = sM s m' ∧ P2 w1 m')))]
set_option maxRecDepth 30000 in
set_option maxHeartbeats 1000000 in
theorem wj_194_2 (Q : sQ) (R : Int → hy_m → Prop) (s : sS) (P2 : Int → hy_m → Prop) (x1 : Int) (m : hy_m) (hP2 : ∀ (z1 : Int) (m : hy_m), P2 z1 m → sRg [(0, 5, 74), (1, 2, 0)] [z1] → kX dM 6 im_m194 9 2 (sCan [(0, 5, 74), (1, 2, 0)] [z1]) [] (sM s m) Q) (hQ : ∀ x m', R x m' → Q x (sM s m')) (hr : sRg [(0, 5, 74), (1, 2, 0)] [x1]) (h : wf_194_2 R P2 x1 m) : kX dM 6 im_m194 9 2 (sCan [(0, 5, 74), (1, 2, 0)] [x1]) [] (sM s m) Q := by
  unfold wf_194_2 at h
  refine wz2_ok (cs := cs_194) (wr := []) (lb := lb_194_2 s Q P2 R x1) cs_194_ok (kLb_c (kLab (Bd := fun xs t => ap1 (fun w1 => ∃ m', t = sM s m' ∧ P2 w1 m') xs) rfl (fun xs t r1 r2 hb => by obtain ⟨w1, rfl, hb⟩ := ap1_ok hb; obtain ⟨m', rfl, hx⟩ := hb; exact hP2 _ m' hx r1)) kLb_n) (okL_can rfl hr) (fun Y hY hl => ?_)
  have l2 := hl 2 _ rfl
  refine hY _ _ _ _ (?_ : Y 3 [(0, 5, true, 74), (1, 2, true, x1)] [(2, true, x1)] (sM s m))
  refine hY _ _ _ _ ?_
  refine And.intro (fun hc => ?_) (fun hc => ?_)
  · have h := h.1 hc
    refine hY _ _ _ _ (?_ : Y 105 [(0, 5, true, 74), (1, 2, true, x1)] [(5, true, 74)] (sM s m))
    refine hY _ _ _ _ ?_
    refine Exists.intro _ (And.intro (wc_195_r74 _ _ h) (fun r1 m1 h => ?_))
    show Y 108 [(0, 5, true, 74), (1, 2, true, x1)] [] (sM s m1)
    refine hY _ _ _ _ ?_
    exact hQ 0 m1 h
  · have h := h.2 hc
    refine hY _ _ _ _ (hY _ _ _ _ (hY _ _ _ _ (?_ : Y 12 [(0, 5, true, 74), (1, 2, true, x1)] [(0, true, (-9)), (0, true, m 74 18)] (sM s m))))
    refine hY _ _ _ _ ?_
    refine And.intro (fun hc => ?_) (fun hc => ?_)
    · have h := h.1 hc
      refine hY _ _ _ _ (?_ : Y 105 [(0, 5, true, 74), (1, 2, true, x1)] [(5, true, 74)] (sM s m))
      refine hY _ _ _ _ ?_
      refine Exists.intro _ (And.intro (wc_195_r74 _ _ h) (fun r2 m2 h => ?_))
      show Y 108 [(0, 5, true, 74), (1, 2, true, x1)] [] (sM s m2)
      refine hY _ _ _ _ ?_
      exact hQ 0 m2 h
    · have h := h.2 hc
      refine hY _ _ _ _ (hY _ _ _ _ (hY _ _ _ _ (?_ : Y 18 [(0, 5, true, 74), (1, 2, true, x1)] [(2, true, 0), (2, true, 1), (5, true, 74)] (sM s m))))
      refine hY _ _ _ _ ?_
      refine Exists.intro _ (And.intro (wc_192_r74_2t_2t 1 0 _ _ h) (fun r3 m3 h => ?_))
      refine hY _ _ _ _ (hY _ _ _ _ (hY _ _ _ _ (?_ : Y 26 [(2, 0, true, r3), (0, 5, true, 74), (1, 2, true, x1)] [(0, true, m3 74 18)] (sM s m3))))
      refine hY _ _ _ _ (?_ : Y 28 [(2, 0, true, r3), (0, 5, true, 74), (1, 2, true, x1)] [(0, true, (-9)), (0, true, m3 74 18)] (sM s m3))
      refine hY _ _ _ _ ?_
      refine And.intro (fun hc => ?_) (fun hc => ?_)
      · have h := h.1 hc
        refine hY _ _ _ _ (?_ : Y 2 [(2, 0, true, r3), (0, 5, true, 74), (1, 2, true, x1)] [] (sM s m3))
        refine l2 _ _ ?_
        exact (Exists.intro m3 (And.intro rfl h))
      · have h := h.2 hc
        refine hY _ _ _ _ (hY _ _ _ _ (hY _ _ _ _ (?_ : Y 36 [(2, 0, true, r3), (0, 5, true, 74), (1, 2, true, x1)] [(0, true, 5), (5, true, 83)] (sM s m3))))
        refine hY _ _ _ _ (hY _ _ _ _ (hY _ _ _ _ (?_ : Y 41 [(2, 0, true, r3), (0, 5, true, 74), (1, 2, true, x1)] [(0, false, 5 * (m3 74 19)), (5, true, 83)] (sM s m3))))
        refine hY _ _ _ _ (hY _ _ _ _ (hY _ _ _ _ (?_ : Y 46 [(2, 0, true, r3), (0, 5, true, 74), (1, 2, true, x1)] [(5, true, 74), (5, true, 82), (0, false, 5 * (m3 74 19)), (5, true, 83)] (sM s m3))))
        refine hY _ _ _ _ (?_ : Y 49 [(2, 0, true, r3), (0, 5, true, 74), (1, 2, true, x1)] [(0, true, m3 74 19), (5, true, 82), (0, false, 5 * (m3 74 19)), (5, true, 83)] (sM s m3))
        refine hY _ _ _ _ ?_
        refine (And.intro h.1 (And.intro h.2.1 ?_))
        refine hY _ _ _ _ (hY _ _ _ _ (?_ : Y 52 [(2, 0, true, r3), (0, 5, true, 74), (1, 2, true, x1)] [(0, true, r3), (0, false, (5 * (m3 74 19)) + (m3 82 (m3 74 19))), (5, true, 83)] (sM s m3)))
        refine hY _ _ _ _ ?_
        refine (And.intro h.2.2.1 (And.intro h.2.2.2.1 ?_))
        refine hY _ _ _ _ (hY _ _ _ _ (hY _ _ _ _ (?_ : Y 58 [(2, 0, true, r3), (0, 5, true, 74), (1, 2, true, x1)] [(5, true, 74), (5, true, 82)] (sM s (hy_u m3 83 ((5 * (m3 74 19)) + (m3 82 (m3 74 19))) r3)))))
        refine hY _ _ _ _ (hY _ _ _ _ (?_ : Y 62 [(2, 0, true, r3), (0, 5, true, 74), (1, 2, true, x1)] [(0, true, m3 74 19), (5, true, 82), (0, true, m3 74 19), (5, true, 82)] (sM s (hy_u m3 83 ((5 * (m3 74 19)) + (m3 82 (m3 74 19))) r3))))
        refine hY _ _ _ _ ?_
        refine (And.intro h.2.2.2.2.1 (And.intro h.2.2.2.2.2.1 ?_))
        refine hY _ _ _ _ (hY _ _ _ _ (?_ : Y 65 [(2, 0, true, r3), (0, 5, true, 74), (1, 2, true, x1)] [(0, false, (m3 82 (m3 74 19)) + 1), (0, true, m3 74 19), (5, true, 82)] (sM s (hy_u m3 83 ((5 * (m3 74 19)) + (m3 82 (m3 74 19))) r3))))
        refine hY _ _ _ _ ?_
        refine (And.intro h.2.2.2.2.2.2.1 (And.intro h.2.2.2.2.2.2.2.1 ?_))
        refine And.intro h.2.2.2.2.2.2.2.2.1 ?_
        refine hY _ _ _ _ (hY _ _ _ _ (hY _ _ _ _ (?_ : Y 71 [(2, 0, true, r3), (0, 5, true, 74), (1, 2, true, x1)] [(0, true, 5), (0, true, m3 74 15)] (sM s (hy_u (hy_u m3 83 ((5 * (m3 74 19)) + (m3 82 (m3 74 19))) r3) 82 (m3 74 19) ((m3 82 (m3 74 19)) + 1))))))
        refine hY _ _ _ _ ?_
        refine And.intro (fun hc => ?_) (fun hc => ?_)
        · have h := h.2.2.2.2.2.2.2.2.2.1 hc
          refine hY _ _ _ _ (hY _ _ _ _ (hY _ _ _ _ (?_ : Y 94 [(1, 2, true, 0), (2, 0, true, r3), (0, 5, true, 74)] [(2, true, 0)] (sM s (hy_u (hy_u m3 83 ((5 * (m3 74 19)) + (m3 82 (m3 74 19))) r3) 82 (m3 74 19) ((m3 82 (m3 74 19)) + 1))))))
          refine hY _ _ _ _ ?_
          refine And.intro (fun hc => ?_) (fun hc => ?_)
          · have h := h.1 hc
            refine hY _ _ _ _ (?_ : Y 2 [(1, 2, true, 0), (2, 0, true, r3), (0, 5, true, 74)] [] (sM s (hy_u (hy_u m3 83 ((5 * (m3 74 19)) + (m3 82 (m3 74 19))) r3) 82 (m3 74 19) ((m3 82 (m3 74 19)) + 1))))
            refine l2 _ _ ?_
            exact (Exists.intro (hy_u (hy_u m3 83 ((5 * (m3 74 19)) + (m3 82 (m3 74 19))) r3) 82 (m3 74 19) ((m3 82 (m3 74 19)) + 1)) (And.intro rfl h))
          · have h := h.2 hc
            refine hY _ _ _ _ (?_ : Y 98 [(1, 2, true, 0), (2, 0, true, r3), (0, 5, true, 74)] [(5, true, 74)] (sM s (hy_u (hy_u m3 83 ((5 * (m3 74 19)) + (m3 82 (m3 74 19))) r3) 82 (m3 74 19) ((m3 82 (m3 74 19)) + 1))))
            refine hY _ _ _ _ ?_
            refine Exists.intro _ (And.intro (wc_179_r74 _ _ h) (fun r4 m4 h => ?_))
            refine hY _ _ _ _ (?_ : Y 2 [(1, 2, true, 0), (2, 0, true, r3), (0, 5, true, 74)] [] (sM s m4))
            refine l2 _ _ ?_
            exact (Exists.intro m4 (And.intro rfl h))
        · have h := h.2.2.2.2.2.2.2.2.2.2 hc
          refine hY _ _ _ _ (hY _ _ _ _ (hY _ _ _ _ (?_ : Y 79 [(2, 0, true, r3), (0, 5, true, 74), (1, 2, true, x1)] [(5, true, 74), (5, true, 82)] (sM s (hy_u (hy_u m3 83 ((5 * (m3 74 19)) + (m3 82 (m3 74 19))) r3) 82 (m3 74 19) ((m3 82 (m3 74 19)) + 1))))))
          refine hY _ _ _ _ (?_ : Y 82 [(2, 0, true, r3), (0, 5, true, 74), (1, 2, true, x1)] [(0, true, m3 74 19), (5, true, 82)] (sM s (hy_u (hy_u m3 83 ((5 * (m3 74 19)) + (m3 82 (m3 74 19))) r3) 82 (m3 74 19) ((m3 82 (m3 74 19)) + 1))))
          refine hY _ _ _ _ ?_
          refine (And.intro h.1 (And.intro h.2.1 ?_))
          refine hY _ _ _ _ (?_ : Y 84 [(2, 0, true, r3), (0, 5, true, 74), (1, 2, true, x1)] [(0, true, 5), (0, true, (hy_u (hy_u m3 83 ((5 * (m3 74 19)) + (m3 82 (m3 74 19))) r3) 82 (m3 74 19) ((m3 82 (m3 74 19)) + 1)) 82 (m3 74 19))] (sM s (hy_u (hy_u m3 83 ((5 * (m3 74 19)) + (m3 82 (m3 74 19))) r3) 82 (m3 74 19) ((m3 82 (m3 74 19)) + 1))))
          refine hY _ _ _ _ ?_
          refine And.intro (fun hc => ?_) (fun hc => ?_)
          · have h := h.2.2.1 hc
            refine hY _ _ _ _ (hY _ _ _ _ (hY _ _ _ _ (?_ : Y 94 [(1, 2, true, 0), (2, 0, true, r3), (0, 5, true, 74)] [(2, true, 0)] (sM s (hy_u (hy_u m3 83 ((5 * (m3 74 19)) + (m3 82 (m3 74 19))) r3) 82 (m3 74 19) ((m3 82 (m3 74 19)) + 1))))))
            refine hY _ _ _ _ ?_
            refine And.intro (fun hc => ?_) (fun hc => ?_)
            · have h := h.1 hc
              refine hY _ _ _ _ (?_ : Y 2 [(1, 2, true, 0), (2, 0, true, r3), (0, 5, true, 74)] [] (sM s (hy_u (hy_u m3 83 ((5 * (m3 74 19)) + (m3 82 (m3 74 19))) r3) 82 (m3 74 19) ((m3 82 (m3 74 19)) + 1))))
              refine l2 _ _ ?_
              exact (Exists.intro (hy_u (hy_u m3 83 ((5 * (m3 74 19)) + (m3 82 (m3 74 19))) r3) 82 (m3 74 19) ((m3 82 (m3 74 19)) + 1)) (And.intro rfl h))
            · have h := h.2 hc
              refine hY _ _ _ _ (?_ : Y 98 [(1, 2, true, 0), (2, 0, true, r3), (0, 5, true, 74)] [(5, true, 74)] (sM s (hy_u (hy_u m3 83 ((5 * (m3 74 19)) + (m3 82 (m3 74 19))) r3) 82 (m3 74 19) ((m3 82 (m3 74 19)) + 1))))
              refine hY _ _ _ _ ?_
              refine Exists.intro _ (And.intro (wc_179_r74 _ _ h) (fun r5 m5 h => ?_))
              refine hY _ _ _ _ (?_ : Y 2 [(1, 2, true, 0), (2, 0, true, r3), (0, 5, true, 74)] [] (sM s m5))
              refine l2 _ _ ?_
              exact (Exists.intro m5 (And.intro rfl h))
          · have h := h.2.2.2 hc
            refine hY _ _ _ _ (hY _ _ _ _ (hY _ _ _ _ (?_ : Y 93 [(1, 2, true, 1), (2, 0, true, r3), (0, 5, true, 74)] [] (sM s (hy_u (hy_u m3 83 ((5 * (m3 74 19)) + (m3 82 (m3 74 19))) r3) 82 (m3 74 19) ((m3 82 (m3 74 19)) + 1))))))
            refine hY _ _ _ _ (?_ : Y 94 [(1, 2, true, 1), (2, 0, true, r3), (0, 5, true, 74)] [(2, true, 1)] (sM s (hy_u (hy_u m3 83 ((5 * (m3 74 19)) + (m3 82 (m3 74 19))) r3) 82 (m3 74 19) ((m3 82 (m3 74 19)) + 1))))
            refine hY _ _ _ _ ?_
            refine And.intro (fun hc => ?_) (fun hc => ?_)
            · have h := h.1 hc
              refine hY _ _ _ _ (?_ : Y 2 [(1, 2, true, 1), (2, 0, true, r3), (0, 5, true, 74)] [] (sM s (hy_u (hy_u m3 83 ((5 * (m3 74 19)) + (m3 82 (m3 74 19))) r3) 82 (m3 74 19) ((m3 82 (m3 74 19)) + 1))))
              refine l2 _ _ ?_
              exact (Exists.intro (hy_u (hy_u m3 83 ((5 * (m3 74 19)) + (m3 82 (m3 74 19))) r3) 82 (m3 74 19) ((m3 82 (m3 74 19)) + 1)) (And.intro rfl h))
            · have h := h.2 hc
              refine hY _ _ _ _ (?_ : Y 98 [(1, 2, true, 1), (2, 0, true, r3), (0, 5, true, 74)] [(5, true, 74)] (sM s (hy_u (hy_u m3 83 ((5 * (m3 74 19)) + (m3 82 (m3 74 19))) r3) 82 (m3 74 19) ((m3 82 (m3 74 19)) + 1))))
              refine hY _ _ _ _ ?_
              refine Exists.intro _ (And.intro (wc_179_r74 _ _ h) (fun r6 m6 h => ?_))
              refine hY _ _ _ _ (?_ : Y 2 [(1, 2, true, 1), (2, 0, true, r3), (0, 5, true, 74)] [] (sM s m6))
              refine l2 _ _ ?_
              exact (Exists.intro m6 (And.intro rfl h))
theorem wk_194_2 (Q : sQ) (R : Int → hy_m → Prop) (s : sS) (x1 : Int) (hQ : ∀ x m', R x m' → Q x (sM s m')) (hr : sRg [(0, 5, 74), (1, 2, 0)] [x1]) (h : wq_194_2 x1 s.2.2.2 R) : kX dM 6 im_m194 9 2 (sCan [(0, 5, 74), (1, 2, 0)] [x1]) [] s Q :=
  h (fun x1 m => sRg [(0, 5, 74), (1, 2, 0)] [x1] → kX dM 6 im_m194 9 2 (sCan [(0, 5, 74), (1, 2, 0)] [x1]) [] (sM s m) Q) (fun x1 m h hr => wj_194_2 Q R s (fun x1 m => sRg [(0, 5, 74), (1, 2, 0)] [x1] → kX dM 6 im_m194 9 2 (sCan [(0, 5, 74), (1, 2, 0)] [x1]) [] (sM s m) Q) x1 m  (fun _ _ hp hr => hp hr) hQ hr h) hr
def lb_194_0 (s : sS) (Q : sQ) (R : Int → hy_m → Prop) : Nat → Option (sL → sS → Prop) := sLb [(2, fun lv t => sG [(0, 5, 74), (1, 2, 0)] lv (ap1 (fun w1 => ∃ m', t = sM s m' ∧ wq_194_2 w1 m' R)))]
set_option maxRecDepth 30000 in
set_option maxHeartbeats 1000000 in
theorem wk_194_0 (Q : sQ) (R : Int → hy_m → Prop) (s : sS) (hQ : ∀ x m', R x m' → Q x (sM s m')) (hr : sRg [(0, 5, 74)] []) (h : wq_194 s.2.2.2 R) : kX dM 6 im_m194 9 0 (sCan [(0, 5, 74)] []) [] s Q := by
  unfold wq_194 at h
  refine wz2_ok (cs := cs_194) (wr := []) (lb := lb_194_0 s Q R) cs_194_ok (kLb_c (kLab (Bd := fun xs t => ap1 (fun w1 => ∃ m', t = sM s m' ∧ wq_194_2 w1 m' R) xs) rfl (fun xs t r1 r2 hb => by obtain ⟨w1, rfl, hb⟩ := ap1_ok hb; obtain ⟨m', rfl, hx⟩ := hb; exact wk_194_2 Q R (sM s m') _ (fun x m'' hy => hQ x m'' hy) r1 hx)) kLb_n) (okL_can rfl hr) (fun Y hY hl => ?_)
  have l2 := hl 2 _ rfl
  refine hY _ _ _ _ (hY _ _ _ _ (?_ : Y 2 [(1, 2, true, 1), (0, 5, true, 74)] [] s))
  refine l2 _ _ ?_
  exact (Exists.intro s.2.2.2 (And.intro rfl h))
def we_194 : sFf := sEf 3 [(0, 5, 74)] (fun xs s Q => ap0 (wq_194 s.2.2.2 Q) xs)
theorem we_194_ok : kS dM 7 194 9 (.inl we_194) := sEf_ok (mi := im_m194) rfl rfl rfl (fun R xs s r1 hb => by obtain ⟨rfl, hb⟩ := ap0_ok hb; exact wk_194_0 _ R s (fun x m' hx => ⟨m', rfl, hx⟩) r1 hb)
/-- LMModel.isUsed(I)Z -/
def wf_196_42 (P32 : Int → hy_m → Prop) (x1 : Int) (x2 : Int) (Q : Int → hy_m → Prop) (P42 : Int → hy_m → Prop) (x3 : Int) (m : hy_m) : Prop := 0 ≤ (21 * x2) ∧ (21 * x2) < 126 ∧ (((m 86 (21 * x2)) < x3 → (hy_r 0 (x2 + 1) ∧ (P32 (x2 + 1) m))) ∧ (x3 ≤ (m 86 (21 * x2)) → (0 ≤ ((21 * x2) + x3) ∧ ((21 * x2) + x3) < 126 ∧ (((m 86 ((21 * x2) + x3)) ≠ x1 → (hy_r 0 (x3 + 1) ∧ (P42 (x3 + 1) m))) ∧ ((m 86 ((21 * x2) + x3)) = x1 → (Q 1 m))))))
def wq_196_42 (P32 : Int → hy_m → Prop) (x1 : Int) (x2 : Int) (x3 : Int) (m : hy_m) (Q : Int → hy_m → Prop) : Prop := wL1 hy_m (wf_196_42 P32 x1 x2 Q) x3 m
def wf_196_32 (x1 : Int) (Q : Int → hy_m → Prop) (P32 : Int → hy_m → Prop) (x2 : Int) (m : hy_m) : Prop := ((m 74 13) ≤ x2 → (Q 0 m)) ∧ (x2 < (m 74 13) → (wq_196_42 P32 x1 x2 1 m Q))
def wq_196_32 (x1 : Int) (x2 : Int) (m : hy_m) (Q : Int → hy_m → Prop) : Prop := wL1 hy_m (wf_196_32 x1 Q) x2 m
def wf_196_2 (x1 : Int) (Q : Int → hy_m → Prop) (P2 : Int → hy_m → Prop) (x2 : Int) (m : hy_m) : Prop := 0 ≤ (0 : Int) ∧ (0 : Int) < 21 ∧ (((m 85 0) < x2 → (wq_196_32 x1 0 m Q)) ∧ (x2 ≤ (m 85 0) → (0 ≤ x2 ∧ x2 < 21 ∧ (((m 85 x2) ≠ x1 → (hy_r 0 (x2 + 1) ∧ (P2 (x2 + 1) m))) ∧ ((m 85 x2) = x1 → (Q 1 m))))))
def wq_196_2 (x1 : Int) (x2 : Int) (m : hy_m) (Q : Int → hy_m → Prop) : Prop := wL1 hy_m (wf_196_2 x1 Q) x2 m
def wq_196 (x1 : Int) (m : hy_m) (Q : Int → hy_m → Prop) : Prop := wq_196_2 x1 1 m Q
def cs_196 : List (Nat × Nat × sFS) := []
theorem cs_196_ok : kCs dM 0 cs_196 := kCs_n
def lb_196_42 (s : sS) (Q : sQ) (P32 : Int → hy_m → Prop) (P42 : Int → hy_m → Prop) (R : Int → hy_m → Prop) (x1 : Int) (x2 : Int) (x3 : Int) : Nat → Option (sL → sS → Prop) := sLb [(32, fun lv t => sG [(0, 5, 74), (1, 0, 0), (2, 0, 0)] lv (ap2 (fun w1 w2 => ∃ m', t = sM s m' ∧ w1 = x1 ∧ P32 w2 m'))), (42, fun lv t => sG [(0, 5, 74), (1, 0, 0), (2, 0, 0), (3, 0, 0)] lv (ap3 (fun w1 w2 w3 => ∃ m', t = sM s m' ∧ w1 = x1 ∧ w2 = x2 ∧ P42 w3 m')))]
set_option maxRecDepth 30000 in
set_option maxHeartbeats 1000000 in
theorem wj_196_42 (Q : sQ) (R : Int → hy_m → Prop) (s : sS) (P32 : Int → hy_m → Prop) (P42 : Int → hy_m → Prop) (x1 : Int) (x2 : Int) (x3 : Int) (m : hy_m) (hP32 : ∀ (z2 : Int) (m : hy_m), P32 z2 m → sRg [(0, 5, 74), (1, 0, 0), (2, 0, 0)] [x1, z2] → kX dM 0 im_m196 2 32 (sCan [(0, 5, 74), (1, 0, 0), (2, 0, 0)] [x1, z2]) [] (sM s m) Q) (hP42 : ∀ (z3 : Int) (m : hy_m), P42 z3 m → sRg [(0, 5, 74), (1, 0, 0), (2, 0, 0), (3, 0, 0)] [x1, x2, z3] → kX dM 0 im_m196 2 42 (sCan [(0, 5, 74), (1, 0, 0), (2, 0, 0), (3, 0, 0)] [x1, x2, z3]) [] (sM s m) Q) (hQ : ∀ x m', R x m' → Q x (sM s m')) (hr : sRg [(0, 5, 74), (1, 0, 0), (2, 0, 0), (3, 0, 0)] [x1, x2, x3]) (h : wf_196_42 P32 x1 x2 R P42 x3 m) : kX dM 0 im_m196 2 42 (sCan [(0, 5, 74), (1, 0, 0), (2, 0, 0), (3, 0, 0)] [x1, x2, x3]) [] (sM s m) Q := by
  unfold wf_196_42 at h
  refine wz2_ok (cs := cs_196) (wr := []) (lb := lb_196_42 s Q P32 P42 R x1 x2 x3) cs_196_ok (kLb_c (kLab (Bd := fun xs t => ap2 (fun w1 w2 => ∃ m', t = sM s m' ∧ w1 = x1 ∧ P32 w2 m') xs) rfl (fun xs t r1 r2 hb => by obtain ⟨w1, w2, rfl, hb⟩ := ap2_ok hb; obtain ⟨m', rfl, rfl, hx⟩ := hb; exact hP32 _ m' hx r1)) (kLb_c (kLab (Bd := fun xs t => ap3 (fun w1 w2 w3 => ∃ m', t = sM s m' ∧ w1 = x1 ∧ w2 = x2 ∧ P42 w3 m') xs) rfl (fun xs t r1 r2 hb => by obtain ⟨w1, w2, w3, rfl, hb⟩ := ap3_ok hb; obtain ⟨m', rfl, rfl, rfl, hx⟩ := hb; exact hP42 _ m' hx r1)) kLb_n)) (okL_can rfl hr) (fun Y hY hl => ?_)
  have l32 := hl 32 _ rfl
  have l42 := hl 42 _ rfl
  refine hY _ _ _ _ (hY _ _ _ _ (hY _ _ _ _ (?_ : Y 47 [(0, 5, true, 74), (1, 0, true, x1), (2, 0, true, x2), (3, 0, true, x3)] [(5, true, 86), (0, true, x3)] (sM s m))))
  refine hY _ _ _ _ (hY _ _ _ _ (hY _ _ _ _ (?_ : Y 51 [(0, 5, true, 74), (1, 0, true, x1), (2, 0, true, x2), (3, 0, true, x3)] [(0, false, 21 * x2), (5, true, 86), (0, true, x3)] (sM s m))))
  refine hY _ _ _ _ ?_
  refine (And.intro h.1 (And.intro h.2.1 ?_))
  show Y 52 [(0, 5, true, 74), (1, 0, true, x1), (2, 0, true, x2), (3, 0, true, x3)] [(0, true, m 86 (21 * x2)), (0, true, x3)] (sM s m)
  refine hY _ _ _ _ ?_
  refine And.intro (fun hc => ?_) (fun hc => ?_)
  · have h := h.2.2.1 hc
    refine hY _ _ _ _ (hY _ _ _ _ (?_ : Y 32 [(2, 0, false, x2 + 1), (0, 5, true, 74), (1, 0, true, x1), (3, 0, true, x3)] [] (sM s m)))
    refine l32 _ _ ?_
    refine And.intro h.1 ?_
    exact (Exists.intro m (And.intro rfl (And.intro rfl h.2)))
  · have h := h.2.2.2 hc
    refine hY _ _ _ _ (hY _ _ _ _ (hY _ _ _ _ (?_ : Y 61 [(0, 5, true, 74), (1, 0, true, x1), (2, 0, true, x2), (3, 0, true, x3)] [(0, true, 21), (5, true, 86)] (sM s m))))
    refine hY _ _ _ _ (hY _ _ _ _ (hY _ _ _ _ (?_ : Y 64 [(0, 5, true, 74), (1, 0, true, x1), (2, 0, true, x2), (3, 0, true, x3)] [(0, true, x3), (0, false, 21 * x2), (5, true, 86)] (sM s m))))
    refine hY _ _ _ _ (?_ : Y 65 [(0, 5, true, 74), (1, 0, true, x1), (2, 0, true, x2), (3, 0, true, x3)] [(0, false, (21 * x2) + x3), (5, true, 86)] (sM s m))
    refine hY _ _ _ _ ?_
    refine (And.intro h.1 (And.intro h.2.1 ?_))
    refine hY _ _ _ _ (?_ : Y 67 [(0, 5, true, 74), (1, 0, true, x1), (2, 0, true, x2), (3, 0, true, x3)] [(0, true, x1), (0, true, m 86 ((21 * x2) + x3))] (sM s m))
    refine hY _ _ _ _ ?_
    refine And.intro (fun hc => ?_) (fun hc => ?_)
    · have h := h.2.2.1 hc
      refine hY _ _ _ _ (hY _ _ _ _ (?_ : Y 42 [(3, 0, false, x3 + 1), (0, 5, true, 74), (1, 0, true, x1), (2, 0, true, x2)] [] (sM s m)))
      refine l42 _ _ ?_
      refine And.intro h.1 ?_
      exact (Exists.intro m (And.intro rfl (And.intro rfl (And.intro rfl h.2))))
    · have h := h.2.2.2 hc
      refine hY _ _ _ _ (?_ : Y 71 [(0, 5, true, 74), (1, 0, true, x1), (2, 0, true, x2), (3, 0, true, x3)] [(2, true, 1)] (sM s m))
      refine hY _ _ _ _ ?_
      exact hQ 1 m h
theorem wk_196_42 (Q : sQ) (R : Int → hy_m → Prop) (s : sS) (P32 : Int → hy_m → Prop) (x1 : Int) (x2 : Int) (x3 : Int) (hP32 : ∀ (z2 : Int) (m : hy_m), P32 z2 m → sRg [(0, 5, 74), (1, 0, 0), (2, 0, 0)] [x1, z2] → kX dM 0 im_m196 2 32 (sCan [(0, 5, 74), (1, 0, 0), (2, 0, 0)] [x1, z2]) [] (sM s m) Q) (hQ : ∀ x m', R x m' → Q x (sM s m')) (hr : sRg [(0, 5, 74), (1, 0, 0), (2, 0, 0), (3, 0, 0)] [x1, x2, x3]) (h : wq_196_42 P32 x1 x2 x3 s.2.2.2 R) : kX dM 0 im_m196 2 42 (sCan [(0, 5, 74), (1, 0, 0), (2, 0, 0), (3, 0, 0)] [x1, x2, x3]) [] s Q :=
  h (fun x3 m => sRg [(0, 5, 74), (1, 0, 0), (2, 0, 0), (3, 0, 0)] [x1, x2, x3] → kX dM 0 im_m196 2 42 (sCan [(0, 5, 74), (1, 0, 0), (2, 0, 0), (3, 0, 0)] [x1, x2, x3]) [] (sM s m) Q) (fun x3 m h hr => wj_196_42 Q R s P32 (fun x3 m => sRg [(0, 5, 74), (1, 0, 0), (2, 0, 0), (3, 0, 0)] [x1, x2, x3] → kX dM 0 im_m196 2 42 (sCan [(0, 5, 74), (1, 0, 0), (2, 0, 0), (3, 0, 0)] [x1, x2, x3]) [] (sM s m) Q) x1 x2 x3 m  hP32 (fun _ _ hp hr => hp hr) hQ hr h) hr
def lb_196_32 (s : sS) (Q : sQ) (P32 : Int → hy_m → Prop) (R : Int → hy_m → Prop) (x1 : Int) (x2 : Int) : Nat → Option (sL → sS → Prop) := sLb [(42, fun lv t => sG [(0, 5, 74), (1, 0, 0), (2, 0, 0), (3, 0, 0)] lv (ap3 (fun w1 w2 w3 => ∃ m', t = sM s m' ∧ w1 = x1 ∧ wq_196_42 P32 w1 w2 w3 m' R))), (32, fun lv t => sG [(0, 5, 74), (1, 0, 0), (2, 0, 0)] lv (ap2 (fun w1 w2 => ∃ m', t = sM s m' ∧ w1 = x1 ∧ P32 w2 m')))]
set_option maxRecDepth 30000 in
set_option maxHeartbeats 1000000 in
theorem wj_196_32 (Q : sQ) (R : Int → hy_m → Prop) (s : sS) (P32 : Int → hy_m → Prop) (x1 : Int) (x2 : Int) (m : hy_m) (hP32 : ∀ (z2 : Int) (m : hy_m), P32 z2 m → sRg [(0, 5, 74), (1, 0, 0), (2, 0, 0)] [x1, z2] → kX dM 0 im_m196 2 32 (sCan [(0, 5, 74), (1, 0, 0), (2, 0, 0)] [x1, z2]) [] (sM s m) Q) (hQ : ∀ x m', R x m' → Q x (sM s m')) (hr : sRg [(0, 5, 74), (1, 0, 0), (2, 0, 0)] [x1, x2]) (h : wf_196_32 x1 R P32 x2 m) : kX dM 0 im_m196 2 32 (sCan [(0, 5, 74), (1, 0, 0), (2, 0, 0)] [x1, x2]) [] (sM s m) Q := by
  unfold wf_196_32 at h
  refine wz2_ok (cs := cs_196) (wr := []) (lb := lb_196_32 s Q P32 R x1 x2) cs_196_ok (kLb_c (kLab (Bd := fun xs t => ap3 (fun w1 w2 w3 => ∃ m', t = sM s m' ∧ w1 = x1 ∧ wq_196_42 P32 w1 w2 w3 m' R) xs) rfl (fun xs t r1 r2 hb => by obtain ⟨w1, w2, w3, rfl, hb⟩ := ap3_ok hb; obtain ⟨m', rfl, rfl, hx⟩ := hb; exact wk_196_42 Q R (sM s m') P32 _ _ _ hP32 (fun x m'' hy => hQ x m'' hy) r1 hx)) (kLb_c (kLab (Bd := fun xs t => ap2 (fun w1 w2 => ∃ m', t = sM s m' ∧ w1 = x1 ∧ P32 w2 m') xs) rfl (fun xs t r1 r2 hb => by obtain ⟨w1, w2, rfl, hb⟩ := ap2_ok hb; obtain ⟨m', rfl, rfl, hx⟩ := hb; exact hP32 _ m' hx r1)) kLb_n)) (okL_can rfl hr) (fun Y hY hl => ?_)
  have l42 := hl 42 _ rfl
  have l32 := hl 32 _ rfl
  refine hY _ _ _ _ (hY _ _ _ _ (hY _ _ _ _ (?_ : Y 37 [(0, 5, true, 74), (1, 0, true, x1), (2, 0, true, x2)] [(0, true, m 74 13), (0, true, x2)] (sM s m))))
  refine hY _ _ _ _ ?_
  refine And.intro (fun hc => ?_) (fun hc => ?_)
  · have h := h.1 hc
    refine hY _ _ _ _ (?_ : Y 85 [(0, 5, true, 74), (1, 0, true, x1), (2, 0, true, x2)] [(2, true, 0)] (sM s m))
    refine hY _ _ _ _ ?_
    exact hQ 0 m h
  · have h := h.2 hc
    refine hY _ _ _ _ (hY _ _ _ _ (?_ : Y 42 [(3, 2, true, 1), (0, 5, true, 74), (1, 0, true, x1), (2, 0, true, x2)] [] (sM s m)))
    refine l42 _ _ ?_
    exact (Exists.intro m (And.intro rfl (And.intro rfl h)))
theorem wk_196_32 (Q : sQ) (R : Int → hy_m → Prop) (s : sS) (x1 : Int) (x2 : Int) (hQ : ∀ x m', R x m' → Q x (sM s m')) (hr : sRg [(0, 5, 74), (1, 0, 0), (2, 0, 0)] [x1, x2]) (h : wq_196_32 x1 x2 s.2.2.2 R) : kX dM 0 im_m196 2 32 (sCan [(0, 5, 74), (1, 0, 0), (2, 0, 0)] [x1, x2]) [] s Q :=
  h (fun x2 m => sRg [(0, 5, 74), (1, 0, 0), (2, 0, 0)] [x1, x2] → kX dM 0 im_m196 2 32 (sCan [(0, 5, 74), (1, 0, 0), (2, 0, 0)] [x1, x2]) [] (sM s m) Q) (fun x2 m h hr => wj_196_32 Q R s (fun x2 m => sRg [(0, 5, 74), (1, 0, 0), (2, 0, 0)] [x1, x2] → kX dM 0 im_m196 2 32 (sCan [(0, 5, 74), (1, 0, 0), (2, 0, 0)] [x1, x2]) [] (sM s m) Q) x1 x2 m  (fun _ _ hp hr => hp hr) hQ hr h) hr
def lb_196_2 (s : sS) (Q : sQ) (P2 : Int → hy_m → Prop) (R : Int → hy_m → Prop) (x1 : Int) (x2 : Int) : Nat → Option (sL → sS → Prop) := sLb [(32, fun lv t => sG [(0, 5, 74), (1, 0, 0), (2, 0, 0)] lv (ap2 (fun w1 w2 => ∃ m', t = sM s m' ∧ wq_196_32 w1 w2 m' R))), (2, fun lv t => sG [(0, 5, 74), (1, 0, 0), (2, 0, 0)] lv (ap2 (fun w1 w2 => ∃ m', t = sM s m' ∧ w1 = x1 ∧ P2 w2 m')))]
set_option maxRecDepth 30000 in
set_option maxHeartbeats 1000000 in
theorem wj_196_2 (Q : sQ) (R : Int → hy_m → Prop) (s : sS) (P2 : Int → hy_m → Prop) (x1 : Int) (x2 : Int) (m : hy_m) (hP2 : ∀ (z2 : Int) (m : hy_m), P2 z2 m → sRg [(0, 5, 74), (1, 0, 0), (2, 0, 0)] [x1, z2] → kX dM 0 im_m196 2 2 (sCan [(0, 5, 74), (1, 0, 0), (2, 0, 0)] [x1, z2]) [] (sM s m) Q) (hQ : ∀ x m', R x m' → Q x (sM s m')) (hr : sRg [(0, 5, 74), (1, 0, 0), (2, 0, 0)] [x1, x2]) (h : wf_196_2 x1 R P2 x2 m) : kX dM 0 im_m196 2 2 (sCan [(0, 5, 74), (1, 0, 0), (2, 0, 0)] [x1, x2]) [] (sM s m) Q := by
  unfold wf_196_2 at h
  refine wz2_ok (cs := cs_196) (wr := []) (lb := lb_196_2 s Q P2 R x1 x2) cs_196_ok (kLb_c (kLab (Bd := fun xs t => ap2 (fun w1 w2 => ∃ m', t = sM s m' ∧ wq_196_32 w1 w2 m' R) xs) rfl (fun xs t r1 r2 hb => by obtain ⟨w1, w2, rfl, hb⟩ := ap2_ok hb; obtain ⟨m', rfl, hx⟩ := hb; exact wk_196_32 Q R (sM s m') _ _ (fun x m'' hy => hQ x m'' hy) r1 hx)) (kLb_c (kLab (Bd := fun xs t => ap2 (fun w1 w2 => ∃ m', t = sM s m' ∧ w1 = x1 ∧ P2 w2 m') xs) rfl (fun xs t r1 r2 hb => by obtain ⟨w1, w2, rfl, hb⟩ := ap2_ok hb; obtain ⟨m', rfl, rfl, hx⟩ := hb; exact hP2 _ m' hx r1)) kLb_n)) (okL_can rfl hr) (fun Y hY hl => ?_)
  have l32 := hl 32 _ rfl
  have l2 := hl 2 _ rfl
  refine hY _ _ _ _ (hY _ _ _ _ (hY _ _ _ _ (?_ : Y 7 [(0, 5, true, 74), (1, 0, true, x1), (2, 0, true, x2)] [(5, true, 85), (0, true, x2)] (sM s m))))
  refine hY _ _ _ _ (?_ : Y 8 [(0, 5, true, 74), (1, 0, true, x1), (2, 0, true, x2)] [(2, true, 0), (5, true, 85), (0, true, x2)] (sM s m))
  refine hY _ _ _ _ ?_
  refine (And.intro h.1 (And.intro h.2.1 ?_))
  show Y 9 [(0, 5, true, 74), (1, 0, true, x1), (2, 0, true, x2)] [(0, true, m 85 0), (0, true, x2)] (sM s m)
  refine hY _ _ _ _ ?_
  refine And.intro (fun hc => ?_) (fun hc => ?_)
  · have h := h.2.2.1 hc
    refine hY _ _ _ _ (hY _ _ _ _ (?_ : Y 32 [(2, 2, true, 0), (0, 5, true, 74), (1, 0, true, x1)] [] (sM s m)))
    refine l32 _ _ ?_
    exact (Exists.intro m (And.intro rfl h))
  · have h := h.2.2.2 hc
    refine hY _ _ _ _ (hY _ _ _ _ (hY _ _ _ _ (?_ : Y 17 [(0, 5, true, 74), (1, 0, true, x1), (2, 0, true, x2)] [(0, true, x2), (5, true, 85)] (sM s m))))
    refine hY _ _ _ _ ?_
    refine (And.intro h.1 (And.intro h.2.1 ?_))
    refine hY _ _ _ _ (?_ : Y 19 [(0, 5, true, 74), (1, 0, true, x1), (2, 0, true, x2)] [(0, true, x1), (0, true, m 85 x2)] (sM s m))
    refine hY _ _ _ _ ?_
    refine And.intro (fun hc => ?_) (fun hc => ?_)
    · have h := h.2.2.1 hc
      refine hY _ _ _ _ (hY _ _ _ _ (?_ : Y 2 [(2, 0, false, x2 + 1), (0, 5, true, 74), (1, 0, true, x1)] [] (sM s m)))
      refine l2 _ _ ?_
      refine And.intro h.1 ?_
      exact (Exists.intro m (And.intro rfl (And.intro rfl h.2)))
    · have h := h.2.2.2 hc
      refine hY _ _ _ _ (?_ : Y 23 [(0, 5, true, 74), (1, 0, true, x1), (2, 0, true, x2)] [(2, true, 1)] (sM s m))
      refine hY _ _ _ _ ?_
      exact hQ 1 m h
theorem wk_196_2 (Q : sQ) (R : Int → hy_m → Prop) (s : sS) (x1 : Int) (x2 : Int) (hQ : ∀ x m', R x m' → Q x (sM s m')) (hr : sRg [(0, 5, 74), (1, 0, 0), (2, 0, 0)] [x1, x2]) (h : wq_196_2 x1 x2 s.2.2.2 R) : kX dM 0 im_m196 2 2 (sCan [(0, 5, 74), (1, 0, 0), (2, 0, 0)] [x1, x2]) [] s Q :=
  h (fun x2 m => sRg [(0, 5, 74), (1, 0, 0), (2, 0, 0)] [x1, x2] → kX dM 0 im_m196 2 2 (sCan [(0, 5, 74), (1, 0, 0), (2, 0, 0)] [x1, x2]) [] (sM s m) Q) (fun x2 m h hr => wj_196_2 Q R s (fun x2 m => sRg [(0, 5, 74), (1, 0, 0), (2, 0, 0)] [x1, x2] → kX dM 0 im_m196 2 2 (sCan [(0, 5, 74), (1, 0, 0), (2, 0, 0)] [x1, x2]) [] (sM s m) Q) x1 x2 m  (fun _ _ hp hr => hp hr) hQ hr h) hr
def lb_196_0 (s : sS) (Q : sQ) (R : Int → hy_m → Prop) (x1 : Int) : Nat → Option (sL → sS → Prop) := sLb [(2, fun lv t => sG [(0, 5, 74), (1, 0, 0), (2, 0, 0)] lv (ap2 (fun w1 w2 => ∃ m', t = sM s m' ∧ wq_196_2 w1 w2 m' R)))]
set_option maxRecDepth 30000 in
set_option maxHeartbeats 1000000 in
theorem wk_196_0 (Q : sQ) (R : Int → hy_m → Prop) (s : sS) (x1 : Int) (hQ : ∀ x m', R x m' → Q x (sM s m')) (hr : sRg [(0, 5, 74), (1, 0, 0)] [x1]) (h : wq_196 x1 s.2.2.2 R) : kX dM 0 im_m196 2 0 (sCan [(0, 5, 74), (1, 0, 0)] [x1]) [] s Q := by
  unfold wq_196 at h
  refine wz2_ok (cs := cs_196) (wr := []) (lb := lb_196_0 s Q R x1) cs_196_ok (kLb_c (kLab (Bd := fun xs t => ap2 (fun w1 w2 => ∃ m', t = sM s m' ∧ wq_196_2 w1 w2 m' R) xs) rfl (fun xs t r1 r2 hb => by obtain ⟨w1, w2, rfl, hb⟩ := ap2_ok hb; obtain ⟨m', rfl, hx⟩ := hb; exact wk_196_2 Q R (sM s m') _ _ (fun x m'' hy => hQ x m'' hy) r1 hx)) kLb_n) (okL_can rfl hr) (fun Y hY hl => ?_)
  have l2 := hl 2 _ rfl
  refine hY _ _ _ _ (hY _ _ _ _ (?_ : Y 2 [(2, 2, true, 1), (0, 5, true, 74), (1, 0, true, x1)] [] s))
  refine l2 _ _ ?_
  exact (Exists.intro s.2.2.2 (And.intro rfl h))
def we_196 : sFf := sEf 4 [(0, 5, 74), (1, 0, 0)] (fun xs s Q => ap1 (fun x1 => wq_196 x1 s.2.2.2 Q) xs)
theorem we_196_ok : kS dM 1 196 2 (.inl we_196) := sEf_ok (mi := im_m196) rfl rfl rfl (fun R xs s r1 hb => by obtain ⟨x1, rfl, hb⟩ := ap1_ok hb; exact wk_196_0 _ R s x1 (fun x m' hx => ⟨m', rfl, hx⟩) r1 hb)
/-- LMModel.freeSlot()I -/
def wf_197_25 (Q : Int → hy_m → Prop) (P25 : Int → hy_m → Prop) (x1 : Int) (m : hy_m) : Prop := wq_196 x1 m (fun r1 m1 => (r1 = 0 → (Q x1 m1)) ∧ (r1 ≠ 0 → (hy_r 0 (x1 + 1) ∧ (P25 (x1 + 1) m1))))
def wq_197_25 (x1 : Int) (m : hy_m) (Q : Int → hy_m → Prop) : Prop := wL1 hy_m (wf_197_25 Q) x1 m
def wq_197 (m : hy_m) (Q : Int → hy_m → Prop) : Prop := ((m 74 27) ≠ 0 → (0 ≤ ((m 74 27) - 1) ∧ ((m 74 27) - 1) < 20 ∧ (hy_r 0 ((m 91 ((m 74 27) - 1)) + 1) ∧ (wq_197_25 ((m 91 ((m 74 27) - 1)) + 1) m Q)))) ∧ ((m 74 27) = 0 → (wq_197_25 0 m Q))
theorem wc_196_r74_0t (x1 : Int) (s : sS) (R : Int → hy_m → Prop) (h : wq_196 x1 s.2.2.2 R) : we_196 [(5, true, 74), (0, true, x1)] s R := h
def cs_197 : List (Nat × Nat × sFS) := [(196, 2, .inl we_196)]
theorem cs_197_ok : kCs dM 1 cs_197 := (kCs_c (Or.inr (Or.inr (Or.inl rfl))) (we_196_ok.deep (by decide)) kCs_n)
def lb_197_25 (s : sS) (Q : sQ) (P25 : Int → hy_m → Prop) (R : Int → hy_m → Prop) (x1 : Int) : Nat → Option (sL → sS → Prop) := sLb [(25, fun lv t => sG [(0, 5, 74), (1, 0, 0)] lv (ap1 (fun w1 => ∃ m', t = sM s m' ∧ P25 w1 m')))]
set_option maxRecDepth 30000 in
set_option maxHeartbeats 1000000 in
theorem wj_197_25 (Q : sQ) (R : Int → hy_m → Prop) (s : sS) (P25 : Int → hy_m → Prop) (x1 : Int) (m : hy_m) (hP25 : ∀ (z1 : Int) (m : hy_m), P25 z1 m → sRg [(0, 5, 74), (1, 0, 0)] [z1] → kX dM 1 im_m197 0 25 (sCan [(0, 5, 74), (1, 0, 0)] [z1]) [] (sM s m) Q) (hQ : ∀ x m', R x m' → Q x (sM s m')) (hr : sRg [(0, 5, 74), (1, 0, 0)] [x1]) (h : wf_197_25 R P25 x1 m) : kX dM 1 im_m197 0 25 (sCan [(0, 5, 74), (1, 0, 0)] [x1]) [] (sM s m) Q := by
  unfold wf_197_25 at h
  refine wz2_ok (cs := cs_197) (wr := []) (lb := lb_197_25 s Q P25 R x1) cs_197_ok (kLb_c (kLab (Bd := fun xs t => ap1 (fun w1 => ∃ m', t = sM s m' ∧ P25 w1 m') xs) rfl (fun xs t r1 r2 hb => by obtain ⟨w1, rfl, hb⟩ := ap1_ok hb; obtain ⟨m', rfl, hx⟩ := hb; exact hP25 _ m' hx r1)) kLb_n) (okL_can rfl hr) (fun Y hY hl => ?_)
  have l25 := hl 25 _ rfl
  refine hY _ _ _ _ (hY _ _ _ _ (?_ : Y 27 [(0, 5, true, 74), (1, 0, true, x1)] [(0, true, x1), (5, true, 74)] (sM s m)))
  refine hY _ _ _ _ ?_
  refine Exists.intro _ (And.intro (wc_196_r74_0t x1 _ _ h) (fun r1 m1 h => ?_))
  show Y 30 [(0, 5, true, 74), (1, 0, true, x1)] [(2, true, r1)] (sM s m1)
  refine hY _ _ _ _ ?_
  refine And.intro (fun hc => ?_) (fun hc => ?_)
  · have h := h.1 hc
    refine hY _ _ _ _ (?_ : Y 40 [(0, 5, true, 74), (1, 0, true, x1)] [(0, true, x1)] (sM s m1))
    refine hY _ _ _ _ ?_
    exact hQ x1 m1 h
  · have h := h.2 hc
    refine hY _ _ _ _ (hY _ _ _ _ (?_ : Y 25 [(1, 0, false, x1 + 1), (0, 5, true, 74)] [] (sM s m1)))
    refine l25 _ _ ?_
    refine And.intro h.1 ?_
    exact (Exists.intro m1 (And.intro rfl h.2))
theorem wk_197_25 (Q : sQ) (R : Int → hy_m → Prop) (s : sS) (x1 : Int) (hQ : ∀ x m', R x m' → Q x (sM s m')) (hr : sRg [(0, 5, 74), (1, 0, 0)] [x1]) (h : wq_197_25 x1 s.2.2.2 R) : kX dM 1 im_m197 0 25 (sCan [(0, 5, 74), (1, 0, 0)] [x1]) [] s Q :=
  h (fun x1 m => sRg [(0, 5, 74), (1, 0, 0)] [x1] → kX dM 1 im_m197 0 25 (sCan [(0, 5, 74), (1, 0, 0)] [x1]) [] (sM s m) Q) (fun x1 m h hr => wj_197_25 Q R s (fun x1 m => sRg [(0, 5, 74), (1, 0, 0)] [x1] → kX dM 1 im_m197 0 25 (sCan [(0, 5, 74), (1, 0, 0)] [x1]) [] (sM s m) Q) x1 m  (fun _ _ hp hr => hp hr) hQ hr h) hr
def lb_197_0 (s : sS) (Q : sQ) (R : Int → hy_m → Prop) : Nat → Option (sL → sS → Prop) := sLb [(25, fun lv t => sG [(0, 5, 74), (1, 0, 0)] lv (ap1 (fun w1 => ∃ m', t = sM s m' ∧ wq_197_25 w1 m' R)))]
set_option maxRecDepth 30000 in
set_option maxHeartbeats 1000000 in
theorem wk_197_0 (Q : sQ) (R : Int → hy_m → Prop) (s : sS) (hQ : ∀ x m', R x m' → Q x (sM s m')) (hr : sRg [(0, 5, 74)] []) (h : wq_197 s.2.2.2 R) : kX dM 1 im_m197 0 0 (sCan [(0, 5, 74)] []) [] s Q := by
  unfold wq_197 at h
  refine wz2_ok (cs := cs_197) (wr := []) (lb := lb_197_0 s Q R) cs_197_ok (kLb_c (kLab (Bd := fun xs t => ap1 (fun w1 => ∃ m', t = sM s m' ∧ wq_197_25 w1 m' R) xs) rfl (fun xs t r1 r2 hb => by obtain ⟨w1, rfl, hb⟩ := ap1_ok hb; obtain ⟨m', rfl, hx⟩ := hb; exact wk_197_25 Q R (sM s m') _ (fun x m'' hy => hQ x m'' hy) r1 hx)) kLb_n) (okL_can rfl hr) (fun Y hY hl => ?_)
  have l25 := hl 25 _ rfl
  refine hY _ _ _ _ (hY _ _ _ _ (?_ : Y 4 [(0, 5, true, 74)] [(0, true, s.2.2.2 74 27)] s))
  refine hY _ _ _ _ ?_
  refine And.intro (fun hc => ?_) (fun hc => ?_)
  · have h := h.1 hc
    refine hY _ _ _ _ (hY _ _ _ _ (hY _ _ _ _ (?_ : Y 16 [(0, 5, true, 74)] [(5, true, 74), (5, true, 91)] s)))
    refine hY _ _ _ _ (hY _ _ _ _ (hY _ _ _ _ (?_ : Y 21 [(0, 5, true, 74)] [(0, false, (s.2.2.2 74 27) - 1), (5, true, 91)] s)))
    refine hY _ _ _ _ ?_
    refine (And.intro h.1 (And.intro h.2.1 ?_))
    refine hY _ _ _ _ (hY _ _ _ _ (hY _ _ _ _ (?_ : Y 25 [(1, 0, false, (s.2.2.2 91 ((s.2.2.2 74 27) - 1)) + 1), (0, 5, true, 74)] [] s)))
    refine l25 _ _ ?_
    refine And.intro h.2.2.1 ?_
    exact (Exists.intro s.2.2.2 (And.intro rfl h.2.2.2))
  · have h := h.2 hc
    refine hY _ _ _ _ (hY _ _ _ _ (hY _ _ _ _ (?_ : Y 25 [(1, 2, true, 0), (0, 5, true, 74)] [] s)))
    refine l25 _ _ ?_
    exact (Exists.intro s.2.2.2 (And.intro rfl h))
def we_197 : sFf := sEf 2 [(0, 5, 74)] (fun xs s Q => ap0 (wq_197 s.2.2.2 Q) xs)
theorem we_197_ok : kS dM 2 197 0 (.inl we_197) := sEf_ok (mi := im_m197) rfl rfl rfl (fun R xs s r1 hb => by obtain ⟨rfl, hb⟩ := ap0_ok hb; exact wk_197_0 _ R s (fun x m' hx => ⟨m', rfl, hx⟩) r1 hb)
/-- LMModel.readClause()V -/
def wq_198_56 (m : hy_m) (Q : Int → hy_m → Prop) : Prop := ((m 74 18) ≠ (-9) → (Q 0 m)) ∧ ((m 74 18) = (-9) → (0 ≤ (m 74 27) ∧ (m 74 27) < 20 ∧ (hy_r 0 ((m 74 27) + 1) ∧ (Q 0 (hy_u (hy_u m 91 (m 74 27) (m 74 19)) 74 27 ((m 74 27) + 1))))))
def wq_198 (m : hy_m) (Q : Int → hy_m → Prop) : Prop := wq_197 m (fun r1 m1 => wq_193 r1 m1 (fun _ m2 => wq_192 1 1 m2 (fun r3 m3 => 0 ≤ (m2 74 19) ∧ (m2 74 19) < 28 ∧ (((m3 74 18) ≠ (-9) → (wq_195 (hy_u m3 81 (m2 74 19) r3) (fun _ m4 => wq_198_56 m4 Q))) ∧ ((m3 74 18) = (-9) → (((m3 74 15) ≠ 11 → (wq_195 (hy_u m3 81 (m2 74 19) r3) (fun _ m5 => wq_198_56 m5 Q))) ∧ ((m3 74 15) = 11 → (wq_179 (hy_u m3 81 (m2 74 19) r3) (fun _ m6 => wq_194 m6 (fun _ m7 => wq_198_56 m7 Q))))))))))
theorem wc_197_r74 (s : sS) (R : Int → hy_m → Prop) (h : wq_197 s.2.2.2 R) : we_197 [(5, true, 74)] s R := h
theorem wc_193_r74_0t (x1 : Int) (s : sS) (R : Int → hy_m → Prop) (h : wq_193 x1 s.2.2.2 R) : we_193 [(5, true, 74), (0, true, x1)] s R := h
theorem wc_194_r74 (s : sS) (R : Int → hy_m → Prop) (h : wq_194 s.2.2.2 R) : we_194 [(5, true, 74)] s R := h
def cs_198 : List (Nat × Nat × sFS) := [(179, 9, .inl we_179), (192, 0, .inl we_192), (193, 9, .inl we_193), (194, 9, .inl we_194), (195, 9, .inl we_195), (197, 0, .inl we_197)]
theorem cs_198_ok : kCs dM 7 cs_198 := (kCs_c (Or.inr (Or.inr (Or.inr (Or.inr rfl)))) (we_179_ok.deep (by decide)) (kCs_c (Or.inl rfl) (we_192_ok.deep (by decide)) (kCs_c (Or.inr (Or.inr (Or.inr (Or.inr rfl)))) (we_193_ok.deep (by decide)) (kCs_c (Or.inr (Or.inr (Or.inr (Or.inr rfl)))) (we_194_ok.deep (by decide)) (kCs_c (Or.inr (Or.inr (Or.inr (Or.inr rfl)))) (we_195_ok.deep (by decide)) (kCs_c (Or.inl rfl) (we_197_ok.deep (by decide)) kCs_n))))))
def lb_198_56 (s : sS) (Q : sQ) (R : Int → hy_m → Prop) : Nat → Option (sL → sS → Prop) := sLb []
set_option maxRecDepth 30000 in
set_option maxHeartbeats 1000000 in
theorem wk_198_56 (Q : sQ) (R : Int → hy_m → Prop) (s : sS) (hQ : ∀ x m', R x m' → Q x (sM s m')) (hr : sRg [(0, 5, 74)] []) (h : wq_198_56 s.2.2.2 R) : kX dM 7 im_m198 9 56 (sCan [(0, 5, 74)] []) [] s Q := by
  unfold wq_198_56 at h
  refine wz2_ok (cs := cs_198) (wr := []) (lb := lb_198_56 s Q R) cs_198_ok kLb_n (okL_can rfl hr) (fun Y hY hl => ?_)
  refine hY _ _ _ _ (hY _ _ _ _ (hY _ _ _ _ (?_ : Y 62 [(0, 5, true, 74)] [(0, true, (-9)), (0, true, s.2.2.2 74 18)] s)))
  refine hY _ _ _ _ ?_
  refine And.intro (fun hc => ?_) (fun hc => ?_)
  · have h := h.1 hc
    show Y 88 [(0, 5, true, 74)] [] s
    refine hY _ _ _ _ ?_
    exact hQ 0 s.2.2.2 h
  · have h := h.2 hc
    refine hY _ _ _ _ (hY _ _ _ _ (hY _ _ _ _ (?_ : Y 70 [(0, 5, true, 74)] [(5, true, 74), (5, true, 91)] s)))
    refine hY _ _ _ _ (hY _ _ _ _ (hY _ _ _ _ (?_ : Y 77 [(0, 5, true, 74)] [(0, true, s.2.2.2 74 19), (0, true, s.2.2.2 74 27), (5, true, 91)] s)))
    refine hY _ _ _ _ ?_
    refine (And.intro h.1 (And.intro h.2.1 ?_))
    refine hY _ _ _ _ (hY _ _ _ _ (hY _ _ _ _ (?_ : Y 83 [(0, 5, true, 74)] [(0, true, s.2.2.2 74 27), (5, true, 74)] (sM s (hy_u s.2.2.2 91 (s.2.2.2 74 27) (s.2.2.2 74 19))))))
    refine hY _ _ _ _ (hY _ _ _ _ (?_ : Y 85 [(0, 5, true, 74)] [(0, false, (s.2.2.2 74 27) + 1), (5, true, 74)] (sM s (hy_u s.2.2.2 91 (s.2.2.2 74 27) (s.2.2.2 74 19)))))
    refine hY _ _ _ _ ?_
    refine And.intro h.2.2.1 ?_
    show Y 88 [(0, 5, true, 74)] [] (sM s (hy_u (hy_u s.2.2.2 91 (s.2.2.2 74 27) (s.2.2.2 74 19)) 74 27 ((s.2.2.2 74 27) + 1)))
    refine hY _ _ _ _ ?_
    exact hQ 0 (hy_u (hy_u s.2.2.2 91 (s.2.2.2 74 27) (s.2.2.2 74 19)) 74 27 ((s.2.2.2 74 27) + 1)) h.2.2.2
def lb_198_0 (s : sS) (Q : sQ) (R : Int → hy_m → Prop) : Nat → Option (sL → sS → Prop) := sLb [(56, fun lv t => sG [(0, 5, 74)] lv (ap0 (∃ m', t = sM s m' ∧ wq_198_56 m' R)))]
set_option maxRecDepth 30000 in
set_option maxHeartbeats 1000000 in
theorem wk_198_0 (Q : sQ) (R : Int → hy_m → Prop) (s : sS) (hQ : ∀ x m', R x m' → Q x (sM s m')) (hr : sRg [(0, 5, 74)] []) (h : wq_198 s.2.2.2 R) : kX dM 7 im_m198 9 0 (sCan [(0, 5, 74)] []) [] s Q := by
  unfold wq_198 at h
  refine wz2_ok (cs := cs_198) (wr := []) (lb := lb_198_0 s Q R) cs_198_ok (kLb_c (kLab (Bd := fun xs t => ap0 (∃ m', t = sM s m' ∧ wq_198_56 m' R) xs) rfl (fun xs t r1 r2 hb => by obtain ⟨rfl, hb⟩ := ap0_ok hb; obtain ⟨m', rfl, hx⟩ := hb; exact wk_198_56 Q R (sM s m')  (fun x m'' hy => hQ x m'' hy) r1 hx)) kLb_n) (okL_can rfl hr) (fun Y hY hl => ?_)
  have l56 := hl 56 _ rfl
  refine hY _ _ _ _ (hY _ _ _ _ (?_ : Y 2 [(0, 5, true, 74)] [(5, true, 74), (5, true, 74)] s))
  refine hY _ _ _ _ ?_
  refine Exists.intro _ (And.intro (wc_197_r74 _ _ h) (fun r1 m1 h => ?_))
  show Y 5 [(0, 5, true, 74)] [(0, true, r1), (5, true, 74)] (sM s m1)
  refine hY _ _ _ _ ?_
  refine Exists.intro _ (And.intro (wc_193_r74_0t r1 _ _ h) (fun r2 m2 h => ?_))
  refine hY _ _ _ _ (hY _ _ _ _ (hY _ _ _ _ (?_ : Y 13 [(0, 5, true, 74)] [(5, true, 74), (5, true, 81)] (sM s m2))))
  refine hY _ _ _ _ (hY _ _ _ _ (hY _ _ _ _ (?_ : Y 18 [(0, 5, true, 74)] [(2, true, 1), (5, true, 74), (0, true, m2 74 19), (5, true, 81)] (sM s m2))))
  refine hY _ _ _ _ (?_ : Y 19 [(0, 5, true, 74)] [(2, true, 1), (2, true, 1), (5, true, 74), (0, true, m2 74 19), (5, true, 81)] (sM s m2))
  refine hY _ _ _ _ ?_
  refine Exists.intro _ (And.intro (wc_192_r74_2t_2t 1 1 _ _ h) (fun r3 m3 h => ?_))
  show Y 22 [(0, 5, true, 74)] [(0, true, r3), (0, true, m2 74 19), (5, true, 81)] (sM s m3)
  refine hY _ _ _ _ ?_
  refine (And.intro h.1 (And.intro h.2.1 ?_))
  refine hY _ _ _ _ (hY _ _ _ _ (hY _ _ _ _ (?_ : Y 29 [(0, 5, true, 74)] [(0, true, (-9)), (0, true, m3 74 18)] (sM s (hy_u m3 81 (m2 74 19) r3)))))
  refine hY _ _ _ _ ?_
  refine And.intro (fun hc => ?_) (fun hc => ?_)
  · have h := h.2.2.1 hc
    refine hY _ _ _ _ (?_ : Y 53 [(0, 5, true, 74)] [(5, true, 74)] (sM s (hy_u m3 81 (m2 74 19) r3)))
    refine hY _ _ _ _ ?_
    refine Exists.intro _ (And.intro (wc_195_r74 _ _ h) (fun r4 m4 h => ?_))
    show Y 56 [(0, 5, true, 74)] [] (sM s m4)
    refine l56 _ _ ?_
    exact (Exists.intro m4 (And.intro rfl h))
  · have h := h.2.2.2 hc
    refine hY _ _ _ _ (hY _ _ _ _ (hY _ _ _ _ (?_ : Y 38 [(0, 5, true, 74)] [(0, true, 11), (0, true, m3 74 15)] (sM s (hy_u m3 81 (m2 74 19) r3)))))
    refine hY _ _ _ _ ?_
    refine And.intro (fun hc => ?_) (fun hc => ?_)
    · have h := h.1 hc
      refine hY _ _ _ _ (?_ : Y 53 [(0, 5, true, 74)] [(5, true, 74)] (sM s (hy_u m3 81 (m2 74 19) r3)))
      refine hY _ _ _ _ ?_
      refine Exists.intro _ (And.intro (wc_195_r74 _ _ h) (fun r5 m5 h => ?_))
      show Y 56 [(0, 5, true, 74)] [] (sM s m5)
      refine l56 _ _ ?_
      exact (Exists.intro m5 (And.intro rfl h))
    · have h := h.2 hc
      refine hY _ _ _ _ (?_ : Y 42 [(0, 5, true, 74)] [(5, true, 74)] (sM s (hy_u m3 81 (m2 74 19) r3)))
      refine hY _ _ _ _ ?_
      refine Exists.intro _ (And.intro (wc_179_r74 _ _ h) (fun r6 m6 h => ?_))
      refine hY _ _ _ _ (?_ : Y 46 [(0, 5, true, 74)] [(5, true, 74)] (sM s m6))
      refine hY _ _ _ _ ?_
      refine Exists.intro _ (And.intro (wc_194_r74 _ _ h) (fun r7 m7 h => ?_))
      refine hY _ _ _ _ (?_ : Y 56 [(0, 5, true, 74)] [] (sM s m7))
      refine l56 _ _ ?_
      exact (Exists.intro m7 (And.intro rfl h))
def we_198 : sFf := sEf 1 [(0, 5, 74)] (fun xs s Q => ap0 (wq_198 s.2.2.2 Q) xs)
theorem we_198_ok : kS dM 8 198 9 (.inl we_198) := sEf_ok (mi := im_m198) rfl rfl rfl (fun R xs s r1 hb => by obtain ⟨rfl, hb⟩ := ap0_ok hb; exact wk_198_0 _ R s (fun x m' hx => ⟨m', rfl, hx⟩) r1 hb)
/-- LMModel.faultOf(I)I -/
def wf_199_61 (Q : Int → hy_m → Prop) (P61 : hy_m → Prop) (m : hy_m) : Prop := ((m 74 15) = 0 → (Q (m 74 18) m)) ∧ ((m 74 15) ≠ 0 → (((m 74 18) ≠ (-9) → (Q (m 74 18) m)) ∧ ((m 74 18) = (-9) → (0 ≤ (0 : Int) ∧ (0 : Int) < 21 ∧ (hy_r 0 ((m 85 0) + (m 74 27)) ∧ ((((m 85 0) + (m 74 27)) ≠ 20 → (wq_198 m (fun _ m1 => P61 m1))) ∧ (((m 85 0) + (m 74 27)) = 20 → (wq_180 m (fun r2 m2 => P61 m2)))))))))
def wq_199_61 (m : hy_m) (Q : Int → hy_m → Prop) : Prop := wL0 hy_m (wf_199_61 Q) m
def wq_199 (x1 : Int) (m : hy_m) (Q : Int → hy_m → Prop) : Prop := wq_179 (hy_u (hy_u (hy_u m 74 14 0) 74 18 (-9)) 74 27 0) (fun _ m1 => (x1 ≠ 1 → (wq_199_61 m1 Q)) ∧ (x1 = 1 → (wq_193 27 m1 (fun _ m2 => wq_194 m2 (fun _ m3 => ((m3 74 18) ≠ (-9) → (Q (m3 74 18) m3)) ∧ ((m3 74 18) = (-9) → (((m3 74 15) = 0 → (Q (m3 74 18) m3)) ∧ ((m3 74 15) ≠ 0 → (wq_180 m3 (fun r4 m4 => Q (m4 74 18) m4))))))))))
theorem wc_198_r74 (s : sS) (R : Int → hy_m → Prop) (h : wq_198 s.2.2.2 R) : we_198 [(5, true, 74)] s R := h
def cs_199 : List (Nat × Nat × sFS) := [(179, 9, .inl we_179), (180, 0, .inl we_180), (193, 9, .inl we_193), (194, 9, .inl we_194), (198, 9, .inl we_198)]
theorem cs_199_ok : kCs dM 8 cs_199 := (kCs_c (Or.inr (Or.inr (Or.inr (Or.inr rfl)))) (we_179_ok.deep (by decide)) (kCs_c (Or.inl rfl) (we_180_ok.deep (by decide)) (kCs_c (Or.inr (Or.inr (Or.inr (Or.inr rfl)))) (we_193_ok.deep (by decide)) (kCs_c (Or.inr (Or.inr (Or.inr (Or.inr rfl)))) (we_194_ok.deep (by decide)) (kCs_c (Or.inr (Or.inr (Or.inr (Or.inr rfl)))) (we_198_ok.deep (by decide)) kCs_n)))))
def lb_199_61 (s : sS) (Q : sQ) (P61 : hy_m → Prop) (R : Int → hy_m → Prop) : Nat → Option (sL → sS → Prop) := sLb [(61, fun lv t => sG [(0, 5, 74)] lv (ap0 (∃ m', t = sM s m' ∧ P61 m')))]
set_option maxRecDepth 30000 in
set_option maxHeartbeats 1000000 in
theorem wj_199_61 (Q : sQ) (R : Int → hy_m → Prop) (s : sS) (P61 : hy_m → Prop) (m : hy_m) (hP61 : ∀ (m : hy_m), P61 m → sRg [(0, 5, 74)] [] → kX dM 8 im_m199 0 61 (sCan [(0, 5, 74)] []) [] (sM s m) Q) (hQ : ∀ x m', R x m' → Q x (sM s m')) (hr : sRg [(0, 5, 74)] []) (h : wf_199_61 R P61 m) : kX dM 8 im_m199 0 61 (sCan [(0, 5, 74)] []) [] (sM s m) Q := by
  unfold wf_199_61 at h
  refine wz2_ok (cs := cs_199) (wr := []) (lb := lb_199_61 s Q P61 R) cs_199_ok (kLb_c (kLab (Bd := fun xs t => ap0 (∃ m', t = sM s m' ∧ P61 m') xs) rfl (fun xs t r1 r2 hb => by obtain ⟨rfl, hb⟩ := ap0_ok hb; obtain ⟨m', rfl, hx⟩ := hb; exact hP61 m' hx r1)) kLb_n) (okL_can rfl hr) (fun Y hY hl => ?_)
  have l61 := hl 61 _ rfl
  refine hY _ _ _ _ (hY _ _ _ _ (?_ : Y 65 [(0, 5, true, 74)] [(0, true, m 74 15)] (sM s m)))
  refine hY _ _ _ _ ?_
  refine And.intro (fun hc => ?_) (fun hc => ?_)
  · have h := h.1 hc
    refine hY _ _ _ _ (hY _ _ _ _ (?_ : Y 112 [(0, 5, true, 74)] [(0, true, m 74 18)] (sM s m)))
    refine hY _ _ _ _ ?_
    exact hQ (m 74 18) m h
  · have h := h.2 hc
    refine hY _ _ _ _ (hY _ _ _ _ (hY _ _ _ _ (?_ : Y 74 [(0, 5, true, 74)] [(0, true, (-9)), (0, true, m 74 18)] (sM s m))))
    refine hY _ _ _ _ ?_
    refine And.intro (fun hc => ?_) (fun hc => ?_)
    · have h := h.1 hc
      refine hY _ _ _ _ (hY _ _ _ _ (?_ : Y 112 [(0, 5, true, 74)] [(0, true, m 74 18)] (sM s m)))
      refine hY _ _ _ _ ?_
      exact hQ (m 74 18) m h
    · have h := h.2 hc
      refine hY _ _ _ _ (hY _ _ _ _ (hY _ _ _ _ (?_ : Y 82 [(0, 5, true, 74)] [(2, true, 0), (5, true, 85)] (sM s m))))
      refine hY _ _ _ _ ?_
      refine (And.intro h.1 (And.intro h.2.1 ?_))
      refine hY _ _ _ _ (hY _ _ _ _ (hY _ _ _ _ (?_ : Y 88 [(0, 5, true, 74)] [(0, false, (m 85 0) + (m 74 27))] (sM s m))))
      refine hY _ _ _ _ (?_ : Y 90 [(0, 5, true, 74)] [(0, true, 20), (0, false, (m 85 0) + (m 74 27))] (sM s m))
      refine hY _ _ _ _ ?_
      refine And.intro h.2.2.1 ?_
      refine And.intro (fun hc => ?_) (fun hc => ?_)
      · have h := h.2.2.2.1 hc
        refine hY _ _ _ _ (?_ : Y 102 [(0, 5, true, 74)] [(5, true, 74)] (sM s m))
        refine hY _ _ _ _ ?_
        refine Exists.intro _ (And.intro (wc_198_r74 _ _ h) (fun r1 m1 h => ?_))
        refine hY _ _ _ _ (?_ : Y 61 [(0, 5, true, 74)] [] (sM s m1))
        refine l61 _ _ ?_
        exact (Exists.intro m1 (And.intro rfl h))
      · have h := h.2.2.2.2 hc
        refine hY _ _ _ _ (?_ : Y 94 [(0, 5, true, 74)] [(5, true, 74)] (sM s m))
        refine hY _ _ _ _ ?_
        refine Exists.intro _ (And.intro (wc_180_r74 _ _ h) (fun r2 m2 h => ?_))
        refine hY _ _ _ _ (hY _ _ _ _ (?_ : Y 61 [(2, 0, true, r2), (0, 5, true, 74)] [] (sM s m2)))
        refine l61 _ _ ?_
        exact (Exists.intro m2 (And.intro rfl h))
theorem wk_199_61 (Q : sQ) (R : Int → hy_m → Prop) (s : sS) (hQ : ∀ x m', R x m' → Q x (sM s m')) (hr : sRg [(0, 5, 74)] []) (h : wq_199_61 s.2.2.2 R) : kX dM 8 im_m199 0 61 (sCan [(0, 5, 74)] []) [] s Q :=
  h (fun m => sRg [(0, 5, 74)] [] → kX dM 8 im_m199 0 61 (sCan [(0, 5, 74)] []) [] (sM s m) Q) (fun m h hr => wj_199_61 Q R s (fun m => sRg [(0, 5, 74)] [] → kX dM 8 im_m199 0 61 (sCan [(0, 5, 74)] []) [] (sM s m) Q) m  (fun _ hp hr => hp hr) hQ hr h) hr
def lb_199_0 (s : sS) (Q : sQ) (R : Int → hy_m → Prop) (x1 : Int) : Nat → Option (sL → sS → Prop) := sLb [(61, fun lv t => sG [(0, 5, 74)] lv (ap0 (∃ m', t = sM s m' ∧ wq_199_61 m' R)))]
set_option maxRecDepth 30000 in
set_option maxHeartbeats 1000000 in
theorem wk_199_0 (Q : sQ) (R : Int → hy_m → Prop) (s : sS) (x1 : Int) (hQ : ∀ x m', R x m' → Q x (sM s m')) (hr : sRg [(0, 5, 74), (1, 0, 0)] [x1]) (h : wq_199 x1 s.2.2.2 R) : kX dM 8 im_m199 0 0 (sCan [(0, 5, 74), (1, 0, 0)] [x1]) [] s Q := by
  unfold wq_199 at h
  refine wz2_ok (cs := cs_199) (wr := []) (lb := lb_199_0 s Q R x1) cs_199_ok (kLb_c (kLab (Bd := fun xs t => ap0 (∃ m', t = sM s m' ∧ wq_199_61 m' R) xs) rfl (fun xs t r1 r2 hb => by obtain ⟨rfl, hb⟩ := ap0_ok hb; obtain ⟨m', rfl, hx⟩ := hb; exact wk_199_61 Q R (sM s m')  (fun x m'' hy => hQ x m'' hy) r1 hx)) kLb_n) (okL_can rfl hr) (fun Y hY hl => ?_)
  have l61 := hl 61 _ rfl
  refine hY _ _ _ _ (hY _ _ _ _ (?_ : Y 2 [(0, 5, true, 74), (1, 0, true, x1)] [(2, true, 0), (5, true, 74)] s))
  refine hY _ _ _ _ ?_
  refine hY _ _ _ _ (hY _ _ _ _ (?_ : Y 8 [(0, 5, true, 74), (1, 0, true, x1)] [(0, true, (-9)), (5, true, 74)] (sM s (hy_u s.2.2.2 74 14 0))))
  refine hY _ _ _ _ ?_
  refine hY _ _ _ _ (hY _ _ _ _ (?_ : Y 13 [(0, 5, true, 74), (1, 0, true, x1)] [(2, true, 0), (5, true, 74)] (sM s (hy_u (hy_u s.2.2.2 74 14 0) 74 18 (-9)))))
  refine hY _ _ _ _ ?_
  refine hY _ _ _ _ (?_ : Y 17 [(0, 5, true, 74), (1, 0, true, x1)] [(5, true, 74)] (sM s (hy_u (hy_u (hy_u s.2.2.2 74 14 0) 74 18 (-9)) 74 27 0)))
  refine hY _ _ _ _ ?_
  refine Exists.intro _ (And.intro (wc_179_r74 _ _ h) (fun r1 m1 h => ?_))
  refine hY _ _ _ _ (hY _ _ _ _ (?_ : Y 22 [(0, 5, true, 74), (1, 0, true, x1)] [(2, true, 1), (0, true, x1)] (sM s m1)))
  refine hY _ _ _ _ ?_
  refine And.intro (fun hc => ?_) (fun hc => ?_)
  · have h := h.1 hc
    show Y 61 [(0, 5, true, 74), (1, 0, true, x1)] [] (sM s m1)
    refine l61 _ _ ?_
    exact (Exists.intro m1 (And.intro rfl h))
  · have h := h.2 hc
    refine hY _ _ _ _ (hY _ _ _ _ (?_ : Y 28 [(0, 5, true, 74), (1, 0, true, x1)] [(0, true, 27), (5, true, 74)] (sM s m1)))
    refine hY _ _ _ _ ?_
    refine Exists.intro _ (And.intro (wc_193_r74_0t 27 _ _ h) (fun r2 m2 h => ?_))
    refine hY _ _ _ _ (?_ : Y 32 [(0, 5, true, 74), (1, 0, true, x1)] [(5, true, 74)] (sM s m2))
    refine hY _ _ _ _ ?_
    refine Exists.intro _ (And.intro (wc_194_r74 _ _ h) (fun r3 m3 h => ?_))
    refine hY _ _ _ _ (hY _ _ _ _ (hY _ _ _ _ (?_ : Y 41 [(0, 5, true, 74), (1, 0, true, x1)] [(0, true, (-9)), (0, true, m3 74 18)] (sM s m3))))
    refine hY _ _ _ _ ?_
    refine And.intro (fun hc => ?_) (fun hc => ?_)
    · have h := h.1 hc
      refine hY _ _ _ _ (hY _ _ _ _ (?_ : Y 60 [(0, 5, true, 74), (1, 0, true, x1)] [(0, true, m3 74 18)] (sM s m3)))
      refine hY _ _ _ _ ?_
      exact hQ (m3 74 18) m3 h
    · have h := h.2 hc
      refine hY _ _ _ _ (hY _ _ _ _ (?_ : Y 48 [(0, 5, true, 74), (1, 0, true, x1)] [(0, true, m3 74 15)] (sM s m3)))
      refine hY _ _ _ _ ?_
      refine And.intro (fun hc => ?_) (fun hc => ?_)
      · have h := h.1 hc
        refine hY _ _ _ _ (hY _ _ _ _ (?_ : Y 60 [(0, 5, true, 74), (1, 0, true, x1)] [(0, true, m3 74 18)] (sM s m3)))
        refine hY _ _ _ _ ?_
        exact hQ (m3 74 18) m3 h
      · have h := h.2 hc
        refine hY _ _ _ _ (?_ : Y 52 [(0, 5, true, 74), (1, 0, true, x1)] [(5, true, 74)] (sM s m3))
        refine hY _ _ _ _ ?_
        refine Exists.intro _ (And.intro (wc_180_r74 _ _ h) (fun r4 m4 h => ?_))
        refine hY _ _ _ _ (hY _ _ _ _ (hY _ _ _ _ (?_ : Y 60 [(2, 0, true, r4), (0, 5, true, 74), (1, 0, true, x1)] [(0, true, m4 74 18)] (sM s m4))))
        refine hY _ _ _ _ ?_
        exact hQ (m4 74 18) m4 h
def we_199 : sFf := sEf 3 [(0, 5, 74), (1, 0, 0)] (fun xs s Q => ap1 (fun x1 => wq_199 x1 s.2.2.2 Q) xs)
theorem we_199_ok : kS dM 9 199 0 (.inl we_199) := sEf_ok (mi := im_m199) rfl rfl rfl (fun R xs s r1 hb => by obtain ⟨x1, rfl, hb⟩ := ap1_ok hb; exact wk_199_0 _ R s x1 (fun x m' hx => ⟨m', rfl, hx⟩) r1 hb)
