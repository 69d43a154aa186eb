/-- LM$Reader.acceptFirstItem()Z -/
def wq_75 (m : hy_m) (Q : Int → hy_m → Prop) : Prop := ((m 2 2) ≠ 93 → (wq_81 4 184 m (fun r1 m1 => wq_82 r1 m1 (fun _ m2 => wq_80 r1 1 m2 (fun _ m3 => wq_74 m3 (fun r4 m4 => Q r4 m4)))))) ∧ ((m 2 2) = 93 → (wq_81 3 47980 m (fun r5 m5 => wq_82 r5 m5 (fun _ m6 => Q 1 (hy_u m6 4 16 3)))))
theorem wc_80_r4_0t_2t (x1 : Int) (x2 : Int) (s : sS) (R : Int → hy_m → Prop) (h : wq_80 x1 x2 s.2.2.2 R) : we_80 [(5, true, 4), (0, true, x1), (2, true, x2)] s R := h
theorem wc_74_r4 (s : sS) (R : Int → hy_m → Prop) (h : wq_74 s.2.2.2 R) : we_74 [(5, true, 4)] s R := h
def cs_75 : List (Nat × Nat × sFS) := [(74, 2, .inl we_74), (80, 9, .inl we_80), (81, 0, .inl we_81), (82, 9, .inl we_82)]
theorem cs_75_ok : kCs dC 3 cs_75 := (kCs_c (Or.inr (Or.inr (Or.inl rfl))) (we_74_ok.deep (by decide)) (kCs_c (Or.inr (Or.inr (Or.inr (Or.inr rfl)))) (we_80_ok.deep (by decide)) (kCs_c (Or.inl rfl) (we_81_ok.deep (by decide)) (kCs_c (Or.inr (Or.inr (Or.inr (Or.inr rfl)))) (we_82_ok.deep (by decide)) kCs_n))))
def lb_75_0 (s : sS) (Q : sQ) (R : Int → hy_m → Prop) : Nat → Option (sL → sS → Prop) := sLb []
set_option maxRecDepth 30000 in
set_option maxHeartbeats 1000000 in
theorem wk_75_0 (Q : sQ) (R : Int → hy_m → Prop) (s : sS) (hQ : ∀ x m', R x m' → Q x (sM s m')) (hr : sRg [(0, 5, 4)] []) (h : wq_75 s.2.2.2 R) : kX dC 3 im_m75 2 0 (sCan [(0, 5, 4)] []) [] s Q := by
  unfold wq_75 at h
  refine wz2_ok (cs := cs_75) (wr := []) (lb := lb_75_0 s Q R) cs_75_ok kLb_n (okL_can rfl hr) (fun Y hY hl => ?_)
  refine hY _ _ _ _ (hY _ _ _ _ (hY _ _ _ _ (?_ : Y 7 [(0, 5, true, 4)] [(0, true, s.2.2.2 2 2)] s)))
  refine hY _ _ _ _ (?_ : Y 9 [(0, 5, true, 4)] [(0, true, 93), (0, true, s.2.2.2 2 2)] s)
  refine hY _ _ _ _ ?_
  refine And.intro (fun hc => ?_) (fun hc => ?_)
  · have h := h.1 hc
    refine hY _ _ _ _ (hY _ _ _ _ (hY _ _ _ _ (?_ : Y 36 [(0, 5, true, 4)] [(1, true, 184), (0, true, 4), (5, true, 4)] s)))
    refine hY _ _ _ _ ?_
    refine Exists.intro _ (And.intro (wc_81_r4_0t_1t 4 184 _ _ h) (fun r1 m1 h => ?_))
    refine hY _ _ _ _ (hY _ _ _ _ (hY _ _ _ _ (?_ : Y 42 [(1, 0, true, r1), (0, 5, true, 4)] [(0, true, r1), (5, true, 4)] (sM s m1))))
    refine hY _ _ _ _ ?_
    refine Exists.intro _ (And.intro (wc_82_r4_0t r1 _ _ h) (fun r2 m2 h => ?_))
    refine hY _ _ _ _ (hY _ _ _ _ (hY _ _ _ _ (?_ : Y 48 [(1, 0, true, r1), (0, 5, true, 4)] [(2, true, 1), (0, true, r1), (5, true, 4)] (sM s m2))))
    refine hY _ _ _ _ ?_
    refine Exists.intro _ (And.intro (wc_80_r4_0t_2t r1 1 _ _ h) (fun r3 m3 h => ?_))
    refine hY _ _ _ _ (?_ : Y 52 [(1, 0, true, r1), (0, 5, true, 4)] [(5, true, 4)] (sM s m3))
    refine hY _ _ _ _ ?_
    refine Exists.intro _ (And.intro (wc_74_r4 _ _ h) (fun r4 m4 h => ?_))
    show Y 55 [(1, 0, true, r1), (0, 5, true, 4)] [(2, true, r4)] (sM s m4)
    refine hY _ _ _ _ ?_
    exact hQ r4 m4 h
  · have h := h.2 hc
    refine hY _ _ _ _ (hY _ _ _ _ (hY _ _ _ _ (?_ : Y 15 [(0, 5, true, 4)] [(0, true, 3), (5, true, 4), (5, true, 4)] s)))
    refine hY _ _ _ _ (?_ : Y 18 [(0, 5, true, 4)] [(1, true, 47980), (0, true, 3), (5, true, 4), (5, true, 4)] s)
    refine hY _ _ _ _ ?_
    refine Exists.intro _ (And.intro (wc_81_r4_0t_1t 3 47980 _ _ h) (fun r5 m5 h => ?_))
    show Y 21 [(0, 5, true, 4)] [(0, true, r5), (5, true, 4)] (sM s m5)
    refine hY _ _ _ _ ?_
    refine Exists.intro _ (And.intro (wc_82_r4_0t r5 _ _ h) (fun r6 m6 h => ?_))
    refine hY _ _ _ _ (hY _ _ _ _ (?_ : Y 26 [(0, 5, true, 4)] [(0, true, 3), (5, true, 4)] (sM s m6)))
    refine hY _ _ _ _ ?_
    refine hY _ _ _ _ (?_ : Y 30 [(0, 5, true, 4)] [(2, true, 1)] (sM s (hy_u m6 4 16 3)))
    refine hY _ _ _ _ ?_
    exact hQ 1 (hy_u m6 4 16 3) h
def we_75 : sFf := sEf 2 [(0, 5, 4)] (fun xs s Q => ap0 (wq_75 s.2.2.2 Q) xs)
theorem we_75_ok : kS dC 4 75 2 (.inl we_75) := sEf_ok (mi := im_m75) rfl rfl rfl (fun R xs s r1 hb => by obtain ⟨rfl, hb⟩ := ap0_ok hb; exact wk_75_0 _ R s (fun x m' hx => ⟨m', rfl, hx⟩) r1 hb)
/-- LM$Reader.acceptBehindGoal()Z -/
def wq_77 (m : hy_m) (Q : Int → hy_m → Prop) : Prop := ((m 2 2) = 4 → (((m 4 15) ≠ 0 → (Q 0 (hy_u m 4 16 0))) ∧ ((m 4 15) = 0 → (((m 4 7) ≠ 0 → (Q 0 (hy_u m 4 16 0))) ∧ ((m 4 7) = 0 → (Q 1 (hy_u m 4 16 0))))))) ∧ ((m 2 2) ≠ 4 → (((m 2 2) = 44 → (((m 4 7) ≤ 0 → (Q 0 (hy_u m 4 16 0))) ∧ (0 < (m 4 7) → ((5 ≤ (m 4 7) → (Q 0 (hy_u m 4 16 0))) ∧ ((m 4 7) < 5 → (Q 1 (hy_u m 4 16 0))))))) ∧ ((m 2 2) ≠ 44 → (((m 2 2) = 46 → (Q 1 (hy_u m 4 16 4))) ∧ ((m 2 2) ≠ 46 → (Q 0 m))))))
def cs_77 : List (Nat × Nat × sFS) := []
theorem cs_77_ok : kCs dC 0 cs_77 := kCs_n
def lb_77_0 (s : sS) (Q : sQ) (R : Int → hy_m → Prop) : Nat → Option (sL → sS → Prop) := sLb []
set_option maxRecDepth 30000 in
set_option maxHeartbeats 1000000 in
theorem wk_77_0 (Q : sQ) (R : Int → hy_m → Prop) (s : sS) (hQ : ∀ x m', R x m' → Q x (sM s m')) (hr : sRg [(0, 5, 4)] []) (h : wq_77 s.2.2.2 R) : kX dC 0 im_m77 2 0 (sCan [(0, 5, 4)] []) [] s Q := by
  unfold wq_77 at h
  refine wz2_ok (cs := cs_77) (wr := []) (lb := lb_77_0 s Q R) cs_77_ok kLb_n (okL_can rfl hr) (fun Y hY hl => ?_)
  refine hY _ _ _ _ (hY _ _ _ _ (hY _ _ _ _ (?_ : Y 7 [(0, 5, true, 4)] [(0, true, s.2.2.2 2 2)] s)))
  refine hY _ _ _ _ ?_
  refine And.intro (fun hc => ?_) (fun hc => ?_)
  · have h := h.1 hc
    refine hY _ _ _ _ (hY _ _ _ _ (?_ : Y 75 [(0, 5, true, 4)] [(2, true, 0), (5, true, 4)] s))
    refine hY _ _ _ _ ?_
    refine hY _ _ _ _ (hY _ _ _ _ (?_ : Y 82 [(0, 5, true, 4)] [(2, true, s.2.2.2 4 15)] (sM s (hy_u s.2.2.2 4 16 0))))
    refine hY _ _ _ _ ?_
    refine And.intro (fun hc => ?_) (fun hc => ?_)
    · have h := h.1 hc
      refine hY _ _ _ _ (?_ : Y 97 [(0, 5, true, 4)] [(2, true, 0)] (sM s (hy_u s.2.2.2 4 16 0)))
      refine hY _ _ _ _ ?_
      exact hQ 0 (hy_u s.2.2.2 4 16 0) h
    · have h := h.2 hc
      refine hY _ _ _ _ (hY _ _ _ _ (?_ : Y 89 [(0, 5, true, 4)] [(0, true, s.2.2.2 4 7)] (sM s (hy_u s.2.2.2 4 16 0))))
      refine hY _ _ _ _ ?_
      refine And.intro (fun hc => ?_) (fun hc => ?_)
      · have h := h.1 hc
        refine hY _ _ _ _ (?_ : Y 97 [(0, 5, true, 4)] [(2, true, 0)] (sM s (hy_u s.2.2.2 4 16 0)))
        refine hY _ _ _ _ ?_
        exact hQ 0 (hy_u s.2.2.2 4 16 0) h
      · have h := h.2 hc
        refine hY _ _ _ _ (hY _ _ _ _ (?_ : Y 97 [(0, 5, true, 4)] [(2, true, 1)] (sM s (hy_u s.2.2.2 4 16 0))))
        refine hY _ _ _ _ ?_
        exact hQ 1 (hy_u s.2.2.2 4 16 0) h
  · have h := h.2 hc
    refine And.intro (fun hc => ?_) (fun hc => ?_)
    · have h := h.1 hc
      refine hY _ _ _ _ (hY _ _ _ _ (?_ : Y 49 [(0, 5, true, 4)] [(2, true, 0), (5, true, 4)] s))
      refine hY _ _ _ _ ?_
      refine hY _ _ _ _ (hY _ _ _ _ (?_ : Y 56 [(0, 5, true, 4)] [(0, true, s.2.2.2 4 7)] (sM s (hy_u s.2.2.2 4 16 0))))
      refine hY _ _ _ _ ?_
      refine And.intro (fun hc => ?_) (fun hc => ?_)
      · have h := h.1 hc
        refine hY _ _ _ _ (?_ : Y 72 [(0, 5, true, 4)] [(2, true, 0)] (sM s (hy_u s.2.2.2 4 16 0)))
        refine hY _ _ _ _ ?_
        exact hQ 0 (hy_u s.2.2.2 4 16 0) h
      · have h := h.2 hc
        refine hY _ _ _ _ (hY _ _ _ _ (hY _ _ _ _ (?_ : Y 64 [(0, 5, true, 4)] [(0, true, 5), (0, true, s.2.2.2 4 7)] (sM s (hy_u s.2.2.2 4 16 0)))))
        refine hY _ _ _ _ ?_
        refine And.intro (fun hc => ?_) (fun hc => ?_)
        · have h := h.1 hc
          refine hY _ _ _ _ (?_ : Y 72 [(0, 5, true, 4)] [(2, true, 0)] (sM s (hy_u s.2.2.2 4 16 0)))
          refine hY _ _ _ _ ?_
          exact hQ 0 (hy_u s.2.2.2 4 16 0) h
        · have h := h.2 hc
          refine hY _ _ _ _ (hY _ _ _ _ (?_ : Y 72 [(0, 5, true, 4)] [(2, true, 1)] (sM s (hy_u s.2.2.2 4 16 0))))
          refine hY _ _ _ _ ?_
          exact hQ 1 (hy_u s.2.2.2 4 16 0) h
    · have h := h.2 hc
      refine And.intro (fun hc => ?_) (fun hc => ?_)
      · have h := h.1 hc
        refine hY _ _ _ _ (hY _ _ _ _ (?_ : Y 42 [(0, 5, true, 4)] [(0, true, 4), (5, true, 4)] s))
        refine hY _ _ _ _ ?_
        refine hY _ _ _ _ (?_ : Y 46 [(0, 5, true, 4)] [(2, true, 1)] (sM s (hy_u s.2.2.2 4 16 4)))
        refine hY _ _ _ _ ?_
        exact hQ 1 (hy_u s.2.2.2 4 16 4) h
      · have h := h.2 hc
        refine hY _ _ _ _ (?_ : Y 99 [(0, 5, true, 4)] [(2, true, 0)] s)
        refine hY _ _ _ _ ?_
        exact hQ 0 s.2.2.2 h
def we_77 : sFf := sEf 1 [(0, 5, 4)] (fun xs s Q => ap0 (wq_77 s.2.2.2 Q) xs)
theorem we_77_ok : kS dC 1 77 2 (.inl we_77) := sEf_ok (mi := im_m77) rfl rfl rfl (fun R xs s r1 hb => by obtain ⟨rfl, hb⟩ := ap0_ok hb; exact wk_77_0 _ R s (fun x m' hx => ⟨m', rfl, hx⟩) r1 hb)
/-- LM$Reader.acceptBehindArgument(I)Z -/
def wq_78 (x1 : Int) (m : hy_m) (Q : Int → hy_m → Prop) : Prop := ((m 2 2) ≠ 41 → (((m 2 2) ≠ 44 → (Q 0 (hy_u m 4 16 1))) ∧ ((m 2 2) = 44 → (0 ≤ x1 ∧ x1 < 128 ∧ (wq_26 (m 6 x1) (hy_u m 4 16 1) (fun r1 m1 => (3 ≤ r1 → (Q 0 m1)) ∧ (r1 < 3 → (Q 1 m1)))))))) ∧ ((m 2 2) = 41 → (hy_r 0 ((m 4 14) - 1) ∧ ((x1 ≠ (m 4 5) → (Q 1 (hy_u m 4 14 ((m 4 14) - 1)))) ∧ (x1 = (m 4 5) → (0 ≤ x1 ∧ x1 < 128 ∧ (wq_23 (m 6 x1) (hy_u m 4 14 ((m 4 14) - 1)) (fun r2 m2 => (r2 ≠ 0 → (Q 0 m2)) ∧ (r2 = 0 → (Q 1 m2)))))))))
def cs_78 : List (Nat × Nat × sFS) := [(23, 0, .inl we_23), (26, 0, .inl we_26)]
theorem cs_78_ok : kCs dC 1 cs_78 := (kCs_c (Or.inl rfl) (we_23_ok.deep (by decide)) (kCs_c (Or.inl rfl) (we_26_ok.deep (by decide)) kCs_n))
def lb_78_0 (s : sS) (Q : sQ) (R : Int → hy_m → Prop) (x1 : Int) : Nat → Option (sL → sS → Prop) := sLb []
set_option maxRecDepth 30000 in
set_option maxHeartbeats 1000000 in
theorem wk_78_0 (Q : sQ) (R : Int → hy_m → Prop) (s : sS) (x1 : Int) (hQ : ∀ x m', R x m' → Q x (sM s m')) (hr : sRg [(0, 5, 4), (1, 0, 0)] [x1]) (h : wq_78 x1 s.2.2.2 R) : kX dC 1 im_m78 2 0 (sCan [(0, 5, 4), (1, 0, 0)] [x1]) [] s Q := by
  unfold wq_78 at h
  refine wz2_ok (cs := cs_78) (wr := []) (lb := lb_78_0 s Q R x1) cs_78_ok kLb_n (okL_can rfl hr) (fun Y hY hl => ?_)
  refine hY _ _ _ _ (hY _ _ _ _ (hY _ _ _ _ (?_ : Y 7 [(0, 5, true, 4), (1, 0, true, x1)] [(0, true, s.2.2.2 2 2)] s)))
  refine hY _ _ _ _ (?_ : Y 9 [(0, 5, true, 4), (1, 0, true, x1)] [(0, true, 41), (0, true, s.2.2.2 2 2)] s)
  refine hY _ _ _ _ ?_
  refine And.intro (fun hc => ?_) (fun hc => ?_)
  · have h := h.1 hc
    refine hY _ _ _ _ (hY _ _ _ _ (?_ : Y 50 [(0, 5, true, 4), (1, 0, true, x1)] [(2, true, 1), (5, true, 4)] s))
    refine hY _ _ _ _ ?_
    refine hY _ _ _ _ (hY _ _ _ _ (hY _ _ _ _ (?_ : Y 60 [(0, 5, true, 4), (1, 0, true, x1)] [(0, true, s.2.2.2 2 2)] (sM s (hy_u s.2.2.2 4 16 1)))))
    refine hY _ _ _ _ (?_ : Y 62 [(0, 5, true, 4), (1, 0, true, x1)] [(0, true, 44), (0, true, s.2.2.2 2 2)] (sM s (hy_u s.2.2.2 4 16 1)))
    refine hY _ _ _ _ ?_
    refine And.intro (fun hc => ?_) (fun hc => ?_)
    · have h := h.1 hc
      refine hY _ _ _ _ (?_ : Y 83 [(0, 5, true, 4), (1, 0, true, x1)] [(2, true, 0)] (sM s (hy_u s.2.2.2 4 16 1)))
      refine hY _ _ _ _ ?_
      exact hQ 0 (hy_u s.2.2.2 4 16 1) h
    · have h := h.2 hc
      refine hY _ _ _ _ (hY _ _ _ _ (hY _ _ _ _ (?_ : Y 70 [(0, 5, true, 4), (1, 0, true, x1)] [(0, true, x1), (5, true, 6)] (sM s (hy_u s.2.2.2 4 16 1)))))
      refine hY _ _ _ _ ?_
      refine (And.intro h.1 (And.intro h.2.1 ?_))
      show Y 71 [(0, 5, true, 4), (1, 0, true, x1)] [(1, true, s.2.2.2 6 x1)] (sM s (hy_u s.2.2.2 4 16 1))
      refine hY _ _ _ _ ?_
      refine Exists.intro _ (And.intro (wc_26_1t (s.2.2.2 6 x1) _ _ h.2.2) (fun r1 m1 h => ?_))
      refine hY _ _ _ _ (?_ : Y 75 [(0, 5, true, 4), (1, 0, true, x1)] [(0, true, 3), (0, true, r1)] (sM s m1))
      refine hY _ _ _ _ ?_
      refine And.intro (fun hc => ?_) (fun hc => ?_)
      · have h := h.1 hc
        refine hY _ _ _ _ (?_ : Y 83 [(0, 5, true, 4), (1, 0, true, x1)] [(2, true, 0)] (sM s m1))
        refine hY _ _ _ _ ?_
        exact hQ 0 m1 h
      · have h := h.2 hc
        refine hY _ _ _ _ (hY _ _ _ _ (?_ : Y 83 [(0, 5, true, 4), (1, 0, true, x1)] [(2, true, 1)] (sM s m1)))
        refine hY _ _ _ _ ?_
        exact hQ 1 m1 h
  · have h := h.2 hc
    refine hY _ _ _ _ (hY _ _ _ _ (hY _ _ _ _ (?_ : Y 17 [(0, 5, true, 4), (1, 0, true, x1)] [(0, true, s.2.2.2 4 14), (5, true, 4)] s)))
    refine hY _ _ _ _ (hY _ _ _ _ (?_ : Y 19 [(0, 5, true, 4), (1, 0, true, x1)] [(0, false, (s.2.2.2 4 14) - 1), (5, true, 4)] s))
    refine hY _ _ _ _ ?_
    refine And.intro h.1 ?_
    refine hY _ _ _ _ (hY _ _ _ _ (hY _ _ _ _ (?_ : Y 27 [(0, 5, true, 4), (1, 0, true, x1)] [(0, true, s.2.2.2 4 5), (0, true, x1)] (sM s (hy_u s.2.2.2 4 14 ((s.2.2.2 4 14) - 1))))))
    refine hY _ _ _ _ ?_
    refine And.intro (fun hc => ?_) (fun hc => ?_)
    · have h := h.2.1 hc
      refine hY _ _ _ _ (hY _ _ _ _ (?_ : Y 47 [(0, 5, true, 4), (1, 0, true, x1)] [(2, true, 1)] (sM s (hy_u s.2.2.2 4 14 ((s.2.2.2 4 14) - 1)))))
      refine hY _ _ _ _ ?_
      exact hQ 1 (hy_u s.2.2.2 4 14 ((s.2.2.2 4 14) - 1)) h
    · have h := h.2.2 hc
      refine hY _ _ _ _ (hY _ _ _ _ (hY _ _ _ _ (?_ : Y 35 [(0, 5, true, 4), (1, 0, true, x1)] [(0, true, x1), (5, true, 6)] (sM s (hy_u s.2.2.2 4 14 ((s.2.2.2 4 14) - 1))))))
      refine hY _ _ _ _ ?_
      refine (And.intro h.1 (And.intro h.2.1 ?_))
      show Y 36 [(0, 5, true, 4), (1, 0, true, x1)] [(1, true, s.2.2.2 6 x1)] (sM s (hy_u s.2.2.2 4 14 ((s.2.2.2 4 14) - 1)))
      refine hY _ _ _ _ ?_
      refine Exists.intro _ (And.intro (wc_23_1t (s.2.2.2 6 x1) _ _ h.2.2) (fun r2 m2 h => ?_))
      show Y 39 [(0, 5, true, 4), (1, 0, true, x1)] [(0, true, r2)] (sM s m2)
      refine hY _ _ _ _ ?_
      refine And.intro (fun hc => ?_) (fun hc => ?_)
      · have h := h.1 hc
        refine hY _ _ _ _ (?_ : Y 47 [(0, 5, true, 4), (1, 0, true, x1)] [(2, true, 0)] (sM s m2))
        refine hY _ _ _ _ ?_
        exact hQ 0 m2 h
      · have h := h.2 hc
        refine hY _ _ _ _ (hY _ _ _ _ (?_ : Y 47 [(0, 5, true, 4), (1, 0, true, x1)] [(2, true, 1)] (sM s m2)))
        refine hY _ _ _ _ ?_
        exact hQ 1 m2 h
def we_78 : sFf := sEf 2 [(0, 5, 4), (1, 0, 0)] (fun xs s Q => ap1 (fun x1 => wq_78 x1 s.2.2.2 Q) xs)
theorem we_78_ok : kS dC 2 78 2 (.inl we_78) := sEf_ok (mi := im_m78) rfl rfl rfl (fun R xs s r1 hb => by obtain ⟨x1, rfl, hb⟩ := ap1_ok hb; exact wk_78_0 _ R s x1 (fun x m' hx => ⟨m', rfl, hx⟩) r1 hb)
/-- LM$Reader.acceptBehindItem()Z -/
def wq_79 (m : hy_m) (Q : Int → hy_m → Prop) : Prop := ((m 2 2) = 44 → (wq_81 4 184 m (fun r3 m3 => wq_82 r3 m3 (fun _ m4 => 0 ≤ ((m4 4 14) - 1) ∧ ((m4 4 14) - 1) < 120 ∧ (Q 1 (hy_u (hy_u m4 12 ((m4 4 14) - 1) r3) 4 16 1)))))) ∧ ((m 2 2) ≠ 44 → (((m 2 2) = 93 → (wq_81 3 47980 m (fun r1 m1 => wq_82 r1 m1 (fun _ m2 => hy_r 0 ((m2 4 14) - 1) ∧ (Q 1 (hy_u m2 4 14 ((m2 4 14) - 1))))))) ∧ ((m 2 2) ≠ 93 → (((m 2 2) = 124 → (0 ≤ ((m 4 14) - 1) ∧ ((m 4 14) - 1) < 120 ∧ (Q 1 (hy_u (hy_u m 13 ((m 4 14) - 1) 2) 4 16 1)))) ∧ ((m 2 2) ≠ 124 → (Q 0 m))))))
def cs_79 : List (Nat × Nat × sFS) := [(81, 0, .inl we_81), (82, 9, .inl we_82)]
theorem cs_79_ok : kCs dC 2 cs_79 := (kCs_c (Or.inl rfl) (we_81_ok.deep (by decide)) (kCs_c (Or.inr (Or.inr (Or.inr (Or.inr rfl)))) (we_82_ok.deep (by decide)) kCs_n))
def lb_79_0 (s : sS) (Q : sQ) (R : Int → hy_m → Prop) : Nat → Option (sL → sS → Prop) := sLb []
set_option maxRecDepth 30000 in
set_option maxHeartbeats 1000000 in
theorem wk_79_0 (Q : sQ) (R : Int → hy_m → Prop) (s : sS) (hQ : ∀ x m', R x m' → Q x (sM s m')) (hr : sRg [(0, 5, 4)] []) (h : wq_79 s.2.2.2 R) : kX dC 2 im_m79 2 0 (sCan [(0, 5, 4)] []) [] s Q := by
  unfold wq_79 at h
  refine wz2_ok (cs := cs_79) (wr := []) (lb := lb_79_0 s Q R) cs_79_ok kLb_n (okL_can rfl hr) (fun Y hY hl => ?_)
  refine hY _ _ _ _ (hY _ _ _ _ (hY _ _ _ _ (?_ : Y 7 [(0, 5, true, 4)] [(0, true, s.2.2.2 2 2)] s)))
  refine hY _ _ _ _ ?_
  refine And.intro (fun hc => ?_) (fun hc => ?_)
  · have h := h.1 hc
    refine hY _ _ _ _ (hY _ _ _ _ (hY _ _ _ _ (?_ : Y 45 [(0, 5, true, 4)] [(1, true, 184), (0, true, 4), (5, true, 4)] s)))
    refine hY _ _ _ _ ?_
    refine Exists.intro _ (And.intro (wc_81_r4_0t_1t 4 184 _ _ h) (fun r1 m1 h => ?_))
    refine hY _ _ _ _ (hY _ _ _ _ (hY _ _ _ _ (?_ : Y 51 [(1, 0, true, r1), (0, 5, true, 4)] [(0, true, r1), (5, true, 4)] (sM s m1))))
    refine hY _ _ _ _ ?_
    refine Exists.intro _ (And.intro (wc_82_r4_0t r1 _ _ h) (fun r2 m2 h => ?_))
    refine hY _ _ _ _ (hY _ _ _ _ (hY _ _ _ _ (?_ : Y 59 [(1, 0, true, r1), (0, 5, true, 4)] [(5, true, 4), (5, true, 12)] (sM s m2))))
    refine hY _ _ _ _ (hY _ _ _ _ (hY _ _ _ _ (?_ : Y 64 [(1, 0, true, r1), (0, 5, true, 4)] [(0, false, (m2 4 14) - 1), (5, true, 12)] (sM s m2))))
    refine hY _ _ _ _ (?_ : Y 65 [(1, 0, true, r1), (0, 5, true, 4)] [(0, true, r1), (0, false, (m2 4 14) - 1), (5, true, 12)] (sM s m2))
    refine hY _ _ _ _ ?_
    refine (And.intro h.1 (And.intro h.2.1 ?_))
    refine hY _ _ _ _ (hY _ _ _ _ (?_ : Y 68 [(1, 0, true, r1), (0, 5, true, 4)] [(2, true, 1), (5, true, 4)] (sM s (hy_u m2 12 ((m2 4 14) - 1) r1))))
    refine hY _ _ _ _ ?_
    refine hY _ _ _ _ (?_ : Y 72 [(1, 0, true, r1), (0, 5, true, 4)] [(2, true, 1)] (sM s (hy_u (hy_u m2 12 ((m2 4 14) - 1) r1) 4 16 1)))
    refine hY _ _ _ _ ?_
    exact hQ 1 (hy_u (hy_u m2 12 ((m2 4 14) - 1) r1) 4 16 1) h.2.2
  · have h := h.2 hc
    refine And.intro (fun hc => ?_) (fun hc => ?_)
    · have h := h.1 hc
      refine hY _ _ _ _ (hY _ _ _ _ (hY _ _ _ _ (?_ : Y 95 [(0, 5, true, 4)] [(0, true, 3), (5, true, 4), (5, true, 4)] s)))
      refine hY _ _ _ _ (?_ : Y 98 [(0, 5, true, 4)] [(1, true, 47980), (0, true, 3), (5, true, 4), (5, true, 4)] s)
      refine hY _ _ _ _ ?_
      refine Exists.intro _ (And.intro (wc_81_r4_0t_1t 3 47980 _ _ h) (fun r3 m3 h => ?_))
      show Y 101 [(0, 5, true, 4)] [(0, true, r3), (5, true, 4)] (sM s m3)
      refine hY _ _ _ _ ?_
      refine Exists.intro _ (And.intro (wc_82_r4_0t r3 _ _ h) (fun r4 m4 h => ?_))
      refine hY _ _ _ _ (hY _ _ _ _ (hY _ _ _ _ (?_ : Y 109 [(0, 5, true, 4)] [(0, true, m4 4 14), (5, true, 4)] (sM s m4))))
      refine hY _ _ _ _ (hY _ _ _ _ (?_ : Y 111 [(0, 5, true, 4)] [(0, false, (m4 4 14) - 1), (5, true, 4)] (sM s m4)))
      refine hY _ _ _ _ ?_
      refine And.intro h.1 ?_
      refine hY _ _ _ _ (?_ : Y 115 [(0, 5, true, 4)] [(2, true, 1)] (sM s (hy_u m4 4 14 ((m4 4 14) - 1))))
      refine hY _ _ _ _ ?_
      exact hQ 1 (hy_u m4 4 14 ((m4 4 14) - 1)) h.2
    · have h := h.2 hc
      refine And.intro (fun hc => ?_) (fun hc => ?_)
      · have h := h.1 hc
        refine hY _ _ _ _ (hY _ _ _ _ (hY _ _ _ _ (?_ : Y 78 [(0, 5, true, 4)] [(5, true, 4), (5, true, 13)] s)))
        refine hY _ _ _ _ (hY _ _ _ _ (hY _ _ _ _ (?_ : Y 83 [(0, 5, true, 4)] [(0, false, (s.2.2.2 4 14) - 1), (5, true, 13)] s)))
        refine hY _ _ _ _ (?_ : Y 84 [(0, 5, true, 4)] [(0, true, 2), (0, false, (s.2.2.2 4 14) - 1), (5, true, 13)] s)
        refine hY _ _ _ _ ?_
        refine (And.intro h.1 (And.intro h.2.1 ?_))
        refine hY _ _ _ _ (hY _ _ _ _ (?_ : Y 87 [(0, 5, true, 4)] [(2, true, 1), (5, true, 4)] (sM s (hy_u s.2.2.2 13 ((s.2.2.2 4 14) - 1) 2))))
        refine hY _ _ _ _ ?_
        refine hY _ _ _ _ (?_ : Y 91 [(0, 5, true, 4)] [(2, true, 1)] (sM s (hy_u (hy_u s.2.2.2 13 ((s.2.2.2 4 14) - 1) 2) 4 16 1)))
        refine hY _ _ _ _ ?_
        exact hQ 1 (hy_u (hy_u s.2.2.2 13 ((s.2.2.2 4 14) - 1) 2) 4 16 1) h.2.2
      · have h := h.2 hc
        refine hY _ _ _ _ (?_ : Y 117 [(0, 5, true, 4)] [(2, true, 0)] s)
        refine hY _ _ _ _ ?_
        exact hQ 0 s.2.2.2 h
def we_79 : sFf := sEf 2 [(0, 5, 4)] (fun xs s Q => ap0 (wq_79 s.2.2.2 Q) xs)
theorem we_79_ok : kS dC 3 79 2 (.inl we_79) := sEf_ok (mi := im_m79) rfl rfl rfl (fun R xs s r1 hb => by obtain ⟨rfl, hb⟩ := ap0_ok hb; exact wk_79_0 _ R s (fun x m' hx => ⟨m', rfl, hx⟩) r1 hb)
/-- LM$Reader.acceptSign()Z -/
def wq_76_42 (m : hy_m) (Q : Int → hy_m → Prop) : Prop := (0 < (m 4 14) → (0 ≤ ((m 4 14) - 1) ∧ ((m 4 14) - 1) < 120 ∧ (((m 13 ((m 4 14) - 1)) = 0 → (0 ≤ ((m 4 14) - 1) ∧ ((m 4 14) - 1) < 120 ∧ (wq_78 (m 12 ((m 4 14) - 1)) m (fun r2 m2 => Q r2 m2)))) ∧ ((m 13 ((m 4 14) - 1)) ≠ 0 → (((m 13 ((m 4 14) - 1)) = 1 → (wq_79 m (fun r1 m1 => Q r1 m1))) ∧ ((m 13 ((m 4 14) - 1)) ≠ 1 → (hy_r 0 ((m 4 14) - 1) ∧ (((m 2 2) ≠ 93 → (Q 0 (hy_u m 4 14 ((m 4 14) - 1)))) ∧ ((m 2 2) = 93 → (Q 1 (hy_u m 4 14 ((m 4 14) - 1)))))))))))) ∧ ((m 4 14) ≤ 0 → (wq_77 m (fun r3 m3 => Q r3 m3)))
def wq_76 (m : hy_m) (Q : Int → hy_m → Prop) : Prop := ((m 4 17) = (-9) → (wq_76_42 (hy_u m 4 17 (-9)) Q)) ∧ ((m 4 17) ≠ (-9) → (((m 2 2) ≠ 40 → (wq_76_42 (hy_u m 4 17 (-9)) Q)) ∧ ((m 2 2) = 40 → (wq_80 (m 4 17) 0 (hy_u m 4 17 (-9)) (fun _ m1 => Q 1 (hy_u m1 4 16 1))))))
theorem wc_78_r4_0t (x1 : Int) (s : sS) (R : Int → hy_m → Prop) (h : wq_78 x1 s.2.2.2 R) : we_78 [(5, true, 4), (0, true, x1)] s R := h
theorem wc_79_r4 (s : sS) (R : Int → hy_m → Prop) (h : wq_79 s.2.2.2 R) : we_79 [(5, true, 4)] s R := h
theorem wc_77_r4 (s : sS) (R : Int → hy_m → Prop) (h : wq_77 s.2.2.2 R) : we_77 [(5, true, 4)] s R := h
def cs_76 : List (Nat × Nat × sFS) := [(77, 2, .inl we_77), (78, 2, .inl we_78), (79, 2, .inl we_79), (80, 9, .inl we_80)]
theorem cs_76_ok : kCs dC 3 cs_76 := (kCs_c (Or.inr (Or.inr (Or.inl rfl))) (we_77_ok.deep (by decide)) (kCs_c (Or.inr (Or.inr (Or.inl rfl))) (we_78_ok.deep (by decide)) (kCs_c (Or.inr (Or.inr (Or.inl rfl))) (we_79_ok.deep (by decide)) (kCs_c (Or.inr (Or.inr (Or.inr (Or.inr rfl)))) (we_80_ok.deep (by decide)) kCs_n))))
def lb_76_42 (s : sS) (Q : sQ) (R : Int → hy_m → Prop) : Nat → Option (sL → sS → Prop) := sLb []
set_option maxRecDepth 30000 in
set_option maxHeartbeats 1000000 in
theorem wk_76_42 (Q : sQ) (R : Int → hy_m → Prop) (s : sS) (hQ : ∀ x m', R x m' → Q x (sM s m')) (hr : sRg [(0, 5, 4)] []) (h : wq_76_42 s.2.2.2 R) : kX dC 3 im_m76 2 42 (sCan [(0, 5, 4)] []) [] s Q := by
  unfold wq_76_42 at h
  refine wz2_ok (cs := cs_76) (wr := []) (lb := lb_76_42 s Q R) cs_76_ok kLb_n (okL_can rfl hr) (fun Y hY hl => ?_)
  refine hY _ _ _ _ (hY _ _ _ _ (?_ : Y 46 [(0, 5, true, 4)] [(0, true, s.2.2.2 4 14)] s))
  refine hY _ _ _ _ ?_
  refine And.intro (fun hc => ?_) (fun hc => ?_)
  · have h := h.1 hc
    refine hY _ _ _ _ (hY _ _ _ _ (hY _ _ _ _ (?_ : Y 59 [(0, 5, true, 4)] [(5, true, 4), (5, true, 13)] s)))
    refine hY _ _ _ _ (hY _ _ _ _ (hY _ _ _ _ (?_ : Y 64 [(0, 5, true, 4)] [(0, false, (s.2.2.2 4 14) - 1), (5, true, 13)] s)))
    refine hY _ _ _ _ ?_
    refine (And.intro h.1 (And.intro h.2.1 ?_))
    show Y 65 [(0, 5, true, 4)] [(0, true, s.2.2.2 13 ((s.2.2.2 4 14) - 1))] s
    refine hY _ _ _ _ ?_
    refine And.intro (fun hc => ?_) (fun hc => ?_)
    · have h := h.2.2.1 hc
      refine hY _ _ _ _ (hY _ _ _ _ (hY _ _ _ _ (?_ : Y 97 [(0, 5, true, 4)] [(5, true, 12), (5, true, 4)] s)))
      refine hY _ _ _ _ (hY _ _ _ _ (hY _ _ _ _ (?_ : Y 102 [(0, 5, true, 4)] [(2, true, 1), (0, true, s.2.2.2 4 14), (5, true, 12), (5, true, 4)] s)))
      refine hY _ _ _ _ (?_ : Y 103 [(0, 5, true, 4)] [(0, false, (s.2.2.2 4 14) - 1), (5, true, 12), (5, true, 4)] s)
      refine hY _ _ _ _ ?_
      refine (And.intro h.1 (And.intro h.2.1 ?_))
      show Y 104 [(0, 5, true, 4)] [(0, true, s.2.2.2 12 ((s.2.2.2 4 14) - 1)), (5, true, 4)] s
      refine hY _ _ _ _ ?_
      refine Exists.intro _ (And.intro (wc_78_r4_0t (s.2.2.2 12 ((s.2.2.2 4 14) - 1)) _ _ h.2.2) (fun r1 m1 h => ?_))
      show Y 107 [(0, 5, true, 4)] [(2, true, r1)] (sM s m1)
      refine hY _ _ _ _ ?_
      exact hQ r1 m1 h
    · have h := h.2.2.2 hc
      refine And.intro (fun hc => ?_) (fun hc => ?_)
      · have h := h.1 hc
        refine hY _ _ _ _ (?_ : Y 109 [(0, 5, true, 4)] [(5, true, 4)] s)
        refine hY _ _ _ _ ?_
        refine Exists.intro _ (And.intro (wc_79_r4 _ _ h) (fun r2 m2 h => ?_))
        show Y 112 [(0, 5, true, 4)] [(2, true, r2)] (sM s m2)
        refine hY _ _ _ _ ?_
        exact hQ r2 m2 h
      · have h := h.2 hc
        refine hY _ _ _ _ (hY _ _ _ _ (hY _ _ _ _ (?_ : Y 118 [(0, 5, true, 4)] [(0, true, s.2.2.2 4 14), (5, true, 4)] s)))
        refine hY _ _ _ _ (hY _ _ _ _ (?_ : Y 120 [(0, 5, true, 4)] [(0, false, (s.2.2.2 4 14) - 1), (5, true, 4)] s))
        refine hY _ _ _ _ ?_
        refine And.intro h.1 ?_
        refine hY _ _ _ _ (hY _ _ _ _ (hY _ _ _ _ (?_ : Y 130 [(0, 5, true, 4)] [(0, true, s.2.2.2 2 2)] (sM s (hy_u s.2.2.2 4 14 ((s.2.2.2 4 14) - 1))))))
        refine hY _ _ _ _ (?_ : Y 132 [(0, 5, true, 4)] [(0, true, 93), (0, true, s.2.2.2 2 2)] (sM s (hy_u s.2.2.2 4 14 ((s.2.2.2 4 14) - 1))))
        refine hY _ _ _ _ ?_
        refine And.intro (fun hc => ?_) (fun hc => ?_)
        · have h := h.2.1 hc
          refine hY _ _ _ _ (?_ : Y 140 [(0, 5, true, 4)] [(2, true, 0)] (sM s (hy_u s.2.2.2 4 14 ((s.2.2.2 4 14) - 1))))
          refine hY _ _ _ _ ?_
          exact hQ 0 (hy_u s.2.2.2 4 14 ((s.2.2.2 4 14) - 1)) h
        · have h := h.2.2 hc
          refine hY _ _ _ _ (hY _ _ _ _ (?_ : Y 140 [(0, 5, true, 4)] [(2, true, 1)] (sM s (hy_u s.2.2.2 4 14 ((s.2.2.2 4 14) - 1)))))
          refine hY _ _ _ _ ?_
          exact hQ 1 (hy_u s.2.2.2 4 14 ((s.2.2.2 4 14) - 1)) h
  · have h := h.2 hc
    refine hY _ _ _ _ (?_ : Y 50 [(0, 5, true, 4)] [(5, true, 4)] s)
    refine hY _ _ _ _ ?_
    refine Exists.intro _ (And.intro (wc_77_r4 _ _ h) (fun r3 m3 h => ?_))
    show Y 53 [(0, 5, true, 4)] [(2, true, r3)] (sM s m3)
    refine hY _ _ _ _ ?_
    exact hQ r3 m3 h
def lb_76_0 (s : sS) (Q : sQ) (R : Int → hy_m → Prop) : Nat → Option (sL → sS → Prop) := sLb [(42, fun lv t => sG [(0, 5, 4)] lv (ap0 (∃ m', t = sM s m' ∧ wq_76_42 m' R)))]
set_option maxRecDepth 30000 in
set_option maxHeartbeats 1000000 in
theorem wk_76_0 (Q : sQ) (R : Int → hy_m → Prop) (s : sS) (hQ : ∀ x m', R x m' → Q x (sM s m')) (hr : sRg [(0, 5, 4)] []) (h : wq_76 s.2.2.2 R) : kX dC 3 im_m76 2 0 (sCan [(0, 5, 4)] []) [] s Q := by
  unfold wq_76 at h
  refine wz2_ok (cs := cs_76) (wr := []) (lb := lb_76_0 s Q R) cs_76_ok (kLb_c (kLab (Bd := fun xs t => ap0 (∃ m', t = sM s m' ∧ wq_76_42 m' R) xs) rfl (fun xs t r1 r2 hb => by obtain ⟨rfl, hb⟩ := ap0_ok hb; obtain ⟨m', rfl, hx⟩ := hb; exact wk_76_42 Q R (sM s m')  (fun x m'' hy => hQ x m'' hy) r1 hx)) kLb_n) (okL_can rfl hr) (fun Y hY hl => ?_)
  have l42 := hl 42 _ rfl
  refine hY _ _ _ _ (hY _ _ _ _ (hY _ _ _ _ (?_ : Y 5 [(1, 0, true, s.2.2.2 4 17), (0, 5, true, 4)] [] s)))
  refine hY _ _ _ _ (hY _ _ _ _ (?_ : Y 8 [(1, 0, true, s.2.2.2 4 17), (0, 5, true, 4)] [(0, true, (-9)), (5, true, 4)] s))
  refine hY _ _ _ _ ?_
  refine hY _ _ _ _ (hY _ _ _ _ (?_ : Y 14 [(1, 0, true, s.2.2.2 4 17), (0, 5, true, 4)] [(0, true, (-9)), (0, true, s.2.2.2 4 17)] (sM s (hy_u s.2.2.2 4 17 (-9)))))
  refine hY _ _ _ _ ?_
  refine And.intro (fun hc => ?_) (fun hc => ?_)
  · have h := h.1 hc
    show Y 42 [(1, 0, true, s.2.2.2 4 17), (0, 5, true, 4)] [] (sM s (hy_u s.2.2.2 4 17 (-9)))
    refine l42 _ _ ?_
    exact (Exists.intro (hy_u s.2.2.2 4 17 (-9)) (And.intro rfl h))
  · have h := h.2 hc
    refine hY _ _ _ _ (hY _ _ _ _ (hY _ _ _ _ (?_ : Y 24 [(1, 0, true, s.2.2.2 4 17), (0, 5, true, 4)] [(0, true, s.2.2.2 2 2)] (sM s (hy_u s.2.2.2 4 17 (-9))))))
    refine hY _ _ _ _ (?_ : Y 26 [(1, 0, true, s.2.2.2 4 17), (0, 5, true, 4)] [(0, true, 40), (0, true, s.2.2.2 2 2)] (sM s (hy_u s.2.2.2 4 17 (-9))))
    refine hY _ _ _ _ ?_
    refine And.intro (fun hc => ?_) (fun hc => ?_)
    · have h := h.1 hc
      show Y 42 [(1, 0, true, s.2.2.2 4 17), (0, 5, true, 4)] [] (sM s (hy_u s.2.2.2 4 17 (-9)))
      refine l42 _ _ ?_
      exact (Exists.intro (hy_u s.2.2.2 4 17 (-9)) (And.intro rfl h))
    · have h := h.2 hc
      refine hY _ _ _ _ (hY _ _ _ _ (hY _ _ _ _ (?_ : Y 32 [(1, 0, true, s.2.2.2 4 17), (0, 5, true, 4)] [(2, true, 0), (0, true, s.2.2.2 4 17), (5, true, 4)] (sM s (hy_u s.2.2.2 4 17 (-9))))))
      refine hY _ _ _ _ ?_
      refine Exists.intro _ (And.intro (wc_80_r4_0t_2t (s.2.2.2 4 17) 0 _ _ h) (fun r1 m1 h => ?_))
      refine hY _ _ _ _ (hY _ _ _ _ (?_ : Y 37 [(1, 0, true, s.2.2.2 4 17), (0, 5, true, 4)] [(2, true, 1), (5, true, 4)] (sM s m1)))
      refine hY _ _ _ _ ?_
      refine hY _ _ _ _ (?_ : Y 41 [(1, 0, true, s.2.2.2 4 17), (0, 5, true, 4)] [(2, true, 1)] (sM s (hy_u m1 4 16 1)))
      refine hY _ _ _ _ ?_
      exact hQ 1 (hy_u m1 4 16 1) h
def we_76 : sFf := sEf 2 [(0, 5, 4)] (fun xs s Q => ap0 (wq_76 s.2.2.2 Q) xs)
theorem we_76_ok : kS dC 4 76 2 (.inl we_76) := sEf_ok (mi := im_m76) rfl rfl rfl (fun R xs s r1 hb => by obtain ⟨rfl, hb⟩ := ap0_ok hb; exact wk_76_0 _ R s (fun x m' hx => ⟨m', rfl, hx⟩) r1 hb)
/-- LM$Reader.acceptPart()Z -/
def wq_72 (m : hy_m) (Q : Int → hy_m → Prop) : Prop := (((m 4 16) = 0 + 0 → (wq_73 m (fun r1 m1 => Q r1 m1))) ∧ (((m 4 16) = 0 + 1 → (wq_74 m (fun r2 m2 => Q r2 m2))) ∧ (((m 4 16) = 0 + 2 → (wq_75 m (fun r3 m3 => Q r3 m3))) ∧ (((m 4 16) = 0 + 3 → (wq_76 m (fun r4 m4 => Q r4 m4))) ∧ (True))))) ∧ ((m 4 16) < 0 ∨ 3 < (m 4 16) → (Q 0 m))
theorem wc_73_r4 (s : sS) (R : Int → hy_m → Prop) (h : wq_73 s.2.2.2 R) : we_73 [(5, true, 4)] s R := h
theorem wc_75_r4 (s : sS) (R : Int → hy_m → Prop) (h : wq_75 s.2.2.2 R) : we_75 [(5, true, 4)] s R := h
theorem wc_76_r4 (s : sS) (R : Int → hy_m → Prop) (h : wq_76 s.2.2.2 R) : we_76 [(5, true, 4)] s R := h
def cs_72 : List (Nat × Nat × sFS) := [(73, 2, .inl we_73), (74, 2, .inl we_74), (75, 2, .inl we_75), (76, 2, .inl we_76)]
theorem cs_72_ok : kCs dC 4 cs_72 := (kCs_c (Or.inr (Or.inr (Or.inl rfl))) (we_73_ok.deep (by decide)) (kCs_c (Or.inr (Or.inr (Or.inl rfl))) (we_74_ok.deep (by decide)) (kCs_c (Or.inr (Or.inr (Or.inl rfl))) (we_75_ok.deep (by decide)) (kCs_c (Or.inr (Or.inr (Or.inl rfl))) (we_76_ok.deep (by decide)) kCs_n))))
def lb_72_0 (s : sS) (Q : sQ) (R : Int → hy_m → Prop) : Nat → Option (sL → sS → Prop) := sLb []
set_option maxRecDepth 30000 in
set_option maxHeartbeats 1000000 in
theorem wk_72_0 (Q : sQ) (R : Int → hy_m → Prop) (s : sS) (hQ : ∀ x m', R x m' → Q x (sM s m')) (hr : sRg [(0, 5, 4)] []) (h : wq_72 s.2.2.2 R) : kX dC 4 im_m72 2 0 (sCan [(0, 5, 4)] []) [] s Q := by
  unfold wq_72 at h
  refine wz2_ok (cs := cs_72) (wr := []) (lb := lb_72_0 s Q R) cs_72_ok kLb_n (okL_can rfl hr) (fun Y hY hl => ?_)
  refine hY _ _ _ _ (hY _ _ _ _ (?_ : Y 4 [(0, 5, true, 4)] [(0, true, s.2.2.2 4 16)] s))
  refine hY _ _ _ _ ?_
  refine And.intro (And.intro (fun hc => ?_) (And.intro (fun hc => ?_) (And.intro (fun hc => ?_) (And.intro (fun hc => ?_) trivial)))) (fun hc => ?_)
  · have h := h.1.1 hc
    refine hY _ _ _ _ (?_ : Y 37 [(0, 5, true, 4)] [(5, true, 4)] s)
    refine hY _ _ _ _ ?_
    refine Exists.intro _ (And.intro (wc_73_r4 _ _ h) (fun r1 m1 h => ?_))
    show Y 40 [(0, 5, true, 4)] [(2, true, r1)] (sM s m1)
    refine hY _ _ _ _ ?_
    exact hQ r1 m1 h
  · have h := h.1.2.1 hc
    refine hY _ _ _ _ (?_ : Y 42 [(0, 5, true, 4)] [(5, true, 4)] s)
    refine hY _ _ _ _ ?_
    refine Exists.intro _ (And.intro (wc_74_r4 _ _ h) (fun r2 m2 h => ?_))
    show Y 45 [(0, 5, true, 4)] [(2, true, r2)] (sM s m2)
    refine hY _ _ _ _ ?_
    exact hQ r2 m2 h
  · have h := h.1.2.2.1 hc
    refine hY _ _ _ _ (?_ : Y 47 [(0, 5, true, 4)] [(5, true, 4)] s)
    refine hY _ _ _ _ ?_
    refine Exists.intro _ (And.intro (wc_75_r4 _ _ h) (fun r3 m3 h => ?_))
    show Y 50 [(0, 5, true, 4)] [(2, true, r3)] (sM s m3)
    refine hY _ _ _ _ ?_
    exact hQ r3 m3 h
  · have h := h.1.2.2.2.1 hc
    refine hY _ _ _ _ (?_ : Y 52 [(0, 5, true, 4)] [(5, true, 4)] s)
    refine hY _ _ _ _ ?_
    refine Exists.intro _ (And.intro (wc_76_r4 _ _ h) (fun r4 m4 h => ?_))
    show Y 55 [(0, 5, true, 4)] [(2, true, r4)] (sM s m4)
    refine hY _ _ _ _ ?_
    exact hQ r4 m4 h
  · have h := h.2 hc
    refine hY _ _ _ _ (?_ : Y 57 [(0, 5, true, 4)] [(2, true, 0)] s)
    refine hY _ _ _ _ ?_
    exact hQ 0 s.2.2.2 h
def we_72 : sFf := sEf 1 [(0, 5, 4)] (fun xs s Q => ap0 (wq_72 s.2.2.2 Q) xs)
theorem we_72_ok : kS dC 5 72 2 (.inl we_72) := sEf_ok (mi := im_m72) rfl rfl rfl (fun R xs s r1 hb => by obtain ⟨rfl, hb⟩ := ap0_ok hb; exact wk_72_0 _ R s (fun x m' hx => ⟨m', rfl, hx⟩) r1 hb)
/-- LM$Reader.readOne(Z)Z -/
def wf_70_7 (Q : Int → hy_m → Prop) (P7 : Int → hy_m → Prop) (x2 : Int) (m : hy_m) : Prop := (120 < x2 → (Q 0 m)) ∧ (x2 ≤ 120 → (wq_72 m (fun r1 m1 => (r1 = 0 → (Q 0 m1)) ∧ (r1 ≠ 0 → (wq_136 m1 (fun _ m2 => ((m2 4 16) ≠ 4 → (hy_r 0 (x2 + 1) ∧ (P7 (x2 + 1) m2))) ∧ ((m2 4 16) = 4 → (Q 1 m2))))))))
def wq_70_7 (x2 : Int) (m : hy_m) (Q : Int → hy_m → Prop) : Prop := wL1 hy_m (wf_70_7 Q) x2 m
def wq_70 (x1 : Int) (m : hy_m) (Q : Int → hy_m → Prop) : Prop := wq_71 x1 m (fun _ m1 => wq_70_7 0 m1 Q)
theorem wc_72_r4 (s : sS) (R : Int → hy_m → Prop) (h : wq_72 s.2.2.2 R) : we_72 [(5, true, 4)] s R := h
theorem wc_71_r4_2t (x1 : Int) (s : sS) (R : Int → hy_m → Prop) (h : wq_71 x1 s.2.2.2 R) : we_71 [(5, true, 4), (2, true, x1)] s R := h
def cs_70 : List (Nat × Nat × sFS) := [(71, 9, .inl we_71), (72, 2, .inl we_72), (136, 9, .inl we_136)]
theorem cs_70_ok : kCs dC 5 cs_70 := (kCs_c (Or.inr (Or.inr (Or.inr (Or.inr rfl)))) (we_71_ok.deep (by decide)) (kCs_c (Or.inr (Or.inr (Or.inl rfl))) (we_72_ok.deep (by decide)) (kCs_c (Or.inr (Or.inr (Or.inr (Or.inr rfl)))) (we_136_ok.deep (by decide)) kCs_n)))
def lb_70_7 (s : sS) (Q : sQ) (P7 : Int → hy_m → Prop) (R : Int → hy_m → Prop) (x2 : Int) : Nat → Option (sL → sS → Prop) := sLb [(7, fun lv t => sG [(0, 5, 4), (2, 0, 0)] lv (ap1 (fun w2 => ∃ m', t = sM s m' ∧ P7 w2 m')))]
set_option maxRecDepth 30000 in
set_option maxHeartbeats 1000000 in
theorem wj_70_7 (Q : sQ) (R : Int → hy_m → Prop) (s : sS) (P7 : Int → hy_m → Prop) (x2 : Int) (m : hy_m) (hP7 : ∀ (z2 : Int) (m : hy_m), P7 z2 m → sRg [(0, 5, 4), (2, 0, 0)] [z2] → kX dC 5 im_m70 2 7 (sCan [(0, 5, 4), (2, 0, 0)] [z2]) [] (sM s m) Q) (hQ : ∀ x m', R x m' → Q x (sM s m')) (hr : sRg [(0, 5, 4), (2, 0, 0)] [x2]) (h : wf_70_7 R P7 x2 m) : kX dC 5 im_m70 2 7 (sCan [(0, 5, 4), (2, 0, 0)] [x2]) [] (sM s m) Q := by
  unfold wf_70_7 at h
  refine wz2_ok (cs := cs_70) (wr := []) (lb := lb_70_7 s Q P7 R x2) cs_70_ok (kLb_c (kLab (Bd := fun xs t => ap1 (fun w2 => ∃ m', t = sM s m' ∧ P7 w2 m') xs) rfl (fun xs t r1 r2 hb => by obtain ⟨w2, rfl, hb⟩ := ap1_ok hb; obtain ⟨m', rfl, hx⟩ := hb; exact hP7 _ m' hx r1)) kLb_n) (okL_can rfl hr) (fun Y hY hl => ?_)
  have l7 := hl 7 _ rfl
  refine hY _ _ _ _ (hY _ _ _ _ (?_ : Y 10 [(0, 5, true, 4), (2, 0, true, x2)] [(0, true, 120), (0, true, x2)] (sM s m)))
  refine hY _ _ _ _ ?_
  refine And.intro (fun hc => ?_) (fun hc => ?_)
  · have h := h.1 hc
    refine hY _ _ _ _ (?_ : Y 44 [(0, 5, true, 4), (2, 0, true, x2)] [(2, true, 0)] (sM s m))
    refine hY _ _ _ _ ?_
    exact hQ 0 m h
  · have h := h.2 hc
    refine hY _ _ _ _ (?_ : Y 14 [(0, 5, true, 4), (2, 0, true, x2)] [(5, true, 4)] (sM s m))
    refine hY _ _ _ _ ?_
    refine Exists.intro _ (And.intro (wc_72_r4 _ _ h) (fun r1 m1 h => ?_))
    show Y 17 [(0, 5, true, 4), (2, 0, true, x2)] [(2, true, r1)] (sM s m1)
    refine hY _ _ _ _ ?_
    refine And.intro (fun hc => ?_) (fun hc => ?_)
    · have h := h.1 hc
      refine hY _ _ _ _ (?_ : Y 44 [(0, 5, true, 4), (2, 0, true, x2)] [(2, true, 0)] (sM s m1))
      refine hY _ _ _ _ ?_
      exact hQ 0 m1 h
    · have h := h.2 hc
      refine hY _ _ _ _ (hY _ _ _ _ (?_ : Y 24 [(0, 5, true, 4), (2, 0, true, x2)] [(5, true, 2)] (sM s m1)))
      refine hY _ _ _ _ ?_
      refine Exists.intro _ (And.intro (wc_136_r2 _ _ h) (fun r2 m2 h => ?_))
      refine hY _ _ _ _ (hY _ _ _ _ (hY _ _ _ _ (?_ : Y 32 [(0, 5, true, 4), (2, 0, true, x2)] [(0, true, 4), (0, true, m2 4 16)] (sM s m2))))
      refine hY _ _ _ _ ?_
      refine And.intro (fun hc => ?_) (fun hc => ?_)
      · have h := h.1 hc
        refine hY _ _ _ _ (hY _ _ _ _ (?_ : Y 7 [(2, 0, false, x2 + 1), (0, 5, true, 4)] [] (sM s m2)))
        refine l7 _ _ ?_
        refine And.intro h.1 ?_
        exact (Exists.intro m2 (And.intro rfl h.2))
      · have h := h.2 hc
        refine hY _ _ _ _ (?_ : Y 36 [(0, 5, true, 4), (2, 0, true, x2)] [(2, true, 1)] (sM s m2))
        refine hY _ _ _ _ ?_
        exact hQ 1 m2 h
theorem wk_70_7 (Q : sQ) (R : Int → hy_m → Prop) (s : sS) (x2 : Int) (hQ : ∀ x m', R x m' → Q x (sM s m')) (hr : sRg [(0, 5, 4), (2, 0, 0)] [x2]) (h : wq_70_7 x2 s.2.2.2 R) : kX dC 5 im_m70 2 7 (sCan [(0, 5, 4), (2, 0, 0)] [x2]) [] s Q :=
  h (fun x2 m => sRg [(0, 5, 4), (2, 0, 0)] [x2] → kX dC 5 im_m70 2 7 (sCan [(0, 5, 4), (2, 0, 0)] [x2]) [] (sM s m) Q) (fun x2 m h hr => wj_70_7 Q R s (fun x2 m => sRg [(0, 5, 4), (2, 0, 0)] [x2] → kX dC 5 im_m70 2 7 (sCan [(0, 5, 4), (2, 0, 0)] [x2]) [] (sM s m) Q) x2 m  (fun _ _ hp hr => hp hr) hQ hr h) hr
def lb_70_0 (s : sS) (Q : sQ) (R : Int → hy_m → Prop) (x1 : Int) : Nat → Option (sL → sS → Prop) := sLb [(7, fun lv t => sG [(0, 5, 4), (2, 0, 0)] lv (ap1 (fun w2 => ∃ m', t = sM s m' ∧ wq_70_7 w2 m' R)))]
set_option maxRecDepth 30000 in
set_option maxHeartbeats 1000000 in
theorem wk_70_0 (Q : sQ) (R : Int → hy_m → Prop) (s : sS) (x1 : Int) (hQ : ∀ x m', R x m' → Q x (sM s m')) (hr : sRg [(0, 5, 4), (1, 2, 0)] [x1]) (h : wq_70 x1 s.2.2.2 R) : kX dC 5 im_m70 2 0 (sCan [(0, 5, 4), (1, 2, 0)] [x1]) [] s Q := by
  unfold wq_70 at h
  refine wz2_ok (cs := cs_70) (wr := []) (lb := lb_70_0 s Q R x1) cs_70_ok (kLb_c (kLab (Bd := fun xs t => ap1 (fun w2 => ∃ m', t = sM s m' ∧ wq_70_7 w2 m' R) xs) rfl (fun xs t r1 r2 hb => by obtain ⟨w2, rfl, hb⟩ := ap1_ok hb; obtain ⟨m', rfl, hx⟩ := hb; exact wk_70_7 Q R (sM s m') _ (fun x m'' hy => hQ x m'' hy) r1 hx)) kLb_n) (okL_can rfl hr) (fun Y hY hl => ?_)
  have l7 := hl 7 _ rfl
  refine hY _ _ _ _ (hY _ _ _ _ (?_ : Y 2 [(0, 5, true, 4), (1, 2, true, x1)] [(2, true, x1), (5, true, 4)] s))
  refine hY _ _ _ _ ?_
  refine Exists.intro _ (And.intro (wc_71_r4_2t x1 _ _ h) (fun r1 m1 h => ?_))
  refine hY _ _ _ _ (hY _ _ _ _ (?_ : Y 7 [(2, 2, true, 0), (0, 5, true, 4), (1, 2, true, x1)] [] (sM s m1)))
  refine l7 _ _ ?_
  exact (Exists.intro m1 (And.intro rfl h))
def we_70 : sFf := sEf 3 [(0, 5, 4), (1, 2, 0)] (fun xs s Q => ap1 (fun x1 => wq_70 x1 s.2.2.2 Q) xs)
theorem we_70_ok : kS dC 6 70 2 (.inl we_70) := sEf_ok (mi := im_m70) rfl rfl rfl (fun R xs s r1 hb => by obtain ⟨x1, rfl, hb⟩ := ap1_ok hb; exact wk_70_0 _ R s x1 (fun x m' hx => ⟨m', rfl, hx⟩) r1 hb)
/-- LM$Reader.faultOfClauses(I)I -/
def wf_68_9 (x1 : Int) (Q : Int → hy_m → Prop) (P9 : Int → hy_m → Prop) (x2 : Int) (m : hy_m) : Prop := (x1 < x2 → (Q (m 2 3) m)) ∧ (x2 ≤ x1 → (((m 2 2) ≠ 0 → ((x2 = x1 → (Q (m 2 3) m)) ∧ (x2 ≠ x1 → (wq_70 0 m (fun r1 m1 => (r1 ≠ 0 → (hy_r 0 (x2 + 1) ∧ (P9 (x2 + 1) m1))) ∧ (r1 = 0 → (Q (m1 2 3) m1))))))) ∧ ((m 2 2) = 0 → (Q (-9) m))))
def wq_68_9 (x1 : Int) (x2 : Int) (m : hy_m) (Q : Int → hy_m → Prop) : Prop := wL1 hy_m (wf_68_9 x1 Q) x2 m
def wq_68 (x1 : Int) (m : hy_m) (Q : Int → hy_m → Prop) : Prop := wq_135 m (fun _ m1 => wq_68_9 x1 0 m1 Q)
theorem wc_70_r4_2t (x1 : Int) (s : sS) (R : Int → hy_m → Prop) (h : wq_70 x1 s.2.2.2 R) : we_70 [(5, true, 4), (2, true, x1)] s R := h
theorem wc_135_r2 (s : sS) (R : Int → hy_m → Prop) (h : wq_135 s.2.2.2 R) : we_135 [(5, true, 2)] s R := h
def cs_68 : List (Nat × Nat × sFS) := [(70, 2, .inl we_70), (135, 9, .inl we_135)]
theorem cs_68_ok : kCs dC 6 cs_68 := (kCs_c (Or.inr (Or.inr (Or.inl rfl))) (we_70_ok.deep (by decide)) (kCs_c (Or.inr (Or.inr (Or.inr (Or.inr rfl)))) (we_135_ok.deep (by decide)) kCs_n))
def lb_68_9 (s : sS) (Q : sQ) (P9 : Int → hy_m → Prop) (R : Int → hy_m → Prop) (x1 : Int) (x2 : Int) : Nat → Option (sL → sS → Prop) := sLb [(9, fun lv t => sG [(0, 5, 4), (1, 0, 0), (2, 0, 0)] lv (ap2 (fun w1 w2 => ∃ m', t = sM s m' ∧ w1 = x1 ∧ P9 w2 m')))]
set_option maxRecDepth 30000 in
set_option maxHeartbeats 1000000 in
theorem wj_68_9 (Q : sQ) (R : Int → hy_m → Prop) (s : sS) (P9 : Int → hy_m → Prop) (x1 : Int) (x2 : Int) (m : hy_m) (hP9 : ∀ (z2 : Int) (m : hy_m), P9 z2 m → sRg [(0, 5, 4), (1, 0, 0), (2, 0, 0)] [x1, z2] → kX dC 6 im_m68 0 9 (sCan [(0, 5, 4), (1, 0, 0), (2, 0, 0)] [x1, z2]) [] (sM s m) Q) (hQ : ∀ x m', R x m' → Q x (sM s m')) (hr : sRg [(0, 5, 4), (1, 0, 0), (2, 0, 0)] [x1, x2]) (h : wf_68_9 x1 R P9 x2 m) : kX dC 6 im_m68 0 9 (sCan [(0, 5, 4), (1, 0, 0), (2, 0, 0)] [x1, x2]) [] (sM s m) Q := by
  unfold wf_68_9 at h
  refine wz2_ok (cs := cs_68) (wr := []) (lb := lb_68_9 s Q P9 R x1 x2) cs_68_ok (kLb_c (kLab (Bd := fun xs t => ap2 (fun w1 w2 => ∃ m', t = sM s m' ∧ w1 = x1 ∧ P9 w2 m') xs) rfl (fun xs t r1 r2 hb => by obtain ⟨w1, w2, rfl, hb⟩ := ap2_ok hb; obtain ⟨m', rfl, rfl, hx⟩ := hb; exact hP9 _ m' hx r1)) kLb_n) (okL_can rfl hr) (fun Y hY hl => ?_)
  have l9 := hl 9 _ rfl
  refine hY _ _ _ _ (hY _ _ _ _ (?_ : Y 11 [(0, 5, true, 4), (1, 0, true, x1), (2, 0, true, x2)] [(0, true, x1), (0, true, x2)] (sM s m)))
  refine hY _ _ _ _ ?_
  refine And.intro (fun hc => ?_) (fun hc => ?_)
  · have h := h.1 hc
    refine hY _ _ _ _ (hY _ _ _ _ (hY _ _ _ _ (?_ : Y 61 [(0, 5, true, 4), (1, 0, true, x1), (2, 0, true, x2)] [(0, true, m 2 3)] (sM s m))))
    refine hY _ _ _ _ ?_
    exact hQ (m 2 3) m h
  · have h := h.2 hc
    refine hY _ _ _ _ (hY _ _ _ _ (hY _ _ _ _ (?_ : Y 21 [(0, 5, true, 4), (1, 0, true, x1), (2, 0, true, x2)] [(0, true, m 2 2)] (sM s m))))
    refine hY _ _ _ _ ?_
    refine And.intro (fun hc => ?_) (fun hc => ?_)
    · have h := h.1 hc
      refine hY _ _ _ _ (hY _ _ _ _ (?_ : Y 29 [(0, 5, true, 4), (1, 0, true, x1), (2, 0, true, x2)] [(0, true, x1), (0, true, x2)] (sM s m)))
      refine hY _ _ _ _ ?_
      refine And.intro (fun hc => ?_) (fun hc => ?_)
      · have h := h.1 hc
        refine hY _ _ _ _ (hY _ _ _ _ (hY _ _ _ _ (?_ : Y 47 [(0, 5, true, 4), (1, 0, true, x1), (2, 0, true, x2)] [(0, true, m 2 3)] (sM s m))))
        refine hY _ _ _ _ ?_
        exact hQ (m 2 3) m h
      · have h := h.2 hc
        refine hY _ _ _ _ (hY _ _ _ _ (?_ : Y 34 [(0, 5, true, 4), (1, 0, true, x1), (2, 0, true, x2)] [(2, true, 0), (5, true, 4)] (sM s m)))
        refine hY _ _ _ _ ?_
        refine Exists.intro _ (And.intro (wc_70_r4_2t 0 _ _ h) (fun r1 m1 h => ?_))
        show Y 37 [(0, 5, true, 4), (1, 0, true, x1), (2, 0, true, x2)] [(2, true, r1)] (sM s m1)
        refine hY _ _ _ _ ?_
        refine And.intro (fun hc => ?_) (fun hc => ?_)
        · have h := h.1 hc
          refine hY _ _ _ _ (hY _ _ _ _ (?_ : Y 9 [(2, 0, false, x2 + 1), (0, 5, true, 4), (1, 0, true, x1)] [] (sM s m1)))
          refine l9 _ _ ?_
          refine And.intro h.1 ?_
          exact (Exists.intro m1 (And.intro rfl (And.intro rfl h.2)))
        · have h := h.2 hc
          refine hY _ _ _ _ (hY _ _ _ _ (hY _ _ _ _ (?_ : Y 47 [(0, 5, true, 4), (1, 0, true, x1), (2, 0, true, x2)] [(0, true, m1 2 3)] (sM s m1))))
          refine hY _ _ _ _ ?_
          exact hQ (m1 2 3) m1 h
    · have h := h.2 hc
      refine hY _ _ _ _ (?_ : Y 26 [(0, 5, true, 4), (1, 0, true, x1), (2, 0, true, x2)] [(0, true, (-9))] (sM s m))
      refine hY _ _ _ _ ?_
      exact hQ (-9) m h
theorem wk_68_9 (Q : sQ) (R : Int → hy_m → Prop) (s : sS) (x1 : Int) (x2 : Int) (hQ : ∀ x m', R x m' → Q x (sM s m')) (hr : sRg [(0, 5, 4), (1, 0, 0), (2, 0, 0)] [x1, x2]) (h : wq_68_9 x1 x2 s.2.2.2 R) : kX dC 6 im_m68 0 9 (sCan [(0, 5, 4), (1, 0, 0), (2, 0, 0)] [x1, x2]) [] s Q :=
  h (fun x2 m => sRg [(0, 5, 4), (1, 0, 0), (2, 0, 0)] [x1, x2] → kX dC 6 im_m68 0 9 (sCan [(0, 5, 4), (1, 0, 0), (2, 0, 0)] [x1, x2]) [] (sM s m) Q) (fun x2 m h hr => wj_68_9 Q R s (fun x2 m => sRg [(0, 5, 4), (1, 0, 0), (2, 0, 0)] [x1, x2] → kX dC 6 im_m68 0 9 (sCan [(0, 5, 4), (1, 0, 0), (2, 0, 0)] [x1, x2]) [] (sM s m) Q) x1 x2 m  (fun _ _ hp hr => hp hr) hQ hr h) hr
def lb_68_0 (s : sS) (Q : sQ) (R : Int → hy_m → Prop) (x1 : Int) : Nat → Option (sL → sS → Prop) := sLb [(9, fun lv t => sG [(0, 5, 4), (1, 0, 0), (2, 0, 0)] lv (ap2 (fun w1 w2 => ∃ m', t = sM s m' ∧ wq_68_9 w1 w2 m' R)))]
set_option maxRecDepth 30000 in
set_option maxHeartbeats 1000000 in
theorem wk_68_0 (Q : sQ) (R : Int → hy_m → Prop) (s : sS) (x1 : Int) (hQ : ∀ x m', R x m' → Q x (sM s m')) (hr : sRg [(0, 5, 4), (1, 0, 0)] [x1]) (h : wq_68 x1 s.2.2.2 R) : kX dC 6 im_m68 0 0 (sCan [(0, 5, 4), (1, 0, 0)] [x1]) [] s Q := by
  unfold wq_68 at h
  refine wz2_ok (cs := cs_68) (wr := []) (lb := lb_68_0 s Q R x1) cs_68_ok (kLb_c (kLab (Bd := fun xs t => ap2 (fun w1 w2 => ∃ m', t = sM s m' ∧ wq_68_9 w1 w2 m' R) xs) rfl (fun xs t r1 r2 hb => by obtain ⟨w1, w2, rfl, hb⟩ := ap2_ok hb; obtain ⟨m', rfl, hx⟩ := hb; exact wk_68_9 Q R (sM s m') _ _ (fun x m'' hy => hQ x m'' hy) r1 hx)) kLb_n) (okL_can rfl hr) (fun Y hY hl => ?_)
  have l9 := hl 9 _ rfl
  refine hY _ _ _ _ (hY _ _ _ _ (?_ : Y 4 [(0, 5, true, 4), (1, 0, true, x1)] [(5, true, 2)] s))
  refine hY _ _ _ _ ?_
  refine Exists.intro _ (And.intro (wc_135_r2 _ _ h) (fun r1 m1 h => ?_))
  refine hY _ _ _ _ (hY _ _ _ _ (?_ : Y 9 [(2, 2, true, 0), (0, 5, true, 4), (1, 0, true, x1)] [] (sM s m1)))
  refine l9 _ _ ?_
  exact (Exists.intro m1 (And.intro rfl h))
def we_68 : sFf := sEf 3 [(0, 5, 4), (1, 0, 0)] (fun xs s Q => ap1 (fun x1 => wq_68 x1 s.2.2.2 Q) xs)
theorem we_68_ok : kS dC 7 68 0 (.inl we_68) := sEf_ok (mi := im_m68) rfl rfl rfl (fun R xs s r1 hb => by obtain ⟨x1, rfl, hb⟩ := ap1_ok hb; exact wk_68_0 _ R s x1 (fun x m' hx => ⟨m', rfl, hx⟩) r1 hb)
/-- LM$Reader.faultOfQuery()I -/
def wq_69 (m : hy_m) (Q : Int → hy_m → Prop) : Prop := wq_135 m (fun _ m1 => wq_70 1 m1 (fun r2 m2 => (r2 = 0 → (Q (m2 2 3) m2)) ∧ (r2 ≠ 0 → (((m2 2 2) ≠ 0 → (Q (m2 2 3) m2)) ∧ ((m2 2 2) = 0 → (Q (-9) m2))))))
def cs_69 : List (Nat × Nat × sFS) := [(70, 2, .inl we_70), (135, 9, .inl we_135)]
theorem cs_69_ok : kCs dC 6 cs_69 := (kCs_c (Or.inr (Or.inr (Or.inl rfl))) (we_70_ok.deep (by decide)) (kCs_c (Or.inr (Or.inr (Or.inr (Or.inr rfl)))) (we_135_ok.deep (by decide)) kCs_n))
def lb_69_0 (s : sS) (Q : sQ) (R : Int → hy_m → Prop) : Nat → Option (sL → sS → Prop) := sLb []
set_option maxRecDepth 30000 in
set_option maxHeartbeats 1000000 in
theorem wk_69_0 (Q : sQ) (R : Int → hy_m → Prop) (s : sS) (hQ : ∀ x m', R x m' → Q x (sM s m')) (hr : sRg [(0, 5, 4)] []) (h : wq_69 s.2.2.2 R) : kX dC 6 im_m69 0 0 (sCan [(0, 5, 4)] []) [] s Q := by
  unfold wq_69 at h
  refine wz2_ok (cs := cs_69) (wr := []) (lb := lb_69_0 s Q R) cs_69_ok kLb_n (okL_can rfl hr) (fun Y hY hl => ?_)
  refine hY _ _ _ _ (hY _ _ _ _ (?_ : Y 4 [(0, 5, true, 4)] [(5, true, 2)] s))
  refine hY _ _ _ _ ?_
  refine Exists.intro _ (And.intro (wc_135_r2 _ _ h) (fun r1 m1 h => ?_))
  refine hY _ _ _ _ (hY _ _ _ _ (?_ : Y 9 [(0, 5, true, 4)] [(2, true, 1), (5, true, 4)] (sM s m1)))
  refine hY _ _ _ _ ?_
  refine Exists.intro _ (And.intro (wc_70_r4_2t 1 _ _ h) (fun r2 m2 h => ?_))
  show Y 12 [(0, 5, true, 4)] [(2, true, r2)] (sM s m2)
  refine hY _ _ _ _ ?_
  refine And.intro (fun hc => ?_) (fun hc => ?_)
  · have h := h.1 hc
    refine hY _ _ _ _ (hY _ _ _ _ (hY _ _ _ _ (?_ : Y 37 [(0, 5, true, 4)] [(0, true, m2 2 3)] (sM s m2))))
    refine hY _ _ _ _ ?_
    exact hQ (m2 2 3) m2 h
  · have h := h.2 hc
    refine hY _ _ _ _ (hY _ _ _ _ (hY _ _ _ _ (?_ : Y 22 [(0, 5, true, 4)] [(0, true, m2 2 2)] (sM s m2))))
    refine hY _ _ _ _ ?_
    refine And.intro (fun hc => ?_) (fun hc => ?_)
    · have h := h.1 hc
      refine hY _ _ _ _ (hY _ _ _ _ (hY _ _ _ _ (?_ : Y 37 [(0, 5, true, 4)] [(0, true, m2 2 3)] (sM s m2))))
      refine hY _ _ _ _ ?_
      exact hQ (m2 2 3) m2 h
    · have h := h.2 hc
      refine hY _ _ _ _ (hY _ _ _ _ (?_ : Y 37 [(0, 5, true, 4)] [(0, true, (-9))] (sM s m2)))
      refine hY _ _ _ _ ?_
      exact hQ (-9) m2 h
def we_69 : sFf := sEf 1 [(0, 5, 4)] (fun xs s Q => ap0 (wq_69 s.2.2.2 Q) xs)
theorem we_69_ok : kS dC 7 69 0 (.inl we_69) := sEf_ok (mi := im_m69) rfl rfl rfl (fun R xs s r1 hb => by obtain ⟨rfl, hb⟩ := ap0_ok hb; exact wk_69_0 _ R s (fun x m' hx => ⟨m', rfl, hx⟩) r1 hb)
/-- LM.fault(I)I -/
def wq_3 (x1 : Int) (m : hy_m) (Q : Int → hy_m → Prop) : Prop := (x1 ≠ 0 → ((x1 ≠ 1 → (Q (-1) m)) ∧ (x1 = 1 → (wq_69 m (fun r1 m1 => Q r1 m1))))) ∧ (x1 = 0 → (hy_r 0 (20 - (m 21 2)) ∧ (wq_68 (20 - (m 21 2)) m (fun r2 m2 => Q r2 m2))))
theorem wc_69_r4 (s : sS) (R : Int → hy_m → Prop) (h : wq_69 s.2.2.2 R) : we_69 [(5, true, 4)] s R := h
theorem wc_68_r4_0f (x1 : Int) (s : sS) (R : Int → hy_m → Prop) (h : hy_r 0 x1 ∧ wq_68 x1 s.2.2.2 R) : we_68 [(5, true, 4), (0, false, x1)] s R := h
def cs_3 : List (Nat × Nat × sFS) := [(68, 0, .inl we_68), (69, 0, .inl we_69)]
theorem cs_3_ok : kCs dC 7 cs_3 := (kCs_c (Or.inl rfl) (we_68_ok.deep (by decide)) (kCs_c (Or.inl rfl) (we_69_ok.deep (by decide)) kCs_n))
def lb_3_0 (s : sS) (Q : sQ) (R : Int → hy_m → Prop) (x1 : Int) : Nat → Option (sL → sS → Prop) := sLb []
set_option maxRecDepth 30000 in
set_option maxHeartbeats 1000000 in
theorem wk_3_0 (Q : sQ) (R : Int → hy_m → Prop) (s : sS) (x1 : Int) (hQ : ∀ x m', R x m' → Q x (sM s m')) (hr : sRg [(0, 5, 1), (1, 0, 0)] [x1]) (h : wq_3 x1 s.2.2.2 R) : kX dC 7 im_m3 0 0 (sCan [(0, 5, 1), (1, 0, 0)] [x1]) [] s Q := by
  unfold wq_3 at h
  refine wz2_ok (cs := cs_3) (wr := []) (lb := lb_3_0 s Q R x1) cs_3_ok kLb_n (okL_can rfl hr) (fun Y hY hl => ?_)
  refine hY _ _ _ _ (?_ : Y 1 [(0, 5, true, 1), (1, 0, true, x1)] [(0, true, x1)] s)
  refine hY _ _ _ _ ?_
  refine And.intro (fun hc => ?_) (fun hc => ?_)
  · have h := h.1 hc
    refine hY _ _ _ _ (hY _ _ _ _ (?_ : Y 24 [(0, 5, true, 1), (1, 0, true, x1)] [(2, true, 1), (0, true, x1)] s))
    refine hY _ _ _ _ ?_
    refine And.intro (fun hc => ?_) (fun hc => ?_)
    · have h := h.1 hc
      refine hY _ _ _ _ (?_ : Y 38 [(0, 5, true, 1), (1, 0, true, x1)] [(0, true, (-1))] s)
      refine hY _ _ _ _ ?_
      exact hQ (-1) s.2.2.2 h
    · have h := h.2 hc
      refine hY _ _ _ _ (hY _ _ _ _ (?_ : Y 31 [(0, 5, true, 1), (1, 0, true, x1)] [(5, true, 4)] s))
      refine hY _ _ _ _ ?_
      refine Exists.intro _ (And.intro (wc_69_r4 _ _ h) (fun r1 m1 h => ?_))
      refine hY _ _ _ _ (?_ : Y 38 [(0, 5, true, 1), (1, 0, true, x1)] [(0, true, r1)] (sM s m1))
      refine hY _ _ _ _ ?_
      exact hQ r1 m1 h
  · have h := h.2 hc
    refine hY _ _ _ _ (hY _ _ _ _ (hY _ _ _ _ (?_ : Y 10 [(0, 5, true, 1), (1, 0, true, x1)] [(0, true, 20), (5, true, 4)] s)))
    refine hY _ _ _ _ (hY _ _ _ _ (hY _ _ _ _ (?_ : Y 17 [(0, 5, true, 1), (1, 0, true, x1)] [(0, true, s.2.2.2 21 2), (0, true, 20), (5, true, 4)] s)))
    refine hY _ _ _ _ (?_ : Y 18 [(0, 5, true, 1), (1, 0, true, x1)] [(0, false, 20 - (s.2.2.2 21 2)), (5, true, 4)] s)
    refine hY _ _ _ _ ?_
    refine Exists.intro _ (And.intro (wc_68_r4_0f (20 - (s.2.2.2 21 2)) _ _ h) (fun r2 m2 h => ?_))
    show Y 21 [(0, 5, true, 1), (1, 0, true, x1)] [(0, true, r2)] (sM s m2)
    refine hY _ _ _ _ ?_
    exact hQ r2 m2 h
def we_3 : sFf := sEf 2 [(0, 5, 1), (1, 0, 0)] (fun xs s Q => ap1 (fun x1 => wq_3 x1 s.2.2.2 Q) xs)
theorem we_3_ok : kS dC 8 3 0 (.inl we_3) := sEf_ok (mi := im_m3) rfl rfl rfl (fun R xs s r1 hb => by obtain ⟨x1, rfl, hb⟩ := ap1_ok hb; exact wk_3_0 _ R s x1 (fun x m' hx => ⟨m', rfl, hx⟩) r1 hb)
/-- LM$Program.has(I)Z -/
def wq_52 (x0 : Int) (x1 : Int) (T : hy_T) (m : hy_m) (Q : Int → hy_m → Prop) : Prop := (x1 < 0 → (Q 0 m)) ∧ (0 ≤ x1 → (T.1 (x0).toNat = some (5, 3) ∧ (((m ((x0).toNat) 2) ≤ x1 → (Q 0 m)) ∧ (x1 < (m ((x0).toNat) 2) → (Q 1 m)))))
def cs_52 : List (Nat × Nat × sFS) := []
theorem cs_52_ok : kCs dC 0 cs_52 := kCs_n
def lb_52_0 (s : sS) (Q : sQ) (R : Int → hy_m → Prop) (x0 : Int) (x1 : Int) : Nat → Option (sL → sS → Prop) := sLb []
set_option maxRecDepth 30000 in
set_option maxHeartbeats 1000000 in
theorem wk_52_0 (Q : sQ) (R : Int → hy_m → Prop) (s : sS) (x0 : Int) (x1 : Int) (hQ : ∀ x m', R x m' → Q x (sM s m')) (hr : sRg [(0, 3, 0), (1, 0, 0)] [x0, x1]) (h : wq_52 x0 x1 s.1 s.2.2.2 R) : kX dC 0 im_m52 2 0 (sCan [(0, 3, 0), (1, 0, 0)] [x0, x1]) [] s Q := by
  unfold wq_52 at h
  refine wz2_ok (cs := cs_52) (wr := []) (lb := lb_52_0 s Q R x0 x1) cs_52_ok kLb_n (okL_can rfl hr) (fun Y hY hl => ?_)
  refine hY _ _ _ _ (?_ : Y 1 [(0, 3, true, x0), (1, 0, true, x1)] [(0, true, x1)] s)
  refine hY _ _ _ _ ?_
  refine And.intro (fun hc => ?_) (fun hc => ?_)
  · have h := h.1 hc
    refine hY _ _ _ _ (?_ : Y 17 [(0, 3, true, x0), (1, 0, true, x1)] [(2, true, 0)] s)
    refine hY _ _ _ _ ?_
    exact hQ 0 s.2.2.2 h
  · have h := h.2 hc
    refine hY _ _ _ _ (hY _ _ _ _ (?_ : Y 6 [(0, 3, true, x0), (1, 0, true, x1)] [(3, true, x0), (0, true, x1)] s))
    refine hY _ _ _ _ ?_
    refine (And.intro h.1 ?_)
    show Y 9 [(0, 3, true, x0), (1, 0, true, x1)] [(0, true, s.2.2.2 ((x0).toNat) 2), (0, true, x1)] s
    refine hY _ _ _ _ ?_
    refine And.intro (fun hc => ?_) (fun hc => ?_)
    · have h := h.2.1 hc
      refine hY _ _ _ _ (?_ : Y 17 [(0, 3, true, x0), (1, 0, true, x1)] [(2, true, 0)] s)
      refine hY _ _ _ _ ?_
      exact hQ 0 s.2.2.2 h
    · have h := h.2.2 hc
      refine hY _ _ _ _ (hY _ _ _ _ (?_ : Y 17 [(0, 3, true, x0), (1, 0, true, x1)] [(2, true, 1)] s))
      refine hY _ _ _ _ ?_
      exact hQ 1 s.2.2.2 h
def we_52 : sFf := sEf 2 [(0, 3, 0), (1, 0, 0)] (fun xs s Q => ap2 (fun x0 x1 => wq_52 x0 x1 s.1 s.2.2.2 Q) xs)
theorem we_52_ok : kS dC 1 52 2 (.inl we_52) := sEf_ok (mi := im_m52) rfl rfl rfl (fun R xs s r1 hb => by obtain ⟨x0, x1, rfl, hb⟩ := ap2_ok hb; exact wk_52_0 _ R s x0 x1 (fun x m' hx => ⟨m', rfl, hx⟩) r1 hb)
/-- LM$Program.at(I)LLogicMachine$Clause; -/
def wq_53 (x0 : Int) (x1 : Int) (T : hy_T) (m : hy_m) (Q : Int → hy_m → Prop) : Prop := T.1 (x0).toNat = some (5, 3) ∧ (wq_52 x0 x1 T m (fun r1 m1 => (r1 = 0 → (T.1 (x0).toNat = some (5, 3) ∧ (Q (m1 ((x0).toNat) 0) m1))) ∧ (r1 ≠ 0 → (T.1 (x0).toNat = some (5, 3) ∧ (∃ t2 n2 : Nat, T.1 (m1 ((x0).toNat) 1).toNat = some (t2, n2) ∧ 99 ≤ t2 ∧ (((n2 : Int) ≤ x1 → (T.1 (x0).toNat = some (5, 3) ∧ (Q (m1 ((x0).toNat) 0) m1))) ∧ (x1 < (n2 : Int) → (T.1 (x0).toNat = some (5, 3) ∧ (∃ t3 n3 : Nat, T.1 (m1 ((x0).toNat) 1).toNat = some (t3, n3) ∧ 110 ≤ t3 ∧ (0 ≤ x1 ∧ x1 < (n3 : Int) ∧ (Q (m1 ((m1 ((x0).toNat) 1).toNat) x1) m1)))))))))))
theorem wc_52_3t_0t (x0 : Int) (x1 : Int) (s : sS) (R : Int → hy_m → Prop) (h : wq_52 x0 x1 s.1 s.2.2.2 R) : we_52 [(3, true, x0), (0, true, x1)] s R := h
def cs_53 : List (Nat × Nat × sFS) := [(52, 2, .inl we_52)]
theorem cs_53_ok : kCs dC 1 cs_53 := (kCs_c (Or.inr (Or.inr (Or.inl rfl))) (we_52_ok.deep (by decide)) kCs_n)
def lb_53_0 (s : sS) (Q : sQ) (R : Int → hy_m → Prop) (x0 : Int) (x1 : Int) : Nat → Option (sL → sS → Prop) := sLb []
set_option maxRecDepth 30000 in
set_option maxHeartbeats 1000000 in
theorem wk_53_0 (Q : sQ) (R : Int → hy_m → Prop) (s : sS) (x0 : Int) (x1 : Int) (hQ : ∀ x m', R x m' → Q x (sM s m')) (hr : sRg [(0, 3, 0), (1, 0, 0)] [x0, x1]) (h : wq_53 x0 x1 s.1 s.2.2.2 R) : kX dC 1 im_m53 3 0 (sCan [(0, 3, 0), (1, 0, 0)] [x0, x1]) [] s Q := by
  unfold wq_53 at h
  refine wz2_ok (cs := cs_53) (wr := []) (lb := lb_53_0 s Q R x0 x1) cs_53_ok kLb_n (okL_can rfl hr) (fun Y hY hl => ?_)
  refine hY _ _ _ _ (hY _ _ _ _ (?_ : Y 2 [(0, 3, true, x0), (1, 0, true, x1)] [(0, true, x1), (3, true, x0)] s))
  refine hY _ _ _ _ ?_
  refine (And.intro h.1 ?_)
  refine Exists.intro _ (And.intro (wc_52_3t_0t x0 x1 _ _ h.2) (fun r1 m1 h => ?_))
  show Y 5 [(0, 3, true, x0), (1, 0, true, x1)] [(2, true, r1)] (sM s m1)
  refine hY _ _ _ _ ?_
  refine And.intro (fun hc => ?_) (fun hc => ?_)
  · have h := h.1 hc
    refine hY _ _ _ _ (?_ : Y 27 [(0, 3, true, x0), (1, 0, true, x1)] [(3, true, x0)] (sM s m1))
    refine hY _ _ _ _ ?_
    refine (And.intro h.1 ?_)
    show Y 30 [(0, 3, true, x0), (1, 0, true, x1)] [(3, true, m1 ((x0).toNat) 0)] (sM s m1)
    refine hY _ _ _ _ ?_
    exact hQ (m1 ((x0).toNat) 0) m1 h.2
  · have h := h.2 hc
    refine hY _ _ _ _ (hY _ _ _ _ (?_ : Y 10 [(0, 3, true, x0), (1, 0, true, x1)] [(3, true, x0), (0, true, x1)] (sM s m1)))
    refine hY _ _ _ _ ?_
    refine (And.intro h.1 ?_)
    show Y 13 [(0, 3, true, x0), (1, 0, true, x1)] [(3, true, m1 ((x0).toNat) 1), (0, true, x1)] (sM s m1)
    refine hY _ _ _ _ ?_
    obtain ⟨t2, n2, h⟩ := h.2
    refine Exists.intro t2 (Exists.intro n2 (And.intro h.1 (And.intro h.2.1 ?_)))
    show Y 14 [(0, 3, true, x0), (1, 0, true, x1)] [(0, true, (n2 : Int)), (0, true, x1)] (sM s m1)
    refine hY _ _ _ _ ?_
    refine And.intro (fun hc => ?_) (fun hc => ?_)
    · have h := h.2.2.1 hc
      refine hY _ _ _ _ (?_ : Y 27 [(0, 3, true, x0), (1, 0, true, x1)] [(3, true, x0)] (sM s m1))
      refine hY _ _ _ _ ?_
      refine (And.intro h.1 ?_)
      show Y 30 [(0, 3, true, x0), (1, 0, true, x1)] [(3, true, m1 ((x0).toNat) 0)] (sM s m1)
      refine hY _ _ _ _ ?_
      exact hQ (m1 ((x0).toNat) 0) m1 h.2
    · have h := h.2.2.2 hc
      refine hY _ _ _ _ (?_ : Y 18 [(0, 3, true, x0), (1, 0, true, x1)] [(3, true, x0)] (sM s m1))
      refine hY _ _ _ _ ?_
      refine (And.intro h.1 ?_)
      refine hY _ _ _ _ (?_ : Y 22 [(0, 3, true, x0), (1, 0, true, x1)] [(0, true, x1), (3, true, m1 ((x0).toNat) 1)] (sM s m1))
      refine hY _ _ _ _ ?_
      obtain ⟨t3, n3, h⟩ := h.2
      refine Exists.intro t3 (Exists.intro n3 (And.intro h.1 (And.intro h.2.1 ?_)))
      refine (And.intro h.2.2.1 (And.intro h.2.2.2.1 ?_))
      refine hY _ _ _ _ (?_ : Y 30 [(0, 3, true, x0), (1, 0, true, x1)] [(3, true, m1 ((m1 ((x0).toNat) 1).toNat) x1)] (sM s m1))
      refine hY _ _ _ _ ?_
      exact hQ (m1 ((m1 ((x0).toNat) 1).toNat) x1) m1 h.2.2.2.2
def we_53 : sFf := sEf 2 [(0, 3, 0), (1, 0, 0)] (fun xs s Q => ap2 (fun x0 x1 => wq_53 x0 x1 s.1 s.2.2.2 Q) xs)
theorem we_53_ok : kS dC 2 53 3 (.inl we_53) := sEf_ok (mi := im_m53) rfl rfl rfl (fun R xs s r1 hb => by obtain ⟨x0, x1, rfl, hb⟩ := ap2_ok hb; exact wk_53_0 _ R s x0 x1 (fun x m' hx => ⟨m', rfl, hx⟩) r1 hb)
/-- LM$Program.copyFrom(LLogicMachine$Program;)V -/
def wf_54_2 (x0 : Int) (x1 : Int) (T : hy_T) (Q : Int → hy_m → Prop) (P2 : Int → hy_m → Prop) (x2 : Int) (m : hy_m) : Prop := T.1 (x0).toNat = some (5, 3) ∧ (∃ t1 n1 : Nat, T.1 (m ((x0).toNat) 1).toNat = some (t1, n1) ∧ 99 ≤ t1 ∧ (((n1 : Int) ≤ x2 → (T.1 (x1).toNat = some (5, 3) ∧ (T.1 (x0).toNat = some (5, 3) ∧ (Q 0 (hy_u m ((x0).toNat) 2 (m ((x1).toNat) 2)))))) ∧ (x2 < (n1 : Int) → (T.1 (x0).toNat = some (5, 3) ∧ (T.1 (x1).toNat = some (5, 3) ∧ (wq_53 x1 x2 T m (fun r2 m2 => ∃ t3 n3 : Nat, T.1 (m ((x0).toNat) 1).toNat = some (t3, n3) ∧ 110 ≤ t3 ∧ (0 ≤ x2 ∧ x2 < (n3 : Int) ∧ ((r2 = 0 ∨ ∃ nv, T.1 (r2).toNat = some (t3 - 110, nv) ∧ t3 < 160) ∧ (hy_r 0 (x2 + 1) ∧ (P2 (x2 + 1) (hy_u m2 ((m ((x0).toNat) 1).toNat) x2 r2))))))))))))
def wq_54_2 (x0 : Int) (x1 : Int) (x2 : Int) (T : hy_T) (m : hy_m) (Q : Int → hy_m → Prop) : Prop := wL1 hy_m (wf_54_2 x0 x1 T Q) x2 m
def wq_54 (x0 : Int) (x1 : Int) (T : hy_T) (m : hy_m) (Q : Int → hy_m → Prop) : Prop := wq_54_2 x0 x1 0 T m Q
theorem wc_53_3t_0t (x0 : Int) (x1 : Int) (s : sS) (R : Int → hy_m → Prop) (h : wq_53 x0 x1 s.1 s.2.2.2 R) : we_53 [(3, true, x0), (0, true, x1)] s R := h
def cs_54 : List (Nat × Nat × sFS) := [(53, 3, .inl we_53)]
theorem cs_54_ok : kCs dC 2 cs_54 := (kCs_c (Or.inr (Or.inr (Or.inr (Or.inl rfl)))) (we_53_ok.deep (by decide)) kCs_n)
def lb_54_2 (s : sS) (Q : sQ) (P2 : Int → hy_m → Prop) (R : Int → hy_m → Prop) (x0 : Int) (x1 : Int) (x2 : Int) : Nat → Option (sL → sS → Prop) := sLb [(2, fun lv t => sG [(0, 3, 0), (1, 3, 0), (2, 0, 0)] lv (ap3 (fun w0 w1 w2 => ∃ m', t = sM s m' ∧ w0 = x0 ∧ w1 = x1 ∧ P2 w2 m')))]
set_option maxRecDepth 30000 in
set_option maxHeartbeats 1000000 in
theorem wj_54_2 (Q : sQ) (R : Int → hy_m → Prop) (s : sS) (P2 : Int → hy_m → Prop) (x0 : Int) (x1 : Int) (x2 : Int) (m : hy_m) (hP2 : ∀ (z2 : Int) (m : hy_m), P2 z2 m → sRg [(0, 3, 0), (1, 3, 0), (2, 0, 0)] [x0, x1, z2] → kX dC 2 im_m54 9 2 (sCan [(0, 3, 0), (1, 3, 0), (2, 0, 0)] [x0, x1, z2]) [] (sM s m) Q) (hQ : ∀ x m', R x m' → Q x (sM s m')) (hr : sRg [(0, 3, 0), (1, 3, 0), (2, 0, 0)] [x0, x1, x2]) (h : wf_54_2 x0 x1 s.1 R P2 x2 m) : kX dC 2 im_m54 9 2 (sCan [(0, 3, 0), (1, 3, 0), (2, 0, 0)] [x0, x1, x2]) [] (sM s m) Q := by
  unfold wf_54_2 at h
  refine wz2_ok (cs := cs_54) (wr := []) (lb := lb_54_2 s Q P2 R x0 x1 x2) cs_54_ok (kLb_c (kLab (Bd := fun xs t => ap3 (fun w0 w1 w2 => ∃ m', t = sM s m' ∧ w0 = x0 ∧ w1 = x1 ∧ P2 w2 m') xs) rfl (fun xs t r1 r2 hb => by obtain ⟨w0, w1, w2, rfl, hb⟩ := ap3_ok hb; obtain ⟨m', rfl, rfl, rfl, hx⟩ := hb; exact hP2 _ m' hx r1)) kLb_n) (okL_can rfl hr) (fun Y hY hl => ?_)
  have l2 := hl 2 _ rfl
  refine hY _ _ _ _ (hY _ _ _ _ (?_ : Y 4 [(0, 3, true, x0), (1, 3, true, x1), (2, 0, true, x2)] [(3, true, x0), (0, true, x2)] (sM s m)))
  refine hY _ _ _ _ ?_
  refine (And.intro h.1 ?_)
  show Y 7 [(0, 3, true, x0), (1, 3, true, x1), (2, 0, true, x2)] [(3, true, m ((x0).toNat) 1), (0, true, x2)] (sM s m)
  refine hY _ _ _ _ ?_
  obtain ⟨t1, n1, h⟩ := h.2
  refine Exists.intro t1 (Exists.intro n1 (And.intro h.1 (And.intro h.2.1 ?_)))
  show Y 8 [(0, 3, true, x0), (1, 3, true, x1), (2, 0, true, x2)] [(0, true, (n1 : Int)), (0, true, x2)] (sM s m)
  refine hY _ _ _ _ ?_
  refine And.intro (fun hc => ?_) (fun hc => ?_)
  · have h := h.2.2.1 hc
    refine hY _ _ _ _ (hY _ _ _ _ (?_ : Y 30 [(0, 3, true, x0), (1, 3, true, x1), (2, 0, true, x2)] [(3, true, x1), (3, true, x0)] (sM s m)))
    refine hY _ _ _ _ ?_
    refine (And.intro h.1 ?_)
    show Y 33 [(0, 3, true, x0), (1, 3, true, x1), (2, 0, true, x2)] [(0, true, m ((x1).toNat) 2), (3, true, x0)] (sM s m)
    refine hY _ _ _ _ ?_
    refine (And.intro h.2.1 ?_)
    show Y 36 [(0, 3, true, x0), (1, 3, true, x1), (2, 0, true, x2)] [] (sM s (hy_u m ((x0).toNat) 2 (m ((x1).toNat) 2)))
    refine hY _ _ _ _ ?_
    exact hQ 0 (hy_u m ((x0).toNat) 2 (m ((x1).toNat) 2)) h.2.2
  · have h := h.2.2.2 hc
    refine hY _ _ _ _ (?_ : Y 12 [(0, 3, true, x0), (1, 3, true, x1), (2, 0, true, x2)] [(3, true, x0)] (sM s m))
    refine hY _ _ _ _ ?_
    refine (And.intro h.1 ?_)
    refine hY _ _ _ _ (hY _ _ _ _ (hY _ _ _ _ (?_ : Y 18 [(0, 3, true, x0), (1, 3, true, x1), (2, 0, true, x2)] [(0, true, x2), (3, true, x1), (0, true, x2), (3, true, m ((x0).toNat) 1)] (sM s m))))
    refine hY _ _ _ _ ?_
    refine (And.intro h.2.1 ?_)
    refine Exists.intro _ (And.intro (wc_53_3t_0t x1 x2 _ _ h.2.2) (fun r2 m2 h => ?_))
    show Y 21 [(0, 3, true, x0), (1, 3, true, x1), (2, 0, true, x2)] [(3, true, r2), (0, true, x2), (3, true, m ((x0).toNat) 1)] (sM s m2)
    refine hY _ _ _ _ ?_
    obtain ⟨t3, n3, h⟩ := h
    refine Exists.intro t3 (Exists.intro n3 (And.intro h.1 (And.intro h.2.1 ?_)))
    refine (And.intro h.2.2.1 (And.intro h.2.2.2.1 ?_))
    refine (And.intro h.2.2.2.2.1 ?_)
    refine hY _ _ _ _ (hY _ _ _ _ (?_ : Y 2 [(2, 0, false, x2 + 1), (0, 3, true, x0), (1, 3, true, x1)] [] (sM s (hy_u m2 ((m ((x0).toNat) 1).toNat) x2 r2))))
    refine l2 _ _ ?_
    refine And.intro h.2.2.2.2.2.1 ?_
    exact (Exists.intro (hy_u m2 ((m ((x0).toNat) 1).toNat) x2 r2) (And.intro rfl (And.intro rfl (And.intro rfl h.2.2.2.2.2.2))))
theorem wk_54_2 (Q : sQ) (R : Int → hy_m → Prop) (s : sS) (x0 : Int) (x1 : Int) (x2 : Int) (hQ : ∀ x m', R x m' → Q x (sM s m')) (hr : sRg [(0, 3, 0), (1, 3, 0), (2, 0, 0)] [x0, x1, x2]) (h : wq_54_2 x0 x1 x2 s.1 s.2.2.2 R) : kX dC 2 im_m54 9 2 (sCan [(0, 3, 0), (1, 3, 0), (2, 0, 0)] [x0, x1, x2]) [] s Q :=
  h (fun x2 m => sRg [(0, 3, 0), (1, 3, 0), (2, 0, 0)] [x0, x1, x2] → kX dC 2 im_m54 9 2 (sCan [(0, 3, 0), (1, 3, 0), (2, 0, 0)] [x0, x1, x2]) [] (sM s m) Q) (fun x2 m h hr => wj_54_2 Q R s (fun x2 m => sRg [(0, 3, 0), (1, 3, 0), (2, 0, 0)] [x0, x1, x2] → kX dC 2 im_m54 9 2 (sCan [(0, 3, 0), (1, 3, 0), (2, 0, 0)] [x0, x1, x2]) [] (sM s m) Q) x0 x1 x2 m  (fun _ _ hp hr => hp hr) hQ hr h) hr
def lb_54_0 (s : sS) (Q : sQ) (R : Int → hy_m → Prop) (x0 : Int) (x1 : Int) : Nat → Option (sL → sS → Prop) := sLb [(2, fun lv t => sG [(0, 3, 0), (1, 3, 0), (2, 0, 0)] lv (ap3 (fun w0 w1 w2 => ∃ m', t = sM s m' ∧ wq_54_2 w0 w1 w2 s.1 m' R)))]
set_option maxRecDepth 30000 in
set_option maxHeartbeats 1000000 in
theorem wk_54_0 (Q : sQ) (R : Int → hy_m → Prop) (s : sS) (x0 : Int) (x1 : Int) (hQ : ∀ x m', R x m' → Q x (sM s m')) (hr : sRg [(0, 3, 0), (1, 3, 0)] [x0, x1]) (h : wq_54 x0 x1 s.1 s.2.2.2 R) : kX dC 2 im_m54 9 0 (sCan [(0, 3, 0), (1, 3, 0)] [x0, x1]) [] s Q := by
  unfold wq_54 at h
  refine wz2_ok (cs := cs_54) (wr := []) (lb := lb_54_0 s Q R x0 x1) cs_54_ok (kLb_c (kLab (Bd := fun xs t => ap3 (fun w0 w1 w2 => ∃ m', t = sM s m' ∧ wq_54_2 w0 w1 w2 s.1 m' R) xs) rfl (fun xs t r1 r2 hb => by obtain ⟨w0, w1, w2, rfl, hb⟩ := ap3_ok hb; obtain ⟨m', rfl, hx⟩ := hb; exact wk_54_2 Q R (sM s m') _ _ _ (fun x m'' hy => hQ x m'' hy) r1 hx)) kLb_n) (okL_can rfl hr) (fun Y hY hl => ?_)
  have l2 := hl 2 _ rfl
  refine hY _ _ _ _ (hY _ _ _ _ (?_ : Y 2 [(2, 2, true, 0), (0, 3, true, x0), (1, 3, true, x1)] [] s))
  refine l2 _ _ ?_
  exact (Exists.intro s.2.2.2 (And.intro rfl h))
def we_54 : sFf := sEf 3 [(0, 3, 0), (1, 3, 0)] (fun xs s Q => ap2 (fun x0 x1 => wq_54 x0 x1 s.1 s.2.2.2 Q) xs)
theorem we_54_ok : kS dC 3 54 9 (.inl we_54) := sEf_ok (mi := im_m54) rfl rfl rfl (fun R xs s r1 hb => by obtain ⟨x0, x1, rfl, hb⟩ := ap2_ok hb; exact wk_54_0 _ R s x0 x1 (fun x m' hx => ⟨m', rfl, hx⟩) r1 hb)
/-- LM$Store.reset()V -/
def wq_120 (T : hy_T) (m : hy_m) (Q : Int → hy_m → Prop) : Prop := ∃ t1 n1 : Nat, T.1 (m 41 4).toNat = some (t1, n1) ∧ 99 ≤ t1 ∧ (wq_303 (m 41 4) 0 (if (n1 : Int) < 8 then (n1 : Int) else 8) (-1) T m (fun _ m2 => Q 0 (hy_u (hy_u (hy_u m2 41 3 2) 41 6 0) 41 7 0)))
theorem wc_303_3t_2t_0t_0t (x0 : Int) (x1 : Int) (x2 : Int) (x3 : Int) (s : sS) (R : Int → hy_m → Prop) (h : wq_303 x0 x1 x2 x3 s.1 s.2.2.2 R) : we_303 [(3, true, x0), (2, true, x1), (0, true, x2), (0, true, x3)] s R := h
def cs_120 : List (Nat × Nat × sFS) := [(303, 9, .inl we_303)]
theorem cs_120_ok : kCs dC 2 cs_120 := (kCs_c (Or.inr (Or.inr (Or.inr (Or.inr rfl)))) (we_303_ok.deep (by decide)) kCs_n)
def lb_120_0 (s : sS) (Q : sQ) (R : Int → hy_m → Prop) : Nat → Option (sL → sS → Prop) := sLb []
set_option maxRecDepth 30000 in
set_option maxHeartbeats 1000000 in
theorem wk_120_0 (Q : sQ) (R : Int → hy_m → Prop) (s : sS) (hQ : ∀ x m', R x m' → Q x (sM s m')) (hr : sRg [(0, 5, 41)] []) (h : wq_120 s.1 s.2.2.2 R) : kX dC 2 im_m120 9 0 (sCan [(0, 5, 41)] []) [] s Q := by
  unfold wq_120 at h
  refine wz2_ok (cs := cs_120) (wr := []) (lb := lb_120_0 s Q R) cs_120_ok kLb_n (okL_can rfl hr) (fun Y hY hl => ?_)
  refine hY _ _ _ _ (hY _ _ _ _ (hY _ _ _ _ (?_ : Y 5 [(0, 5, true, 41)] [(2, true, 0), (3, true, s.2.2.2 41 4)] s)))
  refine hY _ _ _ _ (hY _ _ _ _ (hY _ _ _ _ (?_ : Y 11 [(0, 5, true, 41)] [(3, true, s.2.2.2 41 4), (0, true, 8), (2, true, 0), (3, true, s.2.2.2 41 4)] s)))
  refine hY _ _ _ _ ?_
  obtain ⟨t1, n1, h⟩ := h
  refine Exists.intro t1 (Exists.intro n1 (And.intro h.1 (And.intro h.2.1 ?_)))
  show Y 12 [(0, 5, true, 41)] [(0, true, (n1 : Int)), (0, true, 8), (2, true, 0), (3, true, s.2.2.2 41 4)] s
  refine hY _ _ _ _ ?_
  refine hY _ _ _ _ (?_ : Y 16 [(0, 5, true, 41)] [(0, true, (-1)), (0, true, (if (n1 : Int) < 8 then (n1 : Int) else 8)), (2, true, 0), (3, true, s.2.2.2 41 4)] s)
  refine hY _ _ _ _ ?_
  refine Exists.intro _ (And.intro (wc_303_3t_2t_0t_0t (s.2.2.2 41 4) 0 (if (n1 : Int) < 8 then (n1 : Int) else 8) (-1) _ _ h.2.2) (fun r2 m2 h => ?_))
  refine hY _ _ _ _ (hY _ _ _ _ (?_ : Y 21 [(0, 5, true, 41)] [(0, true, 2), (5, true, 41)] (sM s m2)))
  refine hY _ _ _ _ ?_
  refine hY _ _ _ _ (hY _ _ _ _ (?_ : Y 26 [(0, 5, true, 41)] [(2, true, 0), (5, true, 41)] (sM s (hy_u m2 41 3 2))))
  refine hY _ _ _ _ ?_
  refine hY _ _ _ _ (hY _ _ _ _ (?_ : Y 31 [(0, 5, true, 41)] [(2, true, 0), (5, true, 41)] (sM s (hy_u (hy_u m2 41 3 2) 41 6 0))))
  refine hY _ _ _ _ ?_
  show Y 34 [(0, 5, true, 41)] [] (sM s (hy_u (hy_u (hy_u m2 41 3 2) 41 6 0) 41 7 0))
  refine hY _ _ _ _ ?_
  exact hQ 0 (hy_u (hy_u (hy_u m2 41 3 2) 41 6 0) 41 7 0) h
def we_120 : sFf := sEf 1 [(0, 5, 41)] (fun xs s Q => ap0 (wq_120 s.1 s.2.2.2 Q) xs)
theorem we_120_ok : kS dC 3 120 9 (.inl we_120) := sEf_ok (mi := im_m120) rfl rfl rfl (fun R xs s r1 hb => by obtain ⟨rfl, hb⟩ := ap0_ok hb; exact wk_120_0 _ R s (fun x m' hx => ⟨m', rfl, hx⟩) r1 hb)
/-- LM$Search.finish(II)V -/
def wq_88 (x1 : Int) (x2 : Int) (T : hy_T) (m : hy_m) (Q : Int → hy_m → Prop) : Prop := wq_120 T (hy_u (hy_u (hy_u (hy_u (hy_u m 36 10 x1) 36 11 x2) 36 6 0) 36 5 0) 36 8 0) (fun _ m1 => Q 0 m1)
theorem wc_120_r41 (s : sS) (R : Int → hy_m → Prop) (h : wq_120 s.1 s.2.2.2 R) : we_120 [(5, true, 41)] s R := h
def cs_88 : List (Nat × Nat × sFS) := [(120, 9, .inl we_120)]
theorem cs_88_ok : kCs dC 3 cs_88 := (kCs_c (Or.inr (Or.inr (Or.inr (Or.inr rfl)))) (we_120_ok.deep (by decide)) kCs_n)
def lb_88_0 (s : sS) (Q : sQ) (R : Int → hy_m → Prop) (x1 : Int) (x2 : Int) : Nat → Option (sL → sS → Prop) := sLb []
set_option maxRecDepth 30000 in
set_option maxHeartbeats 1000000 in
theorem wk_88_0 (Q : sQ) (R : Int → hy_m → Prop) (s : sS) (x1 : Int) (x2 : Int) (hQ : ∀ x m', R x m' → Q x (sM s m')) (hr : sRg [(0, 5, 36), (1, 0, 0), (2, 0, 0)] [x1, x2]) (h : wq_88 x1 x2 s.1 s.2.2.2 R) : kX dC 3 im_m88 9 0 (sCan [(0, 5, 36), (1, 0, 0), (2, 0, 0)] [x1, x2]) [] s Q := by
  unfold wq_88 at h
  refine wz2_ok (cs := cs_88) (wr := []) (lb := lb_88_0 s Q R x1 x2) cs_88_ok kLb_n (okL_can rfl hr) (fun Y hY hl => ?_)
  refine hY _ _ _ _ (hY _ _ _ _ (?_ : Y 2 [(0, 5, true, 36), (1, 0, true, x1), (2, 0, true, x2)] [(0, true, x1), (5, true, 36)] s))
  refine hY _ _ _ _ ?_
  refine hY _ _ _ _ (hY _ _ _ _ (?_ : Y 7 [(0, 5, true, 36), (1, 0, true, x1), (2, 0, true, x2)] [(0, true, x2), (5, true, 36)] (sM s (hy_u s.2.2.2 36 10 x1))))
  refine hY _ _ _ _ ?_
  refine hY _ _ _ _ (hY _ _ _ _ (?_ : Y 12 [(0, 5, true, 36), (1, 0, true, x1), (2, 0, true, x2)] [(3, true, 0), (5, true, 36)] (sM s (hy_u (hy_u s.2.2.2 36 10 x1) 36 11 x2))))
  refine hY _ _ _ _ ?_
  refine hY _ _ _ _ (hY _ _ _ _ (?_ : Y 17 [(0, 5, true, 36), (1, 0, true, x1), (2, 0, true, x2)] [(2, true, 0), (5, true, 36)] (sM s (hy_u (hy_u (hy_u s.2.2.2 36 10 x1) 36 11 x2) 36 6 0))))
  refine hY _ _ _ _ ?_
  refine hY _ _ _ _ (hY _ _ _ _ (?_ : Y 22 [(0, 5, true, 36), (1, 0, true, x1), (2, 0, true, x2)] [(2, true, 0), (5, true, 36)] (sM s (hy_u (hy_u (hy_u (hy_u s.2.2.2 36 10 x1) 36 11 x2) 36 6 0) 36 5 0))))
  refine hY _ _ _ _ ?_
  refine hY _ _ _ _ (hY _ _ _ _ (?_ : Y 29 [(0, 5, true, 36), (1, 0, true, x1), (2, 0, true, x2)] [(5, true, 41)] (sM s (hy_u (hy_u (hy_u (hy_u (hy_u s.2.2.2 36 10 x1) 36 11 x2) 36 6 0) 36 5 0) 36 8 0))))
  refine hY _ _ _ _ ?_
  refine Exists.intro _ (And.intro (wc_120_r41 _ _ h) (fun r1 m1 h => ?_))
  show Y 32 [(0, 5, true, 36), (1, 0, true, x1), (2, 0, true, x2)] [] (sM s m1)
  refine hY _ _ _ _ ?_
  exact hQ 0 m1 h
def we_88 : sFf := sEf 3 [(0, 5, 36), (1, 0, 0), (2, 0, 0)] (fun xs s Q => ap2 (fun x1 x2 => wq_88 x1 x2 s.1 s.2.2.2 Q) xs)
theorem we_88_ok : kS dC 4 88 9 (.inl we_88) := sEf_ok (mi := im_m88) rfl rfl rfl (fun R xs s r1 hb => by obtain ⟨x1, x2, rfl, hb⟩ := ap2_ok hb; exact wk_88_0 _ R s x1 x2 (fun x m' hx => ⟨m', rfl, hx⟩) r1 hb)
/-- LM$Search.forget()V -/
def wq_87 (T : hy_T) (m : hy_m) (Q : Int → hy_m → Prop) : Prop := wq_88 0 0 T m (fun _ m1 => Q 0 m1)
theorem wc_88_r36_2t_2t (x1 : Int) (x2 : Int) (s : sS) (R : Int → hy_m → Prop) (h : wq_88 x1 x2 s.1 s.2.2.2 R) : we_88 [(5, true, 36), (2, true, x1), (2, true, x2)] s R := h
def cs_87 : List (Nat × Nat × sFS) := [(88, 9, .inl we_88)]
theorem cs_87_ok : kCs dC 4 cs_87 := (kCs_c (Or.inr (Or.inr (Or.inr (Or.inr rfl)))) (we_88_ok.deep (by decide)) kCs_n)
def lb_87_0 (s : sS) (Q : sQ) (R : Int → hy_m → Prop) : Nat → Option (sL → sS → Prop) := sLb []
set_option maxRecDepth 30000 in
set_option maxHeartbeats 1000000 in
theorem wk_87_0 (Q : sQ) (R : Int → hy_m → Prop) (s : sS) (hQ : ∀ x m', R x m' → Q x (sM s m')) (hr : sRg [(0, 5, 36)] []) (h : wq_87 s.1 s.2.2.2 R) : kX dC 4 im_m87 9 0 (sCan [(0, 5, 36)] []) [] s Q := by
  unfold wq_87 at h
  refine wz2_ok (cs := cs_87) (wr := []) (lb := lb_87_0 s Q R) cs_87_ok kLb_n (okL_can rfl hr) (fun Y hY hl => ?_)
  refine hY _ _ _ _ (hY _ _ _ _ (hY _ _ _ _ (?_ : Y 3 [(0, 5, true, 36)] [(2, true, 0), (2, true, 0), (5, true, 36)] s)))
  refine hY _ _ _ _ ?_
  refine Exists.intro _ (And.intro (wc_88_r36_2t_2t 0 0 _ _ h) (fun r1 m1 h => ?_))
  show Y 6 [(0, 5, true, 36)] [] (sM s m1)
  refine hY _ _ _ _ ?_
  exact hQ 0 m1 h
def we_87 : sFf := sEf 1 [(0, 5, 36)] (fun xs s Q => ap0 (wq_87 s.1 s.2.2.2 Q) xs)
theorem we_87_ok : kS dC 5 87 9 (.inl we_87) := sEf_ok (mi := im_m87) rfl rfl rfl (fun R xs s r1 hb => by obtain ⟨rfl, hb⟩ := ap0_ok hb; exact wk_87_0 _ R s (fun x m' hx => ⟨m', rfl, hx⟩) r1 hb)
/-- LM.recordChange()V -/
def wq_22_70 (T : hy_T) (m : hy_m) (Q : Int → hy_m → Prop) : Prop := 0 ≤ (m 1 4) ∧ (m 1 4) < 6 ∧ (T.1 (m 23 (m 1 4)).toNat = some (5, 3) ∧ (wq_54 (m 23 (m 1 4)) 21 T m (fun _ m1 => hy_r 0 ((m1 1 4) + 1) ∧ (wq_87 T (hy_u m1 1 4 ((m1 1 4) + 1)) (fun _ m2 => Q 0 m2)))))
def wf_22_21 (x1 : Int) (T : hy_T) (Q : Int → hy_m → Prop) (P21 : Int → hy_m → Prop) (x2 : Int) (m : hy_m) : Prop := (6 ≤ x2 → (hy_r 0 ((m 1 4) - 1) ∧ (0 ≤ ((m 1 4) - 1) ∧ ((m 1 4) - 1) < 6 ∧ ((x1 = 0 ∨ ∃ nv, T.1 (x1).toNat = some (115 - 110, nv) ∧ 115 < 160) ∧ (wq_22_70 T (hy_u (hy_u m 1 4 ((m 1 4) - 1)) 23 ((m 1 4) - 1) x1) Q))))) ∧ (x2 < 6 → (0 ≤ x2 ∧ x2 < 6 ∧ (0 ≤ (x2 - 1) ∧ (x2 - 1) < 6 ∧ (((m 23 x2) = 0 ∨ ∃ nv, T.1 ((m 23 x2)).toNat = some (115 - 110, nv) ∧ 115 < 160) ∧ (hy_r 0 (x2 + 1) ∧ (P21 (x2 + 1) (hy_u m 23 (x2 - 1) (m 23 x2))))))))
def wq_22_21 (x1 : Int) (x2 : Int) (T : hy_T) (m : hy_m) (Q : Int → hy_m → Prop) : Prop := wL1 hy_m (wf_22_21 x1 T Q) x2 m
def wq_22 (T : hy_T) (m : hy_m) (Q : Int → hy_m → Prop) : Prop := ((m 1 4) ≠ 6 → (wq_22_70 T m Q)) ∧ ((m 1 4) = 6 → (0 ≤ (0 : Int) ∧ (0 : Int) < 6 ∧ (wq_22_21 (m 23 0) 1 T m Q)))
theorem wc_54_3t_r21 (x0 : Int) (s : sS) (R : Int → hy_m → Prop) (h : wq_54 x0 21 s.1 s.2.2.2 R) : we_54 [(3, true, x0), (5, true, 21)] s R := h
theorem wc_87_r36 (s : sS) (R : Int → hy_m → Prop) (h : wq_87 s.1 s.2.2.2 R) : we_87 [(5, true, 36)] s R := h
def cs_22 : List (Nat × Nat × sFS) := [(54, 9, .inl we_54), (87, 9, .inl we_87)]
theorem cs_22_ok : kCs dC 5 cs_22 := (kCs_c (Or.inr (Or.inr (Or.inr (Or.inr rfl)))) (we_54_ok.deep (by decide)) (kCs_c (Or.inr (Or.inr (Or.inr (Or.inr rfl)))) (we_87_ok.deep (by decide)) kCs_n))
def lb_22_70 (s : sS) (Q : sQ) (R : Int → hy_m → Prop) : Nat → Option (sL → sS → Prop) := sLb []
set_option maxRecDepth 30000 in
set_option maxHeartbeats 1000000 in
theorem wk_22_70 (Q : sQ) (R : Int → hy_m → Prop) (s : sS) (hQ : ∀ x m', R x m' → Q x (sM s m')) (hr : sRg [(0, 5, 1)] []) (h : wq_22_70 s.1 s.2.2.2 R) : kX dC 5 im_m22 9 70 (sCan [(0, 5, 1)] []) [] s Q := by
  unfold wq_22_70 at h
  refine wz2_ok (cs := cs_22) (wr := []) (lb := lb_22_70 s Q R) cs_22_ok kLb_n (okL_can rfl hr) (fun Y hY hl => ?_)
  refine hY _ _ _ _ (hY _ _ _ _ (hY _ _ _ _ (?_ : Y 75 [(0, 5, true, 1)] [(5, true, 1), (5, true, 23)] s)))
  refine hY _ _ _ _ (?_ : Y 78 [(0, 5, true, 1)] [(0, true, s.2.2.2 1 4), (5, true, 23)] s)
  refine hY _ _ _ _ ?_
  refine (And.intro h.1 (And.intro h.2.1 ?_))
  refine hY _ _ _ _ (hY _ _ _ _ (?_ : Y 83 [(0, 5, true, 1)] [(5, true, 21), (3, true, s.2.2.2 23 (s.2.2.2 1 4))] s))
  refine hY _ _ _ _ ?_
  refine (And.intro h.2.2.1 ?_)
  refine Exists.intro _ (And.intro (wc_54_3t_r21 (s.2.2.2 23 (s.2.2.2 1 4)) _ _ h.2.2.2) (fun r1 m1 h => ?_))
  refine hY _ _ _ _ (hY _ _ _ _ (hY _ _ _ _ (?_ : Y 91 [(0, 5, true, 1)] [(0, true, m1 1 4), (5, true, 1)] (sM s m1))))
  refine hY _ _ _ _ (hY _ _ _ _ (?_ : Y 93 [(0, 5, true, 1)] [(0, false, (m1 1 4) + 1), (5, true, 1)] (sM s m1)))
  refine hY _ _ _ _ ?_
  refine And.intro h.1 ?_
  refine hY _ _ _ _ (hY _ _ _ _ (?_ : Y 100 [(0, 5, true, 1)] [(5, true, 36)] (sM s (hy_u m1 1 4 ((m1 1 4) + 1)))))
  refine hY _ _ _ _ ?_
  refine Exists.intro _ (And.intro (wc_87_r36 _ _ h.2) (fun r2 m2 h => ?_))
  show Y 103 [(0, 5, true, 1)] [] (sM s m2)
  refine hY _ _ _ _ ?_
  exact hQ 0 m2 h
def lb_22_21 (s : sS) (Q : sQ) (P21 : Int → hy_m → Prop) (R : Int → hy_m → Prop) (x1 : Int) (x2 : Int) : Nat → Option (sL → sS → Prop) := sLb [(70, fun lv t => sG [(0, 5, 1)] lv (ap0 (∃ m', t = sM s m' ∧ wq_22_70 s.1 m' R))), (21, fun lv t => sG [(0, 5, 1), (1, 3, 0), (2, 0, 0)] lv (ap2 (fun w1 w2 => ∃ m', t = sM s m' ∧ w1 = x1 ∧ P21 w2 m')))]
set_option maxRecDepth 30000 in
set_option maxHeartbeats 1000000 in
theorem wj_22_21 (Q : sQ) (R : Int → hy_m → Prop) (s : sS) (P21 : Int → hy_m → Prop) (x1 : Int) (x2 : Int) (m : hy_m) (hP21 : ∀ (z2 : Int) (m : hy_m), P21 z2 m → sRg [(0, 5, 1), (1, 3, 0), (2, 0, 0)] [x1, z2] → kX dC 5 im_m22 9 21 (sCan [(0, 5, 1), (1, 3, 0), (2, 0, 0)] [x1, z2]) [] (sM s m) Q) (hQ : ∀ x m', R x m' → Q x (sM s m')) (hr : sRg [(0, 5, 1), (1, 3, 0), (2, 0, 0)] [x1, x2]) (h : wf_22_21 x1 s.1 R P21 x2 m) : kX dC 5 im_m22 9 21 (sCan [(0, 5, 1), (1, 3, 0), (2, 0, 0)] [x1, x2]) [] (sM s m) Q := by
  unfold wf_22_21 at h
  refine wz2_ok (cs := cs_22) (wr := []) (lb := lb_22_21 s Q P21 R x1 x2) cs_22_ok (kLb_c (kLab (Bd := fun xs t => ap0 (∃ m', t = sM s m' ∧ wq_22_70 s.1 m' R) xs) rfl (fun xs t r1 r2 hb => by obtain ⟨rfl, hb⟩ := ap0_ok hb; obtain ⟨m', rfl, hx⟩ := hb; exact wk_22_70 Q R (sM s m')  (fun x m'' hy => hQ x m'' hy) r1 hx)) (kLb_c (kLab (Bd := fun xs t => ap2 (fun w1 w2 => ∃ m', t = sM s m' ∧ w1 = x1 ∧ P21 w2 m') xs) rfl (fun xs t r1 r2 hb => by obtain ⟨w1, w2, rfl, hb⟩ := ap2_ok hb; obtain ⟨m', rfl, rfl, hx⟩ := hb; exact hP21 _ m' hx r1)) kLb_n)) (okL_can rfl hr) (fun Y hY hl => ?_)
  have l70 := hl 70 _ rfl
  have l21 := hl 21 _ rfl
  refine hY _ _ _ _ (hY _ _ _ _ (hY _ _ _ _ (?_ : Y 26 [(0, 5, true, 1), (1, 3, true, x1), (2, 0, true, x2)] [(5, true, 23), (0, true, x2)] (sM s m))))
  refine hY _ _ _ _ (?_ : Y 27 [(0, 5, true, 1), (1, 3, true, x1), (2, 0, true, x2)] [(0, true, 6), (0, true, x2)] (sM s m))
  refine hY _ _ _ _ ?_
  refine And.intro (fun hc => ?_) (fun hc => ?_)
  · have h := h.1 hc
    refine hY _ _ _ _ (hY _ _ _ _ (hY _ _ _ _ (?_ : Y 55 [(0, 5, true, 1), (1, 3, true, x1), (2, 0, true, x2)] [(0, true, m 1 4), (5, true, 1)] (sM s m))))
    refine hY _ _ _ _ (hY _ _ _ _ (?_ : Y 57 [(0, 5, true, 1), (1, 3, true, x1), (2, 0, true, x2)] [(0, false, (m 1 4) - 1), (5, true, 1)] (sM s m)))
    refine hY _ _ _ _ ?_
    refine And.intro h.1 ?_
    refine hY _ _ _ _ (hY _ _ _ _ (hY _ _ _ _ (?_ : Y 65 [(0, 5, true, 1), (1, 3, true, x1), (2, 0, true, x2)] [(5, true, 1), (5, true, 23)] (sM s (hy_u m 1 4 ((m 1 4) - 1))))))
    refine hY _ _ _ _ (hY _ _ _ _ (?_ : Y 69 [(0, 5, true, 1), (1, 3, true, x1), (2, 0, true, x2)] [(3, true, x1), (0, true, (m 1 4) - 1), (5, true, 23)] (sM s (hy_u m 1 4 ((m 1 4) - 1)))))
    refine hY _ _ _ _ ?_
    refine (And.intro h.2.1 (And.intro h.2.2.1 ?_))
    refine (And.intro h.2.2.2.1 ?_)
    show Y 70 [(0, 5, true, 1), (1, 3, true, x1), (2, 0, true, x2)] [] (sM s (hy_u (hy_u m 1 4 ((m 1 4) - 1)) 23 ((m 1 4) - 1) x1))
    refine l70 _ _ ?_
    exact (Exists.intro (hy_u (hy_u m 1 4 ((m 1 4) - 1)) 23 ((m 1 4) - 1) x1) (And.intro rfl h.2.2.2.2))
  · have h := h.2 hc
    refine hY _ _ _ _ (hY _ _ _ _ (hY _ _ _ _ (?_ : Y 35 [(0, 5, true, 1), (1, 3, true, x1), (2, 0, true, x2)] [(0, true, x2), (5, true, 23)] (sM s m))))
    refine hY _ _ _ _ (hY _ _ _ _ (hY _ _ _ _ (?_ : Y 38 [(0, 5, true, 1), (1, 3, true, x1), (2, 0, true, x2)] [(5, true, 1), (0, false, x2 - 1), (5, true, 23)] (sM s m))))
    refine hY _ _ _ _ (hY _ _ _ _ (?_ : Y 42 [(0, 5, true, 1), (1, 3, true, x1), (2, 0, true, x2)] [(0, true, x2), (5, true, 23), (0, false, x2 - 1), (5, true, 23)] (sM s m)))
    refine hY _ _ _ _ ?_
    refine (And.intro h.1 (And.intro h.2.1 ?_))
    show Y 43 [(0, 5, true, 1), (1, 3, true, x1), (2, 0, true, x2)] [(3, true, m 23 x2), (0, false, x2 - 1), (5, true, 23)] (sM s m)
    refine hY _ _ _ _ ?_
    refine (And.intro h.2.2.1 (And.intro h.2.2.2.1 ?_))
    refine (And.intro h.2.2.2.2.1 ?_)
    refine hY _ _ _ _ (hY _ _ _ _ (?_ : Y 21 [(2, 0, false, x2 + 1), (0, 5, true, 1), (1, 3, true, x1)] [] (sM s (hy_u m 23 (x2 - 1) (m 23 x2)))))
    refine l21 _ _ ?_
    refine And.intro h.2.2.2.2.2.1 ?_
    exact (Exists.intro (hy_u m 23 (x2 - 1) (m 23 x2)) (And.intro rfl (And.intro rfl h.2.2.2.2.2.2)))
theorem wk_22_21 (Q : sQ) (R : Int → hy_m → Prop) (s : sS) (x1 : Int) (x2 : Int) (hQ : ∀ x m', R x m' → Q x (sM s m')) (hr : sRg [(0, 5, 1), (1, 3, 0), (2, 0, 0)] [x1, x2]) (h : wq_22_21 x1 x2 s.1 s.2.2.2 R) : kX dC 5 im_m22 9 21 (sCan [(0, 5, 1), (1, 3, 0), (2, 0, 0)] [x1, x2]) [] s Q :=
  h (fun x2 m => sRg [(0, 5, 1), (1, 3, 0), (2, 0, 0)] [x1, x2] → kX dC 5 im_m22 9 21 (sCan [(0, 5, 1), (1, 3, 0), (2, 0, 0)] [x1, x2]) [] (sM s m) Q) (fun x2 m h hr => wj_22_21 Q R s (fun x2 m => sRg [(0, 5, 1), (1, 3, 0), (2, 0, 0)] [x1, x2] → kX dC 5 im_m22 9 21 (sCan [(0, 5, 1), (1, 3, 0), (2, 0, 0)] [x1, x2]) [] (sM s m) Q) x1 x2 m  (fun _ _ hp hr => hp hr) hQ hr h) hr
def lb_22_0 (s : sS) (Q : sQ) (R : Int → hy_m → Prop) : Nat → Option (sL → sS → Prop) := sLb [(21, fun lv t => sG [(0, 5, 1), (1, 3, 0), (2, 0, 0)] lv (ap2 (fun w1 w2 => ∃ m', t = sM s m' ∧ wq_22_21 w1 w2 s.1 m' R))), (70, fun lv t => sG [(0, 5, 1)] lv (ap0 (∃ m', t = sM s m' ∧ wq_22_70 s.1 m' R)))]
set_option maxRecDepth 30000 in
set_option maxHeartbeats 1000000 in
theorem wk_22_0 (Q : sQ) (R : Int → hy_m → Prop) (s : sS) (hQ : ∀ x m', R x m' → Q x (sM s m')) (hr : sRg [(0, 5, 1)] []) (h : wq_22 s.1 s.2.2.2 R) : kX dC 5 im_m22 9 0 (sCan [(0, 5, 1)] []) [] s Q := by
  unfold wq_22 at h
  refine wz2_ok (cs := cs_22) (wr := []) (lb := lb_22_0 s Q R) cs_22_ok (kLb_c (kLab (Bd := fun xs t => ap2 (fun w1 w2 => ∃ m', t = sM s m' ∧ wq_22_21 w1 w2 s.1 m' R) xs) rfl (fun xs t r1 r2 hb => by obtain ⟨w1, w2, rfl, hb⟩ := ap2_ok hb; obtain ⟨m', rfl, hx⟩ := hb; exact wk_22_21 Q R (sM s m') _ _ (fun x m'' hy => hQ x m'' hy) r1 hx)) (kLb_c (kLab (Bd := fun xs t => ap0 (∃ m', t = sM s m' ∧ wq_22_70 s.1 m' R) xs) rfl (fun xs t r1 r2 hb => by obtain ⟨rfl, hb⟩ := ap0_ok hb; obtain ⟨m', rfl, hx⟩ := hb; exact wk_22_70 Q R (sM s m')  (fun x m'' hy => hQ x m'' hy) r1 hx)) kLb_n)) (okL_can rfl hr) (fun Y hY hl => ?_)
  have l21 := hl 21 _ rfl
  have l70 := hl 70 _ rfl
  refine hY _ _ _ _ (hY _ _ _ _ (hY _ _ _ _ (?_ : Y 5 [(0, 5, true, 1)] [(5, true, 1), (0, true, s.2.2.2 1 4)] s)))
  refine hY _ _ _ _ (hY _ _ _ _ (?_ : Y 9 [(0, 5, true, 1)] [(0, true, 6), (0, true, s.2.2.2 1 4)] s))
  refine hY _ _ _ _ ?_
  refine And.intro (fun hc => ?_) (fun hc => ?_)
  · have h := h.1 hc
    show Y 70 [(0, 5, true, 1)] [] s
    refine l70 _ _ ?_
    exact (Exists.intro s.2.2.2 (And.intro rfl h))
  · have h := h.2 hc
    refine hY _ _ _ _ (hY _ _ _ _ (hY _ _ _ _ (?_ : Y 17 [(0, 5, true, 1)] [(2, true, 0), (5, true, 23)] s)))
    refine hY _ _ _ _ ?_
    refine (And.intro h.1 (And.intro h.2.1 ?_))
    refine hY _ _ _ _ (hY _ _ _ _ (hY _ _ _ _ (?_ : Y 21 [(2, 2, true, 1), (1, 3, true, s.2.2.2 23 0), (0, 5, true, 1)] [] s)))
    refine l21 _ _ ?_
    exact (Exists.intro s.2.2.2 (And.intro rfl h.2.2))
def we_22 : sFf := sEf 3 [(0, 5, 1)] (fun xs s Q => ap0 (wq_22 s.1 s.2.2.2 Q) xs)
theorem we_22_ok : kS dC 6 22 9 (.inl we_22) := sEf_ok (mi := im_m22) rfl rfl rfl (fun R xs s r1 hb => by obtain ⟨rfl, hb⟩ := ap0_ok hb; exact wk_22_0 _ R s (fun x m' hx => ⟨m', rfl, hx⟩) r1 hb)
/-- LM$Program.append(LLogicMachine$Clause;)V -/
def wq_55 (x0 : Int) (x1 : Int) (T : hy_T) (m : hy_m) (Q : Int → hy_m → Prop) : Prop := T.1 (x0).toNat = some (5, 3) ∧ (T.1 (x0).toNat = some (5, 3) ∧ (∃ t1 n1 : Nat, T.1 (m ((x0).toNat) 1).toNat = some (t1, n1) ∧ 99 ≤ t1 ∧ (((n1 : Int) ≤ (m ((x0).toNat) 2) → (Q 0 m)) ∧ ((m ((x0).toNat) 2) < (n1 : Int) → (T.1 (x0).toNat = some (5, 3) ∧ (T.1 (x0).toNat = some (5, 3) ∧ (∃ t2 n2 : Nat, T.1 (m ((x0).toNat) 1).toNat = some (t2, n2) ∧ 110 ≤ t2 ∧ (0 ≤ (m ((x0).toNat) 2) ∧ (m ((x0).toNat) 2) < (n2 : Int) ∧ ((x1 = 0 ∨ ∃ nv, T.1 (x1).toNat = some (t2 - 110, nv) ∧ t2 < 160) ∧ (T.1 (x0).toNat = some (5, 3) ∧ (T.1 (x0).toNat = some (5, 3) ∧ (hy_r 0 (((hy_u m ((m ((x0).toNat) 1).toNat) (m ((x0).toNat) 2) x1) ((x0).toNat) 2) + 1) ∧ (Q 0 (hy_u (hy_u m ((m ((x0).toNat) 1).toNat) (m ((x0).toNat) 2) x1) ((x0).toNat) 2 (((hy_u m ((m ((x0).toNat) 1).toNat) (m ((x0).toNat) 2) x1) ((x0).toNat) 2) + 1)))))))))))))))
def cs_55 : List (Nat × Nat × sFS) := []
theorem cs_55_ok : kCs dC 0 cs_55 := kCs_n
def lb_55_0 (s : sS) (Q : sQ) (R : Int → hy_m → Prop) (x0 : Int) (x1 : Int) : Nat → Option (sL → sS → Prop) := sLb []
set_option maxRecDepth 30000 in
set_option maxHeartbeats 1000000 in
theorem wk_55_0 (Q : sQ) (R : Int → hy_m → Prop) (s : sS) (x0 : Int) (x1 : Int) (hQ : ∀ x m', R x m' → Q x (sM s m')) (hr : sRg [(0, 3, 0), (1, 3, 0)] [x0, x1]) (h : wq_55 x0 x1 s.1 s.2.2.2 R) : kX dC 0 im_m55 9 0 (sCan [(0, 3, 0), (1, 3, 0)] [x0, x1]) [] s Q := by
  unfold wq_55 at h
  refine wz2_ok (cs := cs_55) (wr := []) (lb := lb_55_0 s Q R x0 x1) cs_55_ok kLb_n (okL_can rfl hr) (fun Y hY hl => ?_)
  refine hY _ _ _ _ (?_ : Y 1 [(0, 3, true, x0), (1, 3, true, x1)] [(3, true, x0)] s)
  refine hY _ _ _ _ ?_
  refine (And.intro h.1 ?_)
  refine hY _ _ _ _ (?_ : Y 5 [(0, 3, true, x0), (1, 3, true, x1)] [(3, true, x0), (0, true, s.2.2.2 ((x0).toNat) 2)] s)
  refine hY _ _ _ _ ?_
  refine (And.intro h.2.1 ?_)
  show Y 8 [(0, 3, true, x0), (1, 3, true, x1)] [(3, true, s.2.2.2 ((x0).toNat) 1), (0, true, s.2.2.2 ((x0).toNat) 2)] s
  refine hY _ _ _ _ ?_
  obtain ⟨t1, n1, h⟩ := h.2.2
  refine Exists.intro t1 (Exists.intro n1 (And.intro h.1 (And.intro h.2.1 ?_)))
  show Y 9 [(0, 3, true, x0), (1, 3, true, x1)] [(0, true, (n1 : Int)), (0, true, s.2.2.2 ((x0).toNat) 2)] s
  refine hY _ _ _ _ ?_
  refine And.intro (fun hc => ?_) (fun hc => ?_)
  · have h := h.2.2.1 hc
    show Y 32 [(0, 3, true, x0), (1, 3, true, x1)] [] s
    refine hY _ _ _ _ ?_
    exact hQ 0 s.2.2.2 h
  · have h := h.2.2.2 hc
    refine hY _ _ _ _ (?_ : Y 13 [(0, 3, true, x0), (1, 3, true, x1)] [(3, true, x0)] s)
    refine hY _ _ _ _ ?_
    refine (And.intro h.1 ?_)
    refine hY _ _ _ _ (?_ : Y 17 [(0, 3, true, x0), (1, 3, true, x1)] [(3, true, x0), (3, true, s.2.2.2 ((x0).toNat) 1)] s)
    refine hY _ _ _ _ ?_
    refine (And.intro h.2.1 ?_)
    refine hY _ _ _ _ (?_ : Y 21 [(0, 3, true, x0), (1, 3, true, x1)] [(3, true, x1), (0, true, s.2.2.2 ((x0).toNat) 2), (3, true, s.2.2.2 ((x0).toNat) 1)] s)
    refine hY _ _ _ _ ?_
    obtain ⟨t2, n2, h⟩ := h.2.2
    refine Exists.intro t2 (Exists.intro n2 (And.intro h.1 (And.intro h.2.1 ?_)))
    refine (And.intro h.2.2.1 (And.intro h.2.2.2.1 ?_))
    refine (And.intro h.2.2.2.2.1 ?_)
    refine hY _ _ _ _ (hY _ _ _ _ (?_ : Y 24 [(0, 3, true, x0), (1, 3, true, x1)] [(3, true, x0), (3, true, x0)] (sM s (hy_u s.2.2.2 ((s.2.2.2 ((x0).toNat) 1).toNat) (s.2.2.2 ((x0).toNat) 2) x1))))
    refine hY _ _ _ _ ?_
    refine (And.intro h.2.2.2.2.2.1 ?_)
    refine hY _ _ _ _ (hY _ _ _ _ (?_ : Y 29 [(0, 3, true, x0), (1, 3, true, x1)] [(0, false, ((hy_u s.2.2.2 ((s.2.2.2 ((x0).toNat) 1).toNat) (s.2.2.2 ((x0).toNat) 2) x1) ((x0).toNat) 2) + 1), (3, true, x0)] (sM s (hy_u s.2.2.2 ((s.2.2.2 ((x0).toNat) 1).toNat) (s.2.2.2 ((x0).toNat) 2) x1))))
    refine hY _ _ _ _ ?_
    refine (And.intro h.2.2.2.2.2.2.1 ?_)
    refine And.intro h.2.2.2.2.2.2.2.1 ?_
    show Y 32 [(0, 3, true, x0), (1, 3, true, x1)] [] (sM s (hy_u (hy_u s.2.2.2 ((s.2.2.2 ((x0).toNat) 1).toNat) (s.2.2.2 ((x0).toNat) 2) x1) ((x0).toNat) 2 (((hy_u s.2.2.2 ((s.2.2.2 ((x0).toNat) 1).toNat) (s.2.2.2 ((x0).toNat) 2) x1) ((x0).toNat) 2) + 1)))
    refine hY _ _ _ _ ?_
    exact hQ 0 (hy_u (hy_u s.2.2.2 ((s.2.2.2 ((x0).toNat) 1).toNat) (s.2.2.2 ((x0).toNat) 2) x1) ((x0).toNat) 2 (((hy_u s.2.2.2 ((s.2.2.2 ((x0).toNat) 1).toNat) (s.2.2.2 ((x0).toNat) 2) x1) ((x0).toNat) 2) + 1)) h.2.2.2.2.2.2.2.2
def we_55 : sFf := sEf 2 [(0, 3, 0), (1, 3, 0)] (fun xs s Q => ap2 (fun x0 x1 => wq_55 x0 x1 s.1 s.2.2.2 Q) xs)
theorem we_55_ok : kS dC 1 55 9 (.inl we_55) := sEf_ok (mi := im_m55) rfl rfl rfl (fun R xs s r1 hb => by obtain ⟨x0, x1, rfl, hb⟩ := ap2_ok hb; exact wk_55_0 _ R s x0 x1 (fun x m' hx => ⟨m', rfl, hx⟩) r1 hb)
/-- LM.consult()I -/
def wf_4_46 (x1 : Int) (Q : sQ) (P46 : Int → sS → Prop) (x2 : Int) (s : sS) : Prop := (20 ≤ x2 → (hy_r 0 ((s.2.2.2 21 2) - x1) ∧ (Q ((s.2.2.2 21 2) - x1) s))) ∧ (x2 < 20 → (wq_70 0 s.2.2.2 (fun r1 m1 => (r1 = 0 → (hy_r 0 ((m1 21 2) - x1) ∧ (Q ((m1 21 2) - x1) (s.1, s.2.1, s.2.2.1, m1)))) ∧ (r1 ≠ 0 → ((hy_e s.1 s.2.1 3 9).1 ((s.2.1 : Int)).toNat = some (3, 9) ∧ (wq_39 (s.2.1 : Int) 4 (hy_e s.1 s.2.1 3 9, s.2.1 + 1, s.2.2.1 + 9, hy_z m1 s.2.1) (fun _ s2 => wq_55 21 (s.2.1 : Int) s2.1 s2.2.2.2 (fun _ m3 => hy_r 0 (x2 + 1) ∧ (P46 (x2 + 1) (s2.1, s2.2.1, s2.2.2.1, m3))))))))))
def wq_4_46 (x1 : Int) (x2 : Int) (s : sS) (Q : sQ) : Prop := wL1 sS (wf_4_46 x1 Q) x2 s
def wq_4 (s : sS) (Q : sQ) : Prop := hy_r 0 (20 - (s.2.2.2 21 2)) ∧ (wq_68 (20 - (s.2.2.2 21 2)) s.2.2.2 (fun r1 m1 => (r1 = (-9) → (wq_22 s.1 m1 (fun _ m2 => wq_135 m2 (fun _ m3 => wq_4_46 (m2 21 2) (m2 21 2) (s.1, s.2.1, s.2.2.1, m3) Q)))) ∧ (r1 ≠ (-9) → (Q (-2) (s.1, s.2.1, s.2.2.1, m1)))))
theorem wc_39_3t_r4 (x0 : Int) (s : sS) (R : Int → sS → Prop) (h : wq_39 x0 4 s R) : we_39 [(3, true, x0), (5, true, 4)] s R := h
theorem wc_55_r21_3t (x1 : Int) (s : sS) (R : Int → hy_m → Prop) (h : wq_55 21 x1 s.1 s.2.2.2 R) : we_55 [(5, true, 21), (3, true, x1)] s R := h
theorem wc_22_r1 (s : sS) (R : Int → hy_m → Prop) (h : wq_22 s.1 s.2.2.2 R) : we_22 [(5, true, 1)] s R := h
def cs_4 : List (Nat × Nat × sFS) := [(22, 9, .inl we_22), (39, 9, .inr we_39), (55, 9, .inl we_55), (68, 0, .inl we_68), (70, 2, .inl we_70), (135, 9, .inl we_135)]
theorem cs_4_ok : kCs dC 7 cs_4 := (kCs_c (Or.inr (Or.inr (Or.inr (Or.inr rfl)))) (we_22_ok.deep (by decide)) (kCs_c (Or.inr (Or.inr (Or.inr (Or.inr rfl)))) (we_39_ok.deep (by decide)) (kCs_c (Or.inr (Or.inr (Or.inr (Or.inr rfl)))) (we_55_ok.deep (by decide)) (kCs_c (Or.inl rfl) (we_68_ok.deep (by decide)) (kCs_c (Or.inr (Or.inr (Or.inl rfl))) (we_70_ok.deep (by decide)) (kCs_c (Or.inr (Or.inr (Or.inr (Or.inr rfl)))) (we_135_ok.deep (by decide)) kCs_n))))))
def lb_4_46 (s : sS) (Q : sQ) (P46 : Int → sS → Prop) (x1 : Int) (x2 : Int) : Nat → Option (sL → sS → Prop) := sLb [(46, fun lv t => sG [(0, 5, 1), (1, 0, 0), (2, 0, 0)] lv (ap2 (fun w1 w2 => w1 = x1 ∧ P46 w2 t)))]
set_option maxRecDepth 30000 in
set_option maxHeartbeats 1000000 in
theorem wj_4_46 (Q : sQ) (s : sS) (P46 : Int → sS → Prop) (x1 : Int) (x2 : Int) (hP46 : ∀ (z2 : Int) (t : sS), P46 z2 t → sRg [(0, 5, 1), (1, 0, 0), (2, 0, 0)] [x1, z2] → kX dC 7 im_m4 0 46 (sCan [(0, 5, 1), (1, 0, 0), (2, 0, 0)] [x1, z2]) [] t Q) (hr : sRg [(0, 5, 1), (1, 0, 0), (2, 0, 0)] [x1, x2]) (h : wf_4_46 x1 Q P46 x2 s) : kX dC 7 im_m4 0 46 (sCan [(0, 5, 1), (1, 0, 0), (2, 0, 0)] [x1, x2]) [] s Q := by
  unfold wf_4_46 at h
  refine wz2_ok (cs := cs_4) (wr := []) (lb := lb_4_46 s Q P46 x1 x2) cs_4_ok (kLb_c (kLab (Bd := fun xs t => ap2 (fun w1 w2 => w1 = x1 ∧ P46 w2 t) xs) rfl (fun xs t r1 r2 hb => by obtain ⟨w1, w2, rfl, hb⟩ := ap2_ok hb; obtain ⟨rfl, hx⟩ := hb; exact hP46 _ t hx r1)) kLb_n) (okL_can rfl hr) (fun Y hY hl => ?_)
  have l46 := hl 46 _ rfl
  refine hY _ _ _ _ (hY _ _ _ _ (?_ : Y 49 [(0, 5, true, 1), (1, 0, true, x1), (2, 0, true, x2)] [(0, true, 20), (0, true, x2)] s))
  refine hY _ _ _ _ ?_
  refine And.intro (fun hc => ?_) (fun hc => ?_)
  · have h := h.1 hc
    refine hY _ _ _ _ (hY _ _ _ _ (hY _ _ _ _ (?_ : Y 94 [(0, 5, true, 1), (1, 0, true, x1), (2, 0, true, x2)] [(0, true, s.2.2.2 21 2)] s)))
    refine hY _ _ _ _ (hY _ _ _ _ (?_ : Y 96 [(0, 5, true, 1), (1, 0, true, x1), (2, 0, true, x2)] [(0, false, (s.2.2.2 21 2) - x1)] s))
    refine hY _ _ _ _ ?_
    refine And.intro h.1 ?_
    exact h.2
  · have h := h.2 hc
    refine hY _ _ _ _ (hY _ _ _ _ (hY _ _ _ _ (?_ : Y 57 [(0, 5, true, 1), (1, 0, true, x1), (2, 0, true, x2)] [(2, true, 0), (5, true, 4)] s)))
    refine hY _ _ _ _ ?_
    refine Exists.intro _ (And.intro (wc_70_r4_2t 0 _ _ h) (fun r1 m1 h => ?_))
    show Y 60 [(0, 5, true, 1), (1, 0, true, x1), (2, 0, true, x2)] [(2, true, r1)] (s.1, s.2.1, s.2.2.1, m1)
    refine hY _ _ _ _ ?_
    refine And.intro (fun hc => ?_) (fun hc => ?_)
    · have h := h.1 hc
      refine hY _ _ _ _ (hY _ _ _ _ (hY _ _ _ _ (?_ : Y 94 [(0, 5, true, 1), (1, 0, true, x1), (2, 0, true, x2)] [(0, true, m1 21 2)] (s.1, s.2.1, s.2.2.1, m1))))
      refine hY _ _ _ _ (hY _ _ _ _ (?_ : Y 96 [(0, 5, true, 1), (1, 0, true, x1), (2, 0, true, x2)] [(0, false, (m1 21 2) - x1)] (s.1, s.2.1, s.2.2.1, m1)))
      refine hY _ _ _ _ ?_
      refine And.intro h.1 ?_
      exact h.2
    · have h := h.2 hc
      refine hY _ _ _ _ (hY _ _ _ _ (hY _ _ _ _ (?_ : Y 70 [(0, 5, true, 1), (1, 0, true, x1), (2, 0, true, x2)] [(3, true, (s.2.1 : Int)), (5, true, 21)] (hy_e s.1 s.2.1 3 9, s.2.1 + 1, s.2.2.1 + 9, hy_z m1 s.2.1))))
      refine hY _ _ _ _ (hY _ _ _ _ (hY _ _ _ _ (?_ : Y 75 [(0, 5, true, 1), (1, 0, true, x1), (2, 0, true, x2)] [(5, true, 4), (3, true, (s.2.1 : Int)), (3, true, (s.2.1 : Int)), (5, true, 21)] (hy_e s.1 s.2.1 3 9, s.2.1 + 1, s.2.2.1 + 9, hy_z m1 s.2.1))))
      refine hY _ _ _ _ ?_
      refine (And.intro h.1 ?_)
      refine Exists.intro _ (And.intro (wc_39_3t_r4 (s.2.1 : Int) _ _ h.2) (fun r2 s2 h => ?_))
      show Y 78 [(0, 5, true, 1), (1, 0, true, x1), (2, 0, true, x2)] [(3, true, (s.2.1 : Int)), (5, true, 21)] s2
      refine hY _ _ _ _ ?_
      refine Exists.intro _ (And.intro (wc_55_r21_3t (s.2.1 : Int) _ _ h) (fun r3 m3 h => ?_))
      refine hY _ _ _ _ (hY _ _ _ _ (?_ : Y 46 [(2, 0, false, x2 + 1), (0, 5, true, 1), (1, 0, true, x1)] [] (s2.1, s2.2.1, s2.2.2.1, m3)))
      refine l46 _ _ ?_
      refine And.intro h.1 ?_
      exact (And.intro rfl h.2)
theorem wk_4_46 (Q : sQ) (s : sS) (x1 : Int) (x2 : Int) (hr : sRg [(0, 5, 1), (1, 0, 0), (2, 0, 0)] [x1, x2]) (h : wq_4_46 x1 x2 s Q) : kX dC 7 im_m4 0 46 (sCan [(0, 5, 1), (1, 0, 0), (2, 0, 0)] [x1, x2]) [] s Q :=
  h (fun x2 s => sRg [(0, 5, 1), (1, 0, 0), (2, 0, 0)] [x1, x2] → kX dC 7 im_m4 0 46 (sCan [(0, 5, 1), (1, 0, 0), (2, 0, 0)] [x1, x2]) [] s Q) (fun x2 s h hr => wj_4_46 Q s (fun x2 s => sRg [(0, 5, 1), (1, 0, 0), (2, 0, 0)] [x1, x2] → kX dC 7 im_m4 0 46 (sCan [(0, 5, 1), (1, 0, 0), (2, 0, 0)] [x1, x2]) [] s Q) x1 x2  (fun _ _ hp hr => hp hr) hr h) hr
def lb_4_0 (s : sS) (Q : sQ) : Nat → Option (sL → sS → Prop) := sLb [(46, fun lv t => sG [(0, 5, 1), (1, 0, 0), (2, 0, 0)] lv (ap2 (fun w1 w2 => wq_4_46 w1 w2 t Q)))]
set_option maxRecDepth 30000 in
set_option maxHeartbeats 1000000 in
theorem wk_4_0 (Q : sQ) (s : sS) (hr : sRg [(0, 5, 1)] []) (h : wq_4 s Q) : kX dC 7 im_m4 0 0 (sCan [(0, 5, 1)] []) [] s Q := by
  unfold wq_4 at h
  refine wz2_ok (cs := cs_4) (wr := []) (lb := lb_4_0 s Q) cs_4_ok (kLb_c (kLab (Bd := fun xs t => ap2 (fun w1 w2 => wq_4_46 w1 w2 t Q) xs) rfl (fun xs t r1 r2 hb => by obtain ⟨w1, w2, rfl, hb⟩ := ap2_ok hb; exact wk_4_46 Q t _ _ r1 hb)) kLb_n) (okL_can rfl hr) (fun Y hY hl => ?_)
  have l46 := hl 46 _ rfl
  refine hY _ _ _ _ (hY _ _ _ _ (hY _ _ _ _ (?_ : Y 6 [(0, 5, true, 1)] [(0, true, 20), (5, true, 4)] s)))
  refine hY _ _ _ _ (hY _ _ _ _ (hY _ _ _ _ (?_ : Y 13 [(0, 5, true, 1)] [(0, true, s.2.2.2 21 2), (0, true, 20), (5, true, 4)] s)))
  refine hY _ _ _ _ (?_ : Y 14 [(0, 5, true, 1)] [(0, false, 20 - (s.2.2.2 21 2)), (5, true, 4)] s)
  refine hY _ _ _ _ ?_
  refine Exists.intro _ (And.intro (wc_68_r4_0f (20 - (s.2.2.2 21 2)) _ _ h) (fun r1 m1 h => ?_))
  refine hY _ _ _ _ (?_ : Y 19 [(0, 5, true, 1)] [(0, true, (-9)), (0, true, r1)] (s.1, s.2.1, s.2.2.1, m1))
  refine hY _ _ _ _ ?_
  refine And.intro (fun hc => ?_) (fun hc => ?_)
  · have h := h.1 hc
    refine hY _ _ _ _ (?_ : Y 26 [(0, 5, true, 1)] [(5, true, 1)] (s.1, s.2.1, s.2.2.1, m1))
    refine hY _ _ _ _ ?_
    refine Exists.intro _ (And.intro (wc_22_r1 _ _ h) (fun r2 m2 h => ?_))
    refine hY _ _ _ _ (hY _ _ _ _ (hY _ _ _ _ (?_ : Y 36 [(0, 5, true, 1)] [(0, true, m2 21 2)] (s.1, s.2.1, s.2.2.1, m2))))
    refine hY _ _ _ _ (hY _ _ _ _ (hY _ _ _ _ (?_ : Y 41 [(1, 0, true, m2 21 2), (0, 5, true, 1)] [(5, true, 2)] (s.1, s.2.1, s.2.2.1, m2))))
    refine hY _ _ _ _ ?_
    refine Exists.intro _ (And.intro (wc_135_r2 _ _ h) (fun r3 m3 h => ?_))
    refine hY _ _ _ _ (hY _ _ _ _ (?_ : Y 46 [(2, 0, true, m2 21 2), (1, 0, true, m2 21 2), (0, 5, true, 1)] [] (s.1, s.2.1, s.2.2.1, m3)))
    refine l46 _ _ ?_
    exact h
  · have h := h.2 hc
    refine hY _ _ _ _ (?_ : Y 24 [(0, 5, true, 1)] [(0, true, (-2))] (s.1, s.2.1, s.2.2.1, m1))
    refine hY _ _ _ _ ?_
    exact h
def we_4 : sF := sE 3 [(0, 5, 1)] (fun xs s Q => ap0 (wq_4 s Q) xs)
theorem we_4_ok : kS dC 8 4 0 (.inr we_4) := sE_ok (mi := im_m4) rfl rfl rfl (fun Q xs s r1 hb => by obtain ⟨rfl, hb⟩ := ap0_ok hb; exact wk_4_0 Q s r1 hb)
