/-- LMModel.isFitting(IJJ)Z -/
def wq_258 (x1 : Int) (x2 : Int) (x4 : Int) (m : hy_m) (Q : Int → hy_m → Prop) : Prop := wq_206 x1 m (fun r1 m1 => 0 ≤ r1 ∧ r1 < 28 ∧ (0 ≤ (m1 81 r1) ∧ (m1 81 r1) < 3584 ∧ (wq_232 x2 m1 (fun r2 m2 => 0 ≤ r2 ∧ r2 < 3584 ∧ (((m1 77 (m1 81 r1)) ≠ (m2 77 r2) → (Q 0 m2)) ∧ ((m1 77 (m1 81 r1)) = (m2 77 r2) → (0 ≤ (m1 81 r1) ∧ (m1 81 r1) < 3584 ∧ (wq_232 x2 m2 (fun r3 m3 => 0 ≤ r3 ∧ r3 < 3584 ∧ (((m2 78 (m1 81 r1)) = (m3 78 r3) → (0 ≤ (m1 81 r1) ∧ (m1 81 r1) < 3584 ∧ (((m3 78 (m1 81 r1)) = 0 → (Q 1 m3)) ∧ ((m3 78 (m1 81 r1)) ≠ 0 → (wq_230 x4 m3 (fun r4 m4 => (r4 ≠ 0 → (Q 1 m4)) ∧ (r4 = 0 → (0 ≤ (3 * (m1 81 r1)) ∧ (3 * (m1 81 r1)) < 10752 ∧ (0 ≤ (m4 79 (3 * (m1 81 r1))) ∧ (m4 79 (3 * (m1 81 r1))) < 3584 ∧ (((m4 76 (m4 79 (3 * (m1 81 r1)))) ≠ 1 → (0 ≤ (3 * (m1 81 r1)) ∧ (3 * (m1 81 r1)) < 10752 ∧ (wq_234 (m4 79 (3 * (m1 81 r1))) 2490 m4 (fun r5 m5 => wq_245 x4 r5 m5 (fun r6 m6 => Q r6 m6))))) ∧ ((m4 76 (m4 79 (3 * (m1 81 r1)))) = 1 → (Q 1 m4)))))))))))) ∧ ((m2 78 (m1 81 r1)) ≠ (m3 78 r3) → (Q 0 m3))))))))))))
def cs_258 : List (Nat × Nat × sFS) := [(206, 0, .inl we_206), (230, 2, .inl we_230), (232, 0, .inl we_232), (234, 1, .inl we_234), (245, 2, .inl we_245)]
theorem cs_258_ok : kCs dM 3 cs_258 := (kCs_c (Or.inl rfl) (we_206_ok.deep (by decide)) (kCs_c (Or.inr (Or.inr (Or.inl rfl))) (we_230_ok.deep (by decide)) (kCs_c (Or.inl rfl) (we_232_ok.deep (by decide)) (kCs_c (Or.inr (Or.inl rfl)) (we_234_ok.deep (by decide)) (kCs_c (Or.inr (Or.inr (Or.inl rfl))) (we_245_ok.deep (by decide)) kCs_n)))))
def lb_258_0 (s : sS) (Q : sQ) (R : Int → hy_m → Prop) (x1 : Int) (x2 : Int) (x4 : Int) : Nat → Option (sL → sS → Prop) := sLb []
set_option maxRecDepth 30000 in
set_option maxHeartbeats 1000000 in
theorem wk_258_0 (Q : sQ) (R : Int → hy_m → Prop) (s : sS) (x1 : Int) (x2 : Int) (x4 : Int) (hQ : ∀ x m', R x m' → Q x (sM s m')) (hr : sRg [(0, 5, 74), (1, 0, 0), (2, 1, 0), (4, 1, 0)] [x1, x2, x4]) (h : wq_258 x1 x2 x4 s.2.2.2 R) : kX dM 3 im_m258 2 0 (sCan [(0, 5, 74), (1, 0, 0), (2, 1, 0), (4, 1, 0)] [x1, x2, x4]) [] s Q := by
  unfold wq_258 at h
  refine wz2_ok (cs := cs_258) (wr := []) (lb := lb_258_0 s Q R x1 x2 x4) cs_258_ok kLb_n (okL_can rfl hr) (fun Y hY hl => ?_)
  refine hY _ _ _ _ (hY _ _ _ _ (hY _ _ _ _ (?_ : Y 5 [(0, 5, true, 74), (1, 0, true, x1), (2, 1, true, x2), (4, 1, true, x4)] [(5, true, 74), (5, true, 81)] s)))
  refine hY _ _ _ _ (?_ : Y 6 [(0, 5, true, 74), (1, 0, true, x1), (2, 1, true, x2), (4, 1, true, x4)] [(0, true, x1), (5, true, 74), (5, true, 81)] s)
  refine hY _ _ _ _ ?_
  refine Exists.intro _ (And.intro (wc_206_r74_0t x1 _ _ h) (fun r1 m1 h => ?_))
  show Y 9 [(0, 5, true, 74), (1, 0, true, x1), (2, 1, true, x2), (4, 1, true, x4)] [(0, true, r1), (5, true, 81)] (sM s m1)
  refine hY _ _ _ _ ?_
  refine (And.intro h.1 (And.intro h.2.1 ?_))
  refine hY _ _ _ _ (hY _ _ _ _ (hY _ _ _ _ (?_ : Y 16 [(6, 0, true, m1 81 r1), (0, 5, true, 74), (1, 0, true, x1), (2, 1, true, x2), (4, 1, true, x4)] [(5, true, 77)] (sM s m1))))
  refine hY _ _ _ _ (?_ : Y 18 [(6, 0, true, m1 81 r1), (0, 5, true, 74), (1, 0, true, x1), (2, 1, true, x2), (4, 1, true, x4)] [(0, true, m1 81 r1), (5, true, 77)] (sM s m1))
  refine hY _ _ _ _ ?_
  refine (And.intro h.2.2.1 (And.intro h.2.2.2.1 ?_))
  refine hY _ _ _ _ (hY _ _ _ _ (hY _ _ _ _ (?_ : Y 24 [(6, 0, true, m1 81 r1), (0, 5, true, 74), (1, 0, true, x1), (2, 1, true, x2), (4, 1, true, x4)] [(1, true, x2), (5, true, 77), (1, true, m1 77 (m1 81 r1))] (sM s m1))))
  refine hY _ _ _ _ ?_
  refine Exists.intro _ (And.intro (wc_232_1t x2 _ _ h.2.2.2.2) (fun r2 m2 h => ?_))
  show Y 27 [(6, 0, true, m1 81 r1), (0, 5, true, 74), (1, 0, true, x1), (2, 1, true, x2), (4, 1, true, x4)] [(0, true, r2), (5, true, 77), (1, true, m1 77 (m1 81 r1))] (sM s m2)
  refine hY _ _ _ _ ?_
  refine (And.intro h.1 (And.intro h.2.1 ?_))
  show Y 28 [(6, 0, true, m1 81 r1), (0, 5, true, 74), (1, 0, true, x1), (2, 1, true, x2), (4, 1, true, x4)] [(1, true, m2 77 r2), (1, true, m1 77 (m1 81 r1))] (sM s m2)
  refine hY _ _ _ _ ?_
  refine And.intro (fun hc => ?_) (fun hc => ?_)
  · have h := h.2.2.1 hc
    refine hY _ _ _ _ (?_ : Y 52 [(6, 0, true, m1 81 r1), (0, 5, true, 74), (1, 0, true, x1), (2, 1, true, x2), (4, 1, true, x4)] [(2, true, 0)] (sM s m2))
    refine hY _ _ _ _ ?_
    exact hQ 0 m2 h
  · have h := h.2.2.2 hc
    refine hY _ _ _ _ (hY _ _ _ _ (hY _ _ _ _ (?_ : Y 38 [(6, 0, true, m1 81 r1), (0, 5, true, 74), (1, 0, true, x1), (2, 1, true, x2), (4, 1, true, x4)] [(0, true, m1 81 r1), (5, true, 78)] (sM s m2))))
    refine hY _ _ _ _ ?_
    refine (And.intro h.1 (And.intro h.2.1 ?_))
    refine hY _ _ _ _ (hY _ _ _ _ (hY _ _ _ _ (?_ : Y 44 [(6, 0, true, m1 81 r1), (0, 5, true, 74), (1, 0, true, x1), (2, 1, true, x2), (4, 1, true, x4)] [(1, true, x2), (5, true, 78), (0, true, m2 78 (m1 81 r1))] (sM s m2))))
    refine hY _ _ _ _ ?_
    refine Exists.intro _ (And.intro (wc_232_1t x2 _ _ h.2.2) (fun r3 m3 h => ?_))
    show Y 47 [(6, 0, true, m1 81 r1), (0, 5, true, 74), (1, 0, true, x1), (2, 1, true, x2), (4, 1, true, x4)] [(0, true, r3), (5, true, 78), (0, true, m2 78 (m1 81 r1))] (sM s m3)
    refine hY _ _ _ _ ?_
    refine (And.intro h.1 (And.intro h.2.1 ?_))
    show Y 48 [(6, 0, true, m1 81 r1), (0, 5, true, 74), (1, 0, true, x1), (2, 1, true, x2), (4, 1, true, x4)] [(0, true, m3 78 r3), (0, true, m2 78 (m1 81 r1))] (sM s m3)
    refine hY _ _ _ _ ?_
    refine And.intro (fun hc => ?_) (fun hc => ?_)
    · have h := h.2.2.1 hc
      refine hY _ _ _ _ (hY _ _ _ _ (hY _ _ _ _ (?_ : Y 59 [(6, 0, true, m1 81 r1), (0, 5, true, 74), (1, 0, true, x1), (2, 1, true, x2), (4, 1, true, x4)] [(0, true, m1 81 r1), (5, true, 78)] (sM s m3))))
      refine hY _ _ _ _ ?_
      refine (And.intro h.1 (And.intro h.2.1 ?_))
      show Y 60 [(6, 0, true, m1 81 r1), (0, 5, true, 74), (1, 0, true, x1), (2, 1, true, x2), (4, 1, true, x4)] [(0, true, m3 78 (m1 81 r1))] (sM s m3)
      refine hY _ _ _ _ ?_
      refine And.intro (fun hc => ?_) (fun hc => ?_)
      · have h := h.2.2.1 hc
        refine hY _ _ _ _ (?_ : Y 90 [(6, 0, true, m1 81 r1), (0, 5, true, 74), (1, 0, true, x1), (2, 1, true, x2), (4, 1, true, x4)] [(2, true, 1)] (sM s m3))
        refine hY _ _ _ _ ?_
        exact hQ 1 m3 h
      · have h := h.2.2.2 hc
        refine hY _ _ _ _ (?_ : Y 65 [(6, 0, true, m1 81 r1), (0, 5, true, 74), (1, 0, true, x1), (2, 1, true, x2), (4, 1, true, x4)] [(1, true, x4)] (sM s m3))
        refine hY _ _ _ _ ?_
        refine Exists.intro _ (And.intro (wc_230_1t x4 _ _ h) (fun r4 m4 h => ?_))
        show Y 68 [(6, 0, true, m1 81 r1), (0, 5, true, 74), (1, 0, true, x1), (2, 1, true, x2), (4, 1, true, x4)] [(2, true, r4)] (sM s m4)
        refine hY _ _ _ _ ?_
        refine And.intro (fun hc => ?_) (fun hc => ?_)
        · have h := h.1 hc
          refine hY _ _ _ _ (?_ : Y 90 [(6, 0, true, m1 81 r1), (0, 5, true, 74), (1, 0, true, x1), (2, 1, true, x2), (4, 1, true, x4)] [(2, true, 1)] (sM s m4))
          refine hY _ _ _ _ ?_
          exact hQ 1 m4 h
        · have h := h.2 hc
          refine hY _ _ _ _ (hY _ _ _ _ (hY _ _ _ _ (?_ : Y 76 [(6, 0, true, m1 81 r1), (0, 5, true, 74), (1, 0, true, x1), (2, 1, true, x2), (4, 1, true, x4)] [(5, true, 74), (5, true, 76)] (sM s m4))))
          refine hY _ _ _ _ (hY _ _ _ _ (hY _ _ _ _ (?_ : Y 82 [(6, 0, true, m1 81 r1), (0, 5, true, 74), (1, 0, true, x1), (2, 1, true, x2), (4, 1, true, x4)] [(0, true, m1 81 r1), (0, true, 3), (5, true, 79), (5, true, 76)] (sM s m4))))
          refine hY _ _ _ _ (?_ : Y 83 [(6, 0, true, m1 81 r1), (0, 5, true, 74), (1, 0, true, x1), (2, 1, true, x2), (4, 1, true, x4)] [(0, false, 3 * (m1 81 r1)), (5, true, 79), (5, true, 76)] (sM s m4))
          refine hY _ _ _ _ ?_
          refine (And.intro h.1 (And.intro h.2.1 ?_))
          show Y 84 [(6, 0, true, m1 81 r1), (0, 5, true, 74), (1, 0, true, x1), (2, 1, true, x2), (4, 1, true, x4)] [(0, true, m4 79 (3 * (m1 81 r1))), (5, true, 76)] (sM s m4)
          refine hY _ _ _ _ ?_
          refine (And.intro h.2.2.1 (And.intro h.2.2.2.1 ?_))
          refine hY _ _ _ _ (?_ : Y 86 [(6, 0, true, m1 81 r1), (0, 5, true, 74), (1, 0, true, x1), (2, 1, true, x2), (4, 1, true, x4)] [(2, true, 1), (0, true, m4 76 (m4 79 (3 * (m1 81 r1))))] (sM s m4))
          refine hY _ _ _ _ ?_
          refine And.intro (fun hc => ?_) (fun hc => ?_)
          · have h := h.2.2.2.2.1 hc
            refine hY _ _ _ _ (hY _ _ _ _ (hY _ _ _ _ (?_ : Y 95 [(6, 0, true, m1 81 r1), (0, 5, true, 74), (1, 0, true, x1), (2, 1, true, x2), (4, 1, true, x4)] [(5, true, 74), (1, true, x4), (5, true, 74)] (sM s m4))))
            refine hY _ _ _ _ (hY _ _ _ _ (hY _ _ _ _ (?_ : Y 101 [(6, 0, true, m1 81 r1), (0, 5, true, 74), (1, 0, true, x1), (2, 1, true, x2), (4, 1, true, x4)] [(0, true, m1 81 r1), (0, true, 3), (5, true, 79), (1, true, x4), (5, true, 74)] (sM s m4))))
            refine hY _ _ _ _ (?_ : Y 102 [(6, 0, true, m1 81 r1), (0, 5, true, 74), (1, 0, true, x1), (2, 1, true, x2), (4, 1, true, x4)] [(0, false, 3 * (m1 81 r1)), (5, true, 79), (1, true, x4), (5, true, 74)] (sM s m4))
            refine hY _ _ _ _ ?_
            refine (And.intro h.1 (And.intro h.2.1 ?_))
            refine hY _ _ _ _ (?_ : Y 106 [(6, 0, true, m1 81 r1), (0, 5, true, 74), (1, 0, true, x1), (2, 1, true, x2), (4, 1, true, x4)] [(0, true, 2490), (0, true, m4 79 (3 * (m1 81 r1))), (1, true, x4), (5, true, 74)] (sM s m4))
            refine hY _ _ _ _ ?_
            refine Exists.intro _ (And.intro (wc_234_0t_0t (m4 79 (3 * (m1 81 r1))) 2490 _ _ h.2.2) (fun r5 m5 h => ?_))
            show Y 109 [(6, 0, true, m1 81 r1), (0, 5, true, 74), (1, 0, true, x1), (2, 1, true, x2), (4, 1, true, x4)] [(1, true, r5), (1, true, x4), (5, true, 74)] (sM s m5)
            refine hY _ _ _ _ ?_
            refine Exists.intro _ (And.intro (wc_245_r74_1t_1t x4 r5 _ _ h) (fun r6 m6 h => ?_))
            show Y 112 [(6, 0, true, m1 81 r1), (0, 5, true, 74), (1, 0, true, x1), (2, 1, true, x2), (4, 1, true, x4)] [(2, true, r6)] (sM s m6)
            refine hY _ _ _ _ ?_
            exact hQ r6 m6 h
          · have h := h.2.2.2.2.2 hc
            refine hY _ _ _ _ (?_ : Y 90 [(6, 0, true, m1 81 r1), (0, 5, true, 74), (1, 0, true, x1), (2, 1, true, x2), (4, 1, true, x4)] [(2, true, 1)] (sM s m4))
            refine hY _ _ _ _ ?_
            exact hQ 1 m4 h
    · have h := h.2.2.2 hc
      refine hY _ _ _ _ (?_ : Y 52 [(6, 0, true, m1 81 r1), (0, 5, true, 74), (1, 0, true, x1), (2, 1, true, x2), (4, 1, true, x4)] [(2, true, 0)] (sM s m3))
      refine hY _ _ _ _ ?_
      exact hQ 0 m3 h
def we_258 : sFf := sEf 7 [(0, 5, 74), (1, 0, 0), (2, 1, 0), (4, 1, 0)] (fun xs s Q => ap3 (fun x1 x2 x4 => wq_258 x1 x2 x4 s.2.2.2 Q) xs)
theorem we_258_ok : kS dM 4 258 2 (.inl we_258) := sEf_ok (mi := im_m258) rfl rfl rfl (fun R xs s r1 hb => by obtain ⟨x1, x2, x4, rfl, hb⟩ := ap3_ok hb; exact wk_258_0 _ R s x1 x2 x4 (fun x m' hx => ⟨m', rfl, hx⟩) r1 hb)
/-- LMModel.candidates(J)I -/
def wf_259_35 (x1 : Int) (x3 : Int) (Q : Int → hy_m → Prop) (P35 : Int → Int → hy_m → Prop) (x5 : Int) (x6 : Int) (m : hy_m) : Prop := 0 ≤ (0 : Int) ∧ (0 : Int) < 21 ∧ (((m 85 0) ≤ x6 → (Q x5 m)) ∧ (x6 < (m 85 0) → (wq_258 x6 x1 x3 m (fun r1 m1 => (r1 = 0 → (hy_r 0 (x6 + 1) ∧ (P35 (iO x5 0) (x6 + 1) m1))) ∧ (r1 ≠ 0 → (hy_r 0 (x6 + 1) ∧ (P35 (iO x5 (iSl 1 x6)) (x6 + 1) m1)))))))
def wq_259_35 (x1 : Int) (x3 : Int) (x5 : Int) (x6 : Int) (m : hy_m) (Q : Int → hy_m → Prop) : Prop := wL2 hy_m (wf_259_35 x1 x3 Q) x5 x6 m
def wq_259 (x1 : Int) (m : hy_m) (Q : Int → hy_m → Prop) : Prop := wq_232 x1 m (fun r1 m1 => 0 ≤ r1 ∧ r1 < 3584 ∧ (((m1 78 r1) ≠ 0 → (wq_236 x1 0 m1 (fun r2 m2 => wq_237 r2 m2 (fun r3 m3 => wq_259_35 x1 r3 0 0 m3 Q)))) ∧ ((m1 78 r1) = 0 → (wq_259_35 x1 2305843009213693952 0 0 m1 Q))))
theorem wc_258_r74_0t_1t_1t (x1 : Int) (x2 : Int) (x3 : Int) (s : sS) (R : Int → hy_m → Prop) (h : wq_258 x1 x2 x3 s.2.2.2 R) : we_258 [(5, true, 74), (0, true, x1), (1, true, x2), (1, true, x3)] s R := h
def cs_259 : List (Nat × Nat × sFS) := [(232, 0, .inl we_232), (236, 1, .inl we_236), (237, 1, .inl we_237), (258, 2, .inl we_258)]
theorem cs_259_ok : kCs dM 4 cs_259 := (kCs_c (Or.inl rfl) (we_232_ok.deep (by decide)) (kCs_c (Or.inr (Or.inl rfl)) (we_236_ok.deep (by decide)) (kCs_c (Or.inr (Or.inl rfl)) (we_237_ok.deep (by decide)) (kCs_c (Or.inr (Or.inr (Or.inl rfl))) (we_258_ok.deep (by decide)) kCs_n))))
def lb_259_35 (s : sS) (Q : sQ) (P35 : Int → Int → hy_m → Prop) (R : Int → hy_m → Prop) (x1 : Int) (x3 : Int) (x5 : Int) (x6 : Int) : Nat → Option (sL → sS → Prop) := sLb [(35, fun lv t => sG [(0, 5, 74), (1, 1, 0), (3, 1, 0), (5, 0, 0), (6, 0, 0)] lv (ap4 (fun w1 w3 w5 w6 => ∃ m', t = sM s m' ∧ w1 = x1 ∧ w3 = x3 ∧ P35 w5 w6 m')))]
set_option maxRecDepth 30000 in
set_option maxHeartbeats 1000000 in
theorem wj_259_35 (Q : sQ) (R : Int → hy_m → Prop) (s : sS) (P35 : Int → Int → hy_m → Prop) (x1 : Int) (x3 : Int) (x5 : Int) (x6 : Int) (m : hy_m) (hP35 : ∀ (z5 z6 : Int) (m : hy_m), P35 z5 z6 m → sRg [(0, 5, 74), (1, 1, 0), (3, 1, 0), (5, 0, 0), (6, 0, 0)] [x1, x3, z5, z6] → kX dM 4 im_m259 0 35 (sCan [(0, 5, 74), (1, 1, 0), (3, 1, 0), (5, 0, 0), (6, 0, 0)] [x1, x3, z5, z6]) [] (sM s m) Q) (hQ : ∀ x m', R x m' → Q x (sM s m')) (hr : sRg [(0, 5, 74), (1, 1, 0), (3, 1, 0), (5, 0, 0), (6, 0, 0)] [x1, x3, x5, x6]) (h : wf_259_35 x1 x3 R P35 x5 x6 m) : kX dM 4 im_m259 0 35 (sCan [(0, 5, 74), (1, 1, 0), (3, 1, 0), (5, 0, 0), (6, 0, 0)] [x1, x3, x5, x6]) [] (sM s m) Q := by
  unfold wf_259_35 at h
  refine wz2_ok (cs := cs_259) (wr := []) (lb := lb_259_35 s Q P35 R x1 x3 x5 x6) cs_259_ok (kLb_c (kLab (Bd := fun xs t => ap4 (fun w1 w3 w5 w6 => ∃ m', t = sM s m' ∧ w1 = x1 ∧ w3 = x3 ∧ P35 w5 w6 m') xs) rfl (fun xs t r1 r2 hb => by obtain ⟨w1, w3, w5, w6, rfl, hb⟩ := ap4_ok hb; obtain ⟨m', rfl, rfl, rfl, hx⟩ := hb; exact hP35 _ _ m' hx r1)) kLb_n) (okL_can rfl hr) (fun Y hY hl => ?_)
  have l35 := hl 35 _ rfl
  refine hY _ _ _ _ (hY _ _ _ _ (hY _ _ _ _ (?_ : Y 41 [(0, 5, true, 74), (1, 1, true, x1), (3, 1, true, x3), (5, 0, true, x5), (6, 0, true, x6)] [(5, true, 85), (0, true, x6)] (sM s m))))
  refine hY _ _ _ _ (?_ : Y 42 [(0, 5, true, 74), (1, 1, true, x1), (3, 1, true, x3), (5, 0, true, x5), (6, 0, true, x6)] [(2, true, 0), (5, true, 85), (0, true, x6)] (sM s m))
  refine hY _ _ _ _ ?_
  refine (And.intro h.1 (And.intro h.2.1 ?_))
  show Y 43 [(0, 5, true, 74), (1, 1, true, x1), (3, 1, true, x3), (5, 0, true, x5), (6, 0, true, x6)] [(0, true, m 85 0), (0, true, x6)] (sM s m)
  refine hY _ _ _ _ ?_
  refine And.intro (fun hc => ?_) (fun hc => ?_)
  · have h := h.2.2.1 hc
    refine hY _ _ _ _ (?_ : Y 78 [(0, 5, true, 74), (1, 1, true, x1), (3, 1, true, x3), (5, 0, true, x5), (6, 0, true, x6)] [(0, true, x5)] (sM s m))
    refine hY _ _ _ _ ?_
    exact hQ x5 m h
  · have h := h.2.2.2 hc
    refine hY _ _ _ _ (hY _ _ _ _ (hY _ _ _ _ (?_ : Y 51 [(0, 5, true, 74), (1, 1, true, x1), (3, 1, true, x3), (5, 0, true, x5), (6, 0, true, x6)] [(0, true, x6), (5, true, 74), (0, true, x5)] (sM s m))))
    refine hY _ _ _ _ (hY _ _ _ _ (?_ : Y 53 [(0, 5, true, 74), (1, 1, true, x1), (3, 1, true, x3), (5, 0, true, x5), (6, 0, true, x6)] [(1, true, x3), (1, true, x1), (0, true, x6), (5, true, 74), (0, true, x5)] (sM s m)))
    refine hY _ _ _ _ ?_
    refine Exists.intro _ (And.intro (wc_258_r74_0t_1t_1t x6 x1 x3 _ _ h) (fun r1 m1 h => ?_))
    show Y 56 [(0, 5, true, 74), (1, 1, true, x1), (3, 1, true, x3), (5, 0, true, x5), (6, 0, true, x6)] [(2, true, r1), (0, true, x5)] (sM s m1)
    refine hY _ _ _ _ ?_
    refine And.intro (fun hc => ?_) (fun hc => ?_)
    · have h := h.1 hc
      refine hY _ _ _ _ (?_ : Y 67 [(0, 5, true, 74), (1, 1, true, x1), (3, 1, true, x3), (5, 0, true, x5), (6, 0, true, x6)] [(2, true, 0), (0, true, x5)] (sM s m1))
      refine hY _ _ _ _ (?_ : Y 68 [(0, 5, true, 74), (1, 1, true, x1), (3, 1, true, x3), (5, 0, true, x5), (6, 0, true, x6)] [(0, true, iO x5 0)] (sM s m1))
      refine hY _ _ _ _ (hY _ _ _ _ (hY _ _ _ _ (?_ : Y 35 [(6, 0, false, x6 + 1), (5, 0, true, iO x5 0), (0, 5, true, 74), (1, 1, true, x1), (3, 1, true, x3)] [] (sM s m1))))
      refine l35 _ _ ?_
      refine And.intro h.1 ?_
      exact (Exists.intro m1 (And.intro rfl (And.intro rfl (And.intro rfl h.2))))
    · have h := h.2 hc
      refine hY _ _ _ _ (hY _ _ _ _ (?_ : Y 62 [(0, 5, true, 74), (1, 1, true, x1), (3, 1, true, x3), (5, 0, true, x5), (6, 0, true, x6)] [(0, true, x6), (2, true, 1), (0, true, x5)] (sM s m1)))
      refine hY _ _ _ _ (?_ : Y 63 [(0, 5, true, 74), (1, 1, true, x1), (3, 1, true, x3), (5, 0, true, x5), (6, 0, true, x6)] [(0, true, iSl 1 x6), (0, true, x5)] (sM s m1))
      refine hY _ _ _ _ (?_ : Y 67 [(0, 5, true, 74), (1, 1, true, x1), (3, 1, true, x3), (5, 0, true, x5), (6, 0, true, x6)] [(0, true, iSl 1 x6), (0, true, x5)] (sM s m1))
      refine hY _ _ _ _ (?_ : Y 68 [(0, 5, true, 74), (1, 1, true, x1), (3, 1, true, x3), (5, 0, true, x5), (6, 0, true, x6)] [(0, true, iO x5 (iSl 1 x6))] (sM s m1))
      refine hY _ _ _ _ (hY _ _ _ _ (hY _ _ _ _ (?_ : Y 35 [(6, 0, false, x6 + 1), (5, 0, true, iO x5 (iSl 1 x6)), (0, 5, true, 74), (1, 1, true, x1), (3, 1, true, x3)] [] (sM s m1))))
      refine l35 _ _ ?_
      refine And.intro h.1 ?_
      exact (Exists.intro m1 (And.intro rfl (And.intro rfl (And.intro rfl h.2))))
theorem wk_259_35 (Q : sQ) (R : Int → hy_m → Prop) (s : sS) (x1 : Int) (x3 : Int) (x5 : Int) (x6 : Int) (hQ : ∀ x m', R x m' → Q x (sM s m')) (hr : sRg [(0, 5, 74), (1, 1, 0), (3, 1, 0), (5, 0, 0), (6, 0, 0)] [x1, x3, x5, x6]) (h : wq_259_35 x1 x3 x5 x6 s.2.2.2 R) : kX dM 4 im_m259 0 35 (sCan [(0, 5, 74), (1, 1, 0), (3, 1, 0), (5, 0, 0), (6, 0, 0)] [x1, x3, x5, x6]) [] s Q :=
  h (fun x5 x6 m => sRg [(0, 5, 74), (1, 1, 0), (3, 1, 0), (5, 0, 0), (6, 0, 0)] [x1, x3, x5, x6] → kX dM 4 im_m259 0 35 (sCan [(0, 5, 74), (1, 1, 0), (3, 1, 0), (5, 0, 0), (6, 0, 0)] [x1, x3, x5, x6]) [] (sM s m) Q) (fun x5 x6 m h hr => wj_259_35 Q R s (fun x5 x6 m => sRg [(0, 5, 74), (1, 1, 0), (3, 1, 0), (5, 0, 0), (6, 0, 0)] [x1, x3, x5, x6] → kX dM 4 im_m259 0 35 (sCan [(0, 5, 74), (1, 1, 0), (3, 1, 0), (5, 0, 0), (6, 0, 0)] [x1, x3, x5, x6]) [] (sM s m) Q) x1 x3 x5 x6 m  (fun _ _ _ hp hr => hp hr) hQ hr h) hr
def lb_259_0 (s : sS) (Q : sQ) (R : Int → hy_m → Prop) (x1 : Int) : Nat → Option (sL → sS → Prop) := sLb [(35, fun lv t => sG [(0, 5, 74), (1, 1, 0), (3, 1, 0), (5, 0, 0), (6, 0, 0)] lv (ap4 (fun w1 w3 w5 w6 => ∃ m', t = sM s m' ∧ wq_259_35 w1 w3 w5 w6 m' R)))]
set_option maxRecDepth 30000 in
set_option maxHeartbeats 1000000 in
theorem wk_259_0 (Q : sQ) (R : Int → hy_m → Prop) (s : sS) (x1 : Int) (hQ : ∀ x m', R x m' → Q x (sM s m')) (hr : sRg [(0, 5, 74), (1, 1, 0)] [x1]) (h : wq_259 x1 s.2.2.2 R) : kX dM 4 im_m259 0 0 (sCan [(0, 5, 74), (1, 1, 0)] [x1]) [] s Q := by
  unfold wq_259 at h
  refine wz2_ok (cs := cs_259) (wr := []) (lb := lb_259_0 s Q R x1) cs_259_ok (kLb_c (kLab (Bd := fun xs t => ap4 (fun w1 w3 w5 w6 => ∃ m', t = sM s m' ∧ wq_259_35 w1 w3 w5 w6 m' R) xs) rfl (fun xs t r1 r2 hb => by obtain ⟨w1, w3, w5, w6, rfl, hb⟩ := ap4_ok hb; obtain ⟨m', rfl, hx⟩ := hb; exact wk_259_35 Q R (sM s m') _ _ _ _ (fun x m'' hy => hQ x m'' hy) r1 hx)) kLb_n) (okL_can rfl hr) (fun Y hY hl => ?_)
  have l35 := hl 35 _ rfl
  refine hY _ _ _ _ (hY _ _ _ _ (hY _ _ _ _ (?_ : Y 5 [(0, 5, true, 74), (1, 1, true, x1)] [(1, true, x1), (5, true, 78)] s)))
  refine hY _ _ _ _ ?_
  refine Exists.intro _ (And.intro (wc_232_1t x1 _ _ h) (fun r1 m1 h => ?_))
  show Y 8 [(0, 5, true, 74), (1, 1, true, x1)] [(0, true, r1), (5, true, 78)] (sM s m1)
  refine hY _ _ _ _ ?_
  refine (And.intro h.1 (And.intro h.2.1 ?_))
  show Y 9 [(0, 5, true, 74), (1, 1, true, x1)] [(0, true, m1 78 r1)] (sM s m1)
  refine hY _ _ _ _ ?_
  refine And.intro (fun hc => ?_) (fun hc => ?_)
  · have h := h.2.2.1 hc
    refine hY _ _ _ _ (hY _ _ _ _ (hY _ _ _ _ (?_ : Y 21 [(0, 5, true, 74), (1, 1, true, x1)] [(1, true, x1), (5, true, 74), (5, true, 74)] (sM s m1))))
    refine hY _ _ _ _ (?_ : Y 22 [(0, 5, true, 74), (1, 1, true, x1)] [(2, true, 0), (1, true, x1), (5, true, 74), (5, true, 74)] (sM s m1))
    refine hY _ _ _ _ ?_
    refine Exists.intro _ (And.intro (wc_236_r74_1t_2t x1 0 _ _ h) (fun r2 m2 h => ?_))
    show Y 25 [(0, 5, true, 74), (1, 1, true, x1)] [(1, true, r2), (5, true, 74)] (sM s m2)
    refine hY _ _ _ _ ?_
    refine Exists.intro _ (And.intro (wc_237_r74_1t r2 _ _ h) (fun r3 m3 h => ?_))
    refine hY _ _ _ _ (hY _ _ _ _ (hY _ _ _ _ (?_ : Y 32 [(5, 2, true, 0), (3, 1, true, r3), (0, 5, true, 74), (1, 1, true, x1)] [] (sM s m3))))
    refine hY _ _ _ _ (hY _ _ _ _ (?_ : Y 35 [(6, 2, true, 0), (5, 2, true, 0), (3, 1, true, r3), (0, 5, true, 74), (1, 1, true, x1)] [] (sM s m3)))
    refine l35 _ _ ?_
    exact (Exists.intro m3 (And.intro rfl h))
  · have h := h.2.2.2 hc
    refine hY _ _ _ _ (hY _ _ _ _ (hY _ _ _ _ (?_ : Y 29 [(3, 1, true, 2305843009213693952), (0, 5, true, 74), (1, 1, true, x1)] [] (sM s m1))))
    refine hY _ _ _ _ (hY _ _ _ _ (hY _ _ _ _ (?_ : Y 33 [(5, 2, true, 0), (3, 1, true, 2305843009213693952), (0, 5, true, 74), (1, 1, true, x1)] [(2, true, 0)] (sM s m1))))
    refine hY _ _ _ _ (?_ : Y 35 [(6, 2, true, 0), (5, 2, true, 0), (3, 1, true, 2305843009213693952), (0, 5, true, 74), (1, 1, true, x1)] [] (sM s m1))
    refine l35 _ _ ?_
    exact (Exists.intro m1 (And.intro rfl h))
def we_259 : sFf := sEf 7 [(0, 5, 74), (1, 1, 0)] (fun xs s Q => ap1 (fun x1 => wq_259 x1 s.2.2.2 Q) xs)
theorem we_259_ok : kS dM 5 259 0 (.inl we_259) := sEf_ok (mi := im_m259) rfl rfl rfl (fun R xs s r1 hb => by obtain ⟨x1, rfl, hb⟩ := ap1_ok hb; exact wk_259_0 _ R s x1 (fun x m' hx => ⟨m', rfl, hx⟩) r1 hb)
/-- LMModel.callsUser(J)Z -/
def wq_260_51 (x1 : Int) (x4 : Int) (x5 : Int) (m : hy_m) (Q : Int → hy_m → Prop) : Prop := wq_255 x5 x1 x4 m (fun r1 m1 => (r1 ≠ 0 → (Q 1 m1)) ∧ (r1 = 0 → (wq_257 m1 (fun r2 m2 => (r2 = 0 → (Q 0 m2)) ∧ (r2 ≠ 0 → (Q 1 m2))))))
def wq_260 (x1 : Int) (m : hy_m) (Q : Int → hy_m → Prop) : Prop := wq_259 x1 m (fun r1 m1 => (r1 ≠ 0 → (wq_254 r1 m1 (fun r2 m2 => ((iA r1 (iX (iSl 1 r2) (-1))) = 0 → (wq_260_51 x1 (m1 74 59) r2 m2 Q)) ∧ ((iA r1 (iX (iSl 1 r2) (-1))) ≠ 0 → (wq_253 x1 (iA r1 (iX (iSl 1 r2) (-1))) m2 (fun _ m3 => wq_260_51 x1 (m1 74 59) r2 m3 Q)))))) ∧ (r1 = 0 → (wq_257 m1 (fun r4 m4 => Q r4 m4))))
theorem wc_255_r74_0t_1t_0t (x1 : Int) (x2 : Int) (x3 : Int) (s : sS) (R : Int → hy_m → Prop) (h : wq_255 x1 x2 x3 s.2.2.2 R) : we_255 [(5, true, 74), (0, true, x1), (1, true, x2), (0, true, x3)] s R := h
theorem wc_257_r74 (s : sS) (R : Int → hy_m → Prop) (h : wq_257 s.2.2.2 R) : we_257 [(5, true, 74)] s R := h
theorem wc_259_r74_1t (x1 : Int) (s : sS) (R : Int → hy_m → Prop) (h : wq_259 x1 s.2.2.2 R) : we_259 [(5, true, 74), (1, true, x1)] s R := h
theorem wc_253_r74_1t_0t (x1 : Int) (x2 : Int) (s : sS) (R : Int → hy_m → Prop) (h : wq_253 x1 x2 s.2.2.2 R) : we_253 [(5, true, 74), (1, true, x1), (0, true, x2)] s R := h
def cs_260 : List (Nat × Nat × sFS) := [(253, 9, .inl we_253), (254, 0, .inl we_254), (255, 2, .inl we_255), (257, 2, .inl we_257), (259, 0, .inl we_259)]
theorem cs_260_ok : kCs dM 7 cs_260 := (kCs_c (Or.inr (Or.inr (Or.inr (Or.inr rfl)))) (we_253_ok.deep (by decide)) (kCs_c (Or.inl rfl) (we_254_ok.deep (by decide)) (kCs_c (Or.inr (Or.inr (Or.inl rfl))) (we_255_ok.deep (by decide)) (kCs_c (Or.inr (Or.inr (Or.inl rfl))) (we_257_ok.deep (by decide)) (kCs_c (Or.inl rfl) (we_259_ok.deep (by decide)) kCs_n)))))
def lb_260_51 (s : sS) (Q : sQ) (R : Int → hy_m → Prop) (x1 : Int) (x4 : Int) (x5 : Int) : Nat → Option (sL → sS → Prop) := sLb []
set_option maxRecDepth 30000 in
set_option maxHeartbeats 1000000 in
theorem wk_260_51 (Q : sQ) (R : Int → hy_m → Prop) (s : sS) (x1 : Int) (x4 : Int) (x5 : Int) (hQ : ∀ x m', R x m' → Q x (sM s m')) (hr : sRg [(0, 5, 74), (1, 1, 0), (4, 0, 0), (5, 0, 0)] [x1, x4, x5]) (h : wq_260_51 x1 x4 x5 s.2.2.2 R) : kX dM 7 im_m260 2 51 (sCan [(0, 5, 74), (1, 1, 0), (4, 0, 0), (5, 0, 0)] [x1, x4, x5]) [] s Q := by
  unfold wq_260_51 at h
  refine wz2_ok (cs := cs_260) (wr := []) (lb := lb_260_51 s Q R x1 x4 x5) cs_260_ok kLb_n (okL_can rfl hr) (fun Y hY hl => ?_)
  refine hY _ _ _ _ (hY _ _ _ _ (hY _ _ _ _ (?_ : Y 55 [(0, 5, true, 74), (1, 1, true, x1), (4, 0, true, x4), (5, 0, true, x5)] [(1, true, x1), (0, true, x5), (5, true, 74)] s)))
  refine hY _ _ _ _ (?_ : Y 57 [(0, 5, true, 74), (1, 1, true, x1), (4, 0, true, x4), (5, 0, true, x5)] [(0, true, x4), (1, true, x1), (0, true, x5), (5, true, 74)] s)
  refine hY _ _ _ _ ?_
  refine Exists.intro _ (And.intro (wc_255_r74_0t_1t_0t x5 x1 x4 _ _ h) (fun r1 m1 h => ?_))
  show Y 60 [(0, 5, true, 74), (1, 1, true, x1), (4, 0, true, x4), (5, 0, true, x5)] [(2, true, r1)] (sM s m1)
  refine hY _ _ _ _ ?_
  refine And.intro (fun hc => ?_) (fun hc => ?_)
  · have h := h.1 hc
    refine hY _ _ _ _ (hY _ _ _ _ (?_ : Y 75 [(0, 5, true, 74), (1, 1, true, x1), (4, 0, true, x4), (5, 0, true, x5)] [(2, true, 1)] (sM s m1)))
    refine hY _ _ _ _ ?_
    exact hQ 1 m1 h
  · have h := h.2 hc
    refine hY _ _ _ _ (?_ : Y 64 [(0, 5, true, 74), (1, 1, true, x1), (4, 0, true, x4), (5, 0, true, x5)] [(5, true, 74)] (sM s m1))
    refine hY _ _ _ _ ?_
    refine Exists.intro _ (And.intro (wc_257_r74 _ _ h) (fun r2 m2 h => ?_))
    show Y 67 [(0, 5, true, 74), (1, 1, true, x1), (4, 0, true, x4), (5, 0, true, x5)] [(2, true, r2)] (sM s m2)
    refine hY _ _ _ _ ?_
    refine And.intro (fun hc => ?_) (fun hc => ?_)
    · have h := h.1 hc
      refine hY _ _ _ _ (?_ : Y 75 [(0, 5, true, 74), (1, 1, true, x1), (4, 0, true, x4), (5, 0, true, x5)] [(2, true, 0)] (sM s m2))
      refine hY _ _ _ _ ?_
      exact hQ 0 m2 h
    · have h := h.2 hc
      refine hY _ _ _ _ (hY _ _ _ _ (?_ : Y 75 [(0, 5, true, 74), (1, 1, true, x1), (4, 0, true, x4), (5, 0, true, x5)] [(2, true, 1)] (sM s m2)))
      refine hY _ _ _ _ ?_
      exact hQ 1 m2 h
def lb_260_0 (s : sS) (Q : sQ) (R : Int → hy_m → Prop) (x1 : Int) : Nat → Option (sL → sS → Prop) := sLb [(51, fun lv t => sG [(0, 5, 74), (1, 1, 0), (4, 0, 0), (5, 0, 0)] lv (ap3 (fun w1 w4 w5 => ∃ m', t = sM s m' ∧ wq_260_51 w1 w4 w5 m' R)))]
set_option maxRecDepth 30000 in
set_option maxHeartbeats 1000000 in
theorem wk_260_0 (Q : sQ) (R : Int → hy_m → Prop) (s : sS) (x1 : Int) (hQ : ∀ x m', R x m' → Q x (sM s m')) (hr : sRg [(0, 5, 74), (1, 1, 0)] [x1]) (h : wq_260 x1 s.2.2.2 R) : kX dM 7 im_m260 2 0 (sCan [(0, 5, 74), (1, 1, 0)] [x1]) [] s Q := by
  unfold wq_260 at h
  refine wz2_ok (cs := cs_260) (wr := []) (lb := lb_260_0 s Q R x1) cs_260_ok (kLb_c (kLab (Bd := fun xs t => ap3 (fun w1 w4 w5 => ∃ m', t = sM s m' ∧ wq_260_51 w1 w4 w5 m' R) xs) rfl (fun xs t r1 r2 hb => by obtain ⟨w1, w4, w5, rfl, hb⟩ := ap3_ok hb; obtain ⟨m', rfl, hx⟩ := hb; exact wk_260_51 Q R (sM s m') _ _ _ (fun x m'' hy => hQ x m'' hy) r1 hx)) kLb_n) (okL_can rfl hr) (fun Y hY hl => ?_)
  have l51 := hl 51 _ rfl
  refine hY _ _ _ _ (hY _ _ _ _ (?_ : Y 2 [(0, 5, true, 74), (1, 1, true, x1)] [(1, true, x1), (5, true, 74)] s))
  refine hY _ _ _ _ ?_
  refine Exists.intro _ (And.intro (wc_259_r74_1t x1 _ _ h) (fun r1 m1 h => ?_))
  refine hY _ _ _ _ (hY _ _ _ _ (?_ : Y 7 [(3, 0, true, r1), (0, 5, true, 74), (1, 1, true, x1)] [(0, true, r1)] (sM s m1)))
  refine hY _ _ _ _ ?_
  refine And.intro (fun hc => ?_) (fun hc => ?_)
  · have h := h.1 hc
    refine hY _ _ _ _ (hY _ _ _ _ (hY _ _ _ _ (?_ : Y 21 [(4, 0, true, m1 74 59), (3, 0, true, r1), (0, 5, true, 74), (1, 1, true, x1)] [] (sM s m1))))
    refine hY _ _ _ _ (?_ : Y 22 [(4, 0, true, m1 74 59), (3, 0, true, r1), (0, 5, true, 74), (1, 1, true, x1)] [(0, true, r1)] (sM s m1))
    refine hY _ _ _ _ ?_
    refine Exists.intro _ (And.intro (wc_254_0t r1 _ _ h) (fun r2 m2 h => ?_))
    refine hY _ _ _ _ (hY _ _ _ _ (hY _ _ _ _ (?_ : Y 29 [(5, 0, true, r2), (4, 0, true, m1 74 59), (3, 0, true, r1), (0, 5, true, 74), (1, 1, true, x1)] [(2, true, 1), (0, true, r1)] (sM s m2))))
    refine hY _ _ _ _ (?_ : Y 31 [(5, 0, true, r2), (4, 0, true, m1 74 59), (3, 0, true, r1), (0, 5, true, 74), (1, 1, true, x1)] [(0, true, r2), (2, true, 1), (0, true, r1)] (sM s m2))
    refine hY _ _ _ _ (?_ : Y 32 [(5, 0, true, r2), (4, 0, true, m1 74 59), (3, 0, true, r1), (0, 5, true, 74), (1, 1, true, x1)] [(0, true, iSl 1 r2), (0, true, r1)] (sM s m2))
    refine hY _ _ _ _ (?_ : Y 33 [(5, 0, true, r2), (4, 0, true, m1 74 59), (3, 0, true, r1), (0, 5, true, 74), (1, 1, true, x1)] [(0, true, (-1)), (0, true, iSl 1 r2), (0, true, r1)] (sM s m2))
    refine hY _ _ _ _ (?_ : Y 34 [(5, 0, true, r2), (4, 0, true, m1 74 59), (3, 0, true, r1), (0, 5, true, 74), (1, 1, true, x1)] [(0, true, iX (iSl 1 r2) (-1)), (0, true, r1)] (sM s m2))
    refine hY _ _ _ _ (?_ : Y 35 [(5, 0, true, r2), (4, 0, true, m1 74 59), (3, 0, true, r1), (0, 5, true, 74), (1, 1, true, x1)] [(0, true, iA r1 (iX (iSl 1 r2) (-1)))] (sM s m2))
    refine hY _ _ _ _ ?_
    refine And.intro (fun hc => ?_) (fun hc => ?_)
    · have h := h.1 hc
      show Y 51 [(5, 0, true, r2), (4, 0, true, m1 74 59), (3, 0, true, r1), (0, 5, true, 74), (1, 1, true, x1)] [] (sM s m2)
      refine l51 _ _ ?_
      exact (Exists.intro m2 (And.intro rfl h))
    · have h := h.2 hc
      refine hY _ _ _ _ (hY _ _ _ _ (hY _ _ _ _ (?_ : Y 41 [(5, 0, true, r2), (4, 0, true, m1 74 59), (3, 0, true, r1), (0, 5, true, 74), (1, 1, true, x1)] [(0, true, r1), (1, true, x1), (5, true, 74)] (sM s m2))))
      refine hY _ _ _ _ (hY _ _ _ _ (?_ : Y 44 [(5, 0, true, r2), (4, 0, true, m1 74 59), (3, 0, true, r1), (0, 5, true, 74), (1, 1, true, x1)] [(0, true, r2), (2, true, 1), (0, true, r1), (1, true, x1), (5, true, 74)] (sM s m2)))
      refine hY _ _ _ _ (?_ : Y 45 [(5, 0, true, r2), (4, 0, true, m1 74 59), (3, 0, true, r1), (0, 5, true, 74), (1, 1, true, x1)] [(0, true, iSl 1 r2), (0, true, r1), (1, true, x1), (5, true, 74)] (sM s m2))
      refine hY _ _ _ _ (?_ : Y 46 [(5, 0, true, r2), (4, 0, true, m1 74 59), (3, 0, true, r1), (0, 5, true, 74), (1, 1, true, x1)] [(0, true, (-1)), (0, true, iSl 1 r2), (0, true, r1), (1, true, x1), (5, true, 74)] (sM s m2))
      refine hY _ _ _ _ (?_ : Y 47 [(5, 0, true, r2), (4, 0, true, m1 74 59), (3, 0, true, r1), (0, 5, true, 74), (1, 1, true, x1)] [(0, true, iX (iSl 1 r2) (-1)), (0, true, r1), (1, true, x1), (5, true, 74)] (sM s m2))
      refine hY _ _ _ _ (?_ : Y 48 [(5, 0, true, r2), (4, 0, true, m1 74 59), (3, 0, true, r1), (0, 5, true, 74), (1, 1, true, x1)] [(0, true, iA r1 (iX (iSl 1 r2) (-1))), (1, true, x1), (5, true, 74)] (sM s m2))
      refine hY _ _ _ _ ?_
      refine Exists.intro _ (And.intro (wc_253_r74_1t_0t x1 (iA r1 (iX (iSl 1 r2) (-1))) _ _ h) (fun r3 m3 h => ?_))
      show Y 51 [(5, 0, true, r2), (4, 0, true, m1 74 59), (3, 0, true, r1), (0, 5, true, 74), (1, 1, true, x1)] [] (sM s m3)
      refine l51 _ _ ?_
      exact (Exists.intro m3 (And.intro rfl h))
  · have h := h.2 hc
    refine hY _ _ _ _ (?_ : Y 11 [(3, 0, true, r1), (0, 5, true, 74), (1, 1, true, x1)] [(5, true, 74)] (sM s m1))
    refine hY _ _ _ _ ?_
    refine Exists.intro _ (And.intro (wc_257_r74 _ _ h) (fun r4 m4 h => ?_))
    show Y 14 [(3, 0, true, r1), (0, 5, true, 74), (1, 1, true, x1)] [(2, true, r4)] (sM s m4)
    refine hY _ _ _ _ ?_
    exact hQ r4 m4 h
def we_260 : sFf := sEf 6 [(0, 5, 74), (1, 1, 0)] (fun xs s Q => ap1 (fun x1 => wq_260 x1 s.2.2.2 Q) xs)
theorem we_260_ok : kS dM 8 260 2 (.inl we_260) := sEf_ok (mi := im_m260) rfl rfl rfl (fun R xs s r1 hb => by obtain ⟨x1, rfl, hb⟩ := ap1_ok hb; exact wk_260_0 _ R s x1 (fun x m' hx => ⟨m', rfl, hx⟩) r1 hb)
/-- LMModel.mayCall(J)Z -/
def wq_261 (x1 : Int) (m : hy_m) (Q : Int → hy_m → Prop) : Prop := wq_238 x1 m (fun r1 m1 => (r1 ≠ 4 → (wq_238 x1 m1 (fun r2 m2 => (r2 ≠ 3 → (Q 0 m2)) ∧ (r2 = 3 → (wq_232 x1 m2 (fun r3 m3 => 0 ≤ r3 ∧ r3 < 3584 ∧ (((m3 77 r3) = 1 → (Q 0 m3)) ∧ ((m3 77 r3) ≠ 1 → (Q 1 m3))))))))) ∧ (r1 = 4 → (wq_232 x1 m1 (fun r4 m4 => 0 ≤ r4 ∧ r4 < 3584 ∧ (((m4 77 r4) = 2 → (Q 0 m4)) ∧ ((m4 77 r4) ≠ 2 → (Q 1 m4)))))))
def cs_261 : List (Nat × Nat × sFS) := [(232, 0, .inl we_232), (238, 0, .inl we_238)]
theorem cs_261_ok : kCs dM 2 cs_261 := (kCs_c (Or.inl rfl) (we_232_ok.deep (by decide)) (kCs_c (Or.inl rfl) (we_238_ok.deep (by decide)) kCs_n))
def lb_261_0 (s : sS) (Q : sQ) (R : Int → hy_m → Prop) (x1 : Int) : Nat → Option (sL → sS → Prop) := sLb []
set_option maxRecDepth 30000 in
set_option maxHeartbeats 1000000 in
theorem wk_261_0 (Q : sQ) (R : Int → hy_m → Prop) (s : sS) (x1 : Int) (hQ : ∀ x m', R x m' → Q x (sM s m')) (hr : sRg [(0, 5, 74), (1, 1, 0)] [x1]) (h : wq_261 x1 s.2.2.2 R) : kX dM 2 im_m261 2 0 (sCan [(0, 5, 74), (1, 1, 0)] [x1]) [] s Q := by
  unfold wq_261 at h
  refine wz2_ok (cs := cs_261) (wr := []) (lb := lb_261_0 s Q R x1) cs_261_ok kLb_n (okL_can rfl hr) (fun Y hY hl => ?_)
  refine hY _ _ _ _ (hY _ _ _ _ (?_ : Y 2 [(0, 5, true, 74), (1, 1, true, x1)] [(1, true, x1), (5, true, 74)] s))
  refine hY _ _ _ _ ?_
  refine Exists.intro _ (And.intro (wc_238_r74_1t x1 _ _ h) (fun r1 m1 h => ?_))
  refine hY _ _ _ _ (?_ : Y 6 [(0, 5, true, 74), (1, 1, true, x1)] [(0, true, 4), (0, true, r1)] (sM s m1))
  refine hY _ _ _ _ ?_
  refine And.intro (fun hc => ?_) (fun hc => ?_)
  · have h := h.1 hc
    refine hY _ _ _ _ (hY _ _ _ _ (?_ : Y 33 [(0, 5, true, 74), (1, 1, true, x1)] [(1, true, x1), (5, true, 74)] (sM s m1)))
    refine hY _ _ _ _ ?_
    refine Exists.intro _ (And.intro (wc_238_r74_1t x1 _ _ h) (fun r2 m2 h => ?_))
    refine hY _ _ _ _ (?_ : Y 37 [(0, 5, true, 74), (1, 1, true, x1)] [(0, true, 3), (0, true, r2)] (sM s m2))
    refine hY _ _ _ _ ?_
    refine And.intro (fun hc => ?_) (fun hc => ?_)
    · have h := h.1 hc
      refine hY _ _ _ _ (?_ : Y 59 [(0, 5, true, 74), (1, 1, true, x1)] [(2, true, 0)] (sM s m2))
      refine hY _ _ _ _ ?_
      exact hQ 0 m2 h
    · have h := h.2 hc
      refine hY _ _ _ _ (hY _ _ _ _ (hY _ _ _ _ (?_ : Y 45 [(0, 5, true, 74), (1, 1, true, x1)] [(1, true, x1), (5, true, 77)] (sM s m2))))
      refine hY _ _ _ _ ?_
      refine Exists.intro _ (And.intro (wc_232_1t x1 _ _ h) (fun r3 m3 h => ?_))
      show Y 48 [(0, 5, true, 74), (1, 1, true, x1)] [(0, true, r3), (5, true, 77)] (sM s m3)
      refine hY _ _ _ _ ?_
      refine (And.intro h.1 (And.intro h.2.1 ?_))
      refine hY _ _ _ _ (?_ : Y 50 [(0, 5, true, 74), (1, 1, true, x1)] [(1, true, 1), (1, true, m3 77 r3)] (sM s m3))
      refine hY _ _ _ _ ?_
      refine And.intro (fun hc => ?_) (fun hc => ?_)
      · have h := h.2.2.1 hc
        refine hY _ _ _ _ (?_ : Y 59 [(0, 5, true, 74), (1, 1, true, x1)] [(2, true, 0)] (sM s m3))
        refine hY _ _ _ _ ?_
        exact hQ 0 m3 h
      · have h := h.2.2.2 hc
        refine hY _ _ _ _ (hY _ _ _ _ (?_ : Y 59 [(0, 5, true, 74), (1, 1, true, x1)] [(2, true, 1)] (sM s m3)))
        refine hY _ _ _ _ ?_
        exact hQ 1 m3 h
  · have h := h.2 hc
    refine hY _ _ _ _ (hY _ _ _ _ (hY _ _ _ _ (?_ : Y 14 [(0, 5, true, 74), (1, 1, true, x1)] [(1, true, x1), (5, true, 77)] (sM s m1))))
    refine hY _ _ _ _ ?_
    refine Exists.intro _ (And.intro (wc_232_1t x1 _ _ h) (fun r4 m4 h => ?_))
    show Y 17 [(0, 5, true, 74), (1, 1, true, x1)] [(0, true, r4), (5, true, 77)] (sM s m4)
    refine hY _ _ _ _ ?_
    refine (And.intro h.1 (And.intro h.2.1 ?_))
    refine hY _ _ _ _ (?_ : Y 21 [(0, 5, true, 74), (1, 1, true, x1)] [(1, true, 2), (1, true, m4 77 r4)] (sM s m4))
    refine hY _ _ _ _ ?_
    refine And.intro (fun hc => ?_) (fun hc => ?_)
    · have h := h.2.2.1 hc
      refine hY _ _ _ _ (?_ : Y 30 [(0, 5, true, 74), (1, 1, true, x1)] [(2, true, 0)] (sM s m4))
      refine hY _ _ _ _ ?_
      exact hQ 0 m4 h
    · have h := h.2.2.2 hc
      refine hY _ _ _ _ (hY _ _ _ _ (?_ : Y 30 [(0, 5, true, 74), (1, 1, true, x1)] [(2, true, 1)] (sM s m4)))
      refine hY _ _ _ _ ?_
      exact hQ 1 m4 h
def we_261 : sFf := sEf 3 [(0, 5, 74), (1, 1, 0)] (fun xs s Q => ap1 (fun x1 => wq_261 x1 s.2.2.2 Q) xs)
theorem we_261_ok : kS dM 3 261 2 (.inl we_261) := sEf_ok (mi := im_m261) rfl rfl rfl (fun R xs s r1 hb => by obtain ⟨x1, rfl, hb⟩ := ap1_ok hb; exact wk_261_0 _ R s x1 (fun x m' hx => ⟨m', rfl, hx⟩) r1 hb)
/-- LMModel.refuses(I)Z -/
def wq_262 (x1 : Int) (m : hy_m) (Q : Int → hy_m → Prop) : Prop := Q 0 (hy_u m 74 33 x1)
def cs_262 : List (Nat × Nat × sFS) := []
theorem cs_262_ok : kCs dM 0 cs_262 := kCs_n
def lb_262_0 (s : sS) (Q : sQ) (R : Int → hy_m → Prop) (x1 : Int) : Nat → Option (sL → sS → Prop) := sLb []
set_option maxRecDepth 30000 in
set_option maxHeartbeats 1000000 in
theorem wk_262_0 (Q : sQ) (R : Int → hy_m → Prop) (s : sS) (x1 : Int) (hQ : ∀ x m', R x m' → Q x (sM s m')) (hr : sRg [(0, 5, 74), (1, 0, 0)] [x1]) (h : wq_262 x1 s.2.2.2 R) : kX dM 0 im_m262 2 0 (sCan [(0, 5, 74), (1, 0, 0)] [x1]) [] s Q := by
  unfold wq_262 at h
  refine wz2_ok (cs := cs_262) (wr := []) (lb := lb_262_0 s Q R x1) cs_262_ok kLb_n (okL_can rfl hr) (fun Y hY hl => ?_)
  refine hY _ _ _ _ (hY _ _ _ _ (?_ : Y 2 [(0, 5, true, 74), (1, 0, true, x1)] [(0, true, x1), (5, true, 74)] s))
  refine hY _ _ _ _ ?_
  refine hY _ _ _ _ (?_ : Y 6 [(0, 5, true, 74), (1, 0, true, x1)] [(2, true, 0)] (sM s (hy_u s.2.2.2 74 33 x1)))
  refine hY _ _ _ _ ?_
  exact hQ 0 (hy_u s.2.2.2 74 33 x1) h
def we_262 : sFf := sEf 2 [(0, 5, 74), (1, 0, 0)] (fun xs s Q => ap1 (fun x1 => wq_262 x1 s.2.2.2 Q) xs)
theorem we_262_ok : kS dM 1 262 2 (.inl we_262) := sEf_ok (mi := im_m262) rfl rfl rfl (fun R xs s r1 hb => by obtain ⟨x1, rfl, hb⟩ := ap1_ok hb; exact wk_262_0 _ R s x1 (fun x m' hx => ⟨m', rfl, hx⟩) r1 hb)
/-- LMModel.callsNot(J)Z -/
def wq_263 (x1 : Int) (m : hy_m) (Q : Int → hy_m → Prop) : Prop := wq_236 x1 0 m (fun r1 m1 => wq_237 r1 m1 (fun r2 m2 => wq_261 r2 m2 (fun r3 m3 => (r3 ≠ 0 → (wq_253 x1 (-9) m3 (fun _ m4 => 0 ≤ (m4 74 51) ∧ (m4 74 51) < 1300 ∧ (wq_252 (-9) 0 0 (m4 74 52) (m3 74 59) (hy_u m4 104 (m4 74 51) r2) (fun r5 m5 => Q 1 (hy_u m5 74 52 r5)))))) ∧ (r3 = 0 → (wq_262 1 m3 (fun r6 m6 => Q r6 m6))))))
theorem wc_261_r74_1t (x1 : Int) (s : sS) (R : Int → hy_m → Prop) (h : wq_261 x1 s.2.2.2 R) : we_261 [(5, true, 74), (1, true, x1)] s R := h
theorem wc_252_r74_0t_2t_2t_0t_0t (x1 : Int) (x2 : Int) (x3 : Int) (x4 : Int) (x5 : Int) (s : sS) (R : Int → hy_m → Prop) (h : wq_252 x1 x2 x3 x4 x5 s.2.2.2 R) : we_252 [(5, true, 74), (0, true, x1), (2, true, x2), (2, true, x3), (0, true, x4), (0, true, x5)] s R := h
theorem wc_262_r74_2t (x1 : Int) (s : sS) (R : Int → hy_m → Prop) (h : wq_262 x1 s.2.2.2 R) : we_262 [(5, true, 74), (2, true, x1)] s R := h
def cs_263 : List (Nat × Nat × sFS) := [(236, 1, .inl we_236), (237, 1, .inl we_237), (252, 0, .inl we_252), (253, 9, .inl we_253), (261, 2, .inl we_261), (262, 2, .inl we_262)]
theorem cs_263_ok : kCs dM 3 cs_263 := (kCs_c (Or.inr (Or.inl rfl)) (we_236_ok.deep (by decide)) (kCs_c (Or.inr (Or.inl rfl)) (we_237_ok.deep (by decide)) (kCs_c (Or.inl rfl) (we_252_ok.deep (by decide)) (kCs_c (Or.inr (Or.inr (Or.inr (Or.inr rfl)))) (we_253_ok.deep (by decide)) (kCs_c (Or.inr (Or.inr (Or.inl rfl))) (we_261_ok.deep (by decide)) (kCs_c (Or.inr (Or.inr (Or.inl rfl))) (we_262_ok.deep (by decide)) kCs_n))))))
def lb_263_0 (s : sS) (Q : sQ) (R : Int → hy_m → Prop) (x1 : Int) : Nat → Option (sL → sS → Prop) := sLb []
set_option maxRecDepth 30000 in
set_option maxHeartbeats 1000000 in
theorem wk_263_0 (Q : sQ) (R : Int → hy_m → Prop) (s : sS) (x1 : Int) (hQ : ∀ x m', R x m' → Q x (sM s m')) (hr : sRg [(0, 5, 74), (1, 1, 0)] [x1]) (h : wq_263 x1 s.2.2.2 R) : kX dM 3 im_m263 2 0 (sCan [(0, 5, 74), (1, 1, 0)] [x1]) [] s Q := by
  unfold wq_263 at h
  refine wz2_ok (cs := cs_263) (wr := []) (lb := lb_263_0 s Q R x1) cs_263_ok kLb_n (okL_can rfl hr) (fun Y hY hl => ?_)
  refine hY _ _ _ _ (hY _ _ _ _ (hY _ _ _ _ (?_ : Y 3 [(0, 5, true, 74), (1, 1, true, x1)] [(1, true, x1), (5, true, 74), (5, true, 74)] s)))
  refine hY _ _ _ _ (?_ : Y 4 [(0, 5, true, 74), (1, 1, true, x1)] [(2, true, 0), (1, true, x1), (5, true, 74), (5, true, 74)] s)
  refine hY _ _ _ _ ?_
  refine Exists.intro _ (And.intro (wc_236_r74_1t_2t x1 0 _ _ h) (fun r1 m1 h => ?_))
  show Y 7 [(0, 5, true, 74), (1, 1, true, x1)] [(1, true, r1), (5, true, 74)] (sM s m1)
  refine hY _ _ _ _ ?_
  refine Exists.intro _ (And.intro (wc_237_r74_1t r1 _ _ h) (fun r2 m2 h => ?_))
  refine hY _ _ _ _ (hY _ _ _ _ (hY _ _ _ _ (?_ : Y 13 [(3, 1, true, r2), (0, 5, true, 74), (1, 1, true, x1)] [(1, true, r2), (5, true, 74)] (sM s m2))))
  refine hY _ _ _ _ ?_
  refine Exists.intro _ (And.intro (wc_261_r74_1t r2 _ _ h) (fun r3 m3 h => ?_))
  show Y 16 [(3, 1, true, r2), (0, 5, true, 74), (1, 1, true, x1)] [(2, true, r3)] (sM s m3)
  refine hY _ _ _ _ ?_
  refine And.intro (fun hc => ?_) (fun hc => ?_)
  · have h := h.1 hc
    refine hY _ _ _ _ (hY _ _ _ _ (hY _ _ _ _ (?_ : Y 31 [(5, 0, true, m3 74 59), (3, 1, true, r2), (0, 5, true, 74), (1, 1, true, x1)] [] (sM s m3))))
    refine hY _ _ _ _ (hY _ _ _ _ (hY _ _ _ _ (?_ : Y 35 [(5, 0, true, m3 74 59), (3, 1, true, r2), (0, 5, true, 74), (1, 1, true, x1)] [(0, true, (-9)), (1, true, x1), (5, true, 74)] (sM s m3))))
    refine hY _ _ _ _ ?_
    refine Exists.intro _ (And.intro (wc_253_r74_1t_0t x1 (-9) _ _ h) (fun r4 m4 h => ?_))
    refine hY _ _ _ _ (hY _ _ _ _ (hY _ _ _ _ (?_ : Y 43 [(5, 0, true, m3 74 59), (3, 1, true, r2), (0, 5, true, 74), (1, 1, true, x1)] [(5, true, 74), (5, true, 104)] (sM s m4))))
    refine hY _ _ _ _ (hY _ _ _ _ (?_ : Y 47 [(5, 0, true, m3 74 59), (3, 1, true, r2), (0, 5, true, 74), (1, 1, true, x1)] [(1, true, r2), (0, true, m4 74 51), (5, true, 104)] (sM s m4)))
    refine hY _ _ _ _ ?_
    refine (And.intro h.1 (And.intro h.2.1 ?_))
    refine hY _ _ _ _ (hY _ _ _ _ (hY _ _ _ _ (?_ : Y 52 [(5, 0, true, m3 74 59), (3, 1, true, r2), (0, 5, true, 74), (1, 1, true, x1)] [(0, true, (-9)), (5, true, 74), (5, true, 74)] (sM s (hy_u m4 104 (m4 74 51) r2)))))
    refine hY _ _ _ _ (hY _ _ _ _ (hY _ _ _ _ (?_ : Y 55 [(5, 0, true, m3 74 59), (3, 1, true, r2), (0, 5, true, 74), (1, 1, true, x1)] [(5, true, 74), (2, true, 0), (2, true, 0), (0, true, (-9)), (5, true, 74), (5, true, 74)] (sM s (hy_u m4 104 (m4 74 51) r2)))))
    refine hY _ _ _ _ (hY _ _ _ _ (?_ : Y 60 [(5, 0, true, m3 74 59), (3, 1, true, r2), (0, 5, true, 74), (1, 1, true, x1)] [(0, true, m3 74 59), (0, true, m4 74 52), (2, true, 0), (2, true, 0), (0, true, (-9)), (5, true, 74), (5, true, 74)] (sM s (hy_u m4 104 (m4 74 51) r2))))
    refine hY _ _ _ _ ?_
    refine Exists.intro _ (And.intro (wc_252_r74_0t_2t_2t_0t_0t (-9) 0 0 (m4 74 52) (m3 74 59) _ _ h.2.2) (fun r5 m5 h => ?_))
    show Y 63 [(5, 0, true, m3 74 59), (3, 1, true, r2), (0, 5, true, 74), (1, 1, true, x1)] [(0, true, r5), (5, true, 74)] (sM s m5)
    refine hY _ _ _ _ ?_
    refine hY _ _ _ _ (?_ : Y 67 [(5, 0, true, m3 74 59), (3, 1, true, r2), (0, 5, true, 74), (1, 1, true, x1)] [(2, true, 1)] (sM s (hy_u m5 74 52 r5)))
    refine hY _ _ _ _ ?_
    exact hQ 1 (hy_u m5 74 52 r5) h
  · have h := h.2 hc
    refine hY _ _ _ _ (hY _ _ _ _ (?_ : Y 21 [(3, 1, true, r2), (0, 5, true, 74), (1, 1, true, x1)] [(2, true, 1), (5, true, 74)] (sM s m3)))
    refine hY _ _ _ _ ?_
    refine Exists.intro _ (And.intro (wc_262_r74_2t 1 _ _ h) (fun r6 m6 h => ?_))
    show Y 24 [(3, 1, true, r2), (0, 5, true, 74), (1, 1, true, x1)] [(2, true, r6)] (sM s m6)
    refine hY _ _ _ _ ?_
    exact hQ r6 m6 h
def we_263 : sFf := sEf 6 [(0, 5, 74), (1, 1, 0)] (fun xs s Q => ap1 (fun x1 => wq_263 x1 s.2.2.2 Q) xs)
theorem we_263_ok : kS dM 4 263 2 (.inl we_263) := sEf_ok (mi := im_m263) rfl rfl rfl (fun R xs s r1 hb => by obtain ⟨x1, rfl, hb⟩ := ap1_ok hb; exact wk_263_0 _ R s x1 (fun x m' hx => ⟨m', rfl, hx⟩) r1 hb)
/-- LMModel.callsIs(J)Z -/
def wq_264 (x1 : Int) (m : hy_m) (Q : Int → hy_m → Prop) : Prop := wq_236 x1 1 m (fun r1 m1 => wq_251 r1 m1 (fun r2 m2 => (r2 ≠ 0 → (wq_236 x1 0 m2 (fun r3 m3 => wq_235 (m3 74 68) m3 (fun r4 m4 => wq_247 r3 r4 m4 (fun r5 m5 => (r5 ≠ 0 → (Q 1 m5)) ∧ (r5 = 0 → (wq_257 m5 (fun r6 m6 => (r6 = 0 → (Q 0 m6)) ∧ (r6 ≠ 0 → (Q 1 m6)))))))))) ∧ (r2 = 0 → (wq_262 2 m2 (fun r7 m7 => Q r7 m7)))))
theorem wc_251_r74_1t (x1 : Int) (s : sS) (R : Int → hy_m → Prop) (h : wq_251 x1 s.2.2.2 R) : we_251 [(5, true, 74), (1, true, x1)] s R := h
theorem wc_235_0t (x0 : Int) (s : sS) (R : Int → hy_m → Prop) (h : wq_235 x0 s.2.2.2 R) : we_235 [(0, true, x0)] s R := h
theorem wc_262_r74_0t (x1 : Int) (s : sS) (R : Int → hy_m → Prop) (h : wq_262 x1 s.2.2.2 R) : we_262 [(5, true, 74), (0, true, x1)] s R := h
def cs_264 : List (Nat × Nat × sFS) := [(235, 1, .inl we_235), (236, 1, .inl we_236), (247, 2, .inl we_247), (251, 2, .inl we_251), (257, 2, .inl we_257), (262, 2, .inl we_262)]
theorem cs_264_ok : kCs dM 7 cs_264 := (kCs_c (Or.inr (Or.inl rfl)) (we_235_ok.deep (by decide)) (kCs_c (Or.inr (Or.inl rfl)) (we_236_ok.deep (by decide)) (kCs_c (Or.inr (Or.inr (Or.inl rfl))) (we_247_ok.deep (by decide)) (kCs_c (Or.inr (Or.inr (Or.inl rfl))) (we_251_ok.deep (by decide)) (kCs_c (Or.inr (Or.inr (Or.inl rfl))) (we_257_ok.deep (by decide)) (kCs_c (Or.inr (Or.inr (Or.inl rfl))) (we_262_ok.deep (by decide)) kCs_n))))))
def lb_264_0 (s : sS) (Q : sQ) (R : Int → hy_m → Prop) (x1 : Int) : Nat → Option (sL → sS → Prop) := sLb []
set_option maxRecDepth 30000 in
set_option maxHeartbeats 1000000 in
theorem wk_264_0 (Q : sQ) (R : Int → hy_m → Prop) (s : sS) (x1 : Int) (hQ : ∀ x m', R x m' → Q x (sM s m')) (hr : sRg [(0, 5, 74), (1, 1, 0)] [x1]) (h : wq_264 x1 s.2.2.2 R) : kX dM 7 im_m264 2 0 (sCan [(0, 5, 74), (1, 1, 0)] [x1]) [] s Q := by
  unfold wq_264 at h
  refine wz2_ok (cs := cs_264) (wr := []) (lb := lb_264_0 s Q R x1) cs_264_ok kLb_n (okL_can rfl hr) (fun Y hY hl => ?_)
  refine hY _ _ _ _ (hY _ _ _ _ (hY _ _ _ _ (?_ : Y 3 [(0, 5, true, 74), (1, 1, true, x1)] [(1, true, x1), (5, true, 74), (5, true, 74)] s)))
  refine hY _ _ _ _ (?_ : Y 4 [(0, 5, true, 74), (1, 1, true, x1)] [(2, true, 1), (1, true, x1), (5, true, 74), (5, true, 74)] s)
  refine hY _ _ _ _ ?_
  refine Exists.intro _ (And.intro (wc_236_r74_1t_2t x1 1 _ _ h) (fun r1 m1 h => ?_))
  show Y 7 [(0, 5, true, 74), (1, 1, true, x1)] [(1, true, r1), (5, true, 74)] (sM s m1)
  refine hY _ _ _ _ ?_
  refine Exists.intro _ (And.intro (wc_251_r74_1t r1 _ _ h) (fun r2 m2 h => ?_))
  show Y 10 [(0, 5, true, 74), (1, 1, true, x1)] [(2, true, r2)] (sM s m2)
  refine hY _ _ _ _ ?_
  refine And.intro (fun hc => ?_) (fun hc => ?_)
  · have h := h.1 hc
    refine hY _ _ _ _ (hY _ _ _ _ (hY _ _ _ _ (?_ : Y 22 [(0, 5, true, 74), (1, 1, true, x1)] [(1, true, x1), (5, true, 74), (5, true, 74)] (sM s m2))))
    refine hY _ _ _ _ (?_ : Y 23 [(0, 5, true, 74), (1, 1, true, x1)] [(2, true, 0), (1, true, x1), (5, true, 74), (5, true, 74)] (sM s m2))
    refine hY _ _ _ _ ?_
    refine Exists.intro _ (And.intro (wc_236_r74_1t_2t x1 0 _ _ h) (fun r3 m3 h => ?_))
    refine hY _ _ _ _ (hY _ _ _ _ (?_ : Y 30 [(0, 5, true, 74), (1, 1, true, x1)] [(0, true, m3 74 68), (1, true, r3), (5, true, 74)] (sM s m3)))
    refine hY _ _ _ _ ?_
    refine Exists.intro _ (And.intro (wc_235_0t (m3 74 68) _ _ h) (fun r4 m4 h => ?_))
    show Y 33 [(0, 5, true, 74), (1, 1, true, x1)] [(1, true, r4), (1, true, r3), (5, true, 74)] (sM s m4)
    refine hY _ _ _ _ ?_
    refine Exists.intro _ (And.intro (wc_247_r74_1t_1t r3 r4 _ _ h) (fun r5 m5 h => ?_))
    show Y 36 [(0, 5, true, 74), (1, 1, true, x1)] [(2, true, r5)] (sM s m5)
    refine hY _ _ _ _ ?_
    refine And.intro (fun hc => ?_) (fun hc => ?_)
    · have h := h.1 hc
      refine hY _ _ _ _ (hY _ _ _ _ (?_ : Y 51 [(0, 5, true, 74), (1, 1, true, x1)] [(2, true, 1)] (sM s m5)))
      refine hY _ _ _ _ ?_
      exact hQ 1 m5 h
    · have h := h.2 hc
      refine hY _ _ _ _ (?_ : Y 40 [(0, 5, true, 74), (1, 1, true, x1)] [(5, true, 74)] (sM s m5))
      refine hY _ _ _ _ ?_
      refine Exists.intro _ (And.intro (wc_257_r74 _ _ h) (fun r6 m6 h => ?_))
      show Y 43 [(0, 5, true, 74), (1, 1, true, x1)] [(2, true, r6)] (sM s m6)
      refine hY _ _ _ _ ?_
      refine And.intro (fun hc => ?_) (fun hc => ?_)
      · have h := h.1 hc
        refine hY _ _ _ _ (?_ : Y 51 [(0, 5, true, 74), (1, 1, true, x1)] [(2, true, 0)] (sM s m6))
        refine hY _ _ _ _ ?_
        exact hQ 0 m6 h
      · have h := h.2 hc
        refine hY _ _ _ _ (hY _ _ _ _ (?_ : Y 51 [(0, 5, true, 74), (1, 1, true, x1)] [(2, true, 1)] (sM s m6)))
        refine hY _ _ _ _ ?_
        exact hQ 1 m6 h
  · have h := h.2 hc
    refine hY _ _ _ _ (hY _ _ _ _ (?_ : Y 15 [(0, 5, true, 74), (1, 1, true, x1)] [(0, true, 2), (5, true, 74)] (sM s m2)))
    refine hY _ _ _ _ ?_
    refine Exists.intro _ (And.intro (wc_262_r74_0t 2 _ _ h) (fun r7 m7 h => ?_))
    show Y 18 [(0, 5, true, 74), (1, 1, true, x1)] [(2, true, r7)] (sM s m7)
    refine hY _ _ _ _ ?_
    exact hQ r7 m7 h
def we_264 : sFf := sEf 3 [(0, 5, 74), (1, 1, 0)] (fun xs s Q => ap1 (fun x1 => wq_264 x1 s.2.2.2 Q) xs)
theorem we_264_ok : kS dM 8 264 2 (.inl we_264) := sEf_ok (mi := im_m264) rfl rfl rfl (fun R xs s r1 hb => by obtain ⟨x1, rfl, hb⟩ := ap1_ok hb; exact wk_264_0 _ R s x1 (fun x m' hx => ⟨m', rfl, hx⟩) r1 hb)
/-- LMModel.callsLess(J)Z -/
def wq_265 (x1 : Int) (m : hy_m) (Q : Int → hy_m → Prop) : Prop := wq_236 x1 0 m (fun r1 m1 => wq_251 r1 m1 (fun r2 m2 => (r2 ≠ 0 → (wq_236 x1 1 m2 (fun r3 m3 => wq_251 r3 m3 (fun r4 m4 => (r4 ≠ 0 → (((m2 74 68) < (m4 74 68) → (Q 1 m4)) ∧ ((m4 74 68) ≤ (m2 74 68) → (wq_257 m4 (fun r5 m5 => (r5 = 0 → (Q 0 m5)) ∧ (r5 ≠ 0 → (Q 1 m5))))))) ∧ (r4 = 0 → (wq_262 2 m4 (fun r6 m6 => Q r6 m6))))))) ∧ (r2 = 0 → (wq_262 2 m2 (fun r7 m7 => Q r7 m7)))))
def cs_265 : List (Nat × Nat × sFS) := [(236, 1, .inl we_236), (251, 2, .inl we_251), (257, 2, .inl we_257), (262, 2, .inl we_262)]
theorem cs_265_ok : kCs dM 7 cs_265 := (kCs_c (Or.inr (Or.inl rfl)) (we_236_ok.deep (by decide)) (kCs_c (Or.inr (Or.inr (Or.inl rfl))) (we_251_ok.deep (by decide)) (kCs_c (Or.inr (Or.inr (Or.inl rfl))) (we_257_ok.deep (by decide)) (kCs_c (Or.inr (Or.inr (Or.inl rfl))) (we_262_ok.deep (by decide)) kCs_n))))
def lb_265_0 (s : sS) (Q : sQ) (R : Int → hy_m → Prop) (x1 : Int) : Nat → Option (sL → sS → Prop) := sLb []
set_option maxRecDepth 30000 in
set_option maxHeartbeats 1000000 in
theorem wk_265_0 (Q : sQ) (R : Int → hy_m → Prop) (s : sS) (x1 : Int) (hQ : ∀ x m', R x m' → Q x (sM s m')) (hr : sRg [(0, 5, 74), (1, 1, 0)] [x1]) (h : wq_265 x1 s.2.2.2 R) : kX dM 7 im_m265 2 0 (sCan [(0, 5, 74), (1, 1, 0)] [x1]) [] s Q := by
  unfold wq_265 at h
  refine wz2_ok (cs := cs_265) (wr := []) (lb := lb_265_0 s Q R x1) cs_265_ok kLb_n (okL_can rfl hr) (fun Y hY hl => ?_)
  refine hY _ _ _ _ (hY _ _ _ _ (hY _ _ _ _ (?_ : Y 3 [(0, 5, true, 74), (1, 1, true, x1)] [(1, true, x1), (5, true, 74), (5, true, 74)] s)))
  refine hY _ _ _ _ (?_ : Y 4 [(0, 5, true, 74), (1, 1, true, x1)] [(2, true, 0), (1, true, x1), (5, true, 74), (5, true, 74)] s)
  refine hY _ _ _ _ ?_
  refine Exists.intro _ (And.intro (wc_236_r74_1t_2t x1 0 _ _ h) (fun r1 m1 h => ?_))
  show Y 7 [(0, 5, true, 74), (1, 1, true, x1)] [(1, true, r1), (5, true, 74)] (sM s m1)
  refine hY _ _ _ _ ?_
  refine Exists.intro _ (And.intro (wc_251_r74_1t r1 _ _ h) (fun r2 m2 h => ?_))
  show Y 10 [(0, 5, true, 74), (1, 1, true, x1)] [(2, true, r2)] (sM s m2)
  refine hY _ _ _ _ ?_
  refine And.intro (fun hc => ?_) (fun hc => ?_)
  · have h := h.1 hc
    refine hY _ _ _ _ (hY _ _ _ _ (hY _ _ _ _ (?_ : Y 24 [(3, 0, true, m2 74 68), (0, 5, true, 74), (1, 1, true, x1)] [] (sM s m2))))
    refine hY _ _ _ _ (hY _ _ _ _ (hY _ _ _ _ (?_ : Y 27 [(3, 0, true, m2 74 68), (0, 5, true, 74), (1, 1, true, x1)] [(1, true, x1), (5, true, 74), (5, true, 74)] (sM s m2))))
    refine hY _ _ _ _ (?_ : Y 28 [(3, 0, true, m2 74 68), (0, 5, true, 74), (1, 1, true, x1)] [(2, true, 1), (1, true, x1), (5, true, 74), (5, true, 74)] (sM s m2))
    refine hY _ _ _ _ ?_
    refine Exists.intro _ (And.intro (wc_236_r74_1t_2t x1 1 _ _ h) (fun r3 m3 h => ?_))
    show Y 31 [(3, 0, true, m2 74 68), (0, 5, true, 74), (1, 1, true, x1)] [(1, true, r3), (5, true, 74)] (sM s m3)
    refine hY _ _ _ _ ?_
    refine Exists.intro _ (And.intro (wc_251_r74_1t r3 _ _ h) (fun r4 m4 h => ?_))
    show Y 34 [(3, 0, true, m2 74 68), (0, 5, true, 74), (1, 1, true, x1)] [(2, true, r4)] (sM s m4)
    refine hY _ _ _ _ ?_
    refine And.intro (fun hc => ?_) (fun hc => ?_)
    · have h := h.1 hc
      refine hY _ _ _ _ (hY _ _ _ _ (hY _ _ _ _ (?_ : Y 48 [(3, 0, true, m2 74 68), (0, 5, true, 74), (1, 1, true, x1)] [(0, true, m4 74 68), (0, true, m2 74 68)] (sM s m4))))
      refine hY _ _ _ _ ?_
      refine And.intro (fun hc => ?_) (fun hc => ?_)
      · have h := h.1 hc
        refine hY _ _ _ _ (hY _ _ _ _ (?_ : Y 63 [(3, 0, true, m2 74 68), (0, 5, true, 74), (1, 1, true, x1)] [(2, true, 1)] (sM s m4)))
        refine hY _ _ _ _ ?_
        exact hQ 1 m4 h
      · have h := h.2 hc
        refine hY _ _ _ _ (?_ : Y 52 [(3, 0, true, m2 74 68), (0, 5, true, 74), (1, 1, true, x1)] [(5, true, 74)] (sM s m4))
        refine hY _ _ _ _ ?_
        refine Exists.intro _ (And.intro (wc_257_r74 _ _ h) (fun r5 m5 h => ?_))
        show Y 55 [(3, 0, true, m2 74 68), (0, 5, true, 74), (1, 1, true, x1)] [(2, true, r5)] (sM s m5)
        refine hY _ _ _ _ ?_
        refine And.intro (fun hc => ?_) (fun hc => ?_)
        · have h := h.1 hc
          refine hY _ _ _ _ (?_ : Y 63 [(3, 0, true, m2 74 68), (0, 5, true, 74), (1, 1, true, x1)] [(2, true, 0)] (sM s m5))
          refine hY _ _ _ _ ?_
          exact hQ 0 m5 h
        · have h := h.2 hc
          refine hY _ _ _ _ (hY _ _ _ _ (?_ : Y 63 [(3, 0, true, m2 74 68), (0, 5, true, 74), (1, 1, true, x1)] [(2, true, 1)] (sM s m5)))
          refine hY _ _ _ _ ?_
          exact hQ 1 m5 h
    · have h := h.2 hc
      refine hY _ _ _ _ (hY _ _ _ _ (?_ : Y 39 [(3, 0, true, m2 74 68), (0, 5, true, 74), (1, 1, true, x1)] [(0, true, 2), (5, true, 74)] (sM s m4)))
      refine hY _ _ _ _ ?_
      refine Exists.intro _ (And.intro (wc_262_r74_0t 2 _ _ h) (fun r6 m6 h => ?_))
      show Y 42 [(3, 0, true, m2 74 68), (0, 5, true, 74), (1, 1, true, x1)] [(2, true, r6)] (sM s m6)
      refine hY _ _ _ _ ?_
      exact hQ r6 m6 h
  · have h := h.2 hc
    refine hY _ _ _ _ (hY _ _ _ _ (?_ : Y 15 [(0, 5, true, 74), (1, 1, true, x1)] [(0, true, 2), (5, true, 74)] (sM s m2)))
    refine hY _ _ _ _ ?_
    refine Exists.intro _ (And.intro (wc_262_r74_0t 2 _ _ h) (fun r7 m7 h => ?_))
    show Y 18 [(0, 5, true, 74), (1, 1, true, x1)] [(2, true, r7)] (sM s m7)
    refine hY _ _ _ _ ?_
    exact hQ r7 m7 h
def we_265 : sFf := sEf 4 [(0, 5, 74), (1, 1, 0)] (fun xs s Q => ap1 (fun x1 => wq_265 x1 s.2.2.2 Q) xs)
theorem we_265_ok : kS dM 8 265 2 (.inl we_265) := sEf_ok (mi := im_m265) rfl rfl rfl (fun R xs s r1 hb => by obtain ⟨x1, rfl, hb⟩ := ap1_ok hb; exact wk_265_0 _ R s x1 (fun x m' hx => ⟨m', rfl, hx⟩) r1 hb)
/-- LMModel.callsPlain(JZI)Z -/
def wq_266 (x1 : Int) (x3 : Int) (x4 : Int) (m : hy_m) (Q : Int → hy_m → Prop) : Prop := wq_171 102 97 105 108 m (fun r1 m1 => (x1 ≠ r1 → ((x3 = 0 → (Q 1 m1)) ∧ (x3 ≠ 0 → (wq_171 99 117 116 0 m1 (fun r2 m2 => (x1 ≠ r2 → (Q 1 m2)) ∧ (x1 = r2 → (Q 1 (hy_u m2 74 59 x4)))))))) ∧ (x1 = r1 → (wq_257 m1 (fun r3 m3 => Q r3 m3))))
def cs_266 : List (Nat × Nat × sFS) := [(171, 1, .inl we_171), (257, 2, .inl we_257)]
theorem cs_266_ok : kCs dM 7 cs_266 := (kCs_c (Or.inr (Or.inl rfl)) (we_171_ok.deep (by decide)) (kCs_c (Or.inr (Or.inr (Or.inl rfl))) (we_257_ok.deep (by decide)) kCs_n))
def lb_266_0 (s : sS) (Q : sQ) (R : Int → hy_m → Prop) (x1 : Int) (x3 : Int) (x4 : Int) : Nat → Option (sL → sS → Prop) := sLb []
set_option maxRecDepth 30000 in
set_option maxHeartbeats 1000000 in
theorem wk_266_0 (Q : sQ) (R : Int → hy_m → Prop) (s : sS) (x1 : Int) (x3 : Int) (x4 : Int) (hQ : ∀ x m', R x m' → Q x (sM s m')) (hr : sRg [(0, 5, 74), (1, 1, 0), (3, 2, 0), (4, 0, 0)] [x1, x3, x4]) (h : wq_266 x1 x3 x4 s.2.2.2 R) : kX dM 7 im_m266 2 0 (sCan [(0, 5, 74), (1, 1, 0), (3, 2, 0), (4, 0, 0)] [x1, x3, x4]) [] s Q := by
  unfold wq_266 at h
  refine wz2_ok (cs := cs_266) (wr := []) (lb := lb_266_0 s Q R x1 x3 x4) cs_266_ok kLb_n (okL_can rfl hr) (fun Y hY hl => ?_)
  refine hY _ _ _ _ (hY _ _ _ _ (hY _ _ _ _ (?_ : Y 5 [(0, 5, true, 74), (1, 1, true, x1), (3, 2, true, x3), (4, 0, true, x4)] [(0, true, 97), (0, true, 102), (1, true, x1)] s)))
  refine hY _ _ _ _ (hY _ _ _ _ (?_ : Y 9 [(0, 5, true, 74), (1, 1, true, x1), (3, 2, true, x3), (4, 0, true, x4)] [(0, true, 108), (0, true, 105), (0, true, 97), (0, true, 102), (1, true, x1)] s))
  refine hY _ _ _ _ ?_
  refine Exists.intro _ (And.intro (wc_171_0t_0t_0t_0t 102 97 105 108 _ _ h) (fun r1 m1 h => ?_))
  show Y 12 [(0, 5, true, 74), (1, 1, true, x1), (3, 2, true, x3), (4, 0, true, x4)] [(1, true, r1), (1, true, x1)] (sM s m1)
  refine hY _ _ _ _ ?_
  refine And.intro (fun hc => ?_) (fun hc => ?_)
  · have h := h.1 hc
    refine hY _ _ _ _ (?_ : Y 22 [(0, 5, true, 74), (1, 1, true, x1), (3, 2, true, x3), (4, 0, true, x4)] [(2, true, x3)] (sM s m1))
    refine hY _ _ _ _ ?_
    refine And.intro (fun hc => ?_) (fun hc => ?_)
    · have h := h.1 hc
      refine hY _ _ _ _ (?_ : Y 47 [(0, 5, true, 74), (1, 1, true, x1), (3, 2, true, x3), (4, 0, true, x4)] [(2, true, 1)] (sM s m1))
      refine hY _ _ _ _ ?_
      exact hQ 1 m1 h
    · have h := h.2 hc
      refine hY _ _ _ _ (hY _ _ _ _ (hY _ _ _ _ (?_ : Y 30 [(0, 5, true, 74), (1, 1, true, x1), (3, 2, true, x3), (4, 0, true, x4)] [(0, true, 117), (0, true, 99), (1, true, x1)] (sM s m1))))
      refine hY _ _ _ _ (hY _ _ _ _ (?_ : Y 33 [(0, 5, true, 74), (1, 1, true, x1), (3, 2, true, x3), (4, 0, true, x4)] [(2, true, 0), (0, true, 116), (0, true, 117), (0, true, 99), (1, true, x1)] (sM s m1)))
      refine hY _ _ _ _ ?_
      refine Exists.intro _ (And.intro (wc_171_0t_0t_0t_2t 99 117 116 0 _ _ h) (fun r2 m2 h => ?_))
      show Y 36 [(0, 5, true, 74), (1, 1, true, x1), (3, 2, true, x3), (4, 0, true, x4)] [(1, true, r2), (1, true, x1)] (sM s m2)
      refine hY _ _ _ _ ?_
      refine And.intro (fun hc => ?_) (fun hc => ?_)
      · have h := h.1 hc
        refine hY _ _ _ _ (?_ : Y 47 [(0, 5, true, 74), (1, 1, true, x1), (3, 2, true, x3), (4, 0, true, x4)] [(2, true, 1)] (sM s m2))
        refine hY _ _ _ _ ?_
        exact hQ 1 m2 h
      · have h := h.2 hc
        refine hY _ _ _ _ (hY _ _ _ _ (?_ : Y 43 [(0, 5, true, 74), (1, 1, true, x1), (3, 2, true, x3), (4, 0, true, x4)] [(0, true, x4), (5, true, 74)] (sM s m2)))
        refine hY _ _ _ _ ?_
        refine hY _ _ _ _ (?_ : Y 47 [(0, 5, true, 74), (1, 1, true, x1), (3, 2, true, x3), (4, 0, true, x4)] [(2, true, 1)] (sM s (hy_u m2 74 59 x4)))
        refine hY _ _ _ _ ?_
        exact hQ 1 (hy_u m2 74 59 x4) h
  · have h := h.2 hc
    refine hY _ _ _ _ (?_ : Y 17 [(0, 5, true, 74), (1, 1, true, x1), (3, 2, true, x3), (4, 0, true, x4)] [(5, true, 74)] (sM s m1))
    refine hY _ _ _ _ ?_
    refine Exists.intro _ (And.intro (wc_257_r74 _ _ h) (fun r3 m3 h => ?_))
    show Y 20 [(0, 5, true, 74), (1, 1, true, x1), (3, 2, true, x3), (4, 0, true, x4)] [(2, true, r3)] (sM s m3)
    refine hY _ _ _ _ ?_
    exact hQ r3 m3 h
def we_266 : sFf := sEf 5 [(0, 5, 74), (1, 1, 0), (3, 2, 0), (4, 0, 0)] (fun xs s Q => ap3 (fun x1 x3 x4 => wq_266 x1 x3 x4 s.2.2.2 Q) xs)
theorem we_266_ok : kS dM 8 266 2 (.inl we_266) := sEf_ok (mi := im_m266) rfl rfl rfl (fun R xs s r1 hb => by obtain ⟨x1, x3, x4, rfl, hb⟩ := ap3_ok hb; exact wk_266_0 _ R s x1 x3 x4 (fun x m' hx => ⟨m', rfl, hx⟩) r1 hb)
/-- LMModel.calls(JZI)Z -/
def wq_267 (x1 : Int) (x3 : Int) (x4 : Int) (m : hy_m) (Q : Int → hy_m → Prop) : Prop := wq_232 x1 m (fun r1 m1 => 0 ≤ r1 ∧ r1 < 3584 ∧ (wq_232 x1 m1 (fun r2 m2 => 0 ≤ r2 ∧ r2 < 3584 ∧ (wq_184 (m1 77 r1) (m2 78 r2) m2 (fun r3 m3 => (r3 ≠ 0 → (((m2 78 r2) ≠ 0 → (((m2 78 r2) ≠ 1 → (wq_171 115 97 109 101 m3 (fun r4 m4 => ((m1 77 r1) ≠ r4 → (wq_171 105 115 0 0 m4 (fun r5 m5 => ((m1 77 r1) ≠ r5 → (wq_265 x1 m5 (fun r6 m6 => Q r6 m6))) ∧ ((m1 77 r1) = r5 → (wq_264 x1 m5 (fun r7 m7 => Q r7 m7)))))) ∧ ((m1 77 r1) = r4 → (wq_236 x1 0 m4 (fun r8 m8 => wq_236 x1 1 m8 (fun r9 m9 => wq_247 r8 r9 m9 (fun r10 m10 => (r10 ≠ 0 → (Q 1 m10)) ∧ (r10 = 0 → (wq_257 m10 (fun r11 m11 => (r11 = 0 → (Q 0 m11)) ∧ (r11 ≠ 0 → (Q 1 m11))))))))))))) ∧ ((m2 78 r2) = 1 → (wq_263 x1 m3 (fun r12 m12 => Q r12 m12))))) ∧ ((m2 78 r2) = 0 → (wq_266 (m1 77 r1) x3 x4 m3 (fun r13 m13 => Q r13 m13))))) ∧ (r3 = 0 → (wq_260 x1 m3 (fun r14 m14 => Q r14 m14))))))))
theorem wc_265_r74_1t (x1 : Int) (s : sS) (R : Int → hy_m → Prop) (h : wq_265 x1 s.2.2.2 R) : we_265 [(5, true, 74), (1, true, x1)] s R := h
theorem wc_264_r74_1t (x1 : Int) (s : sS) (R : Int → hy_m → Prop) (h : wq_264 x1 s.2.2.2 R) : we_264 [(5, true, 74), (1, true, x1)] s R := h
theorem wc_263_r74_1t (x1 : Int) (s : sS) (R : Int → hy_m → Prop) (h : wq_263 x1 s.2.2.2 R) : we_263 [(5, true, 74), (1, true, x1)] s R := h
theorem wc_266_r74_1t_2t_0t (x1 : Int) (x2 : Int) (x3 : Int) (s : sS) (R : Int → hy_m → Prop) (h : wq_266 x1 x2 x3 s.2.2.2 R) : we_266 [(5, true, 74), (1, true, x1), (2, true, x2), (0, true, x3)] s R := h
theorem wc_260_r74_1t (x1 : Int) (s : sS) (R : Int → hy_m → Prop) (h : wq_260 x1 s.2.2.2 R) : we_260 [(5, true, 74), (1, true, x1)] s R := h
def cs_267 : List (Nat × Nat × sFS) := [(171, 1, .inl we_171), (184, 2, .inl we_184), (232, 0, .inl we_232), (236, 1, .inl we_236), (247, 2, .inl we_247), (257, 2, .inl we_257), (260, 2, .inl we_260), (263, 2, .inl we_263), (264, 2, .inl we_264), (265, 2, .inl we_265), (266, 2, .inl we_266)]
theorem cs_267_ok : kCs dM 8 cs_267 := (kCs_c (Or.inr (Or.inl rfl)) (we_171_ok.deep (by decide)) (kCs_c (Or.inr (Or.inr (Or.inl rfl))) (we_184_ok.deep (by decide)) (kCs_c (Or.inl rfl) (we_232_ok.deep (by decide)) (kCs_c (Or.inr (Or.inl rfl)) (we_236_ok.deep (by decide)) (kCs_c (Or.inr (Or.inr (Or.inl rfl))) (we_247_ok.deep (by decide)) (kCs_c (Or.inr (Or.inr (Or.inl rfl))) (we_257_ok.deep (by decide)) (kCs_c (Or.inr (Or.inr (Or.inl rfl))) (we_260_ok.deep (by decide)) (kCs_c (Or.inr (Or.inr (Or.inl rfl))) (we_263_ok.deep (by decide)) (kCs_c (Or.inr (Or.inr (Or.inl rfl))) (we_264_ok.deep (by decide)) (kCs_c (Or.inr (Or.inr (Or.inl rfl))) (we_265_ok.deep (by decide)) (kCs_c (Or.inr (Or.inr (Or.inl rfl))) (we_266_ok.deep (by decide)) kCs_n)))))))))))
def lb_267_0 (s : sS) (Q : sQ) (R : Int → hy_m → Prop) (x1 : Int) (x3 : Int) (x4 : Int) : Nat → Option (sL → sS → Prop) := sLb []
set_option maxRecDepth 30000 in
set_option maxHeartbeats 1000000 in
theorem wk_267_0 (Q : sQ) (R : Int → hy_m → Prop) (s : sS) (x1 : Int) (x3 : Int) (x4 : Int) (hQ : ∀ x m', R x m' → Q x (sM s m')) (hr : sRg [(0, 5, 74), (1, 1, 0), (3, 2, 0), (4, 0, 0)] [x1, x3, x4]) (h : wq_267 x1 x3 x4 s.2.2.2 R) : kX dM 8 im_m267 2 0 (sCan [(0, 5, 74), (1, 1, 0), (3, 2, 0), (4, 0, 0)] [x1, x3, x4]) [] s Q := by
  unfold wq_267 at h
  refine wz2_ok (cs := cs_267) (wr := []) (lb := lb_267_0 s Q R x1 x3 x4) cs_267_ok kLb_n (okL_can rfl hr) (fun Y hY hl => ?_)
  refine hY _ _ _ _ (hY _ _ _ _ (hY _ _ _ _ (?_ : Y 5 [(0, 5, true, 74), (1, 1, true, x1), (3, 2, true, x3), (4, 0, true, x4)] [(1, true, x1), (5, true, 77)] s)))
  refine hY _ _ _ _ ?_
  refine Exists.intro _ (And.intro (wc_232_1t x1 _ _ h) (fun r1 m1 h => ?_))
  show Y 8 [(0, 5, true, 74), (1, 1, true, x1), (3, 2, true, x3), (4, 0, true, x4)] [(0, true, r1), (5, true, 77)] (sM s m1)
  refine hY _ _ _ _ ?_
  refine (And.intro h.1 (And.intro h.2.1 ?_))
  refine hY _ _ _ _ (hY _ _ _ _ (hY _ _ _ _ (?_ : Y 15 [(5, 1, true, m1 77 r1), (0, 5, true, 74), (1, 1, true, x1), (3, 2, true, x3), (4, 0, true, x4)] [(5, true, 78)] (sM s m1))))
  refine hY _ _ _ _ (?_ : Y 16 [(5, 1, true, m1 77 r1), (0, 5, true, 74), (1, 1, true, x1), (3, 2, true, x3), (4, 0, true, x4)] [(1, true, x1), (5, true, 78)] (sM s m1))
  refine hY _ _ _ _ ?_
  refine Exists.intro _ (And.intro (wc_232_1t x1 _ _ h.2.2) (fun r2 m2 h => ?_))
  show Y 19 [(5, 1, true, m1 77 r1), (0, 5, true, 74), (1, 1, true, x1), (3, 2, true, x3), (4, 0, true, x4)] [(0, true, r2), (5, true, 78)] (sM s m2)
  refine hY _ _ _ _ ?_
  refine (And.intro h.1 (And.intro h.2.1 ?_))
  refine hY _ _ _ _ (hY _ _ _ _ (hY _ _ _ _ (?_ : Y 26 [(7, 0, true, m2 78 r2), (5, 1, true, m1 77 r1), (0, 5, true, 74), (1, 1, true, x1), (3, 2, true, x3), (4, 0, true, x4)] [(0, true, m2 78 r2), (1, true, m1 77 r1)] (sM s m2))))
  refine hY _ _ _ _ ?_
  refine Exists.intro _ (And.intro (wc_184_1t_0t (m1 77 r1) (m2 78 r2) _ _ h.2.2) (fun r3 m3 h => ?_))
  show Y 29 [(7, 0, true, m2 78 r2), (5, 1, true, m1 77 r1), (0, 5, true, 74), (1, 1, true, x1), (3, 2, true, x3), (4, 0, true, x4)] [(2, true, r3)] (sM s m3)
  refine hY _ _ _ _ ?_
  refine And.intro (fun hc => ?_) (fun hc => ?_)
  · have h := h.1 hc
    refine hY _ _ _ _ (?_ : Y 40 [(7, 0, true, m2 78 r2), (5, 1, true, m1 77 r1), (0, 5, true, 74), (1, 1, true, x1), (3, 2, true, x3), (4, 0, true, x4)] [(0, true, m2 78 r2)] (sM s m3))
    refine hY _ _ _ _ ?_
    refine And.intro (fun hc => ?_) (fun hc => ?_)
    · have h := h.1 hc
      refine hY _ _ _ _ (hY _ _ _ _ (?_ : Y 56 [(7, 0, true, m2 78 r2), (5, 1, true, m1 77 r1), (0, 5, true, 74), (1, 1, true, x1), (3, 2, true, x3), (4, 0, true, x4)] [(2, true, 1), (0, true, m2 78 r2)] (sM s m3)))
      refine hY _ _ _ _ ?_
      refine And.intro (fun hc => ?_) (fun hc => ?_)
      · have h := h.1 hc
        refine hY _ _ _ _ (hY _ _ _ _ (hY _ _ _ _ (?_ : Y 71 [(7, 0, true, m2 78 r2), (5, 1, true, m1 77 r1), (0, 5, true, 74), (1, 1, true, x1), (3, 2, true, x3), (4, 0, true, x4)] [(0, true, 97), (0, true, 115), (1, true, m1 77 r1)] (sM s m3))))
        refine hY _ _ _ _ (hY _ _ _ _ (?_ : Y 75 [(7, 0, true, m2 78 r2), (5, 1, true, m1 77 r1), (0, 5, true, 74), (1, 1, true, x1), (3, 2, true, x3), (4, 0, true, x4)] [(0, true, 101), (0, true, 109), (0, true, 97), (0, true, 115), (1, true, m1 77 r1)] (sM s m3)))
        refine hY _ _ _ _ ?_
        refine Exists.intro _ (And.intro (wc_171_0t_0t_0t_0t 115 97 109 101 _ _ h) (fun r4 m4 h => ?_))
        show Y 78 [(7, 0, true, m2 78 r2), (5, 1, true, m1 77 r1), (0, 5, true, 74), (1, 1, true, x1), (3, 2, true, x3), (4, 0, true, x4)] [(1, true, r4), (1, true, m1 77 r1)] (sM s m4)
        refine hY _ _ _ _ ?_
        refine And.intro (fun hc => ?_) (fun hc => ?_)
        · have h := h.1 hc
          refine hY _ _ _ _ (hY _ _ _ _ (hY _ _ _ _ (?_ : Y 120 [(7, 0, true, m2 78 r2), (5, 1, true, m1 77 r1), (0, 5, true, 74), (1, 1, true, x1), (3, 2, true, x3), (4, 0, true, x4)] [(0, true, 115), (0, true, 105), (1, true, m1 77 r1)] (sM s m4))))
          refine hY _ _ _ _ (hY _ _ _ _ (?_ : Y 122 [(7, 0, true, m2 78 r2), (5, 1, true, m1 77 r1), (0, 5, true, 74), (1, 1, true, x1), (3, 2, true, x3), (4, 0, true, x4)] [(2, true, 0), (2, true, 0), (0, true, 115), (0, true, 105), (1, true, m1 77 r1)] (sM s m4)))
          refine hY _ _ _ _ ?_
          refine Exists.intro _ (And.intro (wc_171_0t_0t_2t_2t 105 115 0 0 _ _ h) (fun r5 m5 h => ?_))
          show Y 125 [(7, 0, true, m2 78 r2), (5, 1, true, m1 77 r1), (0, 5, true, 74), (1, 1, true, x1), (3, 2, true, x3), (4, 0, true, x4)] [(1, true, r5), (1, true, m1 77 r1)] (sM s m5)
          refine hY _ _ _ _ ?_
          refine And.intro (fun hc => ?_) (fun hc => ?_)
          · have h := h.1 hc
            refine hY _ _ _ _ (hY _ _ _ _ (?_ : Y 139 [(7, 0, true, m2 78 r2), (5, 1, true, m1 77 r1), (0, 5, true, 74), (1, 1, true, x1), (3, 2, true, x3), (4, 0, true, x4)] [(1, true, x1), (5, true, 74)] (sM s m5)))
            refine hY _ _ _ _ ?_
            refine Exists.intro _ (And.intro (wc_265_r74_1t x1 _ _ h) (fun r6 m6 h => ?_))
            show Y 142 [(7, 0, true, m2 78 r2), (5, 1, true, m1 77 r1), (0, 5, true, 74), (1, 1, true, x1), (3, 2, true, x3), (4, 0, true, x4)] [(2, true, r6)] (sM s m6)
            refine hY _ _ _ _ ?_
            exact hQ r6 m6 h
          · have h := h.2 hc
            refine hY _ _ _ _ (hY _ _ _ _ (?_ : Y 131 [(7, 0, true, m2 78 r2), (5, 1, true, m1 77 r1), (0, 5, true, 74), (1, 1, true, x1), (3, 2, true, x3), (4, 0, true, x4)] [(1, true, x1), (5, true, 74)] (sM s m5)))
            refine hY _ _ _ _ ?_
            refine Exists.intro _ (And.intro (wc_264_r74_1t x1 _ _ h) (fun r7 m7 h => ?_))
            refine hY _ _ _ _ (?_ : Y 142 [(7, 0, true, m2 78 r2), (5, 1, true, m1 77 r1), (0, 5, true, 74), (1, 1, true, x1), (3, 2, true, x3), (4, 0, true, x4)] [(2, true, r7)] (sM s m7))
            refine hY _ _ _ _ ?_
            exact hQ r7 m7 h
        · have h := h.2 hc
          refine hY _ _ _ _ (hY _ _ _ _ (hY _ _ _ _ (?_ : Y 85 [(7, 0, true, m2 78 r2), (5, 1, true, m1 77 r1), (0, 5, true, 74), (1, 1, true, x1), (3, 2, true, x3), (4, 0, true, x4)] [(1, true, x1), (5, true, 74), (5, true, 74)] (sM s m4))))
          refine hY _ _ _ _ (?_ : Y 86 [(7, 0, true, m2 78 r2), (5, 1, true, m1 77 r1), (0, 5, true, 74), (1, 1, true, x1), (3, 2, true, x3), (4, 0, true, x4)] [(2, true, 0), (1, true, x1), (5, true, 74), (5, true, 74)] (sM s m4))
          refine hY _ _ _ _ ?_
          refine Exists.intro _ (And.intro (wc_236_r74_1t_2t x1 0 _ _ h) (fun r8 m8 h => ?_))
          refine hY _ _ _ _ (hY _ _ _ _ (hY _ _ _ _ (?_ : Y 92 [(7, 0, true, m2 78 r2), (5, 1, true, m1 77 r1), (0, 5, true, 74), (1, 1, true, x1), (3, 2, true, x3), (4, 0, true, x4)] [(2, true, 1), (1, true, x1), (5, true, 74), (1, true, r8), (5, true, 74)] (sM s m8))))
          refine hY _ _ _ _ ?_
          refine Exists.intro _ (And.intro (wc_236_r74_1t_2t x1 1 _ _ h) (fun r9 m9 h => ?_))
          show Y 95 [(7, 0, true, m2 78 r2), (5, 1, true, m1 77 r1), (0, 5, true, 74), (1, 1, true, x1), (3, 2, true, x3), (4, 0, true, x4)] [(1, true, r9), (1, true, r8), (5, true, 74)] (sM s m9)
          refine hY _ _ _ _ ?_
          refine Exists.intro _ (And.intro (wc_247_r74_1t_1t r8 r9 _ _ h) (fun r10 m10 h => ?_))
          show Y 98 [(7, 0, true, m2 78 r2), (5, 1, true, m1 77 r1), (0, 5, true, 74), (1, 1, true, x1), (3, 2, true, x3), (4, 0, true, x4)] [(2, true, r10)] (sM s m10)
          refine hY _ _ _ _ ?_
          refine And.intro (fun hc => ?_) (fun hc => ?_)
          · have h := h.1 hc
            refine hY _ _ _ _ (hY _ _ _ _ (?_ : Y 113 [(7, 0, true, m2 78 r2), (5, 1, true, m1 77 r1), (0, 5, true, 74), (1, 1, true, x1), (3, 2, true, x3), (4, 0, true, x4)] [(2, true, 1)] (sM s m10)))
            refine hY _ _ _ _ ?_
            exact hQ 1 m10 h
          · have h := h.2 hc
            refine hY _ _ _ _ (?_ : Y 102 [(7, 0, true, m2 78 r2), (5, 1, true, m1 77 r1), (0, 5, true, 74), (1, 1, true, x1), (3, 2, true, x3), (4, 0, true, x4)] [(5, true, 74)] (sM s m10))
            refine hY _ _ _ _ ?_
            refine Exists.intro _ (And.intro (wc_257_r74 _ _ h) (fun r11 m11 h => ?_))
            show Y 105 [(7, 0, true, m2 78 r2), (5, 1, true, m1 77 r1), (0, 5, true, 74), (1, 1, true, x1), (3, 2, true, x3), (4, 0, true, x4)] [(2, true, r11)] (sM s m11)
            refine hY _ _ _ _ ?_
            refine And.intro (fun hc => ?_) (fun hc => ?_)
            · have h := h.1 hc
              refine hY _ _ _ _ (?_ : Y 113 [(7, 0, true, m2 78 r2), (5, 1, true, m1 77 r1), (0, 5, true, 74), (1, 1, true, x1), (3, 2, true, x3), (4, 0, true, x4)] [(2, true, 0)] (sM s m11))
              refine hY _ _ _ _ ?_
              exact hQ 0 m11 h
            · have h := h.2 hc
              refine hY _ _ _ _ (hY _ _ _ _ (?_ : Y 113 [(7, 0, true, m2 78 r2), (5, 1, true, m1 77 r1), (0, 5, true, 74), (1, 1, true, x1), (3, 2, true, x3), (4, 0, true, x4)] [(2, true, 1)] (sM s m11)))
              refine hY _ _ _ _ ?_
              exact hQ 1 m11 h
      · have h := h.2 hc
        refine hY _ _ _ _ (hY _ _ _ _ (?_ : Y 61 [(7, 0, true, m2 78 r2), (5, 1, true, m1 77 r1), (0, 5, true, 74), (1, 1, true, x1), (3, 2, true, x3), (4, 0, true, x4)] [(1, true, x1), (5, true, 74)] (sM s m3)))
        refine hY _ _ _ _ ?_
        refine Exists.intro _ (And.intro (wc_263_r74_1t x1 _ _ h) (fun r12 m12 h => ?_))
        show Y 64 [(7, 0, true, m2 78 r2), (5, 1, true, m1 77 r1), (0, 5, true, 74), (1, 1, true, x1), (3, 2, true, x3), (4, 0, true, x4)] [(2, true, r12)] (sM s m12)
        refine hY _ _ _ _ ?_
        exact hQ r12 m12 h
    · have h := h.2 hc
      refine hY _ _ _ _ (hY _ _ _ _ (hY _ _ _ _ (?_ : Y 47 [(7, 0, true, m2 78 r2), (5, 1, true, m1 77 r1), (0, 5, true, 74), (1, 1, true, x1), (3, 2, true, x3), (4, 0, true, x4)] [(2, true, x3), (1, true, m1 77 r1), (5, true, 74)] (sM s m3))))
      refine hY _ _ _ _ (?_ : Y 49 [(7, 0, true, m2 78 r2), (5, 1, true, m1 77 r1), (0, 5, true, 74), (1, 1, true, x1), (3, 2, true, x3), (4, 0, true, x4)] [(0, true, x4), (2, true, x3), (1, true, m1 77 r1), (5, true, 74)] (sM s m3))
      refine hY _ _ _ _ ?_
      refine Exists.intro _ (And.intro (wc_266_r74_1t_2t_0t (m1 77 r1) x3 x4 _ _ h) (fun r13 m13 h => ?_))
      show Y 52 [(7, 0, true, m2 78 r2), (5, 1, true, m1 77 r1), (0, 5, true, 74), (1, 1, true, x1), (3, 2, true, x3), (4, 0, true, x4)] [(2, true, r13)] (sM s m13)
      refine hY _ _ _ _ ?_
      exact hQ r13 m13 h
  · have h := h.2 hc
    refine hY _ _ _ _ (hY _ _ _ _ (?_ : Y 34 [(7, 0, true, m2 78 r2), (5, 1, true, m1 77 r1), (0, 5, true, 74), (1, 1, true, x1), (3, 2, true, x3), (4, 0, true, x4)] [(1, true, x1), (5, true, 74)] (sM s m3)))
    refine hY _ _ _ _ ?_
    refine Exists.intro _ (And.intro (wc_260_r74_1t x1 _ _ h) (fun r14 m14 h => ?_))
    show Y 37 [(7, 0, true, m2 78 r2), (5, 1, true, m1 77 r1), (0, 5, true, 74), (1, 1, true, x1), (3, 2, true, x3), (4, 0, true, x4)] [(2, true, r14)] (sM s m14)
    refine hY _ _ _ _ ?_
    exact hQ r14 m14 h
def we_267 : sFf := sEf 8 [(0, 5, 74), (1, 1, 0), (3, 2, 0), (4, 0, 0)] (fun xs s Q => ap3 (fun x1 x3 x4 => wq_267 x1 x3 x4 s.2.2.2 Q) xs)
theorem we_267_ok : kS dM 9 267 2 (.inl we_267) := sEf_ok (mi := im_m267) rfl rfl rfl (fun R xs s r1 hb => by obtain ⟨x1, x3, x4, rfl, hb⟩ := ap3_ok hb; exact wk_267_0 _ R s x1 x3 x4 (fun x m' hx => ⟨m', rfl, hx⟩) r1 hb)
/-- LMModel.depthOf(I)I -/
def wf_268_4 (Q : Int → hy_m → Prop) (P4 : Int → Int → hy_m → Prop) (x2 : Int) (x3 : Int) (m : hy_m) : Prop := (x3 = (-9) → (Q x2 m)) ∧ (x3 ≠ (-9) → (0 ≤ x3 ∧ x3 < 1300 ∧ (hy_r 0 (x2 + 1) ∧ (P4 (x2 + 1) (m 102 x3) m))))
def wq_268_4 (x2 : Int) (x3 : Int) (m : hy_m) (Q : Int → hy_m → Prop) : Prop := wL2 hy_m (wf_268_4 Q) x2 x3 m
def wq_268 (x1 : Int) (m : hy_m) (Q : Int → hy_m → Prop) : Prop := wq_268_4 0 x1 m Q
def cs_268 : List (Nat × Nat × sFS) := []
theorem cs_268_ok : kCs dM 0 cs_268 := kCs_n
def lb_268_4 (s : sS) (Q : sQ) (P4 : Int → Int → hy_m → Prop) (R : Int → hy_m → Prop) (x2 : Int) (x3 : Int) : Nat → Option (sL → sS → Prop) := sLb [(4, fun lv t => sG [(0, 5, 74), (2, 0, 0), (3, 0, 0)] lv (ap2 (fun w2 w3 => ∃ m', t = sM s m' ∧ P4 w2 w3 m')))]
set_option maxRecDepth 30000 in
set_option maxHeartbeats 1000000 in
theorem wj_268_4 (Q : sQ) (R : Int → hy_m → Prop) (s : sS) (P4 : Int → Int → hy_m → Prop) (x2 : Int) (x3 : Int) (m : hy_m) (hP4 : ∀ (z2 z3 : Int) (m : hy_m), P4 z2 z3 m → sRg [(0, 5, 74), (2, 0, 0), (3, 0, 0)] [z2, z3] → kX dM 0 im_m268 0 4 (sCan [(0, 5, 74), (2, 0, 0), (3, 0, 0)] [z2, z3]) [] (sM s m) Q) (hQ : ∀ x m', R x m' → Q x (sM s m')) (hr : sRg [(0, 5, 74), (2, 0, 0), (3, 0, 0)] [x2, x3]) (h : wf_268_4 R P4 x2 x3 m) : kX dM 0 im_m268 0 4 (sCan [(0, 5, 74), (2, 0, 0), (3, 0, 0)] [x2, x3]) [] (sM s m) Q := by
  unfold wf_268_4 at h
  refine wz2_ok (cs := cs_268) (wr := []) (lb := lb_268_4 s Q P4 R x2 x3) cs_268_ok (kLb_c (kLab (Bd := fun xs t => ap2 (fun w2 w3 => ∃ m', t = sM s m' ∧ P4 w2 w3 m') xs) rfl (fun xs t r1 r2 hb => by obtain ⟨w2, w3, rfl, hb⟩ := ap2_ok hb; obtain ⟨m', rfl, hx⟩ := hb; exact hP4 _ _ m' hx r1)) kLb_n) (okL_can rfl hr) (fun Y hY hl => ?_)
  have l4 := hl 4 _ rfl
  refine hY _ _ _ _ (hY _ _ _ _ (?_ : Y 7 [(0, 5, true, 74), (2, 0, true, x2), (3, 0, true, x3)] [(0, true, (-9)), (0, true, x3)] (sM s m)))
  refine hY _ _ _ _ ?_
  refine And.intro (fun hc => ?_) (fun hc => ?_)
  · have h := h.1 hc
    refine hY _ _ _ _ (?_ : Y 24 [(0, 5, true, 74), (2, 0, true, x2), (3, 0, true, x3)] [(0, true, x2)] (sM s m))
    refine hY _ _ _ _ ?_
    exact hQ x2 m h
  · have h := h.2 hc
    refine hY _ _ _ _ (hY _ _ _ _ (hY _ _ _ _ (?_ : Y 17 [(2, 0, false, x2 + 1), (0, 5, true, 74), (3, 0, true, x3)] [(5, true, 102)] (sM s m))))
    refine hY _ _ _ _ (?_ : Y 18 [(2, 0, false, x2 + 1), (0, 5, true, 74), (3, 0, true, x3)] [(0, true, x3), (5, true, 102)] (sM s m))
    refine hY _ _ _ _ ?_
    refine (And.intro h.1 (And.intro h.2.1 ?_))
    refine hY _ _ _ _ (hY _ _ _ _ (?_ : Y 4 [(3, 0, true, m 102 x3), (2, 0, false, x2 + 1), (0, 5, true, 74)] [] (sM s m)))
    refine l4 _ _ ?_
    refine And.intro h.2.2.1 ?_
    exact (Exists.intro m (And.intro rfl h.2.2.2))
theorem wk_268_4 (Q : sQ) (R : Int → hy_m → Prop) (s : sS) (x2 : Int) (x3 : Int) (hQ : ∀ x m', R x m' → Q x (sM s m')) (hr : sRg [(0, 5, 74), (2, 0, 0), (3, 0, 0)] [x2, x3]) (h : wq_268_4 x2 x3 s.2.2.2 R) : kX dM 0 im_m268 0 4 (sCan [(0, 5, 74), (2, 0, 0), (3, 0, 0)] [x2, x3]) [] s Q :=
  h (fun x2 x3 m => sRg [(0, 5, 74), (2, 0, 0), (3, 0, 0)] [x2, x3] → kX dM 0 im_m268 0 4 (sCan [(0, 5, 74), (2, 0, 0), (3, 0, 0)] [x2, x3]) [] (sM s m) Q) (fun x2 x3 m h hr => wj_268_4 Q R s (fun x2 x3 m => sRg [(0, 5, 74), (2, 0, 0), (3, 0, 0)] [x2, x3] → kX dM 0 im_m268 0 4 (sCan [(0, 5, 74), (2, 0, 0), (3, 0, 0)] [x2, x3]) [] (sM s m) Q) x2 x3 m  (fun _ _ _ hp hr => hp hr) hQ hr h) hr
def lb_268_0 (s : sS) (Q : sQ) (R : Int → hy_m → Prop) (x1 : Int) : Nat → Option (sL → sS → Prop) := sLb [(4, fun lv t => sG [(0, 5, 74), (2, 0, 0), (3, 0, 0)] lv (ap2 (fun w2 w3 => ∃ m', t = sM s m' ∧ wq_268_4 w2 w3 m' R)))]
set_option maxRecDepth 30000 in
set_option maxHeartbeats 1000000 in
theorem wk_268_0 (Q : sQ) (R : Int → hy_m → Prop) (s : sS) (x1 : Int) (hQ : ∀ x m', R x m' → Q x (sM s m')) (hr : sRg [(0, 5, 74), (1, 0, 0)] [x1]) (h : wq_268 x1 s.2.2.2 R) : kX dM 0 im_m268 0 0 (sCan [(0, 5, 74), (1, 0, 0)] [x1]) [] s Q := by
  unfold wq_268 at h
  refine wz2_ok (cs := cs_268) (wr := []) (lb := lb_268_0 s Q R x1) cs_268_ok (kLb_c (kLab (Bd := fun xs t => ap2 (fun w2 w3 => ∃ m', t = sM s m' ∧ wq_268_4 w2 w3 m' R) xs) rfl (fun xs t r1 r2 hb => by obtain ⟨w2, w3, rfl, hb⟩ := ap2_ok hb; obtain ⟨m', rfl, hx⟩ := hb; exact wk_268_4 Q R (sM s m') _ _ (fun x m'' hy => hQ x m'' hy) r1 hx)) kLb_n) (okL_can rfl hr) (fun Y hY hl => ?_)
  have l4 := hl 4 _ rfl
  refine hY _ _ _ _ (hY _ _ _ _ (hY _ _ _ _ (?_ : Y 3 [(2, 2, true, 0), (0, 5, true, 74), (1, 0, true, x1)] [(0, true, x1)] s)))
  refine hY _ _ _ _ (?_ : Y 4 [(3, 0, true, x1), (2, 2, true, 0), (0, 5, true, 74), (1, 0, true, x1)] [] s)
  refine l4 _ _ ?_
  exact (Exists.intro s.2.2.2 (And.intro rfl h))
def we_268 : sFf := sEf 4 [(0, 5, 74), (1, 0, 0)] (fun xs s Q => ap1 (fun x1 => wq_268 x1 s.2.2.2 Q) xs)
theorem we_268_ok : kS dM 1 268 0 (.inl we_268) := sEf_ok (mi := im_m268) rfl rfl rfl (fun R xs s r1 hb => by obtain ⟨x1, rfl, hb⟩ := ap1_ok hb; exact wk_268_0 _ R s x1 (fun x m' hx => ⟨m', rfl, hx⟩) r1 hb)
/-- LMModel.goalOf(I)J -/
def wq_269 (x1 : Int) (m : hy_m) (Q : Int → hy_m → Prop) : Prop := 0 ≤ x1 ∧ x1 < 1300 ∧ (((m 99 x1) ≠ (-9) → (0 ≤ x1 ∧ x1 < 1300 ∧ (0 ≤ ((5 * (m 99 x1)) + (m 100 x1)) ∧ ((5 * (m 99 x1)) + (m 100 x1)) < 140 ∧ (0 ≤ x1 ∧ x1 < 1300 ∧ (wq_234 (m 83 ((5 * (m 99 x1)) + (m 100 x1))) (m 101 x1) m (fun r1 m1 => Q r1 m1)))))) ∧ ((m 99 x1) = (-9) → (0 ≤ x1 ∧ x1 < 1300 ∧ (Q (m 104 x1) m))))
def cs_269 : List (Nat × Nat × sFS) := [(234, 1, .inl we_234)]
theorem cs_269_ok : kCs dM 1 cs_269 := (kCs_c (Or.inr (Or.inl rfl)) (we_234_ok.deep (by decide)) kCs_n)
def lb_269_0 (s : sS) (Q : sQ) (R : Int → hy_m → Prop) (x1 : Int) : Nat → Option (sL → sS → Prop) := sLb []
set_option maxRecDepth 30000 in
set_option maxHeartbeats 1000000 in
theorem wk_269_0 (Q : sQ) (R : Int → hy_m → Prop) (s : sS) (x1 : Int) (hQ : ∀ x m', R x m' → Q x (sM s m')) (hr : sRg [(0, 5, 74), (1, 0, 0)] [x1]) (h : wq_269 x1 s.2.2.2 R) : kX dM 1 im_m269 1 0 (sCan [(0, 5, 74), (1, 0, 0)] [x1]) [] s Q := by
  unfold wq_269 at h
  refine wz2_ok (cs := cs_269) (wr := []) (lb := lb_269_0 s Q R x1) cs_269_ok kLb_n (okL_can rfl hr) (fun Y hY hl => ?_)
  refine hY _ _ _ _ (hY _ _ _ _ (hY _ _ _ _ (?_ : Y 5 [(0, 5, true, 74), (1, 0, true, x1)] [(0, true, x1), (5, true, 99)] s)))
  refine hY _ _ _ _ ?_
  refine (And.intro h.1 (And.intro h.2.1 ?_))
  refine hY _ _ _ _ (hY _ _ _ _ (hY _ _ _ _ (?_ : Y 10 [(2, 0, true, s.2.2.2 99 x1), (0, 5, true, 74), (1, 0, true, x1)] [(0, true, (-9)), (0, true, s.2.2.2 99 x1)] s)))
  refine hY _ _ _ _ ?_
  refine And.intro (fun hc => ?_) (fun hc => ?_)
  · have h := h.2.2.1 hc
    refine hY _ _ _ _ (hY _ _ _ _ (hY _ _ _ _ (?_ : Y 27 [(2, 0, true, s.2.2.2 99 x1), (0, 5, true, 74), (1, 0, true, x1)] [(0, true, 5), (5, true, 83)] s)))
    refine hY _ _ _ _ (hY _ _ _ _ (hY _ _ _ _ (?_ : Y 30 [(2, 0, true, s.2.2.2 99 x1), (0, 5, true, 74), (1, 0, true, x1)] [(5, true, 74), (0, false, 5 * (s.2.2.2 99 x1)), (5, true, 83)] s)))
    refine hY _ _ _ _ (hY _ _ _ _ (?_ : Y 34 [(2, 0, true, s.2.2.2 99 x1), (0, 5, true, 74), (1, 0, true, x1)] [(0, true, x1), (5, true, 100), (0, false, 5 * (s.2.2.2 99 x1)), (5, true, 83)] s))
    refine hY _ _ _ _ ?_
    refine (And.intro h.1 (And.intro h.2.1 ?_))
    refine hY _ _ _ _ (?_ : Y 36 [(2, 0, true, s.2.2.2 99 x1), (0, 5, true, 74), (1, 0, true, x1)] [(0, false, (5 * (s.2.2.2 99 x1)) + (s.2.2.2 100 x1)), (5, true, 83)] s)
    refine hY _ _ _ _ ?_
    refine (And.intro h.2.2.1 (And.intro h.2.2.2.1 ?_))
    refine hY _ _ _ _ (hY _ _ _ _ (hY _ _ _ _ (?_ : Y 42 [(2, 0, true, s.2.2.2 99 x1), (0, 5, true, 74), (1, 0, true, x1)] [(0, true, x1), (5, true, 101), (0, true, s.2.2.2 83 ((5 * (s.2.2.2 99 x1)) + (s.2.2.2 100 x1)))] s)))
    refine hY _ _ _ _ ?_
    refine (And.intro h.2.2.2.2.1 (And.intro h.2.2.2.2.2.1 ?_))
    show Y 43 [(2, 0, true, s.2.2.2 99 x1), (0, 5, true, 74), (1, 0, true, x1)] [(0, true, s.2.2.2 101 x1), (0, true, s.2.2.2 83 ((5 * (s.2.2.2 99 x1)) + (s.2.2.2 100 x1)))] s
    refine hY _ _ _ _ ?_
    refine Exists.intro _ (And.intro (wc_234_0t_0t (s.2.2.2 83 ((5 * (s.2.2.2 99 x1)) + (s.2.2.2 100 x1))) (s.2.2.2 101 x1) _ _ h.2.2.2.2.2.2) (fun r1 m1 h => ?_))
    show Y 46 [(2, 0, true, s.2.2.2 99 x1), (0, 5, true, 74), (1, 0, true, x1)] [(1, true, r1)] (sM s m1)
    refine hY _ _ _ _ ?_
    exact hQ r1 m1 h
  · have h := h.2.2.2 hc
    refine hY _ _ _ _ (hY _ _ _ _ (hY _ _ _ _ (?_ : Y 18 [(2, 0, true, s.2.2.2 99 x1), (0, 5, true, 74), (1, 0, true, x1)] [(0, true, x1), (5, true, 104)] s)))
    refine hY _ _ _ _ ?_
    refine (And.intro h.1 (And.intro h.2.1 ?_))
    refine hY _ _ _ _ (?_ : Y 46 [(2, 0, true, s.2.2.2 99 x1), (0, 5, true, 74), (1, 0, true, x1)] [(1, true, s.2.2.2 104 x1)] s)
    refine hY _ _ _ _ ?_
    exact hQ (s.2.2.2 104 x1) s.2.2.2 h.2.2
def we_269 : sFf := sEf 3 [(0, 5, 74), (1, 0, 0)] (fun xs s Q => ap1 (fun x1 => wq_269 x1 s.2.2.2 Q) xs)
theorem we_269_ok : kS dM 2 269 1 (.inl we_269) := sEf_ok (mi := im_m269) rfl rfl rfl (fun R xs s r1 hb => by obtain ⟨x1, rfl, hb⟩ := ap1_ok hb; exact wk_269_0 _ R s x1 (fun x m' hx => ⟨m', rfl, hx⟩) r1 hb)
/-- LMModel.isCall(J)Z -/
def wq_270 (x1 : Int) (m : hy_m) (Q : Int → hy_m → Prop) : Prop := wq_232 x1 m (fun r1 m1 => 0 ≤ r1 ∧ r1 < 3584 ∧ (wq_171 99 97 108 108 m1 (fun r2 m2 => ((m1 77 r1) ≠ r2 → (Q 0 m2)) ∧ ((m1 77 r1) = r2 → (wq_232 x1 m2 (fun r3 m3 => 0 ≤ r3 ∧ r3 < 3584 ∧ (((m3 78 r3) ≠ 1 → (Q 0 m3)) ∧ ((m3 78 r3) = 1 → (Q 1 m3)))))))))
def cs_270 : List (Nat × Nat × sFS) := [(171, 1, .inl we_171), (232, 0, .inl we_232)]
theorem cs_270_ok : kCs dM 1 cs_270 := (kCs_c (Or.inr (Or.inl rfl)) (we_171_ok.deep (by decide)) (kCs_c (Or.inl rfl) (we_232_ok.deep (by decide)) kCs_n))
def lb_270_0 (s : sS) (Q : sQ) (R : Int → hy_m → Prop) (x1 : Int) : Nat → Option (sL → sS → Prop) := sLb []
set_option maxRecDepth 30000 in
set_option maxHeartbeats 1000000 in
theorem wk_270_0 (Q : sQ) (R : Int → hy_m → Prop) (s : sS) (x1 : Int) (hQ : ∀ x m', R x m' → Q x (sM s m')) (hr : sRg [(0, 5, 74), (1, 1, 0)] [x1]) (h : wq_270 x1 s.2.2.2 R) : kX dM 1 im_m270 2 0 (sCan [(0, 5, 74), (1, 1, 0)] [x1]) [] s Q := by
  unfold wq_270 at h
  refine wz2_ok (cs := cs_270) (wr := []) (lb := lb_270_0 s Q R x1) cs_270_ok kLb_n (okL_can rfl hr) (fun Y hY hl => ?_)
  refine hY _ _ _ _ (hY _ _ _ _ (hY _ _ _ _ (?_ : Y 5 [(0, 5, true, 74), (1, 1, true, x1)] [(1, true, x1), (5, true, 77)] s)))
  refine hY _ _ _ _ ?_
  refine Exists.intro _ (And.intro (wc_232_1t x1 _ _ h) (fun r1 m1 h => ?_))
  show Y 8 [(0, 5, true, 74), (1, 1, true, x1)] [(0, true, r1), (5, true, 77)] (sM s m1)
  refine hY _ _ _ _ ?_
  refine (And.intro h.1 (And.intro h.2.1 ?_))
  refine hY _ _ _ _ (hY _ _ _ _ (hY _ _ _ _ (?_ : Y 15 [(0, 5, true, 74), (1, 1, true, x1)] [(0, true, 108), (0, true, 97), (0, true, 99), (1, true, m1 77 r1)] (sM s m1))))
  refine hY _ _ _ _ (?_ : Y 17 [(0, 5, true, 74), (1, 1, true, x1)] [(0, true, 108), (0, true, 108), (0, true, 97), (0, true, 99), (1, true, m1 77 r1)] (sM s m1))
  refine hY _ _ _ _ ?_
  refine Exists.intro _ (And.intro (wc_171_0t_0t_0t_0t 99 97 108 108 _ _ h.2.2) (fun r2 m2 h => ?_))
  show Y 20 [(0, 5, true, 74), (1, 1, true, x1)] [(1, true, r2), (1, true, m1 77 r1)] (sM s m2)
  refine hY _ _ _ _ ?_
  refine And.intro (fun hc => ?_) (fun hc => ?_)
  · have h := h.1 hc
    refine hY _ _ _ _ (?_ : Y 42 [(0, 5, true, 74), (1, 1, true, x1)] [(2, true, 0)] (sM s m2))
    refine hY _ _ _ _ ?_
    exact hQ 0 m2 h
  · have h := h.2 hc
    refine hY _ _ _ _ (hY _ _ _ _ (hY _ _ _ _ (?_ : Y 29 [(0, 5, true, 74), (1, 1, true, x1)] [(1, true, x1), (5, true, 78)] (sM s m2))))
    refine hY _ _ _ _ ?_
    refine Exists.intro _ (And.intro (wc_232_1t x1 _ _ h) (fun r3 m3 h => ?_))
    show Y 32 [(0, 5, true, 74), (1, 1, true, x1)] [(0, true, r3), (5, true, 78)] (sM s m3)
    refine hY _ _ _ _ ?_
    refine (And.intro h.1 (And.intro h.2.1 ?_))
    refine hY _ _ _ _ (?_ : Y 34 [(0, 5, true, 74), (1, 1, true, x1)] [(2, true, 1), (0, true, m3 78 r3)] (sM s m3))
    refine hY _ _ _ _ ?_
    refine And.intro (fun hc => ?_) (fun hc => ?_)
    · have h := h.2.2.1 hc
      refine hY _ _ _ _ (?_ : Y 42 [(0, 5, true, 74), (1, 1, true, x1)] [(2, true, 0)] (sM s m3))
      refine hY _ _ _ _ ?_
      exact hQ 0 m3 h
    · have h := h.2.2.2 hc
      refine hY _ _ _ _ (hY _ _ _ _ (?_ : Y 42 [(0, 5, true, 74), (1, 1, true, x1)] [(2, true, 1)] (sM s m3)))
      refine hY _ _ _ _ ?_
      exact hQ 1 m3 h
def we_270 : sFf := sEf 3 [(0, 5, 74), (1, 1, 0)] (fun xs s Q => ap1 (fun x1 => wq_270 x1 s.2.2.2 Q) xs)
theorem we_270_ok : kS dM 2 270 2 (.inl we_270) := sEf_ok (mi := im_m270) rfl rfl rfl (fun R xs s r1 hb => by obtain ⟨x1, rfl, hb⟩ := ap1_ok hb; exact wk_270_0 _ R s x1 (fun x m' hx => ⟨m', rfl, hx⟩) r1 hb)
