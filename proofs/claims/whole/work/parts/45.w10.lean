/-- LMModel.putCompound(J)V -/
def wf_291_82 (x1 : Int) (Q : Int → hy_m → Prop) (P82 : Int → hy_m → Prop) (x4 : Int) (m : hy_m) : Prop := (x4 < 0 → (Q 0 m)) ∧ (0 ≤ x4 → (wq_236 x1 x4 m (fun r1 m1 => wq_290 r1 m1 (fun _ m2 => (x4 ≤ 0 → (hy_r 0 (x4 + (-1)) ∧ (P82 (x4 + (-1)) m2))) ∧ (0 < x4 → (wq_290 1152921504606847020 m2 (fun _ m3 => hy_r 0 (x4 + (-1)) ∧ (P82 (x4 + (-1)) m3))))))))
def wq_291_82 (x1 : Int) (x4 : Int) (m : hy_m) (Q : Int → hy_m → Prop) : Prop := wL1 hy_m (wf_291_82 x1 Q) x4 m
def wq_291 (x1 : Int) (m : hy_m) (Q : Int → hy_m → Prop) : Prop := wq_232 x1 m (fun r1 m1 => 0 ≤ r1 ∧ r1 < 3584 ∧ (((m1 77 r1) ≠ 2 → (0 ≤ r1 ∧ r1 < 3584 ∧ (wq_288 (m1 77 r1) m1 (fun _ m2 => wq_286 40 m2 (fun _ m3 => wq_290 1152921504606847017 m3 (fun _ m4 => 0 ≤ r1 ∧ r1 < 3584 ∧ (hy_r 0 ((m4 78 r1) - 1) ∧ (wq_291_82 x1 ((m4 78 r1) - 1) m4 Q)))))))) ∧ ((m1 77 r1) = 2 → (wq_286 91 m1 (fun _ m5 => wq_236 x1 1 m5 (fun r6 m6 => wq_290 (jO 576460752303423488 r6) m6 (fun _ m7 => wq_236 x1 0 m7 (fun r8 m8 => wq_290 r8 m8 (fun _ m9 => Q 0 m9)))))))))
theorem wc_290_r74_1t (x1 : Int) (s : sS) (R : Int → hy_m → Prop) (h : wq_290 x1 s.2.2.2 R) : we_290 [(5, true, 74), (1, true, x1)] s R := h
theorem wc_288_r74_1t (x1 : Int) (s : sS) (R : Int → hy_m → Prop) (h : wq_288 x1 s.2.2.2 R) : we_288 [(5, true, 74), (1, true, x1)] s R := h
def cs_291 : List (Nat × Nat × sFS) := [(232, 0, .inl we_232), (236, 1, .inl we_236), (286, 9, .inl we_286), (288, 9, .inl we_288), (290, 9, .inl we_290)]
theorem cs_291_ok : kCs dM 2 cs_291 := (kCs_c (Or.inl rfl) (we_232_ok.deep (by decide)) (kCs_c (Or.inr (Or.inl rfl)) (we_236_ok.deep (by decide)) (kCs_c (Or.inr (Or.inr (Or.inr (Or.inr rfl)))) (we_286_ok.deep (by decide)) (kCs_c (Or.inr (Or.inr (Or.inr (Or.inr rfl)))) (we_288_ok.deep (by decide)) (kCs_c (Or.inr (Or.inr (Or.inr (Or.inr rfl)))) (we_290_ok.deep (by decide)) kCs_n)))))
def lb_291_82 (s : sS) (Q : sQ) (P82 : Int → hy_m → Prop) (R : Int → hy_m → Prop) (x1 : Int) (x4 : Int) : Nat → Option (sL → sS → Prop) := sLb [(82, fun lv t => sG [(0, 5, 74), (1, 1, 0), (4, 0, 0)] lv (ap2 (fun w1 w4 => ∃ m', t = sM s m' ∧ w1 = x1 ∧ P82 w4 m')))]
set_option maxRecDepth 30000 in
set_option maxHeartbeats 1000000 in
theorem wj_291_82 (Q : sQ) (R : Int → hy_m → Prop) (s : sS) (P82 : Int → hy_m → Prop) (x1 : Int) (x4 : Int) (m : hy_m) (hP82 : ∀ (z4 : Int) (m : hy_m), P82 z4 m → sRg [(0, 5, 74), (1, 1, 0), (4, 0, 0)] [x1, z4] → kX dM 2 im_m291 9 82 (sCan [(0, 5, 74), (1, 1, 0), (4, 0, 0)] [x1, z4]) [] (sM s m) Q) (hQ : ∀ x m', R x m' → Q x (sM s m')) (hr : sRg [(0, 5, 74), (1, 1, 0), (4, 0, 0)] [x1, x4]) (h : wf_291_82 x1 R P82 x4 m) : kX dM 2 im_m291 9 82 (sCan [(0, 5, 74), (1, 1, 0), (4, 0, 0)] [x1, x4]) [] (sM s m) Q := by
  unfold wf_291_82 at h
  refine wz2_ok (cs := cs_291) (wr := []) (lb := lb_291_82 s Q P82 R x1 x4) cs_291_ok (kLb_c (kLab (Bd := fun xs t => ap2 (fun w1 w4 => ∃ m', t = sM s m' ∧ w1 = x1 ∧ P82 w4 m') xs) rfl (fun xs t r1 r2 hb => by obtain ⟨w1, w4, rfl, hb⟩ := ap2_ok hb; obtain ⟨m', rfl, rfl, hx⟩ := hb; exact hP82 _ m' hx r1)) kLb_n) (okL_can rfl hr) (fun Y hY hl => ?_)
  have l82 := hl 82 _ rfl
  refine hY _ _ _ _ (?_ : Y 84 [(0, 5, true, 74), (1, 1, true, x1), (4, 0, true, x4)] [(0, true, x4)] (sM s m))
  refine hY _ _ _ _ ?_
  refine And.intro (fun hc => ?_) (fun hc => ?_)
  · have h := h.1 hc
    show Y 116 [(0, 5, true, 74), (1, 1, true, x1), (4, 0, true, x4)] [] (sM s m)
    refine hY _ _ _ _ ?_
    exact hQ 0 m h
  · have h := h.2 hc
    refine hY _ _ _ _ (hY _ _ _ _ (hY _ _ _ _ (?_ : Y 90 [(0, 5, true, 74), (1, 1, true, x1), (4, 0, true, x4)] [(1, true, x1), (5, true, 74), (5, true, 74)] (sM s m))))
    refine hY _ _ _ _ (?_ : Y 92 [(0, 5, true, 74), (1, 1, true, x1), (4, 0, true, x4)] [(0, true, x4), (1, true, x1), (5, true, 74), (5, true, 74)] (sM s m))
    refine hY _ _ _ _ ?_
    refine Exists.intro _ (And.intro (wc_236_r74_1t_0t x1 x4 _ _ h) (fun r1 m1 h => ?_))
    show Y 95 [(0, 5, true, 74), (1, 1, true, x1), (4, 0, true, x4)] [(1, true, r1), (5, true, 74)] (sM s m1)
    refine hY _ _ _ _ ?_
    refine Exists.intro _ (And.intro (wc_290_r74_1t r1 _ _ h) (fun r2 m2 h => ?_))
    refine hY _ _ _ _ (?_ : Y 100 [(0, 5, true, 74), (1, 1, true, x1), (4, 0, true, x4)] [(0, true, x4)] (sM s m2))
    refine hY _ _ _ _ ?_
    refine And.intro (fun hc => ?_) (fun hc => ?_)
    · have h := h.1 hc
      refine hY _ _ _ _ (hY _ _ _ _ (?_ : Y 82 [(4, 0, false, x4 + (-1)), (0, 5, true, 74), (1, 1, true, x1)] [] (sM s m2)))
      refine l82 _ _ ?_
      refine And.intro h.1 ?_
      exact (Exists.intro m2 (And.intro rfl (And.intro rfl h.2)))
    · have h := h.2 hc
      refine hY _ _ _ _ (hY _ _ _ _ (?_ : Y 107 [(0, 5, true, 74), (1, 1, true, x1), (4, 0, true, x4)] [(1, true, 1152921504606847020), (5, true, 74)] (sM s m2)))
      refine hY _ _ _ _ ?_
      refine Exists.intro _ (And.intro (wc_290_r74_1t 1152921504606847020 _ _ h) (fun r3 m3 h => ?_))
      refine hY _ _ _ _ (hY _ _ _ _ (?_ : Y 82 [(4, 0, false, x4 + (-1)), (0, 5, true, 74), (1, 1, true, x1)] [] (sM s m3)))
      refine l82 _ _ ?_
      refine And.intro h.1 ?_
      exact (Exists.intro m3 (And.intro rfl (And.intro rfl h.2)))
theorem wk_291_82 (Q : sQ) (R : Int → hy_m → Prop) (s : sS) (x1 : Int) (x4 : Int) (hQ : ∀ x m', R x m' → Q x (sM s m')) (hr : sRg [(0, 5, 74), (1, 1, 0), (4, 0, 0)] [x1, x4]) (h : wq_291_82 x1 x4 s.2.2.2 R) : kX dM 2 im_m291 9 82 (sCan [(0, 5, 74), (1, 1, 0), (4, 0, 0)] [x1, x4]) [] s Q :=
  h (fun x4 m => sRg [(0, 5, 74), (1, 1, 0), (4, 0, 0)] [x1, x4] → kX dM 2 im_m291 9 82 (sCan [(0, 5, 74), (1, 1, 0), (4, 0, 0)] [x1, x4]) [] (sM s m) Q) (fun x4 m h hr => wj_291_82 Q R s (fun x4 m => sRg [(0, 5, 74), (1, 1, 0), (4, 0, 0)] [x1, x4] → kX dM 2 im_m291 9 82 (sCan [(0, 5, 74), (1, 1, 0), (4, 0, 0)] [x1, x4]) [] (sM s m) Q) x1 x4 m  (fun _ _ hp hr => hp hr) hQ hr h) hr
def lb_291_0 (s : sS) (Q : sQ) (R : Int → hy_m → Prop) (x1 : Int) : Nat → Option (sL → sS → Prop) := sLb [(82, fun lv t => sG [(0, 5, 74), (1, 1, 0), (4, 0, 0)] lv (ap2 (fun w1 w4 => ∃ m', t = sM s m' ∧ wq_291_82 w1 w4 m' R)))]
set_option maxRecDepth 30000 in
set_option maxHeartbeats 1000000 in
theorem wk_291_0 (Q : sQ) (R : Int → hy_m → Prop) (s : sS) (x1 : Int) (hQ : ∀ x m', R x m' → Q x (sM s m')) (hr : sRg [(0, 5, 74), (1, 1, 0)] [x1]) (h : wq_291 x1 s.2.2.2 R) : kX dM 2 im_m291 9 0 (sCan [(0, 5, 74), (1, 1, 0)] [x1]) [] s Q := by
  unfold wq_291 at h
  refine wz2_ok (cs := cs_291) (wr := []) (lb := lb_291_0 s Q R x1) cs_291_ok (kLb_c (kLab (Bd := fun xs t => ap2 (fun w1 w4 => ∃ m', t = sM s m' ∧ wq_291_82 w1 w4 m' R) xs) rfl (fun xs t r1 r2 hb => by obtain ⟨w1, w4, rfl, hb⟩ := ap2_ok hb; obtain ⟨m', rfl, hx⟩ := hb; exact wk_291_82 Q R (sM s m') _ _ (fun x m'' hy => hQ x m'' hy) r1 hx)) kLb_n) (okL_can rfl hr) (fun Y hY hl => ?_)
  have l82 := hl 82 _ rfl
  refine hY _ _ _ _ (?_ : Y 1 [(0, 5, true, 74), (1, 1, true, x1)] [(1, true, x1)] s)
  refine hY _ _ _ _ ?_
  refine Exists.intro _ (And.intro (wc_232_1t x1 _ _ h) (fun r1 m1 h => ?_))
  refine hY _ _ _ _ (hY _ _ _ _ (hY _ _ _ _ (?_ : Y 9 [(3, 0, true, r1), (0, 5, true, 74), (1, 1, true, x1)] [(5, true, 77)] (sM s m1))))
  refine hY _ _ _ _ (?_ : Y 10 [(3, 0, true, r1), (0, 5, true, 74), (1, 1, true, x1)] [(0, true, r1), (5, true, 77)] (sM s m1))
  refine hY _ _ _ _ ?_
  refine (And.intro h.1 (And.intro h.2.1 ?_))
  refine hY _ _ _ _ (?_ : Y 14 [(3, 0, true, r1), (0, 5, true, 74), (1, 1, true, x1)] [(1, true, 2), (1, true, m1 77 r1)] (sM s m1))
  refine hY _ _ _ _ ?_
  refine And.intro (fun hc => ?_) (fun hc => ?_)
  · have h := h.2.2.1 hc
    refine hY _ _ _ _ (hY _ _ _ _ (hY _ _ _ _ (?_ : Y 54 [(3, 0, true, r1), (0, 5, true, 74), (1, 1, true, x1)] [(5, true, 77), (5, true, 74)] (sM s m1))))
    refine hY _ _ _ _ (?_ : Y 55 [(3, 0, true, r1), (0, 5, true, 74), (1, 1, true, x1)] [(0, true, r1), (5, true, 77), (5, true, 74)] (sM s m1))
    refine hY _ _ _ _ ?_
    refine (And.intro h.1 (And.intro h.2.1 ?_))
    show Y 56 [(3, 0, true, r1), (0, 5, true, 74), (1, 1, true, x1)] [(1, true, m1 77 r1), (5, true, 74)] (sM s m1)
    refine hY _ _ _ _ ?_
    refine Exists.intro _ (And.intro (wc_288_r74_1t (m1 77 r1) _ _ h.2.2) (fun r2 m2 h => ?_))
    refine hY _ _ _ _ (hY _ _ _ _ (?_ : Y 62 [(3, 0, true, r1), (0, 5, true, 74), (1, 1, true, x1)] [(0, true, 40), (5, true, 74)] (sM s m2)))
    refine hY _ _ _ _ ?_
    refine Exists.intro _ (And.intro (wc_286_r74_0t 40 _ _ h) (fun r3 m3 h => ?_))
    refine hY _ _ _ _ (hY _ _ _ _ (?_ : Y 69 [(3, 0, true, r1), (0, 5, true, 74), (1, 1, true, x1)] [(1, true, 1152921504606847017), (5, true, 74)] (sM s m3)))
    refine hY _ _ _ _ ?_
    refine Exists.intro _ (And.intro (wc_290_r74_1t 1152921504606847017 _ _ h) (fun r4 m4 h => ?_))
    refine hY _ _ _ _ (hY _ _ _ _ (hY _ _ _ _ (?_ : Y 77 [(3, 0, true, r1), (0, 5, true, 74), (1, 1, true, x1)] [(0, true, r1), (5, true, 78)] (sM s m4))))
    refine hY _ _ _ _ ?_
    refine (And.intro h.1 (And.intro h.2.1 ?_))
    refine hY _ _ _ _ (hY _ _ _ _ (hY _ _ _ _ (?_ : Y 82 [(4, 0, false, (m4 78 r1) - 1), (3, 0, true, r1), (0, 5, true, 74), (1, 1, true, x1)] [] (sM s m4))))
    refine l82 _ _ ?_
    refine And.intro h.2.2.1 ?_
    exact (Exists.intro m4 (And.intro rfl h.2.2.2))
  · have h := h.2.2.2 hc
    refine hY _ _ _ _ (hY _ _ _ _ (?_ : Y 21 [(3, 0, true, r1), (0, 5, true, 74), (1, 1, true, x1)] [(0, true, 91), (5, true, 74)] (sM s m1)))
    refine hY _ _ _ _ ?_
    refine Exists.intro _ (And.intro (wc_286_r74_0t 91 _ _ h) (fun r5 m5 h => ?_))
    refine hY _ _ _ _ (hY _ _ _ _ (hY _ _ _ _ (?_ : Y 29 [(3, 0, true, r1), (0, 5, true, 74), (1, 1, true, x1)] [(5, true, 74), (1, true, 576460752303423488), (5, true, 74)] (sM s m5))))
    refine hY _ _ _ _ (hY _ _ _ _ (?_ : Y 31 [(3, 0, true, r1), (0, 5, true, 74), (1, 1, true, x1)] [(2, true, 1), (1, true, x1), (5, true, 74), (1, true, 576460752303423488), (5, true, 74)] (sM s m5)))
    refine hY _ _ _ _ ?_
    refine Exists.intro _ (And.intro (wc_236_r74_1t_2t x1 1 _ _ h) (fun r6 m6 h => ?_))
    show Y 34 [(3, 0, true, r1), (0, 5, true, 74), (1, 1, true, x1)] [(1, true, r6), (1, true, 576460752303423488), (5, true, 74)] (sM s m6)
    refine hY _ _ _ _ (?_ : Y 35 [(3, 0, true, r1), (0, 5, true, 74), (1, 1, true, x1)] [(1, true, jO 576460752303423488 r6), (5, true, 74)] (sM s m6))
    refine hY _ _ _ _ ?_
    refine Exists.intro _ (And.intro (wc_290_r74_1t (jO 576460752303423488 r6) _ _ h) (fun r7 m7 h => ?_))
    refine hY _ _ _ _ (hY _ _ _ _ (hY _ _ _ _ (?_ : Y 41 [(3, 0, true, r1), (0, 5, true, 74), (1, 1, true, x1)] [(1, true, x1), (5, true, 74), (5, true, 74)] (sM s m7))))
    refine hY _ _ _ _ (?_ : Y 42 [(3, 0, true, r1), (0, 5, true, 74), (1, 1, true, x1)] [(2, true, 0), (1, true, x1), (5, true, 74), (5, true, 74)] (sM s m7))
    refine hY _ _ _ _ ?_
    refine Exists.intro _ (And.intro (wc_236_r74_1t_2t x1 0 _ _ h) (fun r8 m8 h => ?_))
    show Y 45 [(3, 0, true, r1), (0, 5, true, 74), (1, 1, true, x1)] [(1, true, r8), (5, true, 74)] (sM s m8)
    refine hY _ _ _ _ ?_
    refine Exists.intro _ (And.intro (wc_290_r74_1t r8 _ _ h) (fun r9 m9 h => ?_))
    show Y 48 [(3, 0, true, r1), (0, 5, true, 74), (1, 1, true, x1)] [] (sM s m9)
    refine hY _ _ _ _ ?_
    exact hQ 0 m9 h
def we_291 : sFf := sEf 5 [(0, 5, 74), (1, 1, 0)] (fun xs s Q => ap1 (fun x1 => wq_291 x1 s.2.2.2 Q) xs)
theorem we_291_ok : kS dM 3 291 9 (.inl we_291) := sEf_ok (mi := im_m291) rfl rfl rfl (fun R xs s r1 hb => by obtain ⟨x1, rfl, hb⟩ := ap1_ok hb; exact wk_291_0 _ R s x1 (fun x m' hx => ⟨m', rfl, hx⟩) r1 hb)
/-- LMModel.putRest(J)V -/
def wq_292_96 (x3 : Int) (m : hy_m) (Q : Int → hy_m → Prop) : Prop := wq_286 124 m (fun _ m1 => wq_290 1152921504606847069 m1 (fun _ m2 => wq_290 x3 m2 (fun _ m3 => Q 0 m3)))
def wq_292_38 (x3 : Int) (m : hy_m) (Q : Int → hy_m → Prop) : Prop := wq_238 x3 m (fun r1 m1 => (r1 ≠ 4 → (wq_292_96 x3 m1 Q)) ∧ (r1 = 4 → (wq_232 x3 m1 (fun r2 m2 => 0 ≤ r2 ∧ r2 < 3584 ∧ (((m2 77 r2) ≠ 2 → (wq_292_96 x3 m2 Q)) ∧ ((m2 77 r2) = 2 → (wq_286 44 m2 (fun _ m3 => wq_236 x3 1 m3 (fun r4 m4 => wq_290 (jO 576460752303423488 r4) m4 (fun _ m5 => wq_236 x3 0 m5 (fun r6 m6 => wq_290 r6 m6 (fun _ m7 => Q 0 m7))))))))))))
def wq_292 (x1 : Int) (m : hy_m) (Q : Int → hy_m → Prop) : Prop := wq_237 x1 m (fun r1 m1 => wq_238 r1 m1 (fun r2 m2 => (r2 ≠ 3 → (wq_292_38 r1 m2 Q)) ∧ (r2 = 3 → (wq_232 r1 m2 (fun r3 m3 => 0 ≤ r3 ∧ r3 < 3584 ∧ (((m3 77 r3) ≠ 1 → (wq_292_38 r1 m3 Q)) ∧ ((m3 77 r3) = 1 → (wq_286 93 m3 (fun _ m4 => Q 0 m4)))))))))
def cs_292 : List (Nat × Nat × sFS) := [(232, 0, .inl we_232), (236, 1, .inl we_236), (237, 1, .inl we_237), (238, 0, .inl we_238), (286, 9, .inl we_286), (290, 9, .inl we_290)]
theorem cs_292_ok : kCs dM 2 cs_292 := (kCs_c (Or.inl rfl) (we_232_ok.deep (by decide)) (kCs_c (Or.inr (Or.inl rfl)) (we_236_ok.deep (by decide)) (kCs_c (Or.inr (Or.inl rfl)) (we_237_ok.deep (by decide)) (kCs_c (Or.inl rfl) (we_238_ok.deep (by decide)) (kCs_c (Or.inr (Or.inr (Or.inr (Or.inr rfl)))) (we_286_ok.deep (by decide)) (kCs_c (Or.inr (Or.inr (Or.inr (Or.inr rfl)))) (we_290_ok.deep (by decide)) kCs_n))))))
def lb_292_96 (s : sS) (Q : sQ) (R : Int → hy_m → Prop) (x3 : Int) : Nat → Option (sL → sS → Prop) := sLb []
set_option maxRecDepth 30000 in
set_option maxHeartbeats 1000000 in
theorem wk_292_96 (Q : sQ) (R : Int → hy_m → Prop) (s : sS) (x3 : Int) (hQ : ∀ x m', R x m' → Q x (sM s m')) (hr : sRg [(0, 5, 74), (3, 1, 0)] [x3]) (h : wq_292_96 x3 s.2.2.2 R) : kX dM 2 im_m292 9 96 (sCan [(0, 5, 74), (3, 1, 0)] [x3]) [] s Q := by
  unfold wq_292_96 at h
  refine wz2_ok (cs := cs_292) (wr := []) (lb := lb_292_96 s Q R x3) cs_292_ok kLb_n (okL_can rfl hr) (fun Y hY hl => ?_)
  refine hY _ _ _ _ (hY _ _ _ _ (?_ : Y 99 [(0, 5, true, 74), (3, 1, true, x3)] [(0, true, 124), (5, true, 74)] s))
  refine hY _ _ _ _ ?_
  refine Exists.intro _ (And.intro (wc_286_r74_0t 124 _ _ h) (fun r1 m1 h => ?_))
  refine hY _ _ _ _ (hY _ _ _ _ (?_ : Y 106 [(0, 5, true, 74), (3, 1, true, x3)] [(1, true, 1152921504606847069), (5, true, 74)] (sM s m1)))
  refine hY _ _ _ _ ?_
  refine Exists.intro _ (And.intro (wc_290_r74_1t 1152921504606847069 _ _ h) (fun r2 m2 h => ?_))
  refine hY _ _ _ _ (hY _ _ _ _ (?_ : Y 111 [(0, 5, true, 74), (3, 1, true, x3)] [(1, true, x3), (5, true, 74)] (sM s m2)))
  refine hY _ _ _ _ ?_
  refine Exists.intro _ (And.intro (wc_290_r74_1t x3 _ _ h) (fun r3 m3 h => ?_))
  show Y 114 [(0, 5, true, 74), (3, 1, true, x3)] [] (sM s m3)
  refine hY _ _ _ _ ?_
  exact hQ 0 m3 h
def lb_292_38 (s : sS) (Q : sQ) (R : Int → hy_m → Prop) (x3 : Int) : Nat → Option (sL → sS → Prop) := sLb [(96, fun lv t => sG [(0, 5, 74), (3, 1, 0)] lv (ap1 (fun w3 => ∃ m', t = sM s m' ∧ wq_292_96 w3 m' R)))]
set_option maxRecDepth 30000 in
set_option maxHeartbeats 1000000 in
theorem wk_292_38 (Q : sQ) (R : Int → hy_m → Prop) (s : sS) (x3 : Int) (hQ : ∀ x m', R x m' → Q x (sM s m')) (hr : sRg [(0, 5, 74), (3, 1, 0)] [x3]) (h : wq_292_38 x3 s.2.2.2 R) : kX dM 2 im_m292 9 38 (sCan [(0, 5, 74), (3, 1, 0)] [x3]) [] s Q := by
  unfold wq_292_38 at h
  refine wz2_ok (cs := cs_292) (wr := []) (lb := lb_292_38 s Q R x3) cs_292_ok (kLb_c (kLab (Bd := fun xs t => ap1 (fun w3 => ∃ m', t = sM s m' ∧ wq_292_96 w3 m' R) xs) rfl (fun xs t r1 r2 hb => by obtain ⟨w3, rfl, hb⟩ := ap1_ok hb; obtain ⟨m', rfl, hx⟩ := hb; exact wk_292_96 Q R (sM s m') _ (fun x m'' hy => hQ x m'' hy) r1 hx)) kLb_n) (okL_can rfl hr) (fun Y hY hl => ?_)
  have l96 := hl 96 _ rfl
  refine hY _ _ _ _ (hY _ _ _ _ (?_ : Y 40 [(0, 5, true, 74), (3, 1, true, x3)] [(1, true, x3), (5, true, 74)] s))
  refine hY _ _ _ _ ?_
  refine Exists.intro _ (And.intro (wc_238_r74_1t x3 _ _ h) (fun r1 m1 h => ?_))
  refine hY _ _ _ _ (?_ : Y 44 [(0, 5, true, 74), (3, 1, true, x3)] [(0, true, 4), (0, true, r1)] (sM s m1))
  refine hY _ _ _ _ ?_
  refine And.intro (fun hc => ?_) (fun hc => ?_)
  · have h := h.1 hc
    show Y 96 [(0, 5, true, 74), (3, 1, true, x3)] [] (sM s m1)
    refine l96 _ _ ?_
    exact (Exists.intro m1 (And.intro rfl h))
  · have h := h.2 hc
    refine hY _ _ _ _ (hY _ _ _ _ (hY _ _ _ _ (?_ : Y 52 [(0, 5, true, 74), (3, 1, true, x3)] [(1, true, x3), (5, true, 77)] (sM s m1))))
    refine hY _ _ _ _ ?_
    refine Exists.intro _ (And.intro (wc_232_1t x3 _ _ h) (fun r2 m2 h => ?_))
    show Y 55 [(0, 5, true, 74), (3, 1, true, x3)] [(0, true, r2), (5, true, 77)] (sM s m2)
    refine hY _ _ _ _ ?_
    refine (And.intro h.1 (And.intro h.2.1 ?_))
    refine hY _ _ _ _ (?_ : Y 59 [(0, 5, true, 74), (3, 1, true, x3)] [(1, true, 2), (1, true, m2 77 r2)] (sM s m2))
    refine hY _ _ _ _ ?_
    refine And.intro (fun hc => ?_) (fun hc => ?_)
    · have h := h.2.2.1 hc
      show Y 96 [(0, 5, true, 74), (3, 1, true, x3)] [] (sM s m2)
      refine l96 _ _ ?_
      exact (Exists.intro m2 (And.intro rfl h))
    · have h := h.2.2.2 hc
      refine hY _ _ _ _ (hY _ _ _ _ (?_ : Y 66 [(0, 5, true, 74), (3, 1, true, x3)] [(0, true, 44), (5, true, 74)] (sM s m2)))
      refine hY _ _ _ _ ?_
      refine Exists.intro _ (And.intro (wc_286_r74_0t 44 _ _ h) (fun r3 m3 h => ?_))
      refine hY _ _ _ _ (hY _ _ _ _ (hY _ _ _ _ (?_ : Y 74 [(0, 5, true, 74), (3, 1, true, x3)] [(5, true, 74), (1, true, 576460752303423488), (5, true, 74)] (sM s m3))))
      refine hY _ _ _ _ (hY _ _ _ _ (?_ : Y 76 [(0, 5, true, 74), (3, 1, true, x3)] [(2, true, 1), (1, true, x3), (5, true, 74), (1, true, 576460752303423488), (5, true, 74)] (sM s m3)))
      refine hY _ _ _ _ ?_
      refine Exists.intro _ (And.intro (wc_236_r74_1t_2t x3 1 _ _ h) (fun r4 m4 h => ?_))
      show Y 79 [(0, 5, true, 74), (3, 1, true, x3)] [(1, true, r4), (1, true, 576460752303423488), (5, true, 74)] (sM s m4)
      refine hY _ _ _ _ (?_ : Y 80 [(0, 5, true, 74), (3, 1, true, x3)] [(1, true, jO 576460752303423488 r4), (5, true, 74)] (sM s m4))
      refine hY _ _ _ _ ?_
      refine Exists.intro _ (And.intro (wc_290_r74_1t (jO 576460752303423488 r4) _ _ h) (fun r5 m5 h => ?_))
      refine hY _ _ _ _ (hY _ _ _ _ (hY _ _ _ _ (?_ : Y 86 [(0, 5, true, 74), (3, 1, true, x3)] [(1, true, x3), (5, true, 74), (5, true, 74)] (sM s m5))))
      refine hY _ _ _ _ (?_ : Y 87 [(0, 5, true, 74), (3, 1, true, x3)] [(2, true, 0), (1, true, x3), (5, true, 74), (5, true, 74)] (sM s m5))
      refine hY _ _ _ _ ?_
      refine Exists.intro _ (And.intro (wc_236_r74_1t_2t x3 0 _ _ h) (fun r6 m6 h => ?_))
      show Y 90 [(0, 5, true, 74), (3, 1, true, x3)] [(1, true, r6), (5, true, 74)] (sM s m6)
      refine hY _ _ _ _ ?_
      refine Exists.intro _ (And.intro (wc_290_r74_1t r6 _ _ h) (fun r7 m7 h => ?_))
      refine hY _ _ _ _ (?_ : Y 114 [(0, 5, true, 74), (3, 1, true, x3)] [] (sM s m7))
      refine hY _ _ _ _ ?_
      exact hQ 0 m7 h
def lb_292_0 (s : sS) (Q : sQ) (R : Int → hy_m → Prop) (x1 : Int) : Nat → Option (sL → sS → Prop) := sLb [(38, fun lv t => sG [(0, 5, 74), (3, 1, 0)] lv (ap1 (fun w3 => ∃ m', t = sM s m' ∧ wq_292_38 w3 m' R)))]
set_option maxRecDepth 30000 in
set_option maxHeartbeats 1000000 in
theorem wk_292_0 (Q : sQ) (R : Int → hy_m → Prop) (s : sS) (x1 : Int) (hQ : ∀ x m', R x m' → Q x (sM s m')) (hr : sRg [(0, 5, 74), (1, 1, 0)] [x1]) (h : wq_292 x1 s.2.2.2 R) : kX dM 2 im_m292 9 0 (sCan [(0, 5, 74), (1, 1, 0)] [x1]) [] s Q := by
  unfold wq_292 at h
  refine wz2_ok (cs := cs_292) (wr := []) (lb := lb_292_0 s Q R x1) cs_292_ok (kLb_c (kLab (Bd := fun xs t => ap1 (fun w3 => ∃ m', t = sM s m' ∧ wq_292_38 w3 m' R) xs) rfl (fun xs t r1 r2 hb => by obtain ⟨w3, rfl, hb⟩ := ap1_ok hb; obtain ⟨m', rfl, hx⟩ := hb; exact wk_292_38 Q R (sM s m') _ (fun x m'' hy => hQ x m'' hy) r1 hx)) kLb_n) (okL_can rfl hr) (fun Y hY hl => ?_)
  have l38 := hl 38 _ rfl
  refine hY _ _ _ _ (hY _ _ _ _ (?_ : Y 2 [(0, 5, true, 74), (1, 1, true, x1)] [(1, true, x1), (5, true, 74)] s))
  refine hY _ _ _ _ ?_
  refine Exists.intro _ (And.intro (wc_237_r74_1t x1 _ _ h) (fun r1 m1 h => ?_))
  refine hY _ _ _ _ (hY _ _ _ _ (hY _ _ _ _ (?_ : Y 8 [(3, 1, true, r1), (0, 5, true, 74), (1, 1, true, x1)] [(1, true, r1), (5, true, 74)] (sM s m1))))
  refine hY _ _ _ _ ?_
  refine Exists.intro _ (And.intro (wc_238_r74_1t r1 _ _ h) (fun r2 m2 h => ?_))
  refine hY _ _ _ _ (?_ : Y 12 [(3, 1, true, r1), (0, 5, true, 74), (1, 1, true, x1)] [(0, true, 3), (0, true, r2)] (sM s m2))
  refine hY _ _ _ _ ?_
  refine And.intro (fun hc => ?_) (fun hc => ?_)
  · have h := h.1 hc
    show Y 38 [(3, 1, true, r1), (0, 5, true, 74), (1, 1, true, x1)] [] (sM s m2)
    refine l38 _ _ ?_
    exact (Exists.intro m2 (And.intro rfl h))
  · have h := h.2 hc
    refine hY _ _ _ _ (hY _ _ _ _ (hY _ _ _ _ (?_ : Y 20 [(3, 1, true, r1), (0, 5, true, 74), (1, 1, true, x1)] [(1, true, r1), (5, true, 77)] (sM s m2))))
    refine hY _ _ _ _ ?_
    refine Exists.intro _ (And.intro (wc_232_1t r1 _ _ h) (fun r3 m3 h => ?_))
    show Y 23 [(3, 1, true, r1), (0, 5, true, 74), (1, 1, true, x1)] [(0, true, r3), (5, true, 77)] (sM s m3)
    refine hY _ _ _ _ ?_
    refine (And.intro h.1 (And.intro h.2.1 ?_))
    refine hY _ _ _ _ (?_ : Y 25 [(3, 1, true, r1), (0, 5, true, 74), (1, 1, true, x1)] [(1, true, 1), (1, true, m3 77 r3)] (sM s m3))
    refine hY _ _ _ _ ?_
    refine And.intro (fun hc => ?_) (fun hc => ?_)
    · have h := h.2.2.1 hc
      show Y 38 [(3, 1, true, r1), (0, 5, true, 74), (1, 1, true, x1)] [] (sM s m3)
      refine l38 _ _ ?_
      exact (Exists.intro m3 (And.intro rfl h))
    · have h := h.2.2.2 hc
      refine hY _ _ _ _ (hY _ _ _ _ (?_ : Y 32 [(3, 1, true, r1), (0, 5, true, 74), (1, 1, true, x1)] [(0, true, 93), (5, true, 74)] (sM s m3)))
      refine hY _ _ _ _ ?_
      refine Exists.intro _ (And.intro (wc_286_r74_0t 93 _ _ h) (fun r4 m4 h => ?_))
      refine hY _ _ _ _ (?_ : Y 114 [(3, 1, true, r1), (0, 5, true, 74), (1, 1, true, x1)] [] (sM s m4))
      refine hY _ _ _ _ ?_
      exact hQ 0 m4 h
def we_292 : sFf := sEf 5 [(0, 5, 74), (1, 1, 0)] (fun xs s Q => ap1 (fun x1 => wq_292 x1 s.2.2.2 Q) xs)
theorem we_292_ok : kS dM 3 292 9 (.inl we_292) := sEf_ok (mi := im_m292) rfl rfl rfl (fun R xs s r1 hb => by obtain ⟨x1, rfl, hb⟩ := ap1_ok hb; exact wk_292_0 _ R s x1 (fun x m' hx => ⟨m', rfl, hx⟩) r1 hb)
/-- LMModel.putOne(J)V -/
def wq_293_73 (x1 : Int) (m : hy_m) (Q : Int → hy_m → Prop) : Prop := wq_237 x1 m (fun r1 m1 => wq_238 r1 m1 (fun r2 m2 => (r2 ≠ 1 → ((r2 ≠ 2 → ((r2 ≠ 3 → (wq_291 r1 m2 (fun _ m3 => Q 0 m3))) ∧ (r2 = 3 → (wq_232 r1 m2 (fun r4 m4 => 0 ≤ r4 ∧ r4 < 3584 ∧ (wq_288 (m4 77 r4) m4 (fun _ m5 => Q 0 m5))))))) ∧ (r2 = 2 → (wq_239 r1 m2 (fun r6 m6 => wq_287 r6 m6 (fun _ m7 => Q 0 m7)))))) ∧ (r2 = 1 → (wq_289 r1 m2 (fun _ m8 => Q 0 m8)))))
def wq_293_37 (x1 : Int) (m : hy_m) (Q : Int → hy_m → Prop) : Prop := wq_230 x1 m (fun r1 m1 => (r1 ≠ 0 → (wq_293_73 x1 m1 Q)) ∧ (r1 = 0 → (wq_231 x1 m1 (fun r2 m2 => (r2 ≠ 0 → (wq_293_73 x1 m2 Q)) ∧ (r2 = 0 → (((jA x1 576460752303423488) = 0 → (wq_293_73 x1 m2 Q)) ∧ ((jA x1 576460752303423488) ≠ 0 → (wq_292 (jA x1 (-576460752303423489)) m2 (fun _ m3 => Q 0 m3)))))))))
def wq_293 (x1 : Int) (m : hy_m) (Q : Int → hy_m → Prop) : Prop := wq_230 x1 m (fun r1 m1 => (r1 ≠ 0 → (wq_293_37 x1 m1 Q)) ∧ (r1 = 0 → (wq_231 x1 m1 (fun r2 m2 => (r2 ≠ 0 → (wq_293_37 x1 m2 Q)) ∧ (r2 = 0 → (((jA x1 1152921504606846976) = 0 → (wq_293_37 x1 m2 Q)) ∧ ((jA x1 1152921504606846976) ≠ 0 → (hy_r 0 (jA x1 127) ∧ (wq_286 (jA x1 127) m2 (fun _ m3 => Q 0 m3))))))))))
theorem wc_291_r74_1t (x1 : Int) (s : sS) (R : Int → hy_m → Prop) (h : wq_291 x1 s.2.2.2 R) : we_291 [(5, true, 74), (1, true, x1)] s R := h
theorem wc_289_r74_1t (x1 : Int) (s : sS) (R : Int → hy_m → Prop) (h : wq_289 x1 s.2.2.2 R) : we_289 [(5, true, 74), (1, true, x1)] s R := h
theorem wc_292_r74_1t (x1 : Int) (s : sS) (R : Int → hy_m → Prop) (h : wq_292 x1 s.2.2.2 R) : we_292 [(5, true, 74), (1, true, x1)] s R := h
def cs_293 : List (Nat × Nat × sFS) := [(230, 2, .inl we_230), (231, 2, .inl we_231), (232, 0, .inl we_232), (237, 1, .inl we_237), (238, 0, .inl we_238), (239, 0, .inl we_239), (286, 9, .inl we_286), (287, 9, .inl we_287), (288, 9, .inl we_288), (289, 9, .inl we_289), (291, 9, .inl we_291), (292, 9, .inl we_292)]
theorem cs_293_ok : kCs dM 3 cs_293 := (kCs_c (Or.inr (Or.inr (Or.inl rfl))) (we_230_ok.deep (by decide)) (kCs_c (Or.inr (Or.inr (Or.inl rfl))) (we_231_ok.deep (by decide)) (kCs_c (Or.inl rfl) (we_232_ok.deep (by decide)) (kCs_c (Or.inr (Or.inl rfl)) (we_237_ok.deep (by decide)) (kCs_c (Or.inl rfl) (we_238_ok.deep (by decide)) (kCs_c (Or.inl rfl) (we_239_ok.deep (by decide)) (kCs_c (Or.inr (Or.inr (Or.inr (Or.inr rfl)))) (we_286_ok.deep (by decide)) (kCs_c (Or.inr (Or.inr (Or.inr (Or.inr rfl)))) (we_287_ok.deep (by decide)) (kCs_c (Or.inr (Or.inr (Or.inr (Or.inr rfl)))) (we_288_ok.deep (by decide)) (kCs_c (Or.inr (Or.inr (Or.inr (Or.inr rfl)))) (we_289_ok.deep (by decide)) (kCs_c (Or.inr (Or.inr (Or.inr (Or.inr rfl)))) (we_291_ok.deep (by decide)) (kCs_c (Or.inr (Or.inr (Or.inr (Or.inr rfl)))) (we_292_ok.deep (by decide)) kCs_n))))))))))))
def lb_293_73 (s : sS) (Q : sQ) (R : Int → hy_m → Prop) (x1 : Int) : Nat → Option (sL → sS → Prop) := sLb []
set_option maxRecDepth 30000 in
set_option maxHeartbeats 1000000 in
theorem wk_293_73 (Q : sQ) (R : Int → hy_m → Prop) (s : sS) (x1 : Int) (hQ : ∀ x m', R x m' → Q x (sM s m')) (hr : sRg [(0, 5, 74), (1, 1, 0)] [x1]) (h : wq_293_73 x1 s.2.2.2 R) : kX dM 3 im_m293 9 73 (sCan [(0, 5, 74), (1, 1, 0)] [x1]) [] s Q := by
  unfold wq_293_73 at h
  refine wz2_ok (cs := cs_293) (wr := []) (lb := lb_293_73 s Q R x1) cs_293_ok kLb_n (okL_can rfl hr) (fun Y hY hl => ?_)
  refine hY _ _ _ _ (hY _ _ _ _ (?_ : Y 75 [(0, 5, true, 74), (1, 1, true, x1)] [(1, true, x1), (5, true, 74)] s))
  refine hY _ _ _ _ ?_
  refine Exists.intro _ (And.intro (wc_237_r74_1t x1 _ _ h) (fun r1 m1 h => ?_))
  refine hY _ _ _ _ (hY _ _ _ _ (hY _ _ _ _ (?_ : Y 81 [(3, 1, true, r1), (0, 5, true, 74), (1, 1, true, x1)] [(1, true, r1), (5, true, 74)] (sM s m1))))
  refine hY _ _ _ _ ?_
  refine Exists.intro _ (And.intro (wc_238_r74_1t r1 _ _ h) (fun r2 m2 h => ?_))
  refine hY _ _ _ _ (hY _ _ _ _ (hY _ _ _ _ (?_ : Y 89 [(5, 0, true, r2), (3, 1, true, r1), (0, 5, true, 74), (1, 1, true, x1)] [(2, true, 1), (0, true, r2)] (sM s m2))))
  refine hY _ _ _ _ ?_
  refine And.intro (fun hc => ?_) (fun hc => ?_)
  · have h := h.1 hc
    refine hY _ _ _ _ (hY _ _ _ _ (?_ : Y 103 [(5, 0, true, r2), (3, 1, true, r1), (0, 5, true, 74), (1, 1, true, x1)] [(0, true, 2), (0, true, r2)] (sM s m2)))
    refine hY _ _ _ _ ?_
    refine And.intro (fun hc => ?_) (fun hc => ?_)
    · have h := h.1 hc
      refine hY _ _ _ _ (hY _ _ _ _ (?_ : Y 122 [(5, 0, true, r2), (3, 1, true, r1), (0, 5, true, 74), (1, 1, true, x1)] [(0, true, 3), (0, true, r2)] (sM s m2)))
      refine hY _ _ _ _ ?_
      refine And.intro (fun hc => ?_) (fun hc => ?_)
      · have h := h.1 hc
        refine hY _ _ _ _ (hY _ _ _ _ (?_ : Y 143 [(5, 0, true, r2), (3, 1, true, r1), (0, 5, true, 74), (1, 1, true, x1)] [(1, true, r1), (5, true, 74)] (sM s m2)))
        refine hY _ _ _ _ ?_
        refine Exists.intro _ (And.intro (wc_291_r74_1t r1 _ _ h) (fun r3 m3 h => ?_))
        show Y 146 [(5, 0, true, r2), (3, 1, true, r1), (0, 5, true, 74), (1, 1, true, x1)] [] (sM s m3)
        refine hY _ _ _ _ ?_
        exact hQ 0 m3 h
      · have h := h.2 hc
        refine hY _ _ _ _ (hY _ _ _ _ (hY _ _ _ _ (?_ : Y 130 [(5, 0, true, r2), (3, 1, true, r1), (0, 5, true, 74), (1, 1, true, x1)] [(5, true, 77), (5, true, 74)] (sM s m2))))
        refine hY _ _ _ _ (?_ : Y 131 [(5, 0, true, r2), (3, 1, true, r1), (0, 5, true, 74), (1, 1, true, x1)] [(1, true, r1), (5, true, 77), (5, true, 74)] (sM s m2))
        refine hY _ _ _ _ ?_
        refine Exists.intro _ (And.intro (wc_232_1t r1 _ _ h) (fun r4 m4 h => ?_))
        show Y 134 [(5, 0, true, r2), (3, 1, true, r1), (0, 5, true, 74), (1, 1, true, x1)] [(0, true, r4), (5, true, 77), (5, true, 74)] (sM s m4)
        refine hY _ _ _ _ ?_
        refine (And.intro h.1 (And.intro h.2.1 ?_))
        show Y 135 [(5, 0, true, r2), (3, 1, true, r1), (0, 5, true, 74), (1, 1, true, x1)] [(1, true, m4 77 r4), (5, true, 74)] (sM s m4)
        refine hY _ _ _ _ ?_
        refine Exists.intro _ (And.intro (wc_288_r74_1t (m4 77 r4) _ _ h.2.2) (fun r5 m5 h => ?_))
        refine hY _ _ _ _ (?_ : Y 146 [(5, 0, true, r2), (3, 1, true, r1), (0, 5, true, 74), (1, 1, true, x1)] [] (sM s m5))
        refine hY _ _ _ _ ?_
        exact hQ 0 m5 h
    · have h := h.2 hc
      refine hY _ _ _ _ (hY _ _ _ _ (hY _ _ _ _ (?_ : Y 109 [(5, 0, true, r2), (3, 1, true, r1), (0, 5, true, 74), (1, 1, true, x1)] [(1, true, r1), (5, true, 74), (5, true, 74)] (sM s m2))))
      refine hY _ _ _ _ ?_
      refine Exists.intro _ (And.intro (wc_239_r74_1t r1 _ _ h) (fun r6 m6 h => ?_))
      show Y 112 [(5, 0, true, r2), (3, 1, true, r1), (0, 5, true, 74), (1, 1, true, x1)] [(0, true, r6), (5, true, 74)] (sM s m6)
      refine hY _ _ _ _ ?_
      show Y 113 [(5, 0, true, r2), (3, 1, true, r1), (0, 5, true, 74), (1, 1, true, x1)] [(1, true, r6), (5, true, 74)] (sM s m6)
      refine hY _ _ _ _ ?_
      refine Exists.intro _ (And.intro (wc_287_r74_1t r6 _ _ h) (fun r7 m7 h => ?_))
      refine hY _ _ _ _ (?_ : Y 146 [(5, 0, true, r2), (3, 1, true, r1), (0, 5, true, 74), (1, 1, true, x1)] [] (sM s m7))
      refine hY _ _ _ _ ?_
      exact hQ 0 m7 h
  · have h := h.2 hc
    refine hY _ _ _ _ (hY _ _ _ _ (?_ : Y 94 [(5, 0, true, r2), (3, 1, true, r1), (0, 5, true, 74), (1, 1, true, x1)] [(1, true, r1), (5, true, 74)] (sM s m2)))
    refine hY _ _ _ _ ?_
    refine Exists.intro _ (And.intro (wc_289_r74_1t r1 _ _ h) (fun r8 m8 h => ?_))
    refine hY _ _ _ _ (?_ : Y 146 [(5, 0, true, r2), (3, 1, true, r1), (0, 5, true, 74), (1, 1, true, x1)] [] (sM s m8))
    refine hY _ _ _ _ ?_
    exact hQ 0 m8 h
def lb_293_37 (s : sS) (Q : sQ) (R : Int → hy_m → Prop) (x1 : Int) : Nat → Option (sL → sS → Prop) := sLb [(73, fun lv t => sG [(0, 5, 74), (1, 1, 0)] lv (ap1 (fun w1 => ∃ m', t = sM s m' ∧ wq_293_73 w1 m' R)))]
set_option maxRecDepth 30000 in
set_option maxHeartbeats 1000000 in
theorem wk_293_37 (Q : sQ) (R : Int → hy_m → Prop) (s : sS) (x1 : Int) (hQ : ∀ x m', R x m' → Q x (sM s m')) (hr : sRg [(0, 5, 74), (1, 1, 0)] [x1]) (h : wq_293_37 x1 s.2.2.2 R) : kX dM 3 im_m293 9 37 (sCan [(0, 5, 74), (1, 1, 0)] [x1]) [] s Q := by
  unfold wq_293_37 at h
  refine wz2_ok (cs := cs_293) (wr := []) (lb := lb_293_37 s Q R x1) cs_293_ok (kLb_c (kLab (Bd := fun xs t => ap1 (fun w1 => ∃ m', t = sM s m' ∧ wq_293_73 w1 m' R) xs) rfl (fun xs t r1 r2 hb => by obtain ⟨w1, rfl, hb⟩ := ap1_ok hb; obtain ⟨m', rfl, hx⟩ := hb; exact wk_293_73 Q R (sM s m') _ (fun x m'' hy => hQ x m'' hy) r1 hx)) kLb_n) (okL_can rfl hr) (fun Y hY hl => ?_)
  have l73 := hl 73 _ rfl
  refine hY _ _ _ _ (?_ : Y 38 [(0, 5, true, 74), (1, 1, true, x1)] [(1, true, x1)] s)
  refine hY _ _ _ _ ?_
  refine Exists.intro _ (And.intro (wc_230_1t x1 _ _ h) (fun r1 m1 h => ?_))
  show Y 41 [(0, 5, true, 74), (1, 1, true, x1)] [(2, true, r1)] (sM s m1)
  refine hY _ _ _ _ ?_
  refine And.intro (fun hc => ?_) (fun hc => ?_)
  · have h := h.1 hc
    show Y 73 [(0, 5, true, 74), (1, 1, true, x1)] [] (sM s m1)
    refine l73 _ _ ?_
    exact (Exists.intro m1 (And.intro rfl h))
  · have h := h.2 hc
    refine hY _ _ _ _ (?_ : Y 45 [(0, 5, true, 74), (1, 1, true, x1)] [(1, true, x1)] (sM s m1))
    refine hY _ _ _ _ ?_
    refine Exists.intro _ (And.intro (wc_231_1t x1 _ _ h) (fun r2 m2 h => ?_))
    show Y 48 [(0, 5, true, 74), (1, 1, true, x1)] [(2, true, r2)] (sM s m2)
    refine hY _ _ _ _ ?_
    refine And.intro (fun hc => ?_) (fun hc => ?_)
    · have h := h.1 hc
      show Y 73 [(0, 5, true, 74), (1, 1, true, x1)] [] (sM s m2)
      refine l73 _ _ ?_
      exact (Exists.intro m2 (And.intro rfl h))
    · have h := h.2 hc
      refine hY _ _ _ _ (hY _ _ _ _ (?_ : Y 55 [(0, 5, true, 74), (1, 1, true, x1)] [(1, true, 576460752303423488), (1, true, x1)] (sM s m2)))
      refine hY _ _ _ _ (?_ : Y 56 [(0, 5, true, 74), (1, 1, true, x1)] [(1, true, jA x1 576460752303423488)] (sM s m2))
      refine hY _ _ _ _ (?_ : Y 57 [(0, 5, true, 74), (1, 1, true, x1)] [(1, true, 0), (1, true, jA x1 576460752303423488)] (sM s m2))
      refine hY _ _ _ _ ?_
      refine And.intro (fun hc => ?_) (fun hc => ?_)
      · have h := h.1 hc
        show Y 73 [(0, 5, true, 74), (1, 1, true, x1)] [] (sM s m2)
        refine l73 _ _ ?_
        exact (Exists.intro m2 (And.intro rfl h))
      · have h := h.2 hc
        refine hY _ _ _ _ (hY _ _ _ _ (hY _ _ _ _ (?_ : Y 66 [(0, 5, true, 74), (1, 1, true, x1)] [(1, true, (-576460752303423489)), (1, true, x1), (5, true, 74)] (sM s m2))))
        refine hY _ _ _ _ (?_ : Y 67 [(0, 5, true, 74), (1, 1, true, x1)] [(1, true, jA x1 (-576460752303423489)), (5, true, 74)] (sM s m2))
        refine hY _ _ _ _ ?_
        refine Exists.intro _ (And.intro (wc_292_r74_1t (jA x1 (-576460752303423489)) _ _ h) (fun r3 m3 h => ?_))
        refine hY _ _ _ _ (?_ : Y 146 [(0, 5, true, 74), (1, 1, true, x1)] [] (sM s m3))
        refine hY _ _ _ _ ?_
        exact hQ 0 m3 h
def lb_293_0 (s : sS) (Q : sQ) (R : Int → hy_m → Prop) (x1 : Int) : Nat → Option (sL → sS → Prop) := sLb [(37, fun lv t => sG [(0, 5, 74), (1, 1, 0)] lv (ap1 (fun w1 => ∃ m', t = sM s m' ∧ wq_293_37 w1 m' R)))]
set_option maxRecDepth 30000 in
set_option maxHeartbeats 1000000 in
theorem wk_293_0 (Q : sQ) (R : Int → hy_m → Prop) (s : sS) (x1 : Int) (hQ : ∀ x m', R x m' → Q x (sM s m')) (hr : sRg [(0, 5, 74), (1, 1, 0)] [x1]) (h : wq_293 x1 s.2.2.2 R) : kX dM 3 im_m293 9 0 (sCan [(0, 5, 74), (1, 1, 0)] [x1]) [] s Q := by
  unfold wq_293 at h
  refine wz2_ok (cs := cs_293) (wr := []) (lb := lb_293_0 s Q R x1) cs_293_ok (kLb_c (kLab (Bd := fun xs t => ap1 (fun w1 => ∃ m', t = sM s m' ∧ wq_293_37 w1 m' R) xs) rfl (fun xs t r1 r2 hb => by obtain ⟨w1, rfl, hb⟩ := ap1_ok hb; obtain ⟨m', rfl, hx⟩ := hb; exact wk_293_37 Q R (sM s m') _ (fun x m'' hy => hQ x m'' hy) r1 hx)) kLb_n) (okL_can rfl hr) (fun Y hY hl => ?_)
  have l37 := hl 37 _ rfl
  refine hY _ _ _ _ (?_ : Y 1 [(0, 5, true, 74), (1, 1, true, x1)] [(1, true, x1)] s)
  refine hY _ _ _ _ ?_
  refine Exists.intro _ (And.intro (wc_230_1t x1 _ _ h) (fun r1 m1 h => ?_))
  show Y 4 [(0, 5, true, 74), (1, 1, true, x1)] [(2, true, r1)] (sM s m1)
  refine hY _ _ _ _ ?_
  refine And.intro (fun hc => ?_) (fun hc => ?_)
  · have h := h.1 hc
    show Y 37 [(0, 5, true, 74), (1, 1, true, x1)] [] (sM s m1)
    refine l37 _ _ ?_
    exact (Exists.intro m1 (And.intro rfl h))
  · have h := h.2 hc
    refine hY _ _ _ _ (?_ : Y 8 [(0, 5, true, 74), (1, 1, true, x1)] [(1, true, x1)] (sM s m1))
    refine hY _ _ _ _ ?_
    refine Exists.intro _ (And.intro (wc_231_1t x1 _ _ h) (fun r2 m2 h => ?_))
    show Y 11 [(0, 5, true, 74), (1, 1, true, x1)] [(2, true, r2)] (sM s m2)
    refine hY _ _ _ _ ?_
    refine And.intro (fun hc => ?_) (fun hc => ?_)
    · have h := h.1 hc
      show Y 37 [(0, 5, true, 74), (1, 1, true, x1)] [] (sM s m2)
      refine l37 _ _ ?_
      exact (Exists.intro m2 (And.intro rfl h))
    · have h := h.2 hc
      refine hY _ _ _ _ (hY _ _ _ _ (?_ : Y 18 [(0, 5, true, 74), (1, 1, true, x1)] [(1, true, 1152921504606846976), (1, true, x1)] (sM s m2)))
      refine hY _ _ _ _ (?_ : Y 19 [(0, 5, true, 74), (1, 1, true, x1)] [(1, true, jA x1 1152921504606846976)] (sM s m2))
      refine hY _ _ _ _ (?_ : Y 20 [(0, 5, true, 74), (1, 1, true, x1)] [(1, true, 0), (1, true, jA x1 1152921504606846976)] (sM s m2))
      refine hY _ _ _ _ ?_
      refine And.intro (fun hc => ?_) (fun hc => ?_)
      · have h := h.1 hc
        show Y 37 [(0, 5, true, 74), (1, 1, true, x1)] [] (sM s m2)
        refine l37 _ _ ?_
        exact (Exists.intro m2 (And.intro rfl h))
      · have h := h.2 hc
        refine hY _ _ _ _ (hY _ _ _ _ (hY _ _ _ _ (?_ : Y 29 [(0, 5, true, 74), (1, 1, true, x1)] [(1, true, 127), (1, true, x1), (5, true, 74)] (sM s m2))))
        refine hY _ _ _ _ (?_ : Y 30 [(0, 5, true, 74), (1, 1, true, x1)] [(1, true, jA x1 127), (5, true, 74)] (sM s m2))
        refine hY _ _ _ _ (?_ : Y 31 [(0, 5, true, 74), (1, 1, true, x1)] [(0, false, jA x1 127), (5, true, 74)] (sM s m2))
        refine hY _ _ _ _ ?_
        refine Exists.intro _ (And.intro (wc_286_r74_0f (jA x1 127) _ _ h) (fun r3 m3 h => ?_))
        refine hY _ _ _ _ (?_ : Y 146 [(0, 5, true, 74), (1, 1, true, x1)] [] (sM s m3))
        refine hY _ _ _ _ ?_
        exact hQ 0 m3 h
def we_293 : sFf := sEf 6 [(0, 5, 74), (1, 1, 0)] (fun xs s Q => ap1 (fun x1 => wq_293 x1 s.2.2.2 Q) xs)
theorem we_293_ok : kS dM 4 293 9 (.inl we_293) := sEf_ok (mi := im_m293) rfl rfl rfl (fun R xs s r1 hb => by obtain ⟨x1, rfl, hb⟩ := ap1_ok hb; exact wk_293_0 _ R s x1 (fun x m' hx => ⟨m', rfl, hx⟩) r1 hb)
/-- LMModel.put(J)V -/
def wf_294_10 (Q : Int → hy_m → Prop) (P10 : hy_m → Prop) (m : hy_m) : Prop := ((m 74 73) ≤ 0 → (Q 0 m)) ∧ (0 < (m 74 73) → ((120 ≤ (m 74 70) → (Q 0 m)) ∧ ((m 74 70) < 120 → (hy_r 0 ((m 74 73) - 1) ∧ (0 ≤ ((m 74 73) - 1) ∧ ((m 74 73) - 1) < 30000 ∧ (wq_293 (m 112 ((m 74 73) - 1)) (hy_u m 74 73 ((m 74 73) - 1)) (fun _ m1 => P10 m1)))))))
def wq_294_10 (m : hy_m) (Q : Int → hy_m → Prop) : Prop := wL0 hy_m (wf_294_10 Q) m
def wq_294 (x1 : Int) (m : hy_m) (Q : Int → hy_m → Prop) : Prop := wq_290 x1 (hy_u m 74 73 0) (fun _ m1 => wq_294_10 m1 Q)
theorem wc_293_r74_1t (x1 : Int) (s : sS) (R : Int → hy_m → Prop) (h : wq_293 x1 s.2.2.2 R) : we_293 [(5, true, 74), (1, true, x1)] s R := h
def cs_294 : List (Nat × Nat × sFS) := [(290, 9, .inl we_290), (293, 9, .inl we_293)]
theorem cs_294_ok : kCs dM 4 cs_294 := (kCs_c (Or.inr (Or.inr (Or.inr (Or.inr rfl)))) (we_290_ok.deep (by decide)) (kCs_c (Or.inr (Or.inr (Or.inr (Or.inr rfl)))) (we_293_ok.deep (by decide)) kCs_n))
def lb_294_10 (s : sS) (Q : sQ) (P10 : hy_m → Prop) (R : Int → hy_m → Prop) : Nat → Option (sL → sS → Prop) := sLb [(10, fun lv t => sG [(0, 5, 74)] lv (ap0 (∃ m', t = sM s m' ∧ P10 m')))]
set_option maxRecDepth 30000 in
set_option maxHeartbeats 1000000 in
theorem wj_294_10 (Q : sQ) (R : Int → hy_m → Prop) (s : sS) (P10 : hy_m → Prop) (m : hy_m) (hP10 : ∀ (m : hy_m), P10 m → sRg [(0, 5, 74)] [] → kX dM 4 im_m294 9 10 (sCan [(0, 5, 74)] []) [] (sM s m) Q) (hQ : ∀ x m', R x m' → Q x (sM s m')) (hr : sRg [(0, 5, 74)] []) (h : wf_294_10 R P10 m) : kX dM 4 im_m294 9 10 (sCan [(0, 5, 74)] []) [] (sM s m) Q := by
  unfold wf_294_10 at h
  refine wz2_ok (cs := cs_294) (wr := []) (lb := lb_294_10 s Q P10 R) cs_294_ok (kLb_c (kLab (Bd := fun xs t => ap0 (∃ m', t = sM s m' ∧ P10 m') xs) rfl (fun xs t r1 r2 hb => by obtain ⟨rfl, hb⟩ := ap0_ok hb; obtain ⟨m', rfl, hx⟩ := hb; exact hP10 m' hx r1)) kLb_n) (okL_can rfl hr) (fun Y hY hl => ?_)
  have l10 := hl 10 _ rfl
  refine hY _ _ _ _ (hY _ _ _ _ (?_ : Y 14 [(0, 5, true, 74)] [(0, true, m 74 73)] (sM s m)))
  refine hY _ _ _ _ ?_
  refine And.intro (fun hc => ?_) (fun hc => ?_)
  · have h := h.1 hc
    show Y 52 [(0, 5, true, 74)] [] (sM s m)
    refine hY _ _ _ _ ?_
    exact hQ 0 m h
  · have h := h.2 hc
    refine hY _ _ _ _ (hY _ _ _ _ (hY _ _ _ _ (?_ : Y 23 [(0, 5, true, 74)] [(0, true, 120), (0, true, m 74 70)] (sM s m))))
    refine hY _ _ _ _ ?_
    refine And.intro (fun hc => ?_) (fun hc => ?_)
    · have h := h.1 hc
      show Y 52 [(0, 5, true, 74)] [] (sM s m)
      refine hY _ _ _ _ ?_
      exact hQ 0 m h
    · have h := h.2 hc
      refine hY _ _ _ _ (hY _ _ _ _ (hY _ _ _ _ (?_ : Y 31 [(0, 5, true, 74)] [(0, true, m 74 73), (5, true, 74)] (sM s m))))
      refine hY _ _ _ _ (hY _ _ _ _ (?_ : Y 33 [(0, 5, true, 74)] [(0, false, (m 74 73) - 1), (5, true, 74)] (sM s m)))
      refine hY _ _ _ _ ?_
      refine And.intro h.1 ?_
      refine hY _ _ _ _ (hY _ _ _ _ (hY _ _ _ _ (?_ : Y 41 [(0, 5, true, 74)] [(5, true, 112), (5, true, 74)] (sM s (hy_u m 74 73 ((m 74 73) - 1))))))
      refine hY _ _ _ _ (hY _ _ _ _ (?_ : Y 45 [(0, 5, true, 74)] [(0, true, (m 74 73) - 1), (5, true, 112), (5, true, 74)] (sM s (hy_u m 74 73 ((m 74 73) - 1)))))
      refine hY _ _ _ _ ?_
      refine (And.intro h.2.1 (And.intro h.2.2.1 ?_))
      show Y 46 [(0, 5, true, 74)] [(1, true, m 112 ((m 74 73) - 1)), (5, true, 74)] (sM s (hy_u m 74 73 ((m 74 73) - 1)))
      refine hY _ _ _ _ ?_
      refine Exists.intro _ (And.intro (wc_293_r74_1t (m 112 ((m 74 73) - 1)) _ _ h.2.2.2) (fun r1 m1 h => ?_))
      refine hY _ _ _ _ (?_ : Y 10 [(0, 5, true, 74)] [] (sM s m1))
      refine l10 _ _ ?_
      exact (Exists.intro m1 (And.intro rfl h))
theorem wk_294_10 (Q : sQ) (R : Int → hy_m → Prop) (s : sS) (hQ : ∀ x m', R x m' → Q x (sM s m')) (hr : sRg [(0, 5, 74)] []) (h : wq_294_10 s.2.2.2 R) : kX dM 4 im_m294 9 10 (sCan [(0, 5, 74)] []) [] s Q :=
  h (fun m => sRg [(0, 5, 74)] [] → kX dM 4 im_m294 9 10 (sCan [(0, 5, 74)] []) [] (sM s m) Q) (fun m h hr => wj_294_10 Q R s (fun m => sRg [(0, 5, 74)] [] → kX dM 4 im_m294 9 10 (sCan [(0, 5, 74)] []) [] (sM s m) Q) m  (fun _ hp hr => hp hr) hQ hr h) hr
def lb_294_0 (s : sS) (Q : sQ) (R : Int → hy_m → Prop) (x1 : Int) : Nat → Option (sL → sS → Prop) := sLb [(10, fun lv t => sG [(0, 5, 74)] lv (ap0 (∃ m', t = sM s m' ∧ wq_294_10 m' R)))]
set_option maxRecDepth 30000 in
set_option maxHeartbeats 1000000 in
theorem wk_294_0 (Q : sQ) (R : Int → hy_m → Prop) (s : sS) (x1 : Int) (hQ : ∀ x m', R x m' → Q x (sM s m')) (hr : sRg [(0, 5, 74), (1, 1, 0)] [x1]) (h : wq_294 x1 s.2.2.2 R) : kX dM 4 im_m294 9 0 (sCan [(0, 5, 74), (1, 1, 0)] [x1]) [] s Q := by
  unfold wq_294 at h
  refine wz2_ok (cs := cs_294) (wr := []) (lb := lb_294_0 s Q R x1) cs_294_ok (kLb_c (kLab (Bd := fun xs t => ap0 (∃ m', t = sM s m' ∧ wq_294_10 m' R) xs) rfl (fun xs t r1 r2 hb => by obtain ⟨rfl, hb⟩ := ap0_ok hb; obtain ⟨m', rfl, hx⟩ := hb; exact wk_294_10 Q R (sM s m')  (fun x m'' hy => hQ x m'' hy) r1 hx)) kLb_n) (okL_can rfl hr) (fun Y hY hl => ?_)
  have l10 := hl 10 _ rfl
  refine hY _ _ _ _ (hY _ _ _ _ (?_ : Y 2 [(0, 5, true, 74), (1, 1, true, x1)] [(2, true, 0), (5, true, 74)] s))
  refine hY _ _ _ _ ?_
  refine hY _ _ _ _ (hY _ _ _ _ (?_ : Y 7 [(0, 5, true, 74), (1, 1, true, x1)] [(1, true, x1), (5, true, 74)] (sM s (hy_u s.2.2.2 74 73 0))))
  refine hY _ _ _ _ ?_
  refine Exists.intro _ (And.intro (wc_290_r74_1t x1 _ _ h) (fun r1 m1 h => ?_))
  show Y 10 [(0, 5, true, 74), (1, 1, true, x1)] [] (sM s m1)
  refine l10 _ _ ?_
  exact (Exists.intro m1 (And.intro rfl h))
def we_294 : sFf := sEf 3 [(0, 5, 74), (1, 1, 0)] (fun xs s Q => ap1 (fun x1 => wq_294 x1 s.2.2.2 Q) xs)
theorem we_294_ok : kS dM 5 294 9 (.inl we_294) := sEf_ok (mi := im_m294) rfl rfl rfl (fun R xs s r1 hb => by obtain ⟨x1, rfl, hb⟩ := ap1_ok hb; exact wk_294_0 _ R s x1 (fun x m' hx => ⟨m', rfl, hx⟩) r1 hb)
/-- LMModel.beginText()V -/
def wq_295 (m : hy_m) (Q : Int → hy_m → Prop) : Prop := Q 0 (hy_u (hy_u m 74 70 0) 74 72 0)
def cs_295 : List (Nat × Nat × sFS) := []
theorem cs_295_ok : kCs dM 0 cs_295 := kCs_n
def lb_295_0 (s : sS) (Q : sQ) (R : Int → hy_m → Prop) : Nat → Option (sL → sS → Prop) := sLb []
set_option maxRecDepth 30000 in
set_option maxHeartbeats 1000000 in
theorem wk_295_0 (Q : sQ) (R : Int → hy_m → Prop) (s : sS) (hQ : ∀ x m', R x m' → Q x (sM s m')) (hr : sRg [(0, 5, 74)] []) (h : wq_295 s.2.2.2 R) : kX dM 0 im_m295 9 0 (sCan [(0, 5, 74)] []) [] s Q := by
  unfold wq_295 at h
  refine wz2_ok (cs := cs_295) (wr := []) (lb := lb_295_0 s Q R) cs_295_ok kLb_n (okL_can rfl hr) (fun Y hY hl => ?_)
  refine hY _ _ _ _ (hY _ _ _ _ (?_ : Y 2 [(0, 5, true, 74)] [(2, true, 0), (5, true, 74)] s))
  refine hY _ _ _ _ ?_
  refine hY _ _ _ _ (hY _ _ _ _ (?_ : Y 7 [(0, 5, true, 74)] [(2, true, 0), (5, true, 74)] (sM s (hy_u s.2.2.2 74 70 0))))
  refine hY _ _ _ _ ?_
  show Y 10 [(0, 5, true, 74)] [] (sM s (hy_u (hy_u s.2.2.2 74 70 0) 74 72 0))
  refine hY _ _ _ _ ?_
  exact hQ 0 (hy_u (hy_u s.2.2.2 74 70 0) 74 72 0) h
def we_295 : sFf := sEf 1 [(0, 5, 74)] (fun xs s Q => ap0 (wq_295 s.2.2.2 Q) xs)
theorem we_295_ok : kS dM 1 295 9 (.inl we_295) := sEf_ok (mi := im_m295) rfl rfl rfl (fun R xs s r1 hb => by obtain ⟨rfl, hb⟩ := ap0_ok hb; exact wk_295_0 _ R s (fun x m' hx => ⟨m', rfl, hx⟩) r1 hb)
/-- LMModel.listing(II)I -/
def wq_296_81 (P43 : Int → hy_m → Prop) (x2 : Int) (x3 : Int) (x4 : Int) (m : hy_m) (Q : Int → hy_m → Prop) : Prop := 0 ≤ ((5 * x3) + x4) ∧ ((5 * x3) + x4) < 140 ∧ (wq_234 (m 83 ((5 * x3) + x4)) 2490 m (fun r1 m1 => wq_294 r1 m1 (fun _ m2 => hy_r 0 (x4 + 1) ∧ (P43 (x4 + 1) m2))))
def wf_296_43 (x2 : Int) (x3 : Int) (Q : Int → hy_m → Prop) (P43 : Int → hy_m → Prop) (x4 : Int) (m : hy_m) : Prop := 0 ≤ x3 ∧ x3 < 28 ∧ (((m 82 x3) ≤ x4 → (wq_286 46 m (fun _ m1 => ((m1 74 70) ≤ x2 → (Q (-9) m1)) ∧ (x2 < (m1 74 70) → (0 ≤ x2 ∧ x2 < 120 ∧ (Q (m1 117 x2) m1)))))) ∧ (x4 < (m 82 x3) → ((x4 ≠ 0 → (wq_286 44 m (fun _ m2 => (x4 ≠ 0 → (wq_296_81 P43 x2 x3 x4 m2 Q)) ∧ (x4 = 0 → (wq_286 45 m2 (fun _ m3 => wq_296_81 P43 x2 x3 x4 m3 Q)))))) ∧ (x4 = 0 → (wq_286 58 m (fun _ m4 => (x4 ≠ 0 → (wq_296_81 P43 x2 x3 x4 m4 Q)) ∧ (x4 = 0 → (wq_286 45 m4 (fun _ m5 => wq_296_81 P43 x2 x3 x4 m5 Q)))))))))
def wq_296_43 (x2 : Int) (x3 : Int) (x4 : Int) (m : hy_m) (Q : Int → hy_m → Prop) : Prop := wL1 hy_m (wf_296_43 x2 x3 Q) x4 m
def wq_296 (x1 : Int) (x2 : Int) (m : hy_m) (Q : Int → hy_m → Prop) : Prop := wq_205 x1 m (fun r1 m1 => (r1 = 0 → (Q (-1) m1)) ∧ (r1 ≠ 0 → ((0 ≤ x2 → (wq_206 x1 m1 (fun r2 m2 => wq_295 m2 (fun _ m3 => 0 ≤ r2 ∧ r2 < 28 ∧ (wq_234 (m3 81 r2) 2490 m3 (fun r4 m4 => wq_294 r4 m4 (fun _ m5 => wq_296_43 x2 r2 0 m5 Q))))))) ∧ (x2 < 0 → (Q (-1) m1)))))
theorem wc_294_r74_1t (x1 : Int) (s : sS) (R : Int → hy_m → Prop) (h : wq_294 x1 s.2.2.2 R) : we_294 [(5, true, 74), (1, true, x1)] s R := h
theorem wc_295_r74 (s : sS) (R : Int → hy_m → Prop) (h : wq_295 s.2.2.2 R) : we_295 [(5, true, 74)] s R := h
def cs_296 : List (Nat × Nat × sFS) := [(205, 2, .inl we_205), (206, 0, .inl we_206), (234, 1, .inl we_234), (286, 9, .inl we_286), (294, 9, .inl we_294), (295, 9, .inl we_295)]
theorem cs_296_ok : kCs dM 5 cs_296 := (kCs_c (Or.inr (Or.inr (Or.inl rfl))) (we_205_ok.deep (by decide)) (kCs_c (Or.inl rfl) (we_206_ok.deep (by decide)) (kCs_c (Or.inr (Or.inl rfl)) (we_234_ok.deep (by decide)) (kCs_c (Or.inr (Or.inr (Or.inr (Or.inr rfl)))) (we_286_ok.deep (by decide)) (kCs_c (Or.inr (Or.inr (Or.inr (Or.inr rfl)))) (we_294_ok.deep (by decide)) (kCs_c (Or.inr (Or.inr (Or.inr (Or.inr rfl)))) (we_295_ok.deep (by decide)) kCs_n))))))
def lb_296_81 (s : sS) (Q : sQ) (P43 : Int → hy_m → Prop) (R : Int → hy_m → Prop) (x2 : Int) (x3 : Int) (x4 : Int) : Nat → Option (sL → sS → Prop) := sLb [(43, fun lv t => sG [(0, 5, 74), (2, 0, 0), (3, 0, 0), (4, 0, 0)] lv (ap3 (fun w2 w3 w4 => ∃ m', t = sM s m' ∧ w2 = x2 ∧ w3 = x3 ∧ P43 w4 m')))]
set_option maxRecDepth 30000 in
set_option maxHeartbeats 1000000 in
theorem wk_296_81 (Q : sQ) (R : Int → hy_m → Prop) (s : sS) (P43 : Int → hy_m → Prop) (x2 : Int) (x3 : Int) (x4 : Int) (hP43 : ∀ (z4 : Int) (m : hy_m), P43 z4 m → sRg [(0, 5, 74), (2, 0, 0), (3, 0, 0), (4, 0, 0)] [x2, x3, z4] → kX dM 5 im_m296 0 43 (sCan [(0, 5, 74), (2, 0, 0), (3, 0, 0), (4, 0, 0)] [x2, x3, z4]) [] (sM s m) Q) (hQ : ∀ x m', R x m' → Q x (sM s m')) (hr : sRg [(0, 5, 74), (2, 0, 0), (3, 0, 0), (4, 0, 0)] [x2, x3, x4]) (h : wq_296_81 P43 x2 x3 x4 s.2.2.2 R) : kX dM 5 im_m296 0 81 (sCan [(0, 5, 74), (2, 0, 0), (3, 0, 0), (4, 0, 0)] [x2, x3, x4]) [] s Q := by
  unfold wq_296_81 at h
  refine wz2_ok (cs := cs_296) (wr := []) (lb := lb_296_81 s Q P43 R x2 x3 x4) cs_296_ok (kLb_c (kLab (Bd := fun xs t => ap3 (fun w2 w3 w4 => ∃ m', t = sM s m' ∧ w2 = x2 ∧ w3 = x3 ∧ P43 w4 m') xs) rfl (fun xs t r1 r2 hb => by obtain ⟨w2, w3, w4, rfl, hb⟩ := ap3_ok hb; obtain ⟨m', rfl, rfl, rfl, hx⟩ := hb; exact hP43 _ m' hx r1)) kLb_n) (okL_can rfl hr) (fun Y hY hl => ?_)
  have l43 := hl 43 _ rfl
  refine hY _ _ _ _ (hY _ _ _ _ (hY _ _ _ _ (?_ : Y 86 [(0, 5, true, 74), (2, 0, true, x2), (3, 0, true, x3), (4, 0, true, x4)] [(5, true, 83), (5, true, 74)] s)))
  refine hY _ _ _ _ (hY _ _ _ _ (hY _ _ _ _ (?_ : Y 89 [(0, 5, true, 74), (2, 0, true, x2), (3, 0, true, x3), (4, 0, true, x4)] [(0, false, 5 * x3), (5, true, 83), (5, true, 74)] s)))
  refine hY _ _ _ _ (hY _ _ _ _ (?_ : Y 92 [(0, 5, true, 74), (2, 0, true, x2), (3, 0, true, x3), (4, 0, true, x4)] [(0, false, (5 * x3) + x4), (5, true, 83), (5, true, 74)] s))
  refine hY _ _ _ _ ?_
  refine (And.intro h.1 (And.intro h.2.1 ?_))
  refine hY _ _ _ _ (?_ : Y 96 [(0, 5, true, 74), (2, 0, true, x2), (3, 0, true, x3), (4, 0, true, x4)] [(0, true, 2490), (0, true, s.2.2.2 83 ((5 * x3) + x4)), (5, true, 74)] s)
  refine hY _ _ _ _ ?_
  refine Exists.intro _ (And.intro (wc_234_0t_0t (s.2.2.2 83 ((5 * x3) + x4)) 2490 _ _ h.2.2) (fun r1 m1 h => ?_))
  show Y 99 [(0, 5, true, 74), (2, 0, true, x2), (3, 0, true, x3), (4, 0, true, x4)] [(1, true, r1), (5, true, 74)] (sM s m1)
  refine hY _ _ _ _ ?_
  refine Exists.intro _ (And.intro (wc_294_r74_1t r1 _ _ h) (fun r2 m2 h => ?_))
  refine hY _ _ _ _ (hY _ _ _ _ (?_ : Y 43 [(4, 0, false, x4 + 1), (0, 5, true, 74), (2, 0, true, x2), (3, 0, true, x3)] [] (sM s m2)))
  refine l43 _ _ ?_
  refine And.intro h.1 ?_
  exact (Exists.intro m2 (And.intro rfl (And.intro rfl (And.intro rfl h.2))))
def lb_296_43 (s : sS) (Q : sQ) (P43 : Int → hy_m → Prop) (R : Int → hy_m → Prop) (x2 : Int) (x3 : Int) (x4 : Int) : Nat → Option (sL → sS → Prop) := sLb [(81, fun lv t => sG [(0, 5, 74), (2, 0, 0), (3, 0, 0), (4, 0, 0)] lv (ap3 (fun w2 w3 w4 => ∃ m', t = sM s m' ∧ w2 = x2 ∧ w3 = x3 ∧ wq_296_81 P43 w2 w3 w4 m' R))), (43, fun lv t => sG [(0, 5, 74), (2, 0, 0), (3, 0, 0), (4, 0, 0)] lv (ap3 (fun w2 w3 w4 => ∃ m', t = sM s m' ∧ w2 = x2 ∧ w3 = x3 ∧ P43 w4 m')))]
set_option maxRecDepth 30000 in
set_option maxHeartbeats 1000000 in
theorem wj_296_43 (Q : sQ) (R : Int → hy_m → Prop) (s : sS) (P43 : Int → hy_m → Prop) (x2 : Int) (x3 : Int) (x4 : Int) (m : hy_m) (hP43 : ∀ (z4 : Int) (m : hy_m), P43 z4 m → sRg [(0, 5, 74), (2, 0, 0), (3, 0, 0), (4, 0, 0)] [x2, x3, z4] → kX dM 5 im_m296 0 43 (sCan [(0, 5, 74), (2, 0, 0), (3, 0, 0), (4, 0, 0)] [x2, x3, z4]) [] (sM s m) Q) (hQ : ∀ x m', R x m' → Q x (sM s m')) (hr : sRg [(0, 5, 74), (2, 0, 0), (3, 0, 0), (4, 0, 0)] [x2, x3, x4]) (h : wf_296_43 x2 x3 R P43 x4 m) : kX dM 5 im_m296 0 43 (sCan [(0, 5, 74), (2, 0, 0), (3, 0, 0), (4, 0, 0)] [x2, x3, x4]) [] (sM s m) Q := by
  unfold wf_296_43 at h
  refine wz2_ok (cs := cs_296) (wr := []) (lb := lb_296_43 s Q P43 R x2 x3 x4) cs_296_ok (kLb_c (kLab (Bd := fun xs t => ap3 (fun w2 w3 w4 => ∃ m', t = sM s m' ∧ w2 = x2 ∧ w3 = x3 ∧ wq_296_81 P43 w2 w3 w4 m' R) xs) rfl (fun xs t r1 r2 hb => by obtain ⟨w2, w3, w4, rfl, hb⟩ := ap3_ok hb; obtain ⟨m', rfl, rfl, rfl, hx⟩ := hb; exact wk_296_81 Q R (sM s m') P43 _ _ _ hP43 (fun x m'' hy => hQ x m'' hy) r1 hx)) (kLb_c (kLab (Bd := fun xs t => ap3 (fun w2 w3 w4 => ∃ m', t = sM s m' ∧ w2 = x2 ∧ w3 = x3 ∧ P43 w4 m') xs) rfl (fun xs t r1 r2 hb => by obtain ⟨w2, w3, w4, rfl, hb⟩ := ap3_ok hb; obtain ⟨m', rfl, rfl, rfl, hx⟩ := hb; exact hP43 _ m' hx r1)) kLb_n)) (okL_can rfl hr) (fun Y hY hl => ?_)
  have l81 := hl 81 _ rfl
  have l43 := hl 43 _ rfl
  refine hY _ _ _ _ (hY _ _ _ _ (hY _ _ _ _ (?_ : Y 49 [(0, 5, true, 74), (2, 0, true, x2), (3, 0, true, x3), (4, 0, true, x4)] [(5, true, 82), (0, true, x4)] (sM s m))))
  refine hY _ _ _ _ (?_ : Y 50 [(0, 5, true, 74), (2, 0, true, x2), (3, 0, true, x3), (4, 0, true, x4)] [(0, true, x3), (5, true, 82), (0, true, x4)] (sM s m))
  refine hY _ _ _ _ ?_
  refine (And.intro h.1 (And.intro h.2.1 ?_))
  show Y 51 [(0, 5, true, 74), (2, 0, true, x2), (3, 0, true, x3), (4, 0, true, x4)] [(0, true, m 82 x3), (0, true, x4)] (sM s m)
  refine hY _ _ _ _ ?_
  refine And.intro (fun hc => ?_) (fun hc => ?_)
  · have h := h.2.2.1 hc
    refine hY _ _ _ _ (hY _ _ _ _ (?_ : Y 111 [(0, 5, true, 74), (2, 0, true, x2), (3, 0, true, x3), (4, 0, true, x4)] [(0, true, 46), (5, true, 74)] (sM s m)))
    refine hY _ _ _ _ ?_
    refine Exists.intro _ (And.intro (wc_286_r74_0t 46 _ _ h) (fun r1 m1 h => ?_))
    refine hY _ _ _ _ (hY _ _ _ _ (hY _ _ _ _ (?_ : Y 119 [(0, 5, true, 74), (2, 0, true, x2), (3, 0, true, x3), (4, 0, true, x4)] [(0, true, m1 74 70), (0, true, x2)] (sM s m1))))
    refine hY _ _ _ _ ?_
    refine And.intro (fun hc => ?_) (fun hc => ?_)
    · have h := h.1 hc
      refine hY _ _ _ _ (?_ : Y 133 [(0, 5, true, 74), (2, 0, true, x2), (3, 0, true, x3), (4, 0, true, x4)] [(0, true, (-9))] (sM s m1))
      refine hY _ _ _ _ ?_
      exact hQ (-9) m1 h
    · have h := h.2 hc
      refine hY _ _ _ _ (hY _ _ _ _ (hY _ _ _ _ (?_ : Y 127 [(0, 5, true, 74), (2, 0, true, x2), (3, 0, true, x3), (4, 0, true, x4)] [(0, true, x2), (5, true, 117)] (sM s m1))))
      refine hY _ _ _ _ ?_
      refine (And.intro h.1 (And.intro h.2.1 ?_))
      refine hY _ _ _ _ (?_ : Y 133 [(0, 5, true, 74), (2, 0, true, x2), (3, 0, true, x3), (4, 0, true, x4)] [(0, true, m1 117 x2)] (sM s m1))
      refine hY _ _ _ _ ?_
      exact hQ (m1 117 x2) m1 h.2.2
  · have h := h.2.2.2 hc
    refine hY _ _ _ _ (hY _ _ _ _ (?_ : Y 57 [(0, 5, true, 74), (2, 0, true, x2), (3, 0, true, x3), (4, 0, true, x4)] [(0, true, x4), (5, true, 74)] (sM s m)))
    refine hY _ _ _ _ ?_
    refine And.intro (fun hc => ?_) (fun hc => ?_)
    · have h := h.1 hc
      refine hY _ _ _ _ (?_ : Y 67 [(0, 5, true, 74), (2, 0, true, x2), (3, 0, true, x3), (4, 0, true, x4)] [(0, true, 44), (5, true, 74)] (sM s m))
      refine hY _ _ _ _ ?_
      refine Exists.intro _ (And.intro (wc_286_r74_0t 44 _ _ h) (fun r2 m2 h => ?_))
      refine hY _ _ _ _ (?_ : Y 72 [(0, 5, true, 74), (2, 0, true, x2), (3, 0, true, x3), (4, 0, true, x4)] [(0, true, x4)] (sM s m2))
      refine hY _ _ _ _ ?_
      refine And.intro (fun hc => ?_) (fun hc => ?_)
      · have h := h.1 hc
        show Y 81 [(0, 5, true, 74), (2, 0, true, x2), (3, 0, true, x3), (4, 0, true, x4)] [] (sM s m2)
        refine l81 _ _ ?_
        exact (Exists.intro m2 (And.intro rfl (And.intro rfl (And.intro rfl h))))
      · have h := h.2 hc
        refine hY _ _ _ _ (hY _ _ _ _ (?_ : Y 78 [(0, 5, true, 74), (2, 0, true, x2), (3, 0, true, x3), (4, 0, true, x4)] [(0, true, 45), (5, true, 74)] (sM s m2)))
        refine hY _ _ _ _ ?_
        refine Exists.intro _ (And.intro (wc_286_r74_0t 45 _ _ h) (fun r3 m3 h => ?_))
        show Y 81 [(0, 5, true, 74), (2, 0, true, x2), (3, 0, true, x3), (4, 0, true, x4)] [] (sM s m3)
        refine l81 _ _ ?_
        exact (Exists.intro m3 (And.intro rfl (And.intro rfl (And.intro rfl h))))
    · have h := h.2 hc
      refine hY _ _ _ _ (hY _ _ _ _ (?_ : Y 67 [(0, 5, true, 74), (2, 0, true, x2), (3, 0, true, x3), (4, 0, true, x4)] [(0, true, 58), (5, true, 74)] (sM s m)))
      refine hY _ _ _ _ ?_
      refine Exists.intro _ (And.intro (wc_286_r74_0t 58 _ _ h) (fun r4 m4 h => ?_))
      refine hY _ _ _ _ (?_ : Y 72 [(0, 5, true, 74), (2, 0, true, x2), (3, 0, true, x3), (4, 0, true, x4)] [(0, true, x4)] (sM s m4))
      refine hY _ _ _ _ ?_
      refine And.intro (fun hc => ?_) (fun hc => ?_)
      · have h := h.1 hc
        show Y 81 [(0, 5, true, 74), (2, 0, true, x2), (3, 0, true, x3), (4, 0, true, x4)] [] (sM s m4)
        refine l81 _ _ ?_
        exact (Exists.intro m4 (And.intro rfl (And.intro rfl (And.intro rfl h))))
      · have h := h.2 hc
        refine hY _ _ _ _ (hY _ _ _ _ (?_ : Y 78 [(0, 5, true, 74), (2, 0, true, x2), (3, 0, true, x3), (4, 0, true, x4)] [(0, true, 45), (5, true, 74)] (sM s m4)))
        refine hY _ _ _ _ ?_
        refine Exists.intro _ (And.intro (wc_286_r74_0t 45 _ _ h) (fun r5 m5 h => ?_))
        show Y 81 [(0, 5, true, 74), (2, 0, true, x2), (3, 0, true, x3), (4, 0, true, x4)] [] (sM s m5)
        refine l81 _ _ ?_
        exact (Exists.intro m5 (And.intro rfl (And.intro rfl (And.intro rfl h))))
theorem wk_296_43 (Q : sQ) (R : Int → hy_m → Prop) (s : sS) (x2 : Int) (x3 : Int) (x4 : Int) (hQ : ∀ x m', R x m' → Q x (sM s m')) (hr : sRg [(0, 5, 74), (2, 0, 0), (3, 0, 0), (4, 0, 0)] [x2, x3, x4]) (h : wq_296_43 x2 x3 x4 s.2.2.2 R) : kX dM 5 im_m296 0 43 (sCan [(0, 5, 74), (2, 0, 0), (3, 0, 0), (4, 0, 0)] [x2, x3, x4]) [] s Q :=
  h (fun x4 m => sRg [(0, 5, 74), (2, 0, 0), (3, 0, 0), (4, 0, 0)] [x2, x3, x4] → kX dM 5 im_m296 0 43 (sCan [(0, 5, 74), (2, 0, 0), (3, 0, 0), (4, 0, 0)] [x2, x3, x4]) [] (sM s m) Q) (fun x4 m h hr => wj_296_43 Q R s (fun x4 m => sRg [(0, 5, 74), (2, 0, 0), (3, 0, 0), (4, 0, 0)] [x2, x3, x4] → kX dM 5 im_m296 0 43 (sCan [(0, 5, 74), (2, 0, 0), (3, 0, 0), (4, 0, 0)] [x2, x3, x4]) [] (sM s m) Q) x2 x3 x4 m  (fun _ _ hp hr => hp hr) hQ hr h) hr
def lb_296_0 (s : sS) (Q : sQ) (R : Int → hy_m → Prop) (x1 : Int) (x2 : Int) : Nat → Option (sL → sS → Prop) := sLb [(43, fun lv t => sG [(0, 5, 74), (2, 0, 0), (3, 0, 0), (4, 0, 0)] lv (ap3 (fun w2 w3 w4 => ∃ m', t = sM s m' ∧ wq_296_43 w2 w3 w4 m' R)))]
set_option maxRecDepth 30000 in
set_option maxHeartbeats 1000000 in
theorem wk_296_0 (Q : sQ) (R : Int → hy_m → Prop) (s : sS) (x1 : Int) (x2 : Int) (hQ : ∀ x m', R x m' → Q x (sM s m')) (hr : sRg [(0, 5, 74), (1, 0, 0), (2, 0, 0)] [x1, x2]) (h : wq_296 x1 x2 s.2.2.2 R) : kX dM 5 im_m296 0 0 (sCan [(0, 5, 74), (1, 0, 0), (2, 0, 0)] [x1, x2]) [] s Q := by
  unfold wq_296 at h
  refine wz2_ok (cs := cs_296) (wr := []) (lb := lb_296_0 s Q R x1 x2) cs_296_ok (kLb_c (kLab (Bd := fun xs t => ap3 (fun w2 w3 w4 => ∃ m', t = sM s m' ∧ wq_296_43 w2 w3 w4 m' R) xs) rfl (fun xs t r1 r2 hb => by obtain ⟨w2, w3, w4, rfl, hb⟩ := ap3_ok hb; obtain ⟨m', rfl, hx⟩ := hb; exact wk_296_43 Q R (sM s m') _ _ _ (fun x m'' hy => hQ x m'' hy) r1 hx)) kLb_n) (okL_can rfl hr) (fun Y hY hl => ?_)
  have l43 := hl 43 _ rfl
  refine hY _ _ _ _ (hY _ _ _ _ (?_ : Y 2 [(0, 5, true, 74), (1, 0, true, x1), (2, 0, true, x2)] [(0, true, x1), (5, true, 74)] s))
  refine hY _ _ _ _ ?_
  refine Exists.intro _ (And.intro (wc_205_r74_0t x1 _ _ h) (fun r1 m1 h => ?_))
  show Y 5 [(0, 5, true, 74), (1, 0, true, x1), (2, 0, true, x2)] [(2, true, r1)] (sM s m1)
  refine hY _ _ _ _ ?_
  refine And.intro (fun hc => ?_) (fun hc => ?_)
  · have h := h.1 hc
    refine hY _ _ _ _ (?_ : Y 13 [(0, 5, true, 74), (1, 0, true, x1), (2, 0, true, x2)] [(0, true, (-1))] (sM s m1))
    refine hY _ _ _ _ ?_
    exact hQ (-1) m1 h
  · have h := h.2 hc
    refine hY _ _ _ _ (?_ : Y 9 [(0, 5, true, 74), (1, 0, true, x1), (2, 0, true, x2)] [(0, true, x2)] (sM s m1))
    refine hY _ _ _ _ ?_
    refine And.intro (fun hc => ?_) (fun hc => ?_)
    · have h := h.1 hc
      refine hY _ _ _ _ (hY _ _ _ _ (?_ : Y 16 [(0, 5, true, 74), (1, 0, true, x1), (2, 0, true, x2)] [(0, true, x1), (5, true, 74)] (sM s m1)))
      refine hY _ _ _ _ ?_
      refine Exists.intro _ (And.intro (wc_206_r74_0t x1 _ _ h) (fun r2 m2 h => ?_))
      refine hY _ _ _ _ (hY _ _ _ _ (?_ : Y 21 [(3, 0, true, r2), (0, 5, true, 74), (1, 0, true, x1), (2, 0, true, x2)] [(5, true, 74)] (sM s m2)))
      refine hY _ _ _ _ ?_
      refine Exists.intro _ (And.intro (wc_295_r74 _ _ h) (fun r3 m3 h => ?_))
      refine hY _ _ _ _ (hY _ _ _ _ (hY _ _ _ _ (?_ : Y 29 [(3, 0, true, r2), (0, 5, true, 74), (1, 0, true, x1), (2, 0, true, x2)] [(5, true, 81), (5, true, 74)] (sM s m3))))
      refine hY _ _ _ _ (?_ : Y 30 [(3, 0, true, r2), (0, 5, true, 74), (1, 0, true, x1), (2, 0, true, x2)] [(0, true, r2), (5, true, 81), (5, true, 74)] (sM s m3))
      refine hY _ _ _ _ ?_
      refine (And.intro h.1 (And.intro h.2.1 ?_))
      refine hY _ _ _ _ (?_ : Y 34 [(3, 0, true, r2), (0, 5, true, 74), (1, 0, true, x1), (2, 0, true, x2)] [(0, true, 2490), (0, true, m3 81 r2), (5, true, 74)] (sM s m3))
      refine hY _ _ _ _ ?_
      refine Exists.intro _ (And.intro (wc_234_0t_0t (m3 81 r2) 2490 _ _ h.2.2) (fun r4 m4 h => ?_))
      show Y 37 [(3, 0, true, r2), (0, 5, true, 74), (1, 0, true, x1), (2, 0, true, x2)] [(1, true, r4), (5, true, 74)] (sM s m4)
      refine hY _ _ _ _ ?_
      refine Exists.intro _ (And.intro (wc_294_r74_1t r4 _ _ h) (fun r5 m5 h => ?_))
      refine hY _ _ _ _ (hY _ _ _ _ (?_ : Y 43 [(4, 2, true, 0), (3, 0, true, r2), (0, 5, true, 74), (1, 0, true, x1), (2, 0, true, x2)] [] (sM s m5)))
      refine l43 _ _ ?_
      exact (Exists.intro m5 (And.intro rfl h))
    · have h := h.2 hc
      refine hY _ _ _ _ (?_ : Y 13 [(0, 5, true, 74), (1, 0, true, x1), (2, 0, true, x2)] [(0, true, (-1))] (sM s m1))
      refine hY _ _ _ _ ?_
      exact hQ (-1) m1 h
def we_296 : sFf := sEf 5 [(0, 5, 74), (1, 0, 0), (2, 0, 0)] (fun xs s Q => ap2 (fun x1 x2 => wq_296 x1 x2 s.2.2.2 Q) xs)
theorem we_296_ok : kS dM 6 296 0 (.inl we_296) := sEf_ok (mi := im_m296) rfl rfl rfl (fun R xs s r1 hb => by obtain ⟨x1, x2, rfl, hb⟩ := ap2_ok hb; exact wk_296_0 _ R s x1 x2 (fun x m' hx => ⟨m', rfl, hx⟩) r1 hb)
/-- LMModel.value(II)I -/
def wq_297 (x1 : Int) (x2 : Int) (m : hy_m) (Q : Int → hy_m → Prop) : Prop := wq_283 x1 m (fun r1 m1 => (r1 = 0 → (Q (-1) m1)) ∧ (r1 ≠ 0 → ((0 ≤ x2 → (wq_295 m1 (fun _ m2 => wq_294 (jO 2305843009213693952 x1) m2 (fun _ m3 => ((m3 74 70) ≤ x2 → (Q (-9) m3)) ∧ (x2 < (m3 74 70) → (0 ≤ x2 ∧ x2 < 120 ∧ (Q (m3 117 x2) m3))))))) ∧ (x2 < 0 → (Q (-1) m1)))))
def cs_297 : List (Nat × Nat × sFS) := [(283, 2, .inl we_283), (294, 9, .inl we_294), (295, 9, .inl we_295)]
theorem cs_297_ok : kCs dM 5 cs_297 := (kCs_c (Or.inr (Or.inr (Or.inl rfl))) (we_283_ok.deep (by decide)) (kCs_c (Or.inr (Or.inr (Or.inr (Or.inr rfl)))) (we_294_ok.deep (by decide)) (kCs_c (Or.inr (Or.inr (Or.inr (Or.inr rfl)))) (we_295_ok.deep (by decide)) kCs_n)))
def lb_297_0 (s : sS) (Q : sQ) (R : Int → hy_m → Prop) (x1 : Int) (x2 : Int) : Nat → Option (sL → sS → Prop) := sLb []
set_option maxRecDepth 30000 in
set_option maxHeartbeats 1000000 in
theorem wk_297_0 (Q : sQ) (R : Int → hy_m → Prop) (s : sS) (x1 : Int) (x2 : Int) (hQ : ∀ x m', R x m' → Q x (sM s m')) (hr : sRg [(0, 5, 74), (1, 0, 0), (2, 0, 0)] [x1, x2]) (h : wq_297 x1 x2 s.2.2.2 R) : kX dM 5 im_m297 0 0 (sCan [(0, 5, 74), (1, 0, 0), (2, 0, 0)] [x1, x2]) [] s Q := by
  unfold wq_297 at h
  refine wz2_ok (cs := cs_297) (wr := []) (lb := lb_297_0 s Q R x1 x2) cs_297_ok kLb_n (okL_can rfl hr) (fun Y hY hl => ?_)
  refine hY _ _ _ _ (hY _ _ _ _ (?_ : Y 2 [(0, 5, true, 74), (1, 0, true, x1), (2, 0, true, x2)] [(0, true, x1), (5, true, 74)] s))
  refine hY _ _ _ _ ?_
  refine Exists.intro _ (And.intro (wc_283_r74_0t x1 _ _ h) (fun r1 m1 h => ?_))
  show Y 5 [(0, 5, true, 74), (1, 0, true, x1), (2, 0, true, x2)] [(2, true, r1)] (sM s m1)
  refine hY _ _ _ _ ?_
  refine And.intro (fun hc => ?_) (fun hc => ?_)
  · have h := h.1 hc
    refine hY _ _ _ _ (?_ : Y 13 [(0, 5, true, 74), (1, 0, true, x1), (2, 0, true, x2)] [(0, true, (-1))] (sM s m1))
    refine hY _ _ _ _ ?_
    exact hQ (-1) m1 h
  · have h := h.2 hc
    refine hY _ _ _ _ (?_ : Y 9 [(0, 5, true, 74), (1, 0, true, x1), (2, 0, true, x2)] [(0, true, x2)] (sM s m1))
    refine hY _ _ _ _ ?_
    refine And.intro (fun hc => ?_) (fun hc => ?_)
    · have h := h.1 hc
      refine hY _ _ _ _ (?_ : Y 15 [(0, 5, true, 74), (1, 0, true, x1), (2, 0, true, x2)] [(5, true, 74)] (sM s m1))
      refine hY _ _ _ _ ?_
      refine Exists.intro _ (And.intro (wc_295_r74 _ _ h) (fun r2 m2 h => ?_))
      refine hY _ _ _ _ (hY _ _ _ _ (hY _ _ _ _ (?_ : Y 23 [(0, 5, true, 74), (1, 0, true, x1), (2, 0, true, x2)] [(0, true, x1), (1, true, 2305843009213693952), (5, true, 74)] (sM s m2))))
      refine hY _ _ _ _ ?_
      show Y 24 [(0, 5, true, 74), (1, 0, true, x1), (2, 0, true, x2)] [(1, true, x1), (1, true, 2305843009213693952), (5, true, 74)] (sM s m2)
      refine hY _ _ _ _ (?_ : Y 25 [(0, 5, true, 74), (1, 0, true, x1), (2, 0, true, x2)] [(1, true, jO 2305843009213693952 x1), (5, true, 74)] (sM s m2))
      refine hY _ _ _ _ ?_
      refine Exists.intro _ (And.intro (wc_294_r74_1t (jO 2305843009213693952 x1) _ _ h) (fun r3 m3 h => ?_))
      refine hY _ _ _ _ (hY _ _ _ _ (hY _ _ _ _ (?_ : Y 33 [(0, 5, true, 74), (1, 0, true, x1), (2, 0, true, x2)] [(0, true, m3 74 70), (0, true, x2)] (sM s m3))))
      refine hY _ _ _ _ ?_
      refine And.intro (fun hc => ?_) (fun hc => ?_)
      · have h := h.1 hc
        refine hY _ _ _ _ (?_ : Y 47 [(0, 5, true, 74), (1, 0, true, x1), (2, 0, true, x2)] [(0, true, (-9))] (sM s m3))
        refine hY _ _ _ _ ?_
        exact hQ (-9) m3 h
      · have h := h.2 hc
        refine hY _ _ _ _ (hY _ _ _ _ (hY _ _ _ _ (?_ : Y 41 [(0, 5, true, 74), (1, 0, true, x1), (2, 0, true, x2)] [(0, true, x2), (5, true, 117)] (sM s m3))))
        refine hY _ _ _ _ ?_
        refine (And.intro h.1 (And.intro h.2.1 ?_))
        refine hY _ _ _ _ (?_ : Y 47 [(0, 5, true, 74), (1, 0, true, x1), (2, 0, true, x2)] [(0, true, m3 117 x2)] (sM s m3))
        refine hY _ _ _ _ ?_
        exact hQ (m3 117 x2) m3 h.2.2
    · have h := h.2 hc
      refine hY _ _ _ _ (?_ : Y 13 [(0, 5, true, 74), (1, 0, true, x1), (2, 0, true, x2)] [(0, true, (-1))] (sM s m1))
      refine hY _ _ _ _ ?_
      exact hQ (-1) m1 h
def we_297 : sFf := sEf 3 [(0, 5, 74), (1, 0, 0), (2, 0, 0)] (fun xs s Q => ap2 (fun x1 x2 => wq_297 x1 x2 s.2.2.2 Q) xs)
theorem we_297_ok : kS dM 6 297 0 (.inl we_297) := sEf_ok (mi := im_m297) rfl rfl rfl (fun R xs s r1 hb => by obtain ⟨x1, x2, rfl, hb⟩ := ap2_ok hb; exact wk_297_0 _ R s x1 x2 (fun x m' hx => ⟨m', rfl, hx⟩) r1 hb)
/-- LMModel.goal(I)I -/
def wq_298 (x1 : Int) (m : hy_m) (Q : Int → hy_m → Prop) : Prop := (0 ≤ x1 → (((m 74 52) ≠ (-9) → (wq_295 m (fun _ m1 => wq_269 (m1 74 52) m1 (fun r2 m2 => wq_294 r2 m2 (fun _ m3 => ((m3 74 70) ≤ x1 → (Q (-9) m3)) ∧ (x1 < (m3 74 70) → (0 ≤ x1 ∧ x1 < 120 ∧ (Q (m3 117 x1) m3)))))))) ∧ ((m 74 52) = (-9) → (Q (-9) m)))) ∧ (x1 < 0 → (Q (-1) m))
def cs_298 : List (Nat × Nat × sFS) := [(269, 1, .inl we_269), (294, 9, .inl we_294), (295, 9, .inl we_295)]
theorem cs_298_ok : kCs dM 5 cs_298 := (kCs_c (Or.inr (Or.inl rfl)) (we_269_ok.deep (by decide)) (kCs_c (Or.inr (Or.inr (Or.inr (Or.inr rfl)))) (we_294_ok.deep (by decide)) (kCs_c (Or.inr (Or.inr (Or.inr (Or.inr rfl)))) (we_295_ok.deep (by decide)) kCs_n)))
def lb_298_0 (s : sS) (Q : sQ) (R : Int → hy_m → Prop) (x1 : Int) : Nat → Option (sL → sS → Prop) := sLb []
set_option maxRecDepth 30000 in
set_option maxHeartbeats 1000000 in
theorem wk_298_0 (Q : sQ) (R : Int → hy_m → Prop) (s : sS) (x1 : Int) (hQ : ∀ x m', R x m' → Q x (sM s m')) (hr : sRg [(0, 5, 74), (1, 0, 0)] [x1]) (h : wq_298 x1 s.2.2.2 R) : kX dM 5 im_m298 0 0 (sCan [(0, 5, 74), (1, 0, 0)] [x1]) [] s Q := by
  unfold wq_298 at h
  refine wz2_ok (cs := cs_298) (wr := []) (lb := lb_298_0 s Q R x1) cs_298_ok kLb_n (okL_can rfl hr) (fun Y hY hl => ?_)
  refine hY _ _ _ _ (?_ : Y 1 [(0, 5, true, 74), (1, 0, true, x1)] [(0, true, x1)] s)
  refine hY _ _ _ _ ?_
  refine And.intro (fun hc => ?_) (fun hc => ?_)
  · have h := h.1 hc
    refine hY _ _ _ _ (hY _ _ _ _ (hY _ _ _ _ (?_ : Y 12 [(0, 5, true, 74), (1, 0, true, x1)] [(0, true, (-9)), (0, true, s.2.2.2 74 52)] s)))
    refine hY _ _ _ _ ?_
    refine And.intro (fun hc => ?_) (fun hc => ?_)
    · have h := h.1 hc
      refine hY _ _ _ _ (?_ : Y 19 [(0, 5, true, 74), (1, 0, true, x1)] [(5, true, 74)] s)
      refine hY _ _ _ _ ?_
      refine Exists.intro _ (And.intro (wc_295_r74 _ _ h) (fun r1 m1 h => ?_))
      refine hY _ _ _ _ (hY _ _ _ _ (hY _ _ _ _ (?_ : Y 25 [(0, 5, true, 74), (1, 0, true, x1)] [(5, true, 74), (5, true, 74), (5, true, 74)] (sM s m1))))
      refine hY _ _ _ _ (?_ : Y 28 [(0, 5, true, 74), (1, 0, true, x1)] [(0, true, m1 74 52), (5, true, 74), (5, true, 74)] (sM s m1))
      refine hY _ _ _ _ ?_
      refine Exists.intro _ (And.intro (wc_269_r74_0t (m1 74 52) _ _ h) (fun r2 m2 h => ?_))
      show Y 31 [(0, 5, true, 74), (1, 0, true, x1)] [(1, true, r2), (5, true, 74)] (sM s m2)
      refine hY _ _ _ _ ?_
      refine Exists.intro _ (And.intro (wc_294_r74_1t r2 _ _ h) (fun r3 m3 h => ?_))
      refine hY _ _ _ _ (hY _ _ _ _ (hY _ _ _ _ (?_ : Y 39 [(0, 5, true, 74), (1, 0, true, x1)] [(0, true, m3 74 70), (0, true, x1)] (sM s m3))))
      refine hY _ _ _ _ ?_
      refine And.intro (fun hc => ?_) (fun hc => ?_)
      · have h := h.1 hc
        refine hY _ _ _ _ (?_ : Y 53 [(0, 5, true, 74), (1, 0, true, x1)] [(0, true, (-9))] (sM s m3))
        refine hY _ _ _ _ ?_
        exact hQ (-9) m3 h
      · have h := h.2 hc
        refine hY _ _ _ _ (hY _ _ _ _ (hY _ _ _ _ (?_ : Y 47 [(0, 5, true, 74), (1, 0, true, x1)] [(0, true, x1), (5, true, 117)] (sM s m3))))
        refine hY _ _ _ _ ?_
        refine (And.intro h.1 (And.intro h.2.1 ?_))
        refine hY _ _ _ _ (?_ : Y 53 [(0, 5, true, 74), (1, 0, true, x1)] [(0, true, m3 117 x1)] (sM s m3))
        refine hY _ _ _ _ ?_
        exact hQ (m3 117 x1) m3 h.2.2
    · have h := h.2 hc
      refine hY _ _ _ _ (?_ : Y 17 [(0, 5, true, 74), (1, 0, true, x1)] [(0, true, (-9))] s)
      refine hY _ _ _ _ ?_
      exact hQ (-9) s.2.2.2 h
  · have h := h.2 hc
    refine hY _ _ _ _ (?_ : Y 5 [(0, 5, true, 74), (1, 0, true, x1)] [(0, true, (-1))] s)
    refine hY _ _ _ _ ?_
    exact hQ (-1) s.2.2.2 h
def we_298 : sFf := sEf 2 [(0, 5, 74), (1, 0, 0)] (fun xs s Q => ap1 (fun x1 => wq_298 x1 s.2.2.2 Q) xs)
theorem we_298_ok : kS dM 6 298 0 (.inl we_298) := sEf_ok (mi := im_m298) rfl rfl rfl (fun R xs s r1 hb => by obtain ⟨x1, rfl, hb⟩ := ap1_ok hb; exact wk_298_0 _ R s x1 (fun x m' hx => ⟨m', rfl, hx⟩) r1 hb)
/-- LMModel.clauseOfSlot(I)I -/
def wf_299_2 (x1 : Int) (Q : Int → hy_m → Prop) (P2 : Int → hy_m → Prop) (x2 : Int) (m : hy_m) : Prop := 0 ≤ (0 : Int) ∧ (0 : Int) < 21 ∧ (((m 85 0) ≤ x2 → (Q (-9) m)) ∧ (x2 < (m 85 0) → (wq_206 x2 m (fun r1 m1 => (r1 ≠ x1 → (hy_r 0 (x2 + 1) ∧ (P2 (x2 + 1) m1))) ∧ (r1 = x1 → (Q x2 m1))))))
def wq_299_2 (x1 : Int) (x2 : Int) (m : hy_m) (Q : Int → hy_m → Prop) : Prop := wL1 hy_m (wf_299_2 x1 Q) x2 m
def wq_299 (x1 : Int) (m : hy_m) (Q : Int → hy_m → Prop) : Prop := wq_299_2 x1 0 m Q
def cs_299 : List (Nat × Nat × sFS) := [(206, 0, .inl we_206)]
theorem cs_299_ok : kCs dM 1 cs_299 := (kCs_c (Or.inl rfl) (we_206_ok.deep (by decide)) kCs_n)
def lb_299_2 (s : sS) (Q : sQ) (P2 : Int → hy_m → Prop) (R : Int → hy_m → Prop) (x1 : Int) (x2 : Int) : Nat → Option (sL → sS → Prop) := sLb [(2, fun lv t => sG [(0, 5, 74), (1, 0, 0), (2, 0, 0)] lv (ap2 (fun w1 w2 => ∃ m', t = sM s m' ∧ w1 = x1 ∧ P2 w2 m')))]
set_option maxRecDepth 30000 in
set_option maxHeartbeats 1000000 in
theorem wj_299_2 (Q : sQ) (R : Int → hy_m → Prop) (s : sS) (P2 : Int → hy_m → Prop) (x1 : Int) (x2 : Int) (m : hy_m) (hP2 : ∀ (z2 : Int) (m : hy_m), P2 z2 m → sRg [(0, 5, 74), (1, 0, 0), (2, 0, 0)] [x1, z2] → kX dM 1 im_m299 0 2 (sCan [(0, 5, 74), (1, 0, 0), (2, 0, 0)] [x1, z2]) [] (sM s m) Q) (hQ : ∀ x m', R x m' → Q x (sM s m')) (hr : sRg [(0, 5, 74), (1, 0, 0), (2, 0, 0)] [x1, x2]) (h : wf_299_2 x1 R P2 x2 m) : kX dM 1 im_m299 0 2 (sCan [(0, 5, 74), (1, 0, 0), (2, 0, 0)] [x1, x2]) [] (sM s m) Q := by
  unfold wf_299_2 at h
  refine wz2_ok (cs := cs_299) (wr := []) (lb := lb_299_2 s Q P2 R x1 x2) cs_299_ok (kLb_c (kLab (Bd := fun xs t => ap2 (fun w1 w2 => ∃ m', t = sM s m' ∧ w1 = x1 ∧ P2 w2 m') xs) rfl (fun xs t r1 r2 hb => by obtain ⟨w1, w2, rfl, hb⟩ := ap2_ok hb; obtain ⟨m', rfl, rfl, hx⟩ := hb; exact hP2 _ m' hx r1)) kLb_n) (okL_can rfl hr) (fun Y hY hl => ?_)
  have l2 := hl 2 _ rfl
  refine hY _ _ _ _ (hY _ _ _ _ (hY _ _ _ _ (?_ : Y 7 [(0, 5, true, 74), (1, 0, true, x1), (2, 0, true, x2)] [(5, true, 85), (0, true, x2)] (sM s m))))
  refine hY _ _ _ _ (?_ : Y 8 [(0, 5, true, 74), (1, 0, true, x1), (2, 0, true, x2)] [(2, true, 0), (5, true, 85), (0, true, x2)] (sM s m))
  refine hY _ _ _ _ ?_
  refine (And.intro h.1 (And.intro h.2.1 ?_))
  show Y 9 [(0, 5, true, 74), (1, 0, true, x1), (2, 0, true, x2)] [(0, true, m 85 0), (0, true, x2)] (sM s m)
  refine hY _ _ _ _ ?_
  refine And.intro (fun hc => ?_) (fun hc => ?_)
  · have h := h.2.2.1 hc
    refine hY _ _ _ _ (?_ : Y 31 [(0, 5, true, 74), (1, 0, true, x1), (2, 0, true, x2)] [(0, true, (-9))] (sM s m))
    refine hY _ _ _ _ ?_
    exact hQ (-9) m h
  · have h := h.2.2.2 hc
    refine hY _ _ _ _ (hY _ _ _ _ (?_ : Y 14 [(0, 5, true, 74), (1, 0, true, x1), (2, 0, true, x2)] [(0, true, x2), (5, true, 74)] (sM s m)))
    refine hY _ _ _ _ ?_
    refine Exists.intro _ (And.intro (wc_206_r74_0t x2 _ _ h) (fun r1 m1 h => ?_))
    refine hY _ _ _ _ (?_ : Y 18 [(0, 5, true, 74), (1, 0, true, x1), (2, 0, true, x2)] [(0, true, x1), (0, true, r1)] (sM s m1))
    refine hY _ _ _ _ ?_
    refine And.intro (fun hc => ?_) (fun hc => ?_)
    · have h := h.1 hc
      refine hY _ _ _ _ (hY _ _ _ _ (?_ : Y 2 [(2, 0, false, x2 + 1), (0, 5, true, 74), (1, 0, true, x1)] [] (sM s m1)))
      refine l2 _ _ ?_
      refine And.intro h.1 ?_
      exact (Exists.intro m1 (And.intro rfl (And.intro rfl h.2)))
    · have h := h.2 hc
      refine hY _ _ _ _ (?_ : Y 22 [(0, 5, true, 74), (1, 0, true, x1), (2, 0, true, x2)] [(0, true, x2)] (sM s m1))
      refine hY _ _ _ _ ?_
      exact hQ x2 m1 h
theorem wk_299_2 (Q : sQ) (R : Int → hy_m → Prop) (s : sS) (x1 : Int) (x2 : Int) (hQ : ∀ x m', R x m' → Q x (sM s m')) (hr : sRg [(0, 5, 74), (1, 0, 0), (2, 0, 0)] [x1, x2]) (h : wq_299_2 x1 x2 s.2.2.2 R) : kX dM 1 im_m299 0 2 (sCan [(0, 5, 74), (1, 0, 0), (2, 0, 0)] [x1, x2]) [] s Q :=
  h (fun x2 m => sRg [(0, 5, 74), (1, 0, 0), (2, 0, 0)] [x1, x2] → kX dM 1 im_m299 0 2 (sCan [(0, 5, 74), (1, 0, 0), (2, 0, 0)] [x1, x2]) [] (sM s m) Q) (fun x2 m h hr => wj_299_2 Q R s (fun x2 m => sRg [(0, 5, 74), (1, 0, 0), (2, 0, 0)] [x1, x2] → kX dM 1 im_m299 0 2 (sCan [(0, 5, 74), (1, 0, 0), (2, 0, 0)] [x1, x2]) [] (sM s m) Q) x1 x2 m  (fun _ _ hp hr => hp hr) hQ hr h) hr
def lb_299_0 (s : sS) (Q : sQ) (R : Int → hy_m → Prop) (x1 : Int) : Nat → Option (sL → sS → Prop) := sLb [(2, fun lv t => sG [(0, 5, 74), (1, 0, 0), (2, 0, 0)] lv (ap2 (fun w1 w2 => ∃ m', t = sM s m' ∧ wq_299_2 w1 w2 m' R)))]
set_option maxRecDepth 30000 in
set_option maxHeartbeats 1000000 in
theorem wk_299_0 (Q : sQ) (R : Int → hy_m → Prop) (s : sS) (x1 : Int) (hQ : ∀ x m', R x m' → Q x (sM s m')) (hr : sRg [(0, 5, 74), (1, 0, 0)] [x1]) (h : wq_299 x1 s.2.2.2 R) : kX dM 1 im_m299 0 0 (sCan [(0, 5, 74), (1, 0, 0)] [x1]) [] s Q := by
  unfold wq_299 at h
  refine wz2_ok (cs := cs_299) (wr := []) (lb := lb_299_0 s Q R x1) cs_299_ok (kLb_c (kLab (Bd := fun xs t => ap2 (fun w1 w2 => ∃ m', t = sM s m' ∧ wq_299_2 w1 w2 m' R) xs) rfl (fun xs t r1 r2 hb => by obtain ⟨w1, w2, rfl, hb⟩ := ap2_ok hb; obtain ⟨m', rfl, hx⟩ := hb; exact wk_299_2 Q R (sM s m') _ _ (fun x m'' hy => hQ x m'' hy) r1 hx)) kLb_n) (okL_can rfl hr) (fun Y hY hl => ?_)
  have l2 := hl 2 _ rfl
  refine hY _ _ _ _ (hY _ _ _ _ (?_ : Y 2 [(2, 2, true, 0), (0, 5, true, 74), (1, 0, true, x1)] [] s))
  refine l2 _ _ ?_
  exact (Exists.intro s.2.2.2 (And.intro rfl h))
def we_299 : sFf := sEf 3 [(0, 5, 74), (1, 0, 0)] (fun xs s Q => ap1 (fun x1 => wq_299 x1 s.2.2.2 Q) xs)
theorem we_299_ok : kS dM 2 299 0 (.inl we_299) := sEf_ok (mi := im_m299) rfl rfl rfl (fun R xs s r1 hb => by obtain ⟨x1, rfl, hb⟩ := ap1_ok hb; exact wk_299_0 _ R s x1 (fun x m' hx => ⟨m', rfl, hx⟩) r1 hb)
/-- LMModel.frame(II)I -/
def wf_300_26 (x1 : Int) (x2 : Int) (Q : Int → hy_m → Prop) (P26 : Int → Int → hy_m → Prop) (x3 : Int) (x4 : Int) (m : hy_m) : Prop := (x1 ≤ x4 → (((x2 = 0 + 0 → (wq_279 x3 m (fun r1 m1 => Q r1 m1))) ∧ ((x2 = 0 + 1 → (wq_278 x3 m (fun r2 m2 => Q r2 m2))) ∧ ((x2 = 0 + 2 → (0 ≤ x3 ∧ x3 < 1300 ∧ (wq_299 (m 99 x3) m (fun r3 m3 => Q r3 m3)))) ∧ (True)))) ∧ (x2 < 0 ∨ 2 < x2 → (Q (-1) m)))) ∧ (x4 < x1 → (0 ≤ x3 ∧ x3 < 1300 ∧ (hy_r 0 (x4 + 1) ∧ (P26 (m 102 x3) (x4 + 1) m))))
def wq_300_26 (x1 : Int) (x2 : Int) (x3 : Int) (x4 : Int) (m : hy_m) (Q : Int → hy_m → Prop) : Prop := wL2 hy_m (wf_300_26 x1 x2 Q) x3 x4 m
def wq_300 (x1 : Int) (x2 : Int) (m : hy_m) (Q : Int → hy_m → Prop) : Prop := (x1 < 0 → (Q (-1) m)) ∧ (0 ≤ x1 → (wq_268 (m 74 52) m (fun r1 m1 => (x1 < r1 → (wq_300_26 x1 x2 (m1 74 52) 0 m1 Q)) ∧ (r1 ≤ x1 → (Q (-1) m1)))))
theorem wc_299_r74_0t (x1 : Int) (s : sS) (R : Int → hy_m → Prop) (h : wq_299 x1 s.2.2.2 R) : we_299 [(5, true, 74), (0, true, x1)] s R := h
def cs_300 : List (Nat × Nat × sFS) := [(268, 0, .inl we_268), (278, 0, .inl we_278), (279, 0, .inl we_279), (299, 0, .inl we_299)]
theorem cs_300_ok : kCs dM 2 cs_300 := (kCs_c (Or.inl rfl) (we_268_ok.deep (by decide)) (kCs_c (Or.inl rfl) (we_278_ok.deep (by decide)) (kCs_c (Or.inl rfl) (we_279_ok.deep (by decide)) (kCs_c (Or.inl rfl) (we_299_ok.deep (by decide)) kCs_n))))
def lb_300_26 (s : sS) (Q : sQ) (P26 : Int → Int → hy_m → Prop) (R : Int → hy_m → Prop) (x1 : Int) (x2 : Int) (x3 : Int) (x4 : Int) : Nat → Option (sL → sS → Prop) := sLb [(26, fun lv t => sG [(0, 5, 74), (1, 0, 0), (2, 0, 0), (3, 0, 0), (4, 0, 0)] lv (ap4 (fun w1 w2 w3 w4 => ∃ m', t = sM s m' ∧ w1 = x1 ∧ w2 = x2 ∧ P26 w3 w4 m')))]
set_option maxRecDepth 30000 in
set_option maxHeartbeats 1000000 in
theorem wj_300_26 (Q : sQ) (R : Int → hy_m → Prop) (s : sS) (P26 : Int → Int → hy_m → Prop) (x1 : Int) (x2 : Int) (x3 : Int) (x4 : Int) (m : hy_m) (hP26 : ∀ (z3 z4 : Int) (m : hy_m), P26 z3 z4 m → sRg [(0, 5, 74), (1, 0, 0), (2, 0, 0), (3, 0, 0), (4, 0, 0)] [x1, x2, z3, z4] → kX dM 2 im_m300 0 26 (sCan [(0, 5, 74), (1, 0, 0), (2, 0, 0), (3, 0, 0), (4, 0, 0)] [x1, x2, z3, z4]) [] (sM s m) Q) (hQ : ∀ x m', R x m' → Q x (sM s m')) (hr : sRg [(0, 5, 74), (1, 0, 0), (2, 0, 0), (3, 0, 0), (4, 0, 0)] [x1, x2, x3, x4]) (h : wf_300_26 x1 x2 R P26 x3 x4 m) : kX dM 2 im_m300 0 26 (sCan [(0, 5, 74), (1, 0, 0), (2, 0, 0), (3, 0, 0), (4, 0, 0)] [x1, x2, x3, x4]) [] (sM s m) Q := by
  unfold wf_300_26 at h
  refine wz2_ok (cs := cs_300) (wr := []) (lb := lb_300_26 s Q P26 R x1 x2 x3 x4) cs_300_ok (kLb_c (kLab (Bd := fun xs t => ap4 (fun w1 w2 w3 w4 => ∃ m', t = sM s m' ∧ w1 = x1 ∧ w2 = x2 ∧ P26 w3 w4 m') xs) rfl (fun xs t r1 r2 hb => by obtain ⟨w1, w2, w3, w4, rfl, hb⟩ := ap4_ok hb; obtain ⟨m', rfl, rfl, rfl, hx⟩ := hb; exact hP26 _ _ m' hx r1)) kLb_n) (okL_can rfl hr) (fun Y hY hl => ?_)
  have l26 := hl 26 _ rfl
  refine hY _ _ _ _ (hY _ _ _ _ (?_ : Y 29 [(0, 5, true, 74), (1, 0, true, x1), (2, 0, true, x2), (3, 0, true, x3), (4, 0, true, x4)] [(0, true, x1), (0, true, x4)] (sM s m)))
  refine hY _ _ _ _ ?_
  refine And.intro (fun hc => ?_) (fun hc => ?_)
  · have h := h.1 hc
    refine hY _ _ _ _ (?_ : Y 46 [(0, 5, true, 74), (1, 0, true, x1), (2, 0, true, x2), (3, 0, true, x3), (4, 0, true, x4)] [(0, true, x2)] (sM s m))
    refine hY _ _ _ _ ?_
    refine And.intro (And.intro (fun hc => ?_) (And.intro (fun hc => ?_) (And.intro (fun hc => ?_) trivial))) (fun hc => ?_)
    · have h := h.1.1 hc
      refine hY _ _ _ _ (hY _ _ _ _ (?_ : Y 74 [(0, 5, true, 74), (1, 0, true, x1), (2, 0, true, x2), (3, 0, true, x3), (4, 0, true, x4)] [(0, true, x3), (5, true, 74)] (sM s m)))
      refine hY _ _ _ _ ?_
      refine Exists.intro _ (And.intro (wc_279_r74_0t x3 _ _ h) (fun r1 m1 h => ?_))
      show Y 77 [(0, 5, true, 74), (1, 0, true, x1), (2, 0, true, x2), (3, 0, true, x3), (4, 0, true, x4)] [(0, true, r1)] (sM s m1)
      refine hY _ _ _ _ ?_
      exact hQ r1 m1 h
    · have h := h.1.2.1 hc
      refine hY _ _ _ _ (hY _ _ _ _ (?_ : Y 80 [(0, 5, true, 74), (1, 0, true, x1), (2, 0, true, x2), (3, 0, true, x3), (4, 0, true, x4)] [(0, true, x3), (5, true, 74)] (sM s m)))
      refine hY _ _ _ _ ?_
      refine Exists.intro _ (And.intro (wc_278_r74_0t x3 _ _ h) (fun r2 m2 h => ?_))
      show Y 83 [(0, 5, true, 74), (1, 0, true, x1), (2, 0, true, x2), (3, 0, true, x3), (4, 0, true, x4)] [(0, true, r2)] (sM s m2)
      refine hY _ _ _ _ ?_
      exact hQ r2 m2 h
    · have h := h.1.2.2.1 hc
      refine hY _ _ _ _ (hY _ _ _ _ (hY _ _ _ _ (?_ : Y 89 [(0, 5, true, 74), (1, 0, true, x1), (2, 0, true, x2), (3, 0, true, x3), (4, 0, true, x4)] [(5, true, 99), (5, true, 74)] (sM s m))))
      refine hY _ _ _ _ (?_ : Y 90 [(0, 5, true, 74), (1, 0, true, x1), (2, 0, true, x2), (3, 0, true, x3), (4, 0, true, x4)] [(0, true, x3), (5, true, 99), (5, true, 74)] (sM s m))
      refine hY _ _ _ _ ?_
      refine (And.intro h.1 (And.intro h.2.1 ?_))
      show Y 91 [(0, 5, true, 74), (1, 0, true, x1), (2, 0, true, x2), (3, 0, true, x3), (4, 0, true, x4)] [(0, true, m 99 x3), (5, true, 74)] (sM s m)
      refine hY _ _ _ _ ?_
      refine Exists.intro _ (And.intro (wc_299_r74_0t (m 99 x3) _ _ h.2.2) (fun r3 m3 h => ?_))
      show Y 94 [(0, 5, true, 74), (1, 0, true, x1), (2, 0, true, x2), (3, 0, true, x3), (4, 0, true, x4)] [(0, true, r3)] (sM s m3)
      refine hY _ _ _ _ ?_
      exact hQ r3 m3 h
    · have h := h.2 hc
      refine hY _ _ _ _ (?_ : Y 96 [(0, 5, true, 74), (1, 0, true, x1), (2, 0, true, x2), (3, 0, true, x3), (4, 0, true, x4)] [(0, true, (-1))] (sM s m))
      refine hY _ _ _ _ ?_
      exact hQ (-1) m h
  · have h := h.2 hc
    refine hY _ _ _ _ (hY _ _ _ _ (hY _ _ _ _ (?_ : Y 37 [(0, 5, true, 74), (1, 0, true, x1), (2, 0, true, x2), (3, 0, true, x3), (4, 0, true, x4)] [(0, true, x3), (5, true, 102)] (sM s m))))
    refine hY _ _ _ _ ?_
    refine (And.intro h.1 (And.intro h.2.1 ?_))
    refine hY _ _ _ _ (hY _ _ _ _ (hY _ _ _ _ (?_ : Y 26 [(4, 0, false, x4 + 1), (3, 0, true, m 102 x3), (0, 5, true, 74), (1, 0, true, x1), (2, 0, true, x2)] [] (sM s m))))
    refine l26 _ _ ?_
    refine And.intro h.2.2.1 ?_
    exact (Exists.intro m (And.intro rfl (And.intro rfl (And.intro rfl h.2.2.2))))
theorem wk_300_26 (Q : sQ) (R : Int → hy_m → Prop) (s : sS) (x1 : Int) (x2 : Int) (x3 : Int) (x4 : Int) (hQ : ∀ x m', R x m' → Q x (sM s m')) (hr : sRg [(0, 5, 74), (1, 0, 0), (2, 0, 0), (3, 0, 0), (4, 0, 0)] [x1, x2, x3, x4]) (h : wq_300_26 x1 x2 x3 x4 s.2.2.2 R) : kX dM 2 im_m300 0 26 (sCan [(0, 5, 74), (1, 0, 0), (2, 0, 0), (3, 0, 0), (4, 0, 0)] [x1, x2, x3, x4]) [] s Q :=
  h (fun x3 x4 m => sRg [(0, 5, 74), (1, 0, 0), (2, 0, 0), (3, 0, 0), (4, 0, 0)] [x1, x2, x3, x4] → kX dM 2 im_m300 0 26 (sCan [(0, 5, 74), (1, 0, 0), (2, 0, 0), (3, 0, 0), (4, 0, 0)] [x1, x2, x3, x4]) [] (sM s m) Q) (fun x3 x4 m h hr => wj_300_26 Q R s (fun x3 x4 m => sRg [(0, 5, 74), (1, 0, 0), (2, 0, 0), (3, 0, 0), (4, 0, 0)] [x1, x2, x3, x4] → kX dM 2 im_m300 0 26 (sCan [(0, 5, 74), (1, 0, 0), (2, 0, 0), (3, 0, 0), (4, 0, 0)] [x1, x2, x3, x4]) [] (sM s m) Q) x1 x2 x3 x4 m  (fun _ _ _ hp hr => hp hr) hQ hr h) hr
def lb_300_0 (s : sS) (Q : sQ) (R : Int → hy_m → Prop) (x1 : Int) (x2 : Int) : Nat → Option (sL → sS → Prop) := sLb [(26, fun lv t => sG [(0, 5, 74), (1, 0, 0), (2, 0, 0), (3, 0, 0), (4, 0, 0)] lv (ap4 (fun w1 w2 w3 w4 => ∃ m', t = sM s m' ∧ wq_300_26 w1 w2 w3 w4 m' R)))]
set_option maxRecDepth 30000 in
set_option maxHeartbeats 1000000 in
theorem wk_300_0 (Q : sQ) (R : Int → hy_m → Prop) (s : sS) (x1 : Int) (x2 : Int) (hQ : ∀ x m', R x m' → Q x (sM s m')) (hr : sRg [(0, 5, 74), (1, 0, 0), (2, 0, 0)] [x1, x2]) (h : wq_300 x1 x2 s.2.2.2 R) : kX dM 2 im_m300 0 0 (sCan [(0, 5, 74), (1, 0, 0), (2, 0, 0)] [x1, x2]) [] s Q := by
  unfold wq_300 at h
  refine wz2_ok (cs := cs_300) (wr := []) (lb := lb_300_0 s Q R x1 x2) cs_300_ok (kLb_c (kLab (Bd := fun xs t => ap4 (fun w1 w2 w3 w4 => ∃ m', t = sM s m' ∧ wq_300_26 w1 w2 w3 w4 m' R) xs) rfl (fun xs t r1 r2 hb => by obtain ⟨w1, w2, w3, w4, rfl, hb⟩ := ap4_ok hb; obtain ⟨m', rfl, hx⟩ := hb; exact wk_300_26 Q R (sM s m') _ _ _ _ (fun x m'' hy => hQ x m'' hy) r1 hx)) kLb_n) (okL_can rfl hr) (fun Y hY hl => ?_)
  have l26 := hl 26 _ rfl
  refine hY _ _ _ _ (?_ : Y 1 [(0, 5, true, 74), (1, 0, true, x1), (2, 0, true, x2)] [(0, true, x1)] s)
  refine hY _ _ _ _ ?_
  refine And.intro (fun hc => ?_) (fun hc => ?_)
  · have h := h.1 hc
    refine hY _ _ _ _ (?_ : Y 17 [(0, 5, true, 74), (1, 0, true, x1), (2, 0, true, x2)] [(0, true, (-1))] s)
    refine hY _ _ _ _ ?_
    exact hQ (-1) s.2.2.2 h
  · have h := h.2 hc
    refine hY _ _ _ _ (hY _ _ _ _ (hY _ _ _ _ (?_ : Y 7 [(0, 5, true, 74), (1, 0, true, x1), (2, 0, true, x2)] [(5, true, 74), (5, true, 74), (0, true, x1)] s)))
    refine hY _ _ _ _ (?_ : Y 10 [(0, 5, true, 74), (1, 0, true, x1), (2, 0, true, x2)] [(0, true, s.2.2.2 74 52), (5, true, 74), (0, true, x1)] s)
    refine hY _ _ _ _ ?_
    refine Exists.intro _ (And.intro (wc_268_r74_0t (s.2.2.2 74 52) _ _ h) (fun r1 m1 h => ?_))
    show Y 13 [(0, 5, true, 74), (1, 0, true, x1), (2, 0, true, x2)] [(0, true, r1), (0, true, x1)] (sM s m1)
    refine hY _ _ _ _ ?_
    refine And.intro (fun hc => ?_) (fun hc => ?_)
    · have h := h.1 hc
      refine hY _ _ _ _ (hY _ _ _ _ (hY _ _ _ _ (?_ : Y 23 [(3, 0, true, m1 74 52), (0, 5, true, 74), (1, 0, true, x1), (2, 0, true, x2)] [] (sM s m1))))
      refine hY _ _ _ _ (hY _ _ _ _ (?_ : Y 26 [(4, 2, true, 0), (3, 0, true, m1 74 52), (0, 5, true, 74), (1, 0, true, x1), (2, 0, true, x2)] [] (sM s m1)))
      refine l26 _ _ ?_
      exact (Exists.intro m1 (And.intro rfl h))
    · have h := h.2 hc
      refine hY _ _ _ _ (?_ : Y 17 [(0, 5, true, 74), (1, 0, true, x1), (2, 0, true, x2)] [(0, true, (-1))] (sM s m1))
      refine hY _ _ _ _ ?_
      exact hQ (-1) m1 h
def we_300 : sFf := sEf 5 [(0, 5, 74), (1, 0, 0), (2, 0, 0)] (fun xs s Q => ap2 (fun x1 x2 => wq_300 x1 x2 s.2.2.2 Q) xs)
theorem we_300_ok : kS dM 3 300 0 (.inl we_300) := sEf_ok (mi := im_m300) rfl rfl rfl (fun R xs s r1 hb => by obtain ⟨x1, x2, rfl, hb⟩ := ap2_ok hb; exact wk_300_0 _ R s x1 x2 (fun x m' hx => ⟨m', rfl, hx⟩) r1 hb)
/-- LMModel.bitsOf(I)I -/
def wf_301_4 (x0 : Int) (Q : Int → hy_m → Prop) (P4 : Int → Int → hy_m → Prop) (x1 : Int) (x2 : Int) (m : hy_m) : Prop := (20 ≤ x2 → (Q x1 m)) ∧ (x2 < 20 → (hy_r 0 (x1 + (iA (iSr x0 x2) 1)) ∧ (hy_r 0 (x2 + 1) ∧ (P4 (x1 + (iA (iSr x0 x2) 1)) (x2 + 1) m))))
def wq_301_4 (x0 : Int) (x1 : Int) (x2 : Int) (m : hy_m) (Q : Int → hy_m → Prop) : Prop := wL2 hy_m (wf_301_4 x0 Q) x1 x2 m
def wq_301 (x0 : Int) (m : hy_m) (Q : Int → hy_m → Prop) : Prop := wq_301_4 x0 0 0 m Q
def cs_301 : List (Nat × Nat × sFS) := []
theorem cs_301_ok : kCs dM 0 cs_301 := kCs_n
def lb_301_4 (s : sS) (Q : sQ) (P4 : Int → Int → hy_m → Prop) (R : Int → hy_m → Prop) (x0 : Int) (x1 : Int) (x2 : Int) : Nat → Option (sL → sS → Prop) := sLb [(4, fun lv t => sG [(0, 0, 0), (1, 0, 0), (2, 0, 0)] lv (ap3 (fun w0 w1 w2 => ∃ m', t = sM s m' ∧ w0 = x0 ∧ P4 w1 w2 m')))]
set_option maxRecDepth 30000 in
set_option maxHeartbeats 1000000 in
theorem wj_301_4 (Q : sQ) (R : Int → hy_m → Prop) (s : sS) (P4 : Int → Int → hy_m → Prop) (x0 : Int) (x1 : Int) (x2 : Int) (m : hy_m) (hP4 : ∀ (z1 z2 : Int) (m : hy_m), P4 z1 z2 m → sRg [(0, 0, 0), (1, 0, 0), (2, 0, 0)] [x0, z1, z2] → kX dM 0 im_m301 0 4 (sCan [(0, 0, 0), (1, 0, 0), (2, 0, 0)] [x0, z1, z2]) [] (sM s m) Q) (hQ : ∀ x m', R x m' → Q x (sM s m')) (hr : sRg [(0, 0, 0), (1, 0, 0), (2, 0, 0)] [x0, x1, x2]) (h : wf_301_4 x0 R P4 x1 x2 m) : kX dM 0 im_m301 0 4 (sCan [(0, 0, 0), (1, 0, 0), (2, 0, 0)] [x0, x1, x2]) [] (sM s m) Q := by
  unfold wf_301_4 at h
  refine wz2_ok (cs := cs_301) (wr := []) (lb := lb_301_4 s Q P4 R x0 x1 x2) cs_301_ok (kLb_c (kLab (Bd := fun xs t => ap3 (fun w0 w1 w2 => ∃ m', t = sM s m' ∧ w0 = x0 ∧ P4 w1 w2 m') xs) rfl (fun xs t r1 r2 hb => by obtain ⟨w0, w1, w2, rfl, hb⟩ := ap3_ok hb; obtain ⟨m', rfl, rfl, hx⟩ := hb; exact hP4 _ _ m' hx r1)) kLb_n) (okL_can rfl hr) (fun Y hY hl => ?_)
  have l4 := hl 4 _ rfl
  refine hY _ _ _ _ (hY _ _ _ _ (?_ : Y 7 [(0, 0, true, x0), (1, 0, true, x1), (2, 0, true, x2)] [(0, true, 20), (0, true, x2)] (sM s m)))
  refine hY _ _ _ _ ?_
  refine And.intro (fun hc => ?_) (fun hc => ?_)
  · have h := h.1 hc
    refine hY _ _ _ _ (?_ : Y 25 [(0, 0, true, x0), (1, 0, true, x1), (2, 0, true, x2)] [(0, true, x1)] (sM s m))
    refine hY _ _ _ _ ?_
    exact hQ x1 m h
  · have h := h.2 hc
    refine hY _ _ _ _ (hY _ _ _ _ (hY _ _ _ _ (?_ : Y 13 [(0, 0, true, x0), (1, 0, true, x1), (2, 0, true, x2)] [(0, true, x2), (0, true, x0), (0, true, x1)] (sM s m))))
    refine hY _ _ _ _ (?_ : Y 14 [(0, 0, true, x0), (1, 0, true, x1), (2, 0, true, x2)] [(0, true, iSr x0 x2), (0, true, x1)] (sM s m))
    refine hY _ _ _ _ (?_ : Y 15 [(0, 0, true, x0), (1, 0, true, x1), (2, 0, true, x2)] [(2, true, 1), (0, true, iSr x0 x2), (0, true, x1)] (sM s m))
    refine hY _ _ _ _ (?_ : Y 16 [(0, 0, true, x0), (1, 0, true, x1), (2, 0, true, x2)] [(0, true, iA (iSr x0 x2) 1), (0, true, x1)] (sM s m))
    refine hY _ _ _ _ (hY _ _ _ _ (hY _ _ _ _ (?_ : Y 21 [(2, 0, false, x2 + 1), (1, 0, false, x1 + (iA (iSr x0 x2) 1)), (0, 0, true, x0)] [] (sM s m))))
    refine hY _ _ _ _ (?_ : Y 4 [(2, 0, false, x2 + 1), (1, 0, false, x1 + (iA (iSr x0 x2) 1)), (0, 0, true, x0)] [] (sM s m))
    refine l4 _ _ ?_
    refine And.intro h.1 ?_
    refine And.intro h.2.1 ?_
    exact (Exists.intro m (And.intro rfl (And.intro rfl h.2.2)))
theorem wk_301_4 (Q : sQ) (R : Int → hy_m → Prop) (s : sS) (x0 : Int) (x1 : Int) (x2 : Int) (hQ : ∀ x m', R x m' → Q x (sM s m')) (hr : sRg [(0, 0, 0), (1, 0, 0), (2, 0, 0)] [x0, x1, x2]) (h : wq_301_4 x0 x1 x2 s.2.2.2 R) : kX dM 0 im_m301 0 4 (sCan [(0, 0, 0), (1, 0, 0), (2, 0, 0)] [x0, x1, x2]) [] s Q :=
  h (fun x1 x2 m => sRg [(0, 0, 0), (1, 0, 0), (2, 0, 0)] [x0, x1, x2] → kX dM 0 im_m301 0 4 (sCan [(0, 0, 0), (1, 0, 0), (2, 0, 0)] [x0, x1, x2]) [] (sM s m) Q) (fun x1 x2 m h hr => wj_301_4 Q R s (fun x1 x2 m => sRg [(0, 0, 0), (1, 0, 0), (2, 0, 0)] [x0, x1, x2] → kX dM 0 im_m301 0 4 (sCan [(0, 0, 0), (1, 0, 0), (2, 0, 0)] [x0, x1, x2]) [] (sM s m) Q) x0 x1 x2 m  (fun _ _ _ hp hr => hp hr) hQ hr h) hr
def lb_301_0 (s : sS) (Q : sQ) (R : Int → hy_m → Prop) (x0 : Int) : Nat → Option (sL → sS → Prop) := sLb [(4, fun lv t => sG [(0, 0, 0), (1, 0, 0), (2, 0, 0)] lv (ap3 (fun w0 w1 w2 => ∃ m', t = sM s m' ∧ wq_301_4 w0 w1 w2 m' R)))]
set_option maxRecDepth 30000 in
set_option maxHeartbeats 1000000 in
theorem wk_301_0 (Q : sQ) (R : Int → hy_m → Prop) (s : sS) (x0 : Int) (hQ : ∀ x m', R x m' → Q x (sM s m')) (hr : sRg [(0, 0, 0)] [x0]) (h : wq_301 x0 s.2.2.2 R) : kX dM 0 im_m301 0 0 (sCan [(0, 0, 0)] [x0]) [] s Q := by
  unfold wq_301 at h
  refine wz2_ok (cs := cs_301) (wr := []) (lb := lb_301_0 s Q R x0) cs_301_ok (kLb_c (kLab (Bd := fun xs t => ap3 (fun w0 w1 w2 => ∃ m', t = sM s m' ∧ wq_301_4 w0 w1 w2 m' R) xs) rfl (fun xs t r1 r2 hb => by obtain ⟨w0, w1, w2, rfl, hb⟩ := ap3_ok hb; obtain ⟨m', rfl, hx⟩ := hb; exact wk_301_4 Q R (sM s m') _ _ _ (fun x m'' hy => hQ x m'' hy) r1 hx)) kLb_n) (okL_can rfl hr) (fun Y hY hl => ?_)
  have l4 := hl 4 _ rfl
  refine hY _ _ _ _ (hY _ _ _ _ (hY _ _ _ _ (?_ : Y 3 [(1, 2, true, 0), (0, 0, true, x0)] [(2, true, 0)] s)))
  refine hY _ _ _ _ (?_ : Y 4 [(2, 2, true, 0), (1, 2, true, 0), (0, 0, true, x0)] [] s)
  refine l4 _ _ ?_
  exact (Exists.intro s.2.2.2 (And.intro rfl h))
def we_301 : sFf := sEf 3 [(0, 0, 0)] (fun xs s Q => ap1 (fun x0 => wq_301 x0 s.2.2.2 Q) xs)
theorem we_301_ok : kS dM 1 301 0 (.inl we_301) := sEf_ok (mi := im_m301) rfl rfl rfl (fun R xs s r1 hb => by obtain ⟨x0, rfl, hb⟩ := ap1_ok hb; exact wk_301_0 _ R s x0 (fun x m' hx => ⟨m', rfl, hx⟩) r1 hb)
/-- LMModel.choice(II)I -/
def wq_302 (x1 : Int) (x2 : Int) (m : hy_m) (Q : Int → hy_m → Prop) : Prop := (x1 < 0 → (Q (-1) m)) ∧ (0 ≤ x1 → ((x1 < (m 74 59) → (0 ≤ (((m 74 59) - 1) - x1) ∧ (((m 74 59) - 1) - x1) < 700 ∧ (((m 106 (((m 74 59) - 1) - x1)) ≠ (-9) → (((x2 = 0 + 0 → (((0 : Int) = 0 → (0 ≤ (((m 74 59) - 1) - x1) ∧ (((m 74 59) - 1) - x1) < 700 ∧ (wq_254 (m 106 (((m 74 59) - 1) - x1)) m (fun r1 m1 => Q r1 m1)))) ∧ ((0 : Int) ≠ 0 → (Q (-9) m)))) ∧ ((x2 = 0 + 1 → (((0 : Int) = 0 → (0 ≤ (((m 74 59) - 1) - x1) ∧ (((m 74 59) - 1) - x1) < 700 ∧ (wq_301 (m 106 (((m 74 59) - 1) - x1)) m (fun r2 m2 => Q r2 m2)))) ∧ ((0 : Int) ≠ 0 → (Q 0 m)))) ∧ ((x2 = 0 + 2 → (0 ≤ (((m 74 59) - 1) - x1) ∧ (((m 74 59) - 1) - x1) < 700 ∧ (wq_268 (m 107 (((m 74 59) - 1) - x1)) m (fun r3 m3 => Q r3 m3)))) ∧ ((x2 = 0 + 3 → (0 ≤ (((m 74 59) - 1) - x1) ∧ (((m 74 59) - 1) - x1) < 700 ∧ (hy_r 0 ((m 74 44) - (m 108 (((m 74 59) - 1) - x1))) ∧ (Q ((m 74 44) - (m 108 (((m 74 59) - 1) - x1))) m)))) ∧ (True))))) ∧ (x2 < 0 ∨ 3 < x2 → (Q (-1) m)))) ∧ ((m 106 (((m 74 59) - 1) - x1)) = (-9) → (((x2 = 0 + 0 → (((1 : Int) = 0 → (0 ≤ (((m 74 59) - 1) - x1) ∧ (((m 74 59) - 1) - x1) < 700 ∧ (wq_254 (m 106 (((m 74 59) - 1) - x1)) m (fun r4 m4 => Q r4 m4)))) ∧ ((1 : Int) ≠ 0 → (Q (-9) m)))) ∧ ((x2 = 0 + 1 → (((1 : Int) = 0 → (0 ≤ (((m 74 59) - 1) - x1) ∧ (((m 74 59) - 1) - x1) < 700 ∧ (wq_301 (m 106 (((m 74 59) - 1) - x1)) m (fun r5 m5 => Q r5 m5)))) ∧ ((1 : Int) ≠ 0 → (Q 0 m)))) ∧ ((x2 = 0 + 2 → (0 ≤ (((m 74 59) - 1) - x1) ∧ (((m 74 59) - 1) - x1) < 700 ∧ (wq_268 (m 107 (((m 74 59) - 1) - x1)) m (fun r6 m6 => Q r6 m6)))) ∧ ((x2 = 0 + 3 → (0 ≤ (((m 74 59) - 1) - x1) ∧ (((m 74 59) - 1) - x1) < 700 ∧ (hy_r 0 ((m 74 44) - (m 108 (((m 74 59) - 1) - x1))) ∧ (Q ((m 74 44) - (m 108 (((m 74 59) - 1) - x1))) m)))) ∧ (True))))) ∧ (x2 < 0 ∨ 3 < x2 → (Q (-1) m))))))) ∧ ((m 74 59) ≤ x1 → (Q (-1) m))))
theorem wc_301_0t (x0 : Int) (s : sS) (R : Int → hy_m → Prop) (h : wq_301 x0 s.2.2.2 R) : we_301 [(0, true, x0)] s R := h
def cs_302 : List (Nat × Nat × sFS) := [(254, 0, .inl we_254), (268, 0, .inl we_268), (301, 0, .inl we_301)]
theorem cs_302_ok : kCs dM 1 cs_302 := (kCs_c (Or.inl rfl) (we_254_ok.deep (by decide)) (kCs_c (Or.inl rfl) (we_268_ok.deep (by decide)) (kCs_c (Or.inl rfl) (we_301_ok.deep (by decide)) kCs_n)))
def lb_302_0 (s : sS) (Q : sQ) (R : Int → hy_m → Prop) (x1 : Int) (x2 : Int) : Nat → Option (sL → sS → Prop) := sLb []
set_option maxRecDepth 30000 in
set_option maxHeartbeats 1000000 in
theorem wk_302_0 (Q : sQ) (R : Int → hy_m → Prop) (s : sS) (x1 : Int) (x2 : Int) (hQ : ∀ x m', R x m' → Q x (sM s m')) (hr : sRg [(0, 5, 74), (1, 0, 0), (2, 0, 0)] [x1, x2]) (h : wq_302 x1 x2 s.2.2.2 R) : kX dM 1 im_m302 0 0 (sCan [(0, 5, 74), (1, 0, 0), (2, 0, 0)] [x1, x2]) [] s Q := by
  unfold wq_302 at h
  refine wz2_ok (cs := cs_302) (wr := []) (lb := lb_302_0 s Q R x1 x2) cs_302_ok kLb_n (okL_can rfl hr) (fun Y hY hl => ?_)
  refine hY _ _ _ _ (?_ : Y 1 [(0, 5, true, 74), (1, 0, true, x1), (2, 0, true, x2)] [(0, true, x1)] s)
  refine hY _ _ _ _ ?_
  refine And.intro (fun hc => ?_) (fun hc => ?_)
  · have h := h.1 hc
    refine hY _ _ _ _ (?_ : Y 13 [(0, 5, true, 74), (1, 0, true, x1), (2, 0, true, x2)] [(0, true, (-1))] s)
    refine hY _ _ _ _ ?_
    exact hQ (-1) s.2.2.2 h
  · have h := h.2 hc
    refine hY _ _ _ _ (hY _ _ _ _ (hY _ _ _ _ (?_ : Y 9 [(0, 5, true, 74), (1, 0, true, x1), (2, 0, true, x2)] [(0, true, s.2.2.2 74 59), (0, true, x1)] s)))
    refine hY _ _ _ _ ?_
    refine And.intro (fun hc => ?_) (fun hc => ?_)
    · have h := h.1 hc
      refine hY _ _ _ _ (hY _ _ _ _ (hY _ _ _ _ (?_ : Y 19 [(0, 5, true, 74), (1, 0, true, x1), (2, 0, true, x2)] [(2, true, 1), (0, true, s.2.2.2 74 59)] s)))
      refine hY _ _ _ _ (hY _ _ _ _ (hY _ _ _ _ (?_ : Y 22 [(0, 5, true, 74), (1, 0, true, x1), (2, 0, true, x2)] [(0, false, ((s.2.2.2 74 59) - 1) - x1)] s)))
      refine hY _ _ _ _ (hY _ _ _ _ (hY _ _ _ _ (?_ : Y 27 [(3, 0, false, ((s.2.2.2 74 59) - 1) - x1), (0, 5, true, 74), (1, 0, true, x1), (2, 0, true, x2)] [(5, true, 106)] s)))
      refine hY _ _ _ _ (?_ : Y 28 [(3, 0, false, ((s.2.2.2 74 59) - 1) - x1), (0, 5, true, 74), (1, 0, true, x1), (2, 0, true, x2)] [(0, false, ((s.2.2.2 74 59) - 1) - x1), (5, true, 106)] s)
      refine hY _ _ _ _ ?_
      refine (And.intro h.1 (And.intro h.2.1 ?_))
      refine hY _ _ _ _ (?_ : Y 31 [(3, 0, false, ((s.2.2.2 74 59) - 1) - x1), (0, 5, true, 74), (1, 0, true, x1), (2, 0, true, x2)] [(0, true, (-9)), (0, true, s.2.2.2 106 (((s.2.2.2 74 59) - 1) - x1))] s)
      refine hY _ _ _ _ ?_
      refine And.intro (fun hc => ?_) (fun hc => ?_)
      · have h := h.2.2.1 hc
        refine hY _ _ _ _ (hY _ _ _ _ (hY _ _ _ _ (?_ : Y 42 [(4, 2, true, 0), (3, 0, false, ((s.2.2.2 74 59) - 1) - x1), (0, 5, true, 74), (1, 0, true, x1), (2, 0, true, x2)] [(0, true, x2)] s)))
        refine hY _ _ _ _ ?_
        refine And.intro (And.intro (fun hc => ?_) (And.intro (fun hc => ?_) (And.intro (fun hc => ?_) (And.intro (fun hc => ?_) trivial)))) (fun hc => ?_)
        · have h := h.1.1 hc
          refine hY _ _ _ _ (?_ : Y 74 [(4, 2, true, 0), (3, 0, false, ((s.2.2.2 74 59) - 1) - x1), (0, 5, true, 74), (1, 0, true, x1), (2, 0, true, x2)] [(2, true, 0)] s)
          refine hY _ _ _ _ ?_
          refine And.intro (fun hc => ?_) (fun hc => ?_)
          · have h := h.1 hc
            refine hY _ _ _ _ (hY _ _ _ _ (hY _ _ _ _ (?_ : Y 87 [(4, 2, true, 0), (3, 0, false, ((s.2.2.2 74 59) - 1) - x1), (0, 5, true, 74), (1, 0, true, x1), (2, 0, true, x2)] [(0, false, ((s.2.2.2 74 59) - 1) - x1), (5, true, 106)] s)))
            refine hY _ _ _ _ ?_
            refine (And.intro h.1 (And.intro h.2.1 ?_))
            show Y 88 [(4, 2, true, 0), (3, 0, false, ((s.2.2.2 74 59) - 1) - x1), (0, 5, true, 74), (1, 0, true, x1), (2, 0, true, x2)] [(0, true, s.2.2.2 106 (((s.2.2.2 74 59) - 1) - x1))] s
            refine hY _ _ _ _ ?_
            refine Exists.intro _ (And.intro (wc_254_0t (s.2.2.2 106 (((s.2.2.2 74 59) - 1) - x1)) _ _ h.2.2) (fun r1 m1 h => ?_))
            show Y 91 [(4, 2, true, 0), (3, 0, false, ((s.2.2.2 74 59) - 1) - x1), (0, 5, true, 74), (1, 0, true, x1), (2, 0, true, x2)] [(0, true, r1)] (sM s m1)
            refine hY _ _ _ _ ?_
            exact hQ r1 m1 h
          · have h := h.2 hc
            refine hY _ _ _ _ (hY _ _ _ _ (?_ : Y 91 [(4, 2, true, 0), (3, 0, false, ((s.2.2.2 74 59) - 1) - x1), (0, 5, true, 74), (1, 0, true, x1), (2, 0, true, x2)] [(0, true, (-9))] s))
            refine hY _ _ _ _ ?_
            exact hQ (-9) s.2.2.2 h
        · have h := h.1.2.1 hc
          refine hY _ _ _ _ (?_ : Y 94 [(4, 2, true, 0), (3, 0, false, ((s.2.2.2 74 59) - 1) - x1), (0, 5, true, 74), (1, 0, true, x1), (2, 0, true, x2)] [(2, true, 0)] s)
          refine hY _ _ _ _ ?_
          refine And.intro (fun hc => ?_) (fun hc => ?_)
          · have h := h.1 hc
            refine hY _ _ _ _ (hY _ _ _ _ (hY _ _ _ _ (?_ : Y 106 [(4, 2, true, 0), (3, 0, false, ((s.2.2.2 74 59) - 1) - x1), (0, 5, true, 74), (1, 0, true, x1), (2, 0, true, x2)] [(0, false, ((s.2.2.2 74 59) - 1) - x1), (5, true, 106)] s)))
            refine hY _ _ _ _ ?_
            refine (And.intro h.1 (And.intro h.2.1 ?_))
            show Y 107 [(4, 2, true, 0), (3, 0, false, ((s.2.2.2 74 59) - 1) - x1), (0, 5, true, 74), (1, 0, true, x1), (2, 0, true, x2)] [(0, true, s.2.2.2 106 (((s.2.2.2 74 59) - 1) - x1))] s
            refine hY _ _ _ _ ?_
            refine Exists.intro _ (And.intro (wc_301_0t (s.2.2.2 106 (((s.2.2.2 74 59) - 1) - x1)) _ _ h.2.2) (fun r2 m2 h => ?_))
            show Y 110 [(4, 2, true, 0), (3, 0, false, ((s.2.2.2 74 59) - 1) - x1), (0, 5, true, 74), (1, 0, true, x1), (2, 0, true, x2)] [(0, true, r2)] (sM s m2)
            refine hY _ _ _ _ ?_
            exact hQ r2 m2 h
          · have h := h.2 hc
            refine hY _ _ _ _ (hY _ _ _ _ (?_ : Y 110 [(4, 2, true, 0), (3, 0, false, ((s.2.2.2 74 59) - 1) - x1), (0, 5, true, 74), (1, 0, true, x1), (2, 0, true, x2)] [(2, true, 0)] s))
            refine hY _ _ _ _ ?_
            exact hQ 0 s.2.2.2 h
        · have h := h.1.2.2.1 hc
          refine hY _ _ _ _ (hY _ _ _ _ (hY _ _ _ _ (?_ : Y 116 [(4, 2, true, 0), (3, 0, false, ((s.2.2.2 74 59) - 1) - x1), (0, 5, true, 74), (1, 0, true, x1), (2, 0, true, x2)] [(5, true, 107), (5, true, 74)] s)))
          refine hY _ _ _ _ (?_ : Y 117 [(4, 2, true, 0), (3, 0, false, ((s.2.2.2 74 59) - 1) - x1), (0, 5, true, 74), (1, 0, true, x1), (2, 0, true, x2)] [(0, false, ((s.2.2.2 74 59) - 1) - x1), (5, true, 107), (5, true, 74)] s)
          refine hY _ _ _ _ ?_
          refine (And.intro h.1 (And.intro h.2.1 ?_))
          show Y 118 [(4, 2, true, 0), (3, 0, false, ((s.2.2.2 74 59) - 1) - x1), (0, 5, true, 74), (1, 0, true, x1), (2, 0, true, x2)] [(0, true, s.2.2.2 107 (((s.2.2.2 74 59) - 1) - x1)), (5, true, 74)] s
          refine hY _ _ _ _ ?_
          refine Exists.intro _ (And.intro (wc_268_r74_0t (s.2.2.2 107 (((s.2.2.2 74 59) - 1) - x1)) _ _ h.2.2) (fun r3 m3 h => ?_))
          show Y 121 [(4, 2, true, 0), (3, 0, false, ((s.2.2.2 74 59) - 1) - x1), (0, 5, true, 74), (1, 0, true, x1), (2, 0, true, x2)] [(0, true, r3)] (sM s m3)
          refine hY _ _ _ _ ?_
          exact hQ r3 m3 h
        · have h := h.1.2.2.2.1 hc
          refine hY _ _ _ _ (hY _ _ _ _ (hY _ _ _ _ (?_ : Y 127 [(4, 2, true, 0), (3, 0, false, ((s.2.2.2 74 59) - 1) - x1), (0, 5, true, 74), (1, 0, true, x1), (2, 0, true, x2)] [(5, true, 74), (0, true, s.2.2.2 74 44)] s)))
          refine hY _ _ _ _ (hY _ _ _ _ (?_ : Y 131 [(4, 2, true, 0), (3, 0, false, ((s.2.2.2 74 59) - 1) - x1), (0, 5, true, 74), (1, 0, true, x1), (2, 0, true, x2)] [(0, false, ((s.2.2.2 74 59) - 1) - x1), (5, true, 108), (0, true, s.2.2.2 74 44)] s))
          refine hY _ _ _ _ ?_
          refine (And.intro h.1 (And.intro h.2.1 ?_))
          refine hY _ _ _ _ (?_ : Y 133 [(4, 2, true, 0), (3, 0, false, ((s.2.2.2 74 59) - 1) - x1), (0, 5, true, 74), (1, 0, true, x1), (2, 0, true, x2)] [(0, false, (s.2.2.2 74 44) - (s.2.2.2 108 (((s.2.2.2 74 59) - 1) - x1)))] s)
          refine hY _ _ _ _ ?_
          refine And.intro h.2.2.1 ?_
          exact hQ ((s.2.2.2 74 44) - (s.2.2.2 108 (((s.2.2.2 74 59) - 1) - x1))) s.2.2.2 h.2.2.2
        · have h := h.2 hc
          refine hY _ _ _ _ (?_ : Y 135 [(4, 2, true, 0), (3, 0, false, ((s.2.2.2 74 59) - 1) - x1), (0, 5, true, 74), (1, 0, true, x1), (2, 0, true, x2)] [(0, true, (-1))] s)
          refine hY _ _ _ _ ?_
          exact hQ (-1) s.2.2.2 h
      · have h := h.2.2.2 hc
        refine hY _ _ _ _ (hY _ _ _ _ (hY _ _ _ _ (?_ : Y 41 [(4, 2, true, 1), (3, 0, false, ((s.2.2.2 74 59) - 1) - x1), (0, 5, true, 74), (1, 0, true, x1), (2, 0, true, x2)] [] s)))
        refine hY _ _ _ _ (?_ : Y 42 [(4, 2, true, 1), (3, 0, false, ((s.2.2.2 74 59) - 1) - x1), (0, 5, true, 74), (1, 0, true, x1), (2, 0, true, x2)] [(0, true, x2)] s)
        refine hY _ _ _ _ ?_
        refine And.intro (And.intro (fun hc => ?_) (And.intro (fun hc => ?_) (And.intro (fun hc => ?_) (And.intro (fun hc => ?_) trivial)))) (fun hc => ?_)
        · have h := h.1.1 hc
          refine hY _ _ _ _ (?_ : Y 74 [(4, 2, true, 1), (3, 0, false, ((s.2.2.2 74 59) - 1) - x1), (0, 5, true, 74), (1, 0, true, x1), (2, 0, true, x2)] [(2, true, 1)] s)
          refine hY _ _ _ _ ?_
          refine And.intro (fun hc => ?_) (fun hc => ?_)
          · have h := h.1 hc
            refine hY _ _ _ _ (hY _ _ _ _ (hY _ _ _ _ (?_ : Y 87 [(4, 2, true, 1), (3, 0, false, ((s.2.2.2 74 59) - 1) - x1), (0, 5, true, 74), (1, 0, true, x1), (2, 0, true, x2)] [(0, false, ((s.2.2.2 74 59) - 1) - x1), (5, true, 106)] s)))
            refine hY _ _ _ _ ?_
            refine (And.intro h.1 (And.intro h.2.1 ?_))
            show Y 88 [(4, 2, true, 1), (3, 0, false, ((s.2.2.2 74 59) - 1) - x1), (0, 5, true, 74), (1, 0, true, x1), (2, 0, true, x2)] [(0, true, s.2.2.2 106 (((s.2.2.2 74 59) - 1) - x1))] s
            refine hY _ _ _ _ ?_
            refine Exists.intro _ (And.intro (wc_254_0t (s.2.2.2 106 (((s.2.2.2 74 59) - 1) - x1)) _ _ h.2.2) (fun r4 m4 h => ?_))
            show Y 91 [(4, 2, true, 1), (3, 0, false, ((s.2.2.2 74 59) - 1) - x1), (0, 5, true, 74), (1, 0, true, x1), (2, 0, true, x2)] [(0, true, r4)] (sM s m4)
            refine hY _ _ _ _ ?_
            exact hQ r4 m4 h
          · have h := h.2 hc
            refine hY _ _ _ _ (hY _ _ _ _ (?_ : Y 91 [(4, 2, true, 1), (3, 0, false, ((s.2.2.2 74 59) - 1) - x1), (0, 5, true, 74), (1, 0, true, x1), (2, 0, true, x2)] [(0, true, (-9))] s))
            refine hY _ _ _ _ ?_
            exact hQ (-9) s.2.2.2 h
        · have h := h.1.2.1 hc
          refine hY _ _ _ _ (?_ : Y 94 [(4, 2, true, 1), (3, 0, false, ((s.2.2.2 74 59) - 1) - x1), (0, 5, true, 74), (1, 0, true, x1), (2, 0, true, x2)] [(2, true, 1)] s)
          refine hY _ _ _ _ ?_
          refine And.intro (fun hc => ?_) (fun hc => ?_)
          · have h := h.1 hc
            refine hY _ _ _ _ (hY _ _ _ _ (hY _ _ _ _ (?_ : Y 106 [(4, 2, true, 1), (3, 0, false, ((s.2.2.2 74 59) - 1) - x1), (0, 5, true, 74), (1, 0, true, x1), (2, 0, true, x2)] [(0, false, ((s.2.2.2 74 59) - 1) - x1), (5, true, 106)] s)))
            refine hY _ _ _ _ ?_
            refine (And.intro h.1 (And.intro h.2.1 ?_))
            show Y 107 [(4, 2, true, 1), (3, 0, false, ((s.2.2.2 74 59) - 1) - x1), (0, 5, true, 74), (1, 0, true, x1), (2, 0, true, x2)] [(0, true, s.2.2.2 106 (((s.2.2.2 74 59) - 1) - x1))] s
            refine hY _ _ _ _ ?_
            refine Exists.intro _ (And.intro (wc_301_0t (s.2.2.2 106 (((s.2.2.2 74 59) - 1) - x1)) _ _ h.2.2) (fun r5 m5 h => ?_))
            show Y 110 [(4, 2, true, 1), (3, 0, false, ((s.2.2.2 74 59) - 1) - x1), (0, 5, true, 74), (1, 0, true, x1), (2, 0, true, x2)] [(0, true, r5)] (sM s m5)
            refine hY _ _ _ _ ?_
            exact hQ r5 m5 h
          · have h := h.2 hc
            refine hY _ _ _ _ (hY _ _ _ _ (?_ : Y 110 [(4, 2, true, 1), (3, 0, false, ((s.2.2.2 74 59) - 1) - x1), (0, 5, true, 74), (1, 0, true, x1), (2, 0, true, x2)] [(2, true, 0)] s))
            refine hY _ _ _ _ ?_
            exact hQ 0 s.2.2.2 h
        · have h := h.1.2.2.1 hc
          refine hY _ _ _ _ (hY _ _ _ _ (hY _ _ _ _ (?_ : Y 116 [(4, 2, true, 1), (3, 0, false, ((s.2.2.2 74 59) - 1) - x1), (0, 5, true, 74), (1, 0, true, x1), (2, 0, true, x2)] [(5, true, 107), (5, true, 74)] s)))
          refine hY _ _ _ _ (?_ : Y 117 [(4, 2, true, 1), (3, 0, false, ((s.2.2.2 74 59) - 1) - x1), (0, 5, true, 74), (1, 0, true, x1), (2, 0, true, x2)] [(0, false, ((s.2.2.2 74 59) - 1) - x1), (5, true, 107), (5, true, 74)] s)
          refine hY _ _ _ _ ?_
          refine (And.intro h.1 (And.intro h.2.1 ?_))
          show Y 118 [(4, 2, true, 1), (3, 0, false, ((s.2.2.2 74 59) - 1) - x1), (0, 5, true, 74), (1, 0, true, x1), (2, 0, true, x2)] [(0, true, s.2.2.2 107 (((s.2.2.2 74 59) - 1) - x1)), (5, true, 74)] s
          refine hY _ _ _ _ ?_
          refine Exists.intro _ (And.intro (wc_268_r74_0t (s.2.2.2 107 (((s.2.2.2 74 59) - 1) - x1)) _ _ h.2.2) (fun r6 m6 h => ?_))
          show Y 121 [(4, 2, true, 1), (3, 0, false, ((s.2.2.2 74 59) - 1) - x1), (0, 5, true, 74), (1, 0, true, x1), (2, 0, true, x2)] [(0, true, r6)] (sM s m6)
          refine hY _ _ _ _ ?_
          exact hQ r6 m6 h
        · have h := h.1.2.2.2.1 hc
          refine hY _ _ _ _ (hY _ _ _ _ (hY _ _ _ _ (?_ : Y 127 [(4, 2, true, 1), (3, 0, false, ((s.2.2.2 74 59) - 1) - x1), (0, 5, true, 74), (1, 0, true, x1), (2, 0, true, x2)] [(5, true, 74), (0, true, s.2.2.2 74 44)] s)))
          refine hY _ _ _ _ (hY _ _ _ _ (?_ : Y 131 [(4, 2, true, 1), (3, 0, false, ((s.2.2.2 74 59) - 1) - x1), (0, 5, true, 74), (1, 0, true, x1), (2, 0, true, x2)] [(0, false, ((s.2.2.2 74 59) - 1) - x1), (5, true, 108), (0, true, s.2.2.2 74 44)] s))
          refine hY _ _ _ _ ?_
          refine (And.intro h.1 (And.intro h.2.1 ?_))
          refine hY _ _ _ _ (?_ : Y 133 [(4, 2, true, 1), (3, 0, false, ((s.2.2.2 74 59) - 1) - x1), (0, 5, true, 74), (1, 0, true, x1), (2, 0, true, x2)] [(0, false, (s.2.2.2 74 44) - (s.2.2.2 108 (((s.2.2.2 74 59) - 1) - x1)))] s)
          refine hY _ _ _ _ ?_
          refine And.intro h.2.2.1 ?_
          exact hQ ((s.2.2.2 74 44) - (s.2.2.2 108 (((s.2.2.2 74 59) - 1) - x1))) s.2.2.2 h.2.2.2
        · have h := h.2 hc
          refine hY _ _ _ _ (?_ : Y 135 [(4, 2, true, 1), (3, 0, false, ((s.2.2.2 74 59) - 1) - x1), (0, 5, true, 74), (1, 0, true, x1), (2, 0, true, x2)] [(0, true, (-1))] s)
          refine hY _ _ _ _ ?_
          exact hQ (-1) s.2.2.2 h
    · have h := h.2 hc
      refine hY _ _ _ _ (?_ : Y 13 [(0, 5, true, 74), (1, 0, true, x1), (2, 0, true, x2)] [(0, true, (-1))] s)
      refine hY _ _ _ _ ?_
      exact hQ (-1) s.2.2.2 h
def we_302 : sFf := sEf 5 [(0, 5, 74), (1, 0, 0), (2, 0, 0)] (fun xs s Q => ap2 (fun x1 x2 => wq_302 x1 x2 s.2.2.2 Q) xs)
theorem we_302_ok : kS dM 2 302 0 (.inl we_302) := sEf_ok (mi := im_m302) rfl rfl rfl (fun R xs s r1 hb => by obtain ⟨x1, x2, rfl, hb⟩ := ap2_ok hb; exact wk_302_0 _ R s x1 x2 (fun x m' hx => ⟨m', rfl, hx⟩) r1 hb)
/-- java/util/Arrays.rangeCheck(III)V -/
def wq_304 (x0 : Int) (x1 : Int) (x2 : Int) (m : hy_m) (Q : Int → hy_m → Prop) : Prop := (x1 ≤ x2 → ((0 ≤ x1 → ((x2 ≤ x0 → (Q 0 m)) ∧ (x0 < x2 → (False)))) ∧ (x1 < 0 → (False)))) ∧ (x2 < x1 → (False))
def cs_304 : List (Nat × Nat × sFS) := []
theorem cs_304_ok : kCs dC 0 cs_304 := kCs_n
def lb_304_0 (s : sS) (Q : sQ) (R : Int → hy_m → Prop) (x0 : Int) (x1 : Int) (x2 : Int) : Nat → Option (sL → sS → Prop) := sLb []
set_option maxRecDepth 30000 in
set_option maxHeartbeats 1000000 in
theorem wk_304_0 (Q : sQ) (R : Int → hy_m → Prop) (s : sS) (x0 : Int) (x1 : Int) (x2 : Int) (hQ : ∀ x m', R x m' → Q x (sM s m')) (hr : sRg [(0, 0, 0), (1, 0, 0), (2, 0, 0)] [x0, x1, x2]) (h : wq_304 x0 x1 x2 s.2.2.2 R) : kX dC 0 im_m304 9 0 (sCan [(0, 0, 0), (1, 0, 0), (2, 0, 0)] [x0, x1, x2]) [] s Q := by
  unfold wq_304 at h
  refine wz2_ok (cs := cs_304) (wr := []) (lb := lb_304_0 s Q R x0 x1 x2) cs_304_ok kLb_n (okL_can rfl hr) (fun Y hY hl => ?_)
  refine hY _ _ _ _ (hY _ _ _ _ (?_ : Y 2 [(0, 0, true, x0), (1, 0, true, x1), (2, 0, true, x2)] [(0, true, x2), (0, true, x1)] s))
  refine hY _ _ _ _ ?_
  refine And.intro (fun hc => ?_) (fun hc => ?_)
  · have h := h.1 hc
    refine hY _ _ _ _ (?_ : Y 47 [(0, 0, true, x0), (1, 0, true, x1), (2, 0, true, x2)] [(0, true, x1)] s)
    refine hY _ _ _ _ ?_
    refine And.intro (fun hc => ?_) (fun hc => ?_)
    · have h := h.1 hc
      refine hY _ _ _ _ (hY _ _ _ _ (?_ : Y 61 [(0, 0, true, x0), (1, 0, true, x1), (2, 0, true, x2)] [(0, true, x0), (0, true, x2)] s))
      refine hY _ _ _ _ ?_
      refine And.intro (fun hc => ?_) (fun hc => ?_)
      · have h := h.1 hc
        show Y 73 [(0, 0, true, x0), (1, 0, true, x1), (2, 0, true, x2)] [] s
        refine hY _ _ _ _ ?_
        exact hQ 0 s.2.2.2 h
      · have h := h.2 hc
        exact h.elim
    · have h := h.2 hc
      exact h.elim
  · have h := h.2 hc
    exact h.elim
def we_304 : sFf := sEf 3 [(0, 0, 0), (1, 0, 0), (2, 0, 0)] (fun xs s Q => ap3 (fun x0 x1 x2 => wq_304 x0 x1 x2 s.2.2.2 Q) xs)
theorem we_304_ok : kS dC 1 304 9 (.inl we_304) := sEf_ok (mi := im_m304) rfl rfl rfl (fun R xs s r1 hb => by obtain ⟨x0, x1, x2, rfl, hb⟩ := ap3_ok hb; exact wk_304_0 _ R s x0 x1 x2 (fun x m' hx => ⟨m', rfl, hx⟩) r1 hb)
/-- java/util/Arrays.fill([IIII)V -/
def wf_303_10 (x0 : Int) (x2 : Int) (x3 : Int) (T : hy_T) (Q : Int → hy_m → Prop) (P10 : Int → hy_m → Prop) (x4 : Int) (m : hy_m) : Prop := (x2 ≤ x4 → (Q 0 m)) ∧ (x4 < x2 → (∃ n1 : Nat, T.1 (x0).toNat = some (100, n1) ∧ (0 ≤ x4 ∧ x4 < (n1 : Int) ∧ (hy_r 0 (x4 + 1) ∧ (P10 (x4 + 1) (hy_u m ((x0).toNat) x4 x3))))))
def wq_303_10 (x0 : Int) (x2 : Int) (x3 : Int) (x4 : Int) (T : hy_T) (m : hy_m) (Q : Int → hy_m → Prop) : Prop := wL1 hy_m (wf_303_10 x0 x2 x3 T Q) x4 m
def wq_303 (x0 : Int) (x1 : Int) (x2 : Int) (x3 : Int) (T : hy_T) (m : hy_m) (Q : Int → hy_m → Prop) : Prop := ∃ t1 n1 : Nat, T.1 (x0).toNat = some (t1, n1) ∧ 99 ≤ t1 ∧ (wq_304 (n1 : Int) x1 x2 m (fun _ m2 => wq_303_10 x0 x2 x3 x1 T m2 Q))
theorem wc_304_0t_0t_0t (x0 : Int) (x1 : Int) (x2 : Int) (s : sS) (R : Int → hy_m → Prop) (h : wq_304 x0 x1 x2 s.2.2.2 R) : we_304 [(0, true, x0), (0, true, x1), (0, true, x2)] s R := h
def cs_303 : List (Nat × Nat × sFS) := [(304, 9, .inl we_304)]
theorem cs_303_ok : kCs dC 1 cs_303 := (kCs_c (Or.inr (Or.inr (Or.inr (Or.inr rfl)))) (we_304_ok.deep (by decide)) kCs_n)
def lb_303_10 (s : sS) (Q : sQ) (P10 : Int → hy_m → Prop) (R : Int → hy_m → Prop) (x0 : Int) (x2 : Int) (x3 : Int) (x4 : Int) : Nat → Option (sL → sS → Prop) := sLb [(10, fun lv t => sG [(0, 3, 0), (2, 0, 0), (3, 0, 0), (4, 0, 0)] lv (ap4 (fun w0 w2 w3 w4 => ∃ m', t = sM s m' ∧ w0 = x0 ∧ w2 = x2 ∧ w3 = x3 ∧ P10 w4 m')))]
set_option maxRecDepth 30000 in
set_option maxHeartbeats 1000000 in
theorem wj_303_10 (Q : sQ) (R : Int → hy_m → Prop) (s : sS) (P10 : Int → hy_m → Prop) (x0 : Int) (x2 : Int) (x3 : Int) (x4 : Int) (m : hy_m) (hP10 : ∀ (z4 : Int) (m : hy_m), P10 z4 m → sRg [(0, 3, 0), (2, 0, 0), (3, 0, 0), (4, 0, 0)] [x0, x2, x3, z4] → kX dC 1 im_m303 9 10 (sCan [(0, 3, 0), (2, 0, 0), (3, 0, 0), (4, 0, 0)] [x0, x2, x3, z4]) [] (sM s m) Q) (hQ : ∀ x m', R x m' → Q x (sM s m')) (hr : sRg [(0, 3, 0), (2, 0, 0), (3, 0, 0), (4, 0, 0)] [x0, x2, x3, x4]) (h : wf_303_10 x0 x2 x3 s.1 R P10 x4 m) : kX dC 1 im_m303 9 10 (sCan [(0, 3, 0), (2, 0, 0), (3, 0, 0), (4, 0, 0)] [x0, x2, x3, x4]) [] (sM s m) Q := by
  unfold wf_303_10 at h
  refine wz2_ok (cs := cs_303) (wr := []) (lb := lb_303_10 s Q P10 R x0 x2 x3 x4) cs_303_ok (kLb_c (kLab (Bd := fun xs t => ap4 (fun w0 w2 w3 w4 => ∃ m', t = sM s m' ∧ w0 = x0 ∧ w2 = x2 ∧ w3 = x3 ∧ P10 w4 m') xs) rfl (fun xs t r1 r2 hb => by obtain ⟨w0, w2, w3, w4, rfl, hb⟩ := ap4_ok hb; obtain ⟨m', rfl, rfl, rfl, rfl, hx⟩ := hb; exact hP10 _ m' hx r1)) kLb_n) (okL_can rfl hr) (fun Y hY hl => ?_)
  have l10 := hl 10 _ rfl
  refine hY _ _ _ _ (hY _ _ _ _ (?_ : Y 13 [(0, 3, true, x0), (2, 0, true, x2), (3, 0, true, x3), (4, 0, true, x4)] [(0, true, x2), (0, true, x4)] (sM s m)))
  refine hY _ _ _ _ ?_
  refine And.intro (fun hc => ?_) (fun hc => ?_)
  · have h := h.1 hc
    show Y 27 [(0, 3, true, x0), (2, 0, true, x2), (3, 0, true, x3), (4, 0, true, x4)] [] (sM s m)
    refine hY _ _ _ _ ?_
    exact hQ 0 m h
  · have h := h.2 hc
    refine hY _ _ _ _ (hY _ _ _ _ (hY _ _ _ _ (?_ : Y 20 [(0, 3, true, x0), (2, 0, true, x2), (3, 0, true, x3), (4, 0, true, x4)] [(0, true, x3), (0, true, x4), (3, true, x0)] (sM s m))))
    refine hY _ _ _ _ ?_
    obtain ⟨n1, h⟩ := h
    refine Exists.intro n1 (And.intro h.1 ?_)
    refine (And.intro h.2.1 (And.intro h.2.2.1 ?_))
    refine hY _ _ _ _ (hY _ _ _ _ (?_ : Y 10 [(4, 0, false, x4 + 1), (0, 3, true, x0), (2, 0, true, x2), (3, 0, true, x3)] [] (sM s (hy_u m ((x0).toNat) x4 x3))))
    refine l10 _ _ ?_
    refine And.intro h.2.2.2.1 ?_
    exact (Exists.intro (hy_u m ((x0).toNat) x4 x3) (And.intro rfl (And.intro rfl (And.intro rfl (And.intro rfl h.2.2.2.2)))))
theorem wk_303_10 (Q : sQ) (R : Int → hy_m → Prop) (s : sS) (x0 : Int) (x2 : Int) (x3 : Int) (x4 : Int) (hQ : ∀ x m', R x m' → Q x (sM s m')) (hr : sRg [(0, 3, 0), (2, 0, 0), (3, 0, 0), (4, 0, 0)] [x0, x2, x3, x4]) (h : wq_303_10 x0 x2 x3 x4 s.1 s.2.2.2 R) : kX dC 1 im_m303 9 10 (sCan [(0, 3, 0), (2, 0, 0), (3, 0, 0), (4, 0, 0)] [x0, x2, x3, x4]) [] s Q :=
  h (fun x4 m => sRg [(0, 3, 0), (2, 0, 0), (3, 0, 0), (4, 0, 0)] [x0, x2, x3, x4] → kX dC 1 im_m303 9 10 (sCan [(0, 3, 0), (2, 0, 0), (3, 0, 0), (4, 0, 0)] [x0, x2, x3, x4]) [] (sM s m) Q) (fun x4 m h hr => wj_303_10 Q R s (fun x4 m => sRg [(0, 3, 0), (2, 0, 0), (3, 0, 0), (4, 0, 0)] [x0, x2, x3, x4] → kX dC 1 im_m303 9 10 (sCan [(0, 3, 0), (2, 0, 0), (3, 0, 0), (4, 0, 0)] [x0, x2, x3, x4]) [] (sM s m) Q) x0 x2 x3 x4 m  (fun _ _ hp hr => hp hr) hQ hr h) hr
def lb_303_0 (s : sS) (Q : sQ) (R : Int → hy_m → Prop) (x0 : Int) (x1 : Int) (x2 : Int) (x3 : Int) : Nat → Option (sL → sS → Prop) := sLb [(10, fun lv t => sG [(0, 3, 0), (2, 0, 0), (3, 0, 0), (4, 0, 0)] lv (ap4 (fun w0 w2 w3 w4 => ∃ m', t = sM s m' ∧ wq_303_10 w0 w2 w3 w4 s.1 m' R)))]
set_option maxRecDepth 30000 in
set_option maxHeartbeats 1000000 in
theorem wk_303_0 (Q : sQ) (R : Int → hy_m → Prop) (s : sS) (x0 : Int) (x1 : Int) (x2 : Int) (x3 : Int) (hQ : ∀ x m', R x m' → Q x (sM s m')) (hr : sRg [(0, 3, 0), (1, 0, 0), (2, 0, 0), (3, 0, 0)] [x0, x1, x2, x3]) (h : wq_303 x0 x1 x2 x3 s.1 s.2.2.2 R) : kX dC 1 im_m303 9 0 (sCan [(0, 3, 0), (1, 0, 0), (2, 0, 0), (3, 0, 0)] [x0, x1, x2, x3]) [] s Q := by
  unfold wq_303 at h
  refine wz2_ok (cs := cs_303) (wr := []) (lb := lb_303_0 s Q R x0 x1 x2 x3) cs_303_ok (kLb_c (kLab (Bd := fun xs t => ap4 (fun w0 w2 w3 w4 => ∃ m', t = sM s m' ∧ wq_303_10 w0 w2 w3 w4 s.1 m' R) xs) rfl (fun xs t r1 r2 hb => by obtain ⟨w0, w2, w3, w4, rfl, hb⟩ := ap4_ok hb; obtain ⟨m', rfl, hx⟩ := hb; exact wk_303_10 Q R (sM s m') _ _ _ _ (fun x m'' hy => hQ x m'' hy) r1 hx)) kLb_n) (okL_can rfl hr) (fun Y hY hl => ?_)
  have l10 := hl 10 _ rfl
  refine hY _ _ _ _ (?_ : Y 1 [(0, 3, true, x0), (1, 0, true, x1), (2, 0, true, x2), (3, 0, true, x3)] [(3, true, x0)] s)
  refine hY _ _ _ _ ?_
  obtain ⟨t1, n1, h⟩ := h
  refine Exists.intro t1 (Exists.intro n1 (And.intro h.1 (And.intro h.2.1 ?_)))
  refine hY _ _ _ _ (hY _ _ _ _ (?_ : Y 4 [(0, 3, true, x0), (1, 0, true, x1), (2, 0, true, x2), (3, 0, true, x3)] [(0, true, x2), (0, true, x1), (0, true, (n1 : Int))] s))
  refine hY _ _ _ _ ?_
  refine Exists.intro _ (And.intro (wc_304_0t_0t_0t (n1 : Int) x1 x2 _ _ h.2.2) (fun r2 m2 h => ?_))
  refine hY _ _ _ _ (hY _ _ _ _ (?_ : Y 10 [(4, 0, true, x1), (0, 3, true, x0), (1, 0, true, x1), (2, 0, true, x2), (3, 0, true, x3)] [] (sM s m2)))
  refine l10 _ _ ?_
  exact (Exists.intro m2 (And.intro rfl h))
def we_303 : sFf := sEf 5 [(0, 3, 0), (1, 0, 0), (2, 0, 0), (3, 0, 0)] (fun xs s Q => ap4 (fun x0 x1 x2 x3 => wq_303 x0 x1 x2 x3 s.1 s.2.2.2 Q) xs)
theorem we_303_ok : kS dC 2 303 9 (.inl we_303) := sEf_ok (mi := im_m303) rfl rfl rfl (fun R xs s r1 hb => by obtain ⟨x0, x1, x2, x3, rfl, hb⟩ := ap4_ok hb; exact wk_303_0 _ R s x0 x1 x2 x3 (fun x m' hx => ⟨m', rfl, hx⟩) r1 hb)
