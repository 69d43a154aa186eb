/-- LMModel.follow(J)J -/
def wq_237_61 (P5 : Int → Int → hy_m → Prop) (x3 : Int) (x5 : Int) (m : hy_m) (Q : Int → hy_m → Prop) : Prop := wq_230 x3 m (fun r1 m1 => (r1 = 0 → (P5 x3 x5 m1)) ∧ (r1 ≠ 0 → (0 ≤ (jA x3 65535) ∧ (jA x3 65535) < 2500 ∧ (((m1 97 (jA x3 65535)) = (-1) → (P5 x3 x5 m1)) ∧ ((m1 97 (jA x3 65535)) ≠ (-1) → (0 ≤ (jA x3 65535) ∧ (jA x3 65535) < 2500 ∧ (P5 (m1 97 (jA x3 65535)) 1 m1)))))))
def wf_237_5 (Q : Int → hy_m → Prop) (P5 : Int → Int → hy_m → Prop) (x3 : Int) (x5 : Int) (m : hy_m) : Prop := (x5 = 0 → (Q x3 m)) ∧ (x5 ≠ 0 → (wq_230 x3 m (fun r1 m1 => (r1 ≠ 0 → (wq_237_61 P5 x3 0 m1 Q)) ∧ (r1 = 0 → (wq_231 x3 m1 (fun r2 m2 => (r2 ≠ 0 → (wq_237_61 P5 x3 0 m2 Q)) ∧ (r2 = 0 → (wq_232 x3 m2 (fun r3 m3 => 0 ≤ r3 ∧ r3 < 3584 ∧ (((m3 76 r3) ≠ 1 → (wq_237_61 P5 x3 0 m3 Q)) ∧ ((m3 76 r3) = 1 → (wq_233 x3 m3 (fun r4 m4 => wq_232 x3 m4 (fun r5 m5 => 0 ≤ r5 ∧ r5 < 3584 ∧ (hy_r 0 (r4 + (m5 77 r5)) ∧ (wq_237_61 P5 (jO 2305843009213693952 (r4 + (m5 77 r5))) 0 m5 Q))))))))))))))))
def wq_237_5 (x3 : Int) (x5 : Int) (m : hy_m) (Q : Int → hy_m → Prop) : Prop := wL2 hy_m (wf_237_5 Q) x3 x5 m
def wq_237 (x1 : Int) (m : hy_m) (Q : Int → hy_m → Prop) : Prop := wq_237_5 x1 1 m Q
theorem wc_230_1t (x0 : Int) (s : sS) (R : Int → hy_m → Prop) (h : wq_230 x0 s.2.2.2 R) : we_230 [(1, true, x0)] s R := h
theorem wc_231_1t (x0 : Int) (s : sS) (R : Int → hy_m → Prop) (h : wq_231 x0 s.2.2.2 R) : we_231 [(1, true, x0)] s R := h
def cs_237 : List (Nat × Nat × sFS) := [(230, 2, .inl we_230), (231, 2, .inl we_231), (232, 0, .inl we_232), (233, 0, .inl we_233)]
theorem cs_237_ok : kCs dM 1 cs_237 := (kCs_c (Or.inr (Or.inr (Or.inl rfl))) (we_230_ok.deep (by decide)) (kCs_c (Or.inr (Or.inr (Or.inl rfl))) (we_231_ok.deep (by decide)) (kCs_c (Or.inl rfl) (we_232_ok.deep (by decide)) (kCs_c (Or.inl rfl) (we_233_ok.deep (by decide)) kCs_n))))
def lb_237_61 (s : sS) (Q : sQ) (P5 : Int → Int → hy_m → Prop) (R : Int → hy_m → Prop) (x3 : Int) (x5 : Int) : Nat → Option (sL → sS → Prop) := sLb [(5, fun lv t => sG [(0, 5, 74), (3, 1, 0), (5, 2, 0)] lv (ap2 (fun w3 w5 => ∃ m', t = sM s m' ∧ P5 w3 w5 m')))]
set_option maxRecDepth 30000 in
set_option maxHeartbeats 1000000 in
theorem wk_237_61 (Q : sQ) (R : Int → hy_m → Prop) (s : sS) (P5 : Int → Int → hy_m → Prop) (x3 : Int) (x5 : Int) (hP5 : ∀ (z3 z5 : Int) (m : hy_m), P5 z3 z5 m → sRg [(0, 5, 74), (3, 1, 0), (5, 2, 0)] [z3, z5] → kX dM 1 im_m237 1 5 (sCan [(0, 5, 74), (3, 1, 0), (5, 2, 0)] [z3, z5]) [] (sM s m) Q) (hQ : ∀ x m', R x m' → Q x (sM s m')) (hr : sRg [(0, 5, 74), (3, 1, 0), (5, 2, 0)] [x3, x5]) (h : wq_237_61 P5 x3 x5 s.2.2.2 R) : kX dM 1 im_m237 1 61 (sCan [(0, 5, 74), (3, 1, 0), (5, 2, 0)] [x3, x5]) [] s Q := by
  unfold wq_237_61 at h
  refine wz2_ok (cs := cs_237) (wr := []) (lb := lb_237_61 s Q P5 R x3 x5) cs_237_ok (kLb_c (kLab (Bd := fun xs t => ap2 (fun w3 w5 => ∃ m', t = sM s m' ∧ P5 w3 w5 m') xs) rfl (fun xs t r1 r2 hb => by obtain ⟨w3, w5, rfl, hb⟩ := ap2_ok hb; obtain ⟨m', rfl, hx⟩ := hb; exact hP5 _ _ m' hx r1)) kLb_n) (okL_can rfl hr) (fun Y hY hl => ?_)
  have l5 := hl 5 _ rfl
  refine hY _ _ _ _ (?_ : Y 62 [(0, 5, true, 74), (3, 1, true, x3), (5, 2, true, x5)] [(1, true, x3)] s)
  refine hY _ _ _ _ ?_
  refine Exists.intro _ (And.intro (wc_230_1t x3 _ _ h) (fun r1 m1 h => ?_))
  show Y 65 [(0, 5, true, 74), (3, 1, true, x3), (5, 2, true, x5)] [(2, true, r1)] (sM s m1)
  refine hY _ _ _ _ ?_
  refine And.intro (fun hc => ?_) (fun hc => ?_)
  · have h := h.1 hc
    show Y 5 [(0, 5, true, 74), (3, 1, true, x3), (5, 2, true, x5)] [] (sM s m1)
    refine l5 _ _ ?_
    exact (Exists.intro m1 (And.intro rfl h))
  · have h := h.2 hc
    refine hY _ _ _ _ (hY _ _ _ _ (hY _ _ _ _ (?_ : Y 73 [(0, 5, true, 74), (3, 1, true, x3), (5, 2, true, x5)] [(1, true, x3), (5, true, 97)] (sM s m1))))
    refine hY _ _ _ _ (?_ : Y 76 [(0, 5, true, 74), (3, 1, true, x3), (5, 2, true, x5)] [(1, true, 65535), (1, true, x3), (5, true, 97)] (sM s m1))
    refine hY _ _ _ _ (?_ : Y 77 [(0, 5, true, 74), (3, 1, true, x3), (5, 2, true, x5)] [(1, true, jA x3 65535), (5, true, 97)] (sM s m1))
    refine hY _ _ _ _ (?_ : Y 78 [(0, 5, true, 74), (3, 1, true, x3), (5, 2, true, x5)] [(0, false, jA x3 65535), (5, true, 97)] (sM s m1))
    refine hY _ _ _ _ ?_
    refine (And.intro h.1 (And.intro h.2.1 ?_))
    refine hY _ _ _ _ (?_ : Y 82 [(0, 5, true, 74), (3, 1, true, x3), (5, 2, true, x5)] [(1, true, (-1)), (1, true, m1 97 (jA x3 65535))] (sM s m1))
    refine hY _ _ _ _ ?_
    refine And.intro (fun hc => ?_) (fun hc => ?_)
    · have h := h.2.2.1 hc
      show Y 5 [(0, 5, true, 74), (3, 1, true, x3), (5, 2, true, x5)] [] (sM s m1)
      refine l5 _ _ ?_
      exact (Exists.intro m1 (And.intro rfl h))
    · have h := h.2.2.2 hc
      refine hY _ _ _ _ (hY _ _ _ _ (hY _ _ _ _ (?_ : Y 91 [(0, 5, true, 74), (3, 1, true, x3), (5, 2, true, x5)] [(1, true, x3), (5, true, 97)] (sM s m1))))
      refine hY _ _ _ _ (?_ : Y 94 [(0, 5, true, 74), (3, 1, true, x3), (5, 2, true, x5)] [(1, true, 65535), (1, true, x3), (5, true, 97)] (sM s m1))
      refine hY _ _ _ _ (?_ : Y 95 [(0, 5, true, 74), (3, 1, true, x3), (5, 2, true, x5)] [(1, true, jA x3 65535), (5, true, 97)] (sM s m1))
      refine hY _ _ _ _ (?_ : Y 96 [(0, 5, true, 74), (3, 1, true, x3), (5, 2, true, x5)] [(0, false, jA x3 65535), (5, true, 97)] (sM s m1))
      refine hY _ _ _ _ ?_
      refine (And.intro h.1 (And.intro h.2.1 ?_))
      refine hY _ _ _ _ (hY _ _ _ _ (hY _ _ _ _ (?_ : Y 101 [(5, 2, true, 1), (3, 1, true, m1 97 (jA x3 65535)), (0, 5, true, 74)] [] (sM s m1))))
      refine hY _ _ _ _ (?_ : Y 5 [(5, 2, true, 1), (3, 1, true, m1 97 (jA x3 65535)), (0, 5, true, 74)] [] (sM s m1))
      refine l5 _ _ ?_
      exact (Exists.intro m1 (And.intro rfl h.2.2))
def lb_237_5 (s : sS) (Q : sQ) (P5 : Int → Int → hy_m → Prop) (R : Int → hy_m → Prop) (x3 : Int) (x5 : Int) : Nat → Option (sL → sS → Prop) := sLb [(61, fun lv t => sG [(0, 5, 74), (3, 1, 0), (5, 2, 0)] lv (ap2 (fun w3 w5 => ∃ m', t = sM s m' ∧ wq_237_61 P5 w3 w5 m' R))), (5, fun lv t => sG [(0, 5, 74), (3, 1, 0), (5, 2, 0)] lv (ap2 (fun w3 w5 => ∃ m', t = sM s m' ∧ P5 w3 w5 m')))]
set_option maxRecDepth 30000 in
set_option maxHeartbeats 1000000 in
theorem wj_237_5 (Q : sQ) (R : Int → hy_m → Prop) (s : sS) (P5 : Int → Int → hy_m → Prop) (x3 : Int) (x5 : Int) (m : hy_m) (hP5 : ∀ (z3 z5 : Int) (m : hy_m), P5 z3 z5 m → sRg [(0, 5, 74), (3, 1, 0), (5, 2, 0)] [z3, z5] → kX dM 1 im_m237 1 5 (sCan [(0, 5, 74), (3, 1, 0), (5, 2, 0)] [z3, z5]) [] (sM s m) Q) (hQ : ∀ x m', R x m' → Q x (sM s m')) (hr : sRg [(0, 5, 74), (3, 1, 0), (5, 2, 0)] [x3, x5]) (h : wf_237_5 R P5 x3 x5 m) : kX dM 1 im_m237 1 5 (sCan [(0, 5, 74), (3, 1, 0), (5, 2, 0)] [x3, x5]) [] (sM s m) Q := by
  unfold wf_237_5 at h
  refine wz2_ok (cs := cs_237) (wr := []) (lb := lb_237_5 s Q P5 R x3 x5) cs_237_ok (kLb_c (kLab (Bd := fun xs t => ap2 (fun w3 w5 => ∃ m', t = sM s m' ∧ wq_237_61 P5 w3 w5 m' R) xs) rfl (fun xs t r1 r2 hb => by obtain ⟨w3, w5, rfl, hb⟩ := ap2_ok hb; obtain ⟨m', rfl, hx⟩ := hb; exact wk_237_61 Q R (sM s m') P5 _ _ hP5 (fun x m'' hy => hQ x m'' hy) r1 hx)) (kLb_c (kLab (Bd := fun xs t => ap2 (fun w3 w5 => ∃ m', t = sM s m' ∧ P5 w3 w5 m') xs) rfl (fun xs t r1 r2 hb => by obtain ⟨w3, w5, rfl, hb⟩ := ap2_ok hb; obtain ⟨m', rfl, hx⟩ := hb; exact hP5 _ _ m' hx r1)) kLb_n)) (okL_can rfl hr) (fun Y hY hl => ?_)
  have l61 := hl 61 _ rfl
  have l5 := hl 5 _ rfl
  refine hY _ _ _ _ (?_ : Y 7 [(0, 5, true, 74), (3, 1, true, x3), (5, 2, true, x5)] [(2, true, x5)] (sM s m))
  refine hY _ _ _ _ ?_
  refine And.intro (fun hc => ?_) (fun hc => ?_)
  · have h := h.1 hc
    refine hY _ _ _ _ (?_ : Y 105 [(0, 5, true, 74), (3, 1, true, x3), (5, 2, true, x5)] [(1, true, x3)] (sM s m))
    refine hY _ _ _ _ ?_
    exact hQ x3 m h
  · have h := h.2 hc
    refine hY _ _ _ _ (hY _ _ _ _ (hY _ _ _ _ (?_ : Y 14 [(5, 2, true, 0), (0, 5, true, 74), (3, 1, true, x3)] [(1, true, x3)] (sM s m))))
    refine hY _ _ _ _ ?_
    refine Exists.intro _ (And.intro (wc_230_1t x3 _ _ h) (fun r1 m1 h => ?_))
    show Y 17 [(5, 2, true, 0), (0, 5, true, 74), (3, 1, true, x3)] [(2, true, r1)] (sM s m1)
    refine hY _ _ _ _ ?_
    refine And.intro (fun hc => ?_) (fun hc => ?_)
    · have h := h.1 hc
      show Y 61 [(5, 2, true, 0), (0, 5, true, 74), (3, 1, true, x3)] [] (sM s m1)
      refine l61 _ _ ?_
      exact (Exists.intro m1 (And.intro rfl h))
    · have h := h.2 hc
      refine hY _ _ _ _ (?_ : Y 21 [(5, 2, true, 0), (0, 5, true, 74), (3, 1, true, x3)] [(1, true, x3)] (sM s m1))
      refine hY _ _ _ _ ?_
      refine Exists.intro _ (And.intro (wc_231_1t x3 _ _ h) (fun r2 m2 h => ?_))
      show Y 24 [(5, 2, true, 0), (0, 5, true, 74), (3, 1, true, x3)] [(2, true, r2)] (sM s m2)
      refine hY _ _ _ _ ?_
      refine And.intro (fun hc => ?_) (fun hc => ?_)
      · have h := h.1 hc
        show Y 61 [(5, 2, true, 0), (0, 5, true, 74), (3, 1, true, x3)] [] (sM s m2)
        refine l61 _ _ ?_
        exact (Exists.intro m2 (And.intro rfl h))
      · have h := h.2 hc
        refine hY _ _ _ _ (hY _ _ _ _ (hY _ _ _ _ (?_ : Y 32 [(5, 2, true, 0), (0, 5, true, 74), (3, 1, true, x3)] [(1, true, x3), (5, true, 76)] (sM s m2))))
        refine hY _ _ _ _ ?_
        refine Exists.intro _ (And.intro (wc_232_1t x3 _ _ h) (fun r3 m3 h => ?_))
        show Y 35 [(5, 2, true, 0), (0, 5, true, 74), (3, 1, true, x3)] [(0, true, r3), (5, true, 76)] (sM s m3)
        refine hY _ _ _ _ ?_
        refine (And.intro h.1 (And.intro h.2.1 ?_))
        refine hY _ _ _ _ (?_ : Y 37 [(5, 2, true, 0), (0, 5, true, 74), (3, 1, true, x3)] [(2, true, 1), (0, true, m3 76 r3)] (sM s m3))
        refine hY _ _ _ _ ?_
        refine And.intro (fun hc => ?_) (fun hc => ?_)
        · have h := h.2.2.1 hc
          show Y 61 [(5, 2, true, 0), (0, 5, true, 74), (3, 1, true, x3)] [] (sM s m3)
          refine l61 _ _ ?_
          exact (Exists.intro m3 (And.intro rfl h))
        · have h := h.2.2.2 hc
          refine hY _ _ _ _ (hY _ _ _ _ (?_ : Y 44 [(5, 2, true, 0), (0, 5, true, 74), (3, 1, true, x3)] [(1, true, x3), (1, true, 2305843009213693952)] (sM s m3)))
          refine hY _ _ _ _ ?_
          refine Exists.intro _ (And.intro (wc_233_1t x3 _ _ h) (fun r4 m4 h => ?_))
          refine hY _ _ _ _ (hY _ _ _ _ (hY _ _ _ _ (?_ : Y 52 [(5, 2, true, 0), (0, 5, true, 74), (3, 1, true, x3)] [(1, true, x3), (5, true, 77), (0, true, r4), (1, true, 2305843009213693952)] (sM s m4))))
          refine hY _ _ _ _ ?_
          refine Exists.intro _ (And.intro (wc_232_1t x3 _ _ h) (fun r5 m5 h => ?_))
          show Y 55 [(5, 2, true, 0), (0, 5, true, 74), (3, 1, true, x3)] [(0, true, r5), (5, true, 77), (0, true, r4), (1, true, 2305843009213693952)] (sM s m5)
          refine hY _ _ _ _ ?_
          refine (And.intro h.1 (And.intro h.2.1 ?_))
          refine hY _ _ _ _ (hY _ _ _ _ (?_ : Y 58 [(5, 2, true, 0), (0, 5, true, 74), (3, 1, true, x3)] [(0, false, r4 + (m5 77 r5)), (1, true, 2305843009213693952)] (sM s m5)))
          refine hY _ _ _ _ ?_
          refine And.intro h.2.2.1 ?_
          show Y 59 [(5, 2, true, 0), (0, 5, true, 74), (3, 1, true, x3)] [(1, true, r4 + (m5 77 r5)), (1, true, 2305843009213693952)] (sM s m5)
          refine hY _ _ _ _ (?_ : Y 60 [(5, 2, true, 0), (0, 5, true, 74), (3, 1, true, x3)] [(1, true, jO 2305843009213693952 (r4 + (m5 77 r5)))] (sM s m5))
          refine hY _ _ _ _ (?_ : Y 61 [(3, 1, true, jO 2305843009213693952 (r4 + (m5 77 r5))), (5, 2, true, 0), (0, 5, true, 74)] [] (sM s m5))
          refine l61 _ _ ?_
          exact (Exists.intro m5 (And.intro rfl h.2.2.2))
theorem wk_237_5 (Q : sQ) (R : Int → hy_m → Prop) (s : sS) (x3 : Int) (x5 : Int) (hQ : ∀ x m', R x m' → Q x (sM s m')) (hr : sRg [(0, 5, 74), (3, 1, 0), (5, 2, 0)] [x3, x5]) (h : wq_237_5 x3 x5 s.2.2.2 R) : kX dM 1 im_m237 1 5 (sCan [(0, 5, 74), (3, 1, 0), (5, 2, 0)] [x3, x5]) [] s Q :=
  h (fun x3 x5 m => sRg [(0, 5, 74), (3, 1, 0), (5, 2, 0)] [x3, x5] → kX dM 1 im_m237 1 5 (sCan [(0, 5, 74), (3, 1, 0), (5, 2, 0)] [x3, x5]) [] (sM s m) Q) (fun x3 x5 m h hr => wj_237_5 Q R s (fun x3 x5 m => sRg [(0, 5, 74), (3, 1, 0), (5, 2, 0)] [x3, x5] → kX dM 1 im_m237 1 5 (sCan [(0, 5, 74), (3, 1, 0), (5, 2, 0)] [x3, x5]) [] (sM s m) Q) x3 x5 m  (fun _ _ _ hp hr => hp hr) hQ hr h) hr
def lb_237_0 (s : sS) (Q : sQ) (R : Int → hy_m → Prop) (x1 : Int) : Nat → Option (sL → sS → Prop) := sLb [(5, fun lv t => sG [(0, 5, 74), (3, 1, 0), (5, 2, 0)] lv (ap2 (fun w3 w5 => ∃ m', t = sM s m' ∧ wq_237_5 w3 w5 m' R)))]
set_option maxRecDepth 30000 in
set_option maxHeartbeats 1000000 in
theorem wk_237_0 (Q : sQ) (R : Int → hy_m → Prop) (s : sS) (x1 : Int) (hQ : ∀ x m', R x m' → Q x (sM s m')) (hr : sRg [(0, 5, 74), (1, 1, 0)] [x1]) (h : wq_237 x1 s.2.2.2 R) : kX dM 1 im_m237 1 0 (sCan [(0, 5, 74), (1, 1, 0)] [x1]) [] s Q := by
  unfold wq_237 at h
  refine wz2_ok (cs := cs_237) (wr := []) (lb := lb_237_0 s Q R x1) cs_237_ok (kLb_c (kLab (Bd := fun xs t => ap2 (fun w3 w5 => ∃ m', t = sM s m' ∧ wq_237_5 w3 w5 m' R) xs) rfl (fun xs t r1 r2 hb => by obtain ⟨w3, w5, rfl, hb⟩ := ap2_ok hb; obtain ⟨m', rfl, hx⟩ := hb; exact wk_237_5 Q R (sM s m') _ _ (fun x m'' hy => hQ x m'' hy) r1 hx)) kLb_n) (okL_can rfl hr) (fun Y hY hl => ?_)
  have l5 := hl 5 _ rfl
  refine hY _ _ _ _ (hY _ _ _ _ (hY _ _ _ _ (?_ : Y 3 [(3, 1, true, x1), (0, 5, true, 74), (1, 1, true, x1)] [(2, true, 1)] s)))
  refine hY _ _ _ _ (?_ : Y 5 [(5, 2, true, 1), (3, 1, true, x1), (0, 5, true, 74), (1, 1, true, x1)] [] s)
  refine l5 _ _ ?_
  exact (Exists.intro s.2.2.2 (And.intro rfl h))
def we_237 : sFf := sEf 6 [(0, 5, 74), (1, 1, 0)] (fun xs s Q => ap1 (fun x1 => wq_237 x1 s.2.2.2 Q) xs)
theorem we_237_ok : kS dM 2 237 1 (.inl we_237) := sEf_ok (mi := im_m237) rfl rfl rfl (fun R xs s r1 hb => by obtain ⟨x1, rfl, hb⟩ := ap1_ok hb; exact wk_237_0 _ R s x1 (fun x m' hx => ⟨m', rfl, hx⟩) r1 hb)
/-- LMModel.kindOf(J)I -/
def wq_238 (x1 : Int) (m : hy_m) (Q : Int → hy_m → Prop) : Prop := wq_230 x1 m (fun r1 m1 => (r1 = 0 → (wq_231 x1 m1 (fun r2 m2 => (r2 = 0 → (wq_232 x1 m2 (fun r3 m3 => 0 ≤ r3 ∧ r3 < 3584 ∧ (Q (m3 76 r3) m3)))) ∧ (r2 ≠ 0 → (Q 2 m2))))) ∧ (r1 ≠ 0 → (Q 1 m1)))
def cs_238 : List (Nat × Nat × sFS) := [(230, 2, .inl we_230), (231, 2, .inl we_231), (232, 0, .inl we_232)]
theorem cs_238_ok : kCs dM 1 cs_238 := (kCs_c (Or.inr (Or.inr (Or.inl rfl))) (we_230_ok.deep (by decide)) (kCs_c (Or.inr (Or.inr (Or.inl rfl))) (we_231_ok.deep (by decide)) (kCs_c (Or.inl rfl) (we_232_ok.deep (by decide)) kCs_n)))
def lb_238_0 (s : sS) (Q : sQ) (R : Int → hy_m → Prop) (x1 : Int) : Nat → Option (sL → sS → Prop) := sLb []
set_option maxRecDepth 30000 in
set_option maxHeartbeats 1000000 in
theorem wk_238_0 (Q : sQ) (R : Int → hy_m → Prop) (s : sS) (x1 : Int) (hQ : ∀ x m', R x m' → Q x (sM s m')) (hr : sRg [(0, 5, 74), (1, 1, 0)] [x1]) (h : wq_238 x1 s.2.2.2 R) : kX dM 1 im_m238 0 0 (sCan [(0, 5, 74), (1, 1, 0)] [x1]) [] s Q := by
  unfold wq_238 at h
  refine wz2_ok (cs := cs_238) (wr := []) (lb := lb_238_0 s Q R x1) cs_238_ok kLb_n (okL_can rfl hr) (fun Y hY hl => ?_)
  refine hY _ _ _ _ (?_ : Y 1 [(0, 5, true, 74), (1, 1, true, x1)] [(1, true, x1)] s)
  refine hY _ _ _ _ ?_
  refine Exists.intro _ (And.intro (wc_230_1t x1 _ _ h) (fun r1 m1 h => ?_))
  show Y 4 [(0, 5, true, 74), (1, 1, true, x1)] [(2, true, r1)] (sM s m1)
  refine hY _ _ _ _ ?_
  refine And.intro (fun hc => ?_) (fun hc => ?_)
  · have h := h.1 hc
    refine hY _ _ _ _ (?_ : Y 12 [(0, 5, true, 74), (1, 1, true, x1)] [(1, true, x1)] (sM s m1))
    refine hY _ _ _ _ ?_
    refine Exists.intro _ (And.intro (wc_231_1t x1 _ _ h) (fun r2 m2 h => ?_))
    show Y 15 [(0, 5, true, 74), (1, 1, true, x1)] [(2, true, r2)] (sM s m2)
    refine hY _ _ _ _ ?_
    refine And.intro (fun hc => ?_) (fun hc => ?_)
    · have h := h.1 hc
      refine hY _ _ _ _ (hY _ _ _ _ (hY _ _ _ _ (?_ : Y 27 [(0, 5, true, 74), (1, 1, true, x1)] [(1, true, x1), (5, true, 76)] (sM s m2))))
      refine hY _ _ _ _ ?_
      refine Exists.intro _ (And.intro (wc_232_1t x1 _ _ h) (fun r3 m3 h => ?_))
      show Y 30 [(0, 5, true, 74), (1, 1, true, x1)] [(0, true, r3), (5, true, 76)] (sM s m3)
      refine hY _ _ _ _ ?_
      refine (And.intro h.1 (And.intro h.2.1 ?_))
      show Y 31 [(0, 5, true, 74), (1, 1, true, x1)] [(0, true, m3 76 r3)] (sM s m3)
      refine hY _ _ _ _ ?_
      exact hQ (m3 76 r3) m3 h.2.2
    · have h := h.2 hc
      refine hY _ _ _ _ (hY _ _ _ _ (?_ : Y 31 [(0, 5, true, 74), (1, 1, true, x1)] [(0, true, 2)] (sM s m2)))
      refine hY _ _ _ _ ?_
      exact hQ 2 m2 h
  · have h := h.2 hc
    refine hY _ _ _ _ (hY _ _ _ _ (?_ : Y 31 [(0, 5, true, 74), (1, 1, true, x1)] [(2, true, 1)] (sM s m1)))
    refine hY _ _ _ _ ?_
    exact hQ 1 m1 h
def we_238 : sFf := sEf 3 [(0, 5, 74), (1, 1, 0)] (fun xs s Q => ap1 (fun x1 => wq_238 x1 s.2.2.2 Q) xs)
theorem we_238_ok : kS dM 2 238 0 (.inl we_238) := sEf_ok (mi := im_m238) rfl rfl rfl (fun R xs s r1 hb => by obtain ⟨x1, rfl, hb⟩ := ap1_ok hb; exact wk_238_0 _ R s x1 (fun x m' hx => ⟨m', rfl, hx⟩) r1 hb)
/-- LMModel.integerOf(J)I -/
def wq_239 (x1 : Int) (m : hy_m) (Q : Int → hy_m → Prop) : Prop := wq_231 x1 m (fun r1 m1 => (r1 = 0 → (wq_232 x1 m1 (fun r2 m2 => 0 ≤ r2 ∧ r2 < 3584 ∧ (hy_r 0 (m2 77 r2) ∧ (Q (m2 77 r2) m2))))) ∧ (r1 ≠ 0 → (Q (iW x1) m1)))
def cs_239 : List (Nat × Nat × sFS) := [(231, 2, .inl we_231), (232, 0, .inl we_232)]
theorem cs_239_ok : kCs dM 1 cs_239 := (kCs_c (Or.inr (Or.inr (Or.inl rfl))) (we_231_ok.deep (by decide)) (kCs_c (Or.inl rfl) (we_232_ok.deep (by decide)) kCs_n))
def lb_239_0 (s : sS) (Q : sQ) (R : Int → hy_m → Prop) (x1 : Int) : Nat → Option (sL → sS → Prop) := sLb []
set_option maxRecDepth 30000 in
set_option maxHeartbeats 1000000 in
theorem wk_239_0 (Q : sQ) (R : Int → hy_m → Prop) (s : sS) (x1 : Int) (hQ : ∀ x m', R x m' → Q x (sM s m')) (hr : sRg [(0, 5, 74), (1, 1, 0)] [x1]) (h : wq_239 x1 s.2.2.2 R) : kX dM 1 im_m239 0 0 (sCan [(0, 5, 74), (1, 1, 0)] [x1]) [] s Q := by
  unfold wq_239 at h
  refine wz2_ok (cs := cs_239) (wr := [8]) (lb := lb_239_0 s Q R x1) cs_239_ok kLb_n (okL_can rfl hr) (fun Y hY hl => ?_)
  refine hY _ _ _ _ (?_ : Y 1 [(0, 5, true, 74), (1, 1, true, x1)] [(1, true, x1)] s)
  refine hY _ _ _ _ ?_
  refine Exists.intro _ (And.intro (wc_231_1t x1 _ _ h) (fun r1 m1 h => ?_))
  show Y 4 [(0, 5, true, 74), (1, 1, true, x1)] [(2, true, r1)] (sM s m1)
  refine hY _ _ _ _ ?_
  refine And.intro (fun hc => ?_) (fun hc => ?_)
  · have h := h.1 hc
    refine hY _ _ _ _ (hY _ _ _ _ (hY _ _ _ _ (?_ : Y 17 [(0, 5, true, 74), (1, 1, true, x1)] [(1, true, x1), (5, true, 77)] (sM s m1))))
    refine hY _ _ _ _ ?_
    refine Exists.intro _ (And.intro (wc_232_1t x1 _ _ h) (fun r2 m2 h => ?_))
    show Y 20 [(0, 5, true, 74), (1, 1, true, x1)] [(0, true, r2), (5, true, 77)] (sM s m2)
    refine hY _ _ _ _ ?_
    refine (And.intro h.1 (And.intro h.2.1 ?_))
    refine hY _ _ _ _ (?_ : Y 22 [(0, 5, true, 74), (1, 1, true, x1)] [(0, false, m2 77 r2)] (sM s m2))
    refine hY _ _ _ _ ?_
    refine And.intro h.2.2.1 ?_
    exact hQ (m2 77 r2) m2 h.2.2.2
  · have h := h.2 hc
    refine hY _ _ _ _ (hY _ _ _ _ (hY _ _ _ _ (?_ : Y 22 [(0, 5, true, 74), (1, 1, true, x1)] [(0, true, iW x1)] (sM s m1))))
    refine hY _ _ _ _ ?_
    exact hQ (iW x1) m1 h
def we_239 : sFf := sEf 3 [(0, 5, 74), (1, 1, 0)] (fun xs s Q => ap1 (fun x1 => wq_239 x1 s.2.2.2 Q) xs)
theorem we_239_ok : kS dM 2 239 0 (.inl we_239) := sEf_ok (mi := im_m239) rfl rfl rfl (fun R xs s r1 hb => by obtain ⟨x1, rfl, hb⟩ := ap1_ok hb; exact wk_239_0 _ R s x1 (fun x m' hx => ⟨m', rfl, hx⟩) r1 hb)
/-- LMModel.bind(JJ)V -/
def wq_240 (x1 : Int) (x3 : Int) (m : hy_m) (Q : Int → hy_m → Prop) : Prop := 0 ≤ (jA x1 65535) ∧ (jA x1 65535) < 2500 ∧ (((m 74 59) ≤ 0 → (Q 0 (hy_u m 97 (jA x1 65535) x3))) ∧ (0 < (m 74 59) → (0 ≤ ((m 74 59) - 1) ∧ ((m 74 59) - 1) < 700 ∧ (hy_r 0 (jA x1 65535) ∧ (((m 109 ((m 74 59) - 1)) ≤ (jA x1 65535) → (Q 0 (hy_u m 97 (jA x1 65535) x3))) ∧ ((jA x1 65535) < (m 109 ((m 74 59) - 1)) → (0 ≤ (m 74 44) ∧ (m 74 44) < 2500 ∧ (hy_r 0 (jA x1 65535) ∧ (hy_r 0 ((m 74 44) + 1) ∧ (Q 0 (hy_u (hy_u (hy_u m 97 (jA x1 65535) x3) 98 (m 74 44) (jA x1 65535)) 74 44 ((m 74 44) + 1))))))))))))
def cs_240 : List (Nat × Nat × sFS) := []
theorem cs_240_ok : kCs dM 0 cs_240 := kCs_n
def lb_240_0 (s : sS) (Q : sQ) (R : Int → hy_m → Prop) (x1 : Int) (x3 : Int) : Nat → Option (sL → sS → Prop) := sLb []
set_option maxRecDepth 30000 in
set_option maxHeartbeats 1000000 in
theorem wk_240_0 (Q : sQ) (R : Int → hy_m → Prop) (s : sS) (x1 : Int) (x3 : Int) (hQ : ∀ x m', R x m' → Q x (sM s m')) (hr : sRg [(0, 5, 74), (1, 1, 0), (3, 1, 0)] [x1, x3]) (h : wq_240 x1 x3 s.2.2.2 R) : kX dM 0 im_m240 9 0 (sCan [(0, 5, 74), (1, 1, 0), (3, 1, 0)] [x1, x3]) [] s Q := by
  unfold wq_240 at h
  refine wz2_ok (cs := cs_240) (wr := []) (lb := lb_240_0 s Q R x1 x3) cs_240_ok kLb_n (okL_can rfl hr) (fun Y hY hl => ?_)
  refine hY _ _ _ _ (hY _ _ _ _ (?_ : Y 4 [(0, 5, true, 74), (1, 1, true, x1), (3, 1, true, x3)] [(1, true, 65535), (1, true, x1)] s))
  refine hY _ _ _ _ (?_ : Y 5 [(0, 5, true, 74), (1, 1, true, x1), (3, 1, true, x3)] [(1, true, jA x1 65535)] s)
  refine hY _ _ _ _ (hY _ _ _ _ (hY _ _ _ _ (?_ : Y 9 [(5, 0, false, jA x1 65535), (0, 5, true, 74), (1, 1, true, x1), (3, 1, true, x3)] [(5, true, 74)] s)))
  refine hY _ _ _ _ (hY _ _ _ _ (hY _ _ _ _ (?_ : Y 15 [(5, 0, false, jA x1 65535), (0, 5, true, 74), (1, 1, true, x1), (3, 1, true, x3)] [(1, true, x3), (0, false, jA x1 65535), (5, true, 97)] s)))
  refine hY _ _ _ _ ?_
  refine (And.intro h.1 (And.intro h.2.1 ?_))
  refine hY _ _ _ _ (hY _ _ _ _ (?_ : Y 20 [(5, 0, false, jA x1 65535), (0, 5, true, 74), (1, 1, true, x1), (3, 1, true, x3)] [(0, true, s.2.2.2 74 59)] (sM s (hy_u s.2.2.2 97 (jA x1 65535) x3))))
  refine hY _ _ _ _ ?_
  refine And.intro (fun hc => ?_) (fun hc => ?_)
  · have h := h.2.2.1 hc
    show Y 60 [(5, 0, false, jA x1 65535), (0, 5, true, 74), (1, 1, true, x1), (3, 1, true, x3)] [] (sM s (hy_u s.2.2.2 97 (jA x1 65535) x3))
    refine hY _ _ _ _ ?_
    exact hQ 0 (hy_u s.2.2.2 97 (jA x1 65535) x3) h
  · have h := h.2.2.2 hc
    refine hY _ _ _ _ (hY _ _ _ _ (hY _ _ _ _ (?_ : Y 29 [(5, 0, false, jA x1 65535), (0, 5, true, 74), (1, 1, true, x1), (3, 1, true, x3)] [(5, true, 109), (0, false, jA x1 65535)] (sM s (hy_u s.2.2.2 97 (jA x1 65535) x3)))))
    refine hY _ _ _ _ (hY _ _ _ _ (hY _ _ _ _ (?_ : Y 34 [(5, 0, false, jA x1 65535), (0, 5, true, 74), (1, 1, true, x1), (3, 1, true, x3)] [(2, true, 1), (0, true, s.2.2.2 74 59), (5, true, 109), (0, false, jA x1 65535)] (sM s (hy_u s.2.2.2 97 (jA x1 65535) x3)))))
    refine hY _ _ _ _ (?_ : Y 35 [(5, 0, false, jA x1 65535), (0, 5, true, 74), (1, 1, true, x1), (3, 1, true, x3)] [(0, false, (s.2.2.2 74 59) - 1), (5, true, 109), (0, false, jA x1 65535)] (sM s (hy_u s.2.2.2 97 (jA x1 65535) x3)))
    refine hY _ _ _ _ ?_
    refine (And.intro h.1 (And.intro h.2.1 ?_))
    show Y 36 [(5, 0, false, jA x1 65535), (0, 5, true, 74), (1, 1, true, x1), (3, 1, true, x3)] [(0, true, s.2.2.2 109 ((s.2.2.2 74 59) - 1)), (0, false, jA x1 65535)] (sM s (hy_u s.2.2.2 97 (jA x1 65535) x3))
    refine hY _ _ _ _ ?_
    refine And.intro h.2.2.1 ?_
    refine And.intro (fun hc => ?_) (fun hc => ?_)
    · have h := h.2.2.2.1 hc
      show Y 60 [(5, 0, false, jA x1 65535), (0, 5, true, 74), (1, 1, true, x1), (3, 1, true, x3)] [] (sM s (hy_u s.2.2.2 97 (jA x1 65535) x3))
      refine hY _ _ _ _ ?_
      exact hQ 0 (hy_u s.2.2.2 97 (jA x1 65535) x3) h
    · have h := h.2.2.2.2 hc
      refine hY _ _ _ _ (hY _ _ _ _ (hY _ _ _ _ (?_ : Y 44 [(5, 0, false, jA x1 65535), (0, 5, true, 74), (1, 1, true, x1), (3, 1, true, x3)] [(5, true, 74), (5, true, 98)] (sM s (hy_u s.2.2.2 97 (jA x1 65535) x3)))))
      refine hY _ _ _ _ (hY _ _ _ _ (?_ : Y 49 [(5, 0, false, jA x1 65535), (0, 5, true, 74), (1, 1, true, x1), (3, 1, true, x3)] [(0, false, jA x1 65535), (0, true, s.2.2.2 74 44), (5, true, 98)] (sM s (hy_u s.2.2.2 97 (jA x1 65535) x3))))
      refine hY _ _ _ _ ?_
      refine (And.intro h.1 (And.intro h.2.1 ?_))
      refine And.intro h.2.2.1 ?_
      refine hY _ _ _ _ (hY _ _ _ _ (hY _ _ _ _ (?_ : Y 55 [(5, 0, false, jA x1 65535), (0, 5, true, 74), (1, 1, true, x1), (3, 1, true, x3)] [(0, true, s.2.2.2 74 44), (5, true, 74)] (sM s (hy_u (hy_u s.2.2.2 97 (jA x1 65535) x3) 98 (s.2.2.2 74 44) (jA x1 65535))))))
      refine hY _ _ _ _ (hY _ _ _ _ (?_ : Y 57 [(5, 0, false, jA x1 65535), (0, 5, true, 74), (1, 1, true, x1), (3, 1, true, x3)] [(0, false, (s.2.2.2 74 44) + 1), (5, true, 74)] (sM s (hy_u (hy_u s.2.2.2 97 (jA x1 65535) x3) 98 (s.2.2.2 74 44) (jA x1 65535)))))
      refine hY _ _ _ _ ?_
      refine And.intro h.2.2.2.1 ?_
      show Y 60 [(5, 0, false, jA x1 65535), (0, 5, true, 74), (1, 1, true, x1), (3, 1, true, x3)] [] (sM s (hy_u (hy_u (hy_u s.2.2.2 97 (jA x1 65535) x3) 98 (s.2.2.2 74 44) (jA x1 65535)) 74 44 ((s.2.2.2 74 44) + 1)))
      refine hY _ _ _ _ ?_
      exact hQ 0 (hy_u (hy_u (hy_u s.2.2.2 97 (jA x1 65535) x3) 98 (s.2.2.2 74 44) (jA x1 65535)) 74 44 ((s.2.2.2 74 44) + 1)) h.2.2.2.2
def we_240 : sFf := sEf 6 [(0, 5, 74), (1, 1, 0), (3, 1, 0)] (fun xs s Q => ap2 (fun x1 x3 => wq_240 x1 x3 s.2.2.2 Q) xs)
theorem we_240_ok : kS dM 1 240 9 (.inl we_240) := sEf_ok (mi := im_m240) rfl rfl rfl (fun R xs s r1 hb => by obtain ⟨x1, x3, rfl, hb⟩ := ap2_ok hb; exact wk_240_0 _ R s x1 x3 (fun x m' hx => ⟨m', rfl, hx⟩) r1 hb)
/-- LMModel.placeIn(J)I -/
def wq_241_31 (x1 : Int) (m : hy_m) (Q : Int → hy_m → Prop) : Prop := ((0 : Int) = 0 → (Q (-9) m)) ∧ ((0 : Int) ≠ 0 → (wq_233 x1 m (fun r1 m1 => wq_232 x1 m1 (fun r2 m2 => 0 ≤ r2 ∧ r2 < 3584 ∧ (hy_r 0 (r1 + (m2 77 r2)) ∧ (Q (r1 + (m2 77 r2)) m2))))))
def wq_241 (x1 : Int) (m : hy_m) (Q : Int → hy_m → Prop) : Prop := wq_230 x1 m (fun r1 m1 => (r1 ≠ 0 → (wq_241_31 x1 m1 Q)) ∧ (r1 = 0 → (wq_231 x1 m1 (fun r2 m2 => (r2 ≠ 0 → (wq_241_31 x1 m2 Q)) ∧ (r2 = 0 → (wq_232 x1 m2 (fun r3 m3 => 0 ≤ r3 ∧ r3 < 3584 ∧ (((m3 76 r3) ≠ 1 → (wq_241_31 x1 m3 Q)) ∧ ((m3 76 r3) = 1 → (((1 : Int) = 0 → (Q (-9) m3)) ∧ ((1 : Int) ≠ 0 → (wq_233 x1 m3 (fun r4 m4 => wq_232 x1 m4 (fun r5 m5 => 0 ≤ r5 ∧ r5 < 3584 ∧ (hy_r 0 (r4 + (m5 77 r5)) ∧ (Q (r4 + (m5 77 r5)) m5))))))))))))))))
def cs_241 : List (Nat × Nat × sFS) := [(230, 2, .inl we_230), (231, 2, .inl we_231), (232, 0, .inl we_232), (233, 0, .inl we_233)]
theorem cs_241_ok : kCs dM 1 cs_241 := (kCs_c (Or.inr (Or.inr (Or.inl rfl))) (we_230_ok.deep (by decide)) (kCs_c (Or.inr (Or.inr (Or.inl rfl))) (we_231_ok.deep (by decide)) (kCs_c (Or.inl rfl) (we_232_ok.deep (by decide)) (kCs_c (Or.inl rfl) (we_233_ok.deep (by decide)) kCs_n))))
def lb_241_31 (s : sS) (Q : sQ) (R : Int → hy_m → Prop) (x1 : Int) : Nat → Option (sL → sS → Prop) := sLb []
set_option maxRecDepth 30000 in
set_option maxHeartbeats 1000000 in
theorem wk_241_31 (Q : sQ) (R : Int → hy_m → Prop) (s : sS) (x1 : Int) (hQ : ∀ x m', R x m' → Q x (sM s m')) (hr : sRg [(0, 5, 74), (1, 1, 0)] [x1]) (h : wq_241_31 x1 s.2.2.2 R) : kX dM 1 im_m241 0 31 (sCan [(0, 5, 74), (1, 1, 0)] [x1]) [] s Q := by
  unfold wq_241_31 at h
  refine wz2_ok (cs := cs_241) (wr := []) (lb := lb_241_31 s Q R x1) cs_241_ok kLb_n (okL_can rfl hr) (fun Y hY hl => ?_)
  refine hY _ _ _ _ (hY _ _ _ _ (hY _ _ _ _ (?_ : Y 34 [(3, 2, true, 0), (0, 5, true, 74), (1, 1, true, x1)] [(2, true, 0)] s)))
  refine hY _ _ _ _ ?_
  refine And.intro (fun hc => ?_) (fun hc => ?_)
  · have h := h.1 hc
    refine hY _ _ _ _ (?_ : Y 57 [(3, 2, true, 0), (0, 5, true, 74), (1, 1, true, x1)] [(0, true, (-9))] s)
    refine hY _ _ _ _ ?_
    exact hQ (-9) s.2.2.2 h
  · have h := h.2 hc
    refine hY _ _ _ _ (?_ : Y 38 [(3, 2, true, 0), (0, 5, true, 74), (1, 1, true, x1)] [(1, true, x1)] s)
    refine hY _ _ _ _ ?_
    refine Exists.intro _ (And.intro (wc_233_1t x1 _ _ h) (fun r1 m1 h => ?_))
    refine hY _ _ _ _ (hY _ _ _ _ (hY _ _ _ _ (?_ : Y 46 [(3, 2, true, 0), (0, 5, true, 74), (1, 1, true, x1)] [(1, true, x1), (5, true, 77), (0, true, r1)] (sM s m1))))
    refine hY _ _ _ _ ?_
    refine Exists.intro _ (And.intro (wc_232_1t x1 _ _ h) (fun r2 m2 h => ?_))
    show Y 49 [(3, 2, true, 0), (0, 5, true, 74), (1, 1, true, x1)] [(0, true, r2), (5, true, 77), (0, true, r1)] (sM s m2)
    refine hY _ _ _ _ ?_
    refine (And.intro h.1 (And.intro h.2.1 ?_))
    refine hY _ _ _ _ (hY _ _ _ _ (hY _ _ _ _ (?_ : Y 57 [(3, 2, true, 0), (0, 5, true, 74), (1, 1, true, x1)] [(0, false, r1 + (m2 77 r2))] (sM s m2))))
    refine hY _ _ _ _ ?_
    refine And.intro h.2.2.1 ?_
    exact hQ (r1 + (m2 77 r2)) m2 h.2.2.2
def lb_241_0 (s : sS) (Q : sQ) (R : Int → hy_m → Prop) (x1 : Int) : Nat → Option (sL → sS → Prop) := sLb [(31, fun lv t => sG [(0, 5, 74), (1, 1, 0)] lv (ap1 (fun w1 => ∃ m', t = sM s m' ∧ wq_241_31 w1 m' R)))]
set_option maxRecDepth 30000 in
set_option maxHeartbeats 1000000 in
theorem wk_241_0 (Q : sQ) (R : Int → hy_m → Prop) (s : sS) (x1 : Int) (hQ : ∀ x m', R x m' → Q x (sM s m')) (hr : sRg [(0, 5, 74), (1, 1, 0)] [x1]) (h : wq_241 x1 s.2.2.2 R) : kX dM 1 im_m241 0 0 (sCan [(0, 5, 74), (1, 1, 0)] [x1]) [] s Q := by
  unfold wq_241 at h
  refine wz2_ok (cs := cs_241) (wr := []) (lb := lb_241_0 s Q R x1) cs_241_ok (kLb_c (kLab (Bd := fun xs t => ap1 (fun w1 => ∃ m', t = sM s m' ∧ wq_241_31 w1 m' R) xs) rfl (fun xs t r1 r2 hb => by obtain ⟨w1, rfl, hb⟩ := ap1_ok hb; obtain ⟨m', rfl, hx⟩ := hb; exact wk_241_31 Q R (sM s m') _ (fun x m'' hy => hQ x m'' hy) r1 hx)) kLb_n) (okL_can rfl hr) (fun Y hY hl => ?_)
  have l31 := hl 31 _ rfl
  refine hY _ _ _ _ (?_ : Y 1 [(0, 5, true, 74), (1, 1, true, x1)] [(1, true, x1)] s)
  refine hY _ _ _ _ ?_
  refine Exists.intro _ (And.intro (wc_230_1t x1 _ _ h) (fun r1 m1 h => ?_))
  show Y 4 [(0, 5, true, 74), (1, 1, true, x1)] [(2, true, r1)] (sM s m1)
  refine hY _ _ _ _ ?_
  refine And.intro (fun hc => ?_) (fun hc => ?_)
  · have h := h.1 hc
    show Y 31 [(0, 5, true, 74), (1, 1, true, x1)] [] (sM s m1)
    refine l31 _ _ ?_
    exact (Exists.intro m1 (And.intro rfl h))
  · have h := h.2 hc
    refine hY _ _ _ _ (?_ : Y 8 [(0, 5, true, 74), (1, 1, true, x1)] [(1, true, x1)] (sM s m1))
    refine hY _ _ _ _ ?_
    refine Exists.intro _ (And.intro (wc_231_1t x1 _ _ h) (fun r2 m2 h => ?_))
    show Y 11 [(0, 5, true, 74), (1, 1, true, x1)] [(2, true, r2)] (sM s m2)
    refine hY _ _ _ _ ?_
    refine And.intro (fun hc => ?_) (fun hc => ?_)
    · have h := h.1 hc
      show Y 31 [(0, 5, true, 74), (1, 1, true, x1)] [] (sM s m2)
      refine l31 _ _ ?_
      exact (Exists.intro m2 (And.intro rfl h))
    · have h := h.2 hc
      refine hY _ _ _ _ (hY _ _ _ _ (hY _ _ _ _ (?_ : Y 19 [(0, 5, true, 74), (1, 1, true, x1)] [(1, true, x1), (5, true, 76)] (sM s m2))))
      refine hY _ _ _ _ ?_
      refine Exists.intro _ (And.intro (wc_232_1t x1 _ _ h) (fun r3 m3 h => ?_))
      show Y 22 [(0, 5, true, 74), (1, 1, true, x1)] [(0, true, r3), (5, true, 76)] (sM s m3)
      refine hY _ _ _ _ ?_
      refine (And.intro h.1 (And.intro h.2.1 ?_))
      refine hY _ _ _ _ (?_ : Y 24 [(0, 5, true, 74), (1, 1, true, x1)] [(2, true, 1), (0, true, m3 76 r3)] (sM s m3))
      refine hY _ _ _ _ ?_
      refine And.intro (fun hc => ?_) (fun hc => ?_)
      · have h := h.2.2.1 hc
        show Y 31 [(0, 5, true, 74), (1, 1, true, x1)] [] (sM s m3)
        refine l31 _ _ ?_
        exact (Exists.intro m3 (And.intro rfl h))
      · have h := h.2.2.2 hc
        refine hY _ _ _ _ (hY _ _ _ _ (hY _ _ _ _ (?_ : Y 33 [(3, 2, true, 1), (0, 5, true, 74), (1, 1, true, x1)] [] (sM s m3))))
        refine hY _ _ _ _ (?_ : Y 34 [(3, 2, true, 1), (0, 5, true, 74), (1, 1, true, x1)] [(2, true, 1)] (sM s m3))
        refine hY _ _ _ _ ?_
        refine And.intro (fun hc => ?_) (fun hc => ?_)
        · have h := h.1 hc
          refine hY _ _ _ _ (?_ : Y 57 [(3, 2, true, 1), (0, 5, true, 74), (1, 1, true, x1)] [(0, true, (-9))] (sM s m3))
          refine hY _ _ _ _ ?_
          exact hQ (-9) m3 h
        · have h := h.2 hc
          refine hY _ _ _ _ (?_ : Y 38 [(3, 2, true, 1), (0, 5, true, 74), (1, 1, true, x1)] [(1, true, x1)] (sM s m3))
          refine hY _ _ _ _ ?_
          refine Exists.intro _ (And.intro (wc_233_1t x1 _ _ h) (fun r4 m4 h => ?_))
          refine hY _ _ _ _ (hY _ _ _ _ (hY _ _ _ _ (?_ : Y 46 [(3, 2, true, 1), (0, 5, true, 74), (1, 1, true, x1)] [(1, true, x1), (5, true, 77), (0, true, r4)] (sM s m4))))
          refine hY _ _ _ _ ?_
          refine Exists.intro _ (And.intro (wc_232_1t x1 _ _ h) (fun r5 m5 h => ?_))
          show Y 49 [(3, 2, true, 1), (0, 5, true, 74), (1, 1, true, x1)] [(0, true, r5), (5, true, 77), (0, true, r4)] (sM s m5)
          refine hY _ _ _ _ ?_
          refine (And.intro h.1 (And.intro h.2.1 ?_))
          refine hY _ _ _ _ (hY _ _ _ _ (hY _ _ _ _ (?_ : Y 57 [(3, 2, true, 1), (0, 5, true, 74), (1, 1, true, x1)] [(0, false, r4 + (m5 77 r5))] (sM s m5))))
          refine hY _ _ _ _ ?_
          refine And.intro h.2.2.1 ?_
          exact hQ (r4 + (m5 77 r5)) m5 h.2.2.2
def we_241 : sFf := sEf 4 [(0, 5, 74), (1, 1, 0)] (fun xs s Q => ap1 (fun x1 => wq_241 x1 s.2.2.2 Q) xs)
theorem we_241_ok : kS dM 2 241 0 (.inl we_241) := sEf_ok (mi := im_m241) rfl rfl rfl (fun R xs s r1 hb => by obtain ⟨x1, rfl, hb⟩ := ap1_ok hb; exact wk_241_0 _ R s x1 (fun x m' hx => ⟨m', rfl, hx⟩) r1 hb)
/-- LMModel.isLooked(I)Z -/
def wq_242 (x1 : Int) (m : hy_m) (Q : Int → hy_m → Prop) : Prop := (x1 ≠ (-9) → (0 ≤ x1 ∧ x1 < 2500 ∧ (((m 113 x1) ≠ (m 74 64) → (0 ≤ x1 ∧ x1 < 2500 ∧ (Q 0 (hy_u m 113 x1 (m 74 64))))) ∧ ((m 113 x1) = (m 74 64) → (0 ≤ x1 ∧ x1 < 2500 ∧ (Q 1 (hy_u m 113 x1 (m 74 64)))))))) ∧ (x1 = (-9) → (Q 0 m))
def cs_242 : List (Nat × Nat × sFS) := []
theorem cs_242_ok : kCs dM 0 cs_242 := kCs_n
def lb_242_0 (s : sS) (Q : sQ) (R : Int → hy_m → Prop) (x1 : Int) : Nat → Option (sL → sS → Prop) := sLb []
set_option maxRecDepth 30000 in
set_option maxHeartbeats 1000000 in
theorem wk_242_0 (Q : sQ) (R : Int → hy_m → Prop) (s : sS) (x1 : Int) (hQ : ∀ x m', R x m' → Q x (sM s m')) (hr : sRg [(0, 5, 74), (1, 0, 0)] [x1]) (h : wq_242 x1 s.2.2.2 R) : kX dM 0 im_m242 2 0 (sCan [(0, 5, 74), (1, 0, 0)] [x1]) [] s Q := by
  unfold wq_242 at h
  refine wz2_ok (cs := cs_242) (wr := []) (lb := lb_242_0 s Q R x1) cs_242_ok kLb_n (okL_can rfl hr) (fun Y hY hl => ?_)
  refine hY _ _ _ _ (hY _ _ _ _ (?_ : Y 3 [(0, 5, true, 74), (1, 0, true, x1)] [(0, true, (-9)), (0, true, x1)] s))
  refine hY _ _ _ _ ?_
  refine And.intro (fun hc => ?_) (fun hc => ?_)
  · have h := h.1 hc
    refine hY _ _ _ _ (hY _ _ _ _ (hY _ _ _ _ (?_ : Y 13 [(0, 5, true, 74), (1, 0, true, x1)] [(0, true, x1), (5, true, 113)] s)))
    refine hY _ _ _ _ ?_
    refine (And.intro h.1 (And.intro h.2.1 ?_))
    refine hY _ _ _ _ (hY _ _ _ _ (?_ : Y 18 [(0, 5, true, 74), (1, 0, true, x1)] [(0, true, s.2.2.2 74 64), (0, true, s.2.2.2 113 x1)] s))
    refine hY _ _ _ _ ?_
    refine And.intro (fun hc => ?_) (fun hc => ?_)
    · have h := h.2.2.1 hc
      refine hY _ _ _ _ (hY _ _ _ _ (hY _ _ _ _ (?_ : Y 28 [(2, 2, true, 0), (0, 5, true, 74), (1, 0, true, x1)] [(5, true, 74)] s)))
      refine hY _ _ _ _ (hY _ _ _ _ (hY _ _ _ _ (?_ : Y 33 [(2, 2, true, 0), (0, 5, true, 74), (1, 0, true, x1)] [(5, true, 74), (0, true, x1), (5, true, 113)] s)))
      refine hY _ _ _ _ (?_ : Y 36 [(2, 2, true, 0), (0, 5, true, 74), (1, 0, true, x1)] [(0, true, s.2.2.2 74 64), (0, true, x1), (5, true, 113)] s)
      refine hY _ _ _ _ ?_
      refine (And.intro h.1 (And.intro h.2.1 ?_))
      refine hY _ _ _ _ (?_ : Y 38 [(2, 2, true, 0), (0, 5, true, 74), (1, 0, true, x1)] [(2, true, 0)] (sM s (hy_u s.2.2.2 113 x1 (s.2.2.2 74 64))))
      refine hY _ _ _ _ ?_
      exact hQ 0 (hy_u s.2.2.2 113 x1 (s.2.2.2 74 64)) h.2.2
    · have h := h.2.2.2 hc
      refine hY _ _ _ _ (hY _ _ _ _ (hY _ _ _ _ (?_ : Y 27 [(2, 2, true, 1), (0, 5, true, 74), (1, 0, true, x1)] [] s)))
      refine hY _ _ _ _ (hY _ _ _ _ (hY _ _ _ _ (?_ : Y 32 [(2, 2, true, 1), (0, 5, true, 74), (1, 0, true, x1)] [(0, true, x1), (5, true, 113)] s)))
      refine hY _ _ _ _ (hY _ _ _ _ (?_ : Y 36 [(2, 2, true, 1), (0, 5, true, 74), (1, 0, true, x1)] [(0, true, s.2.2.2 74 64), (0, true, x1), (5, true, 113)] s))
      refine hY _ _ _ _ ?_
      refine (And.intro h.1 (And.intro h.2.1 ?_))
      refine hY _ _ _ _ (?_ : Y 38 [(2, 2, true, 1), (0, 5, true, 74), (1, 0, true, x1)] [(2, true, 1)] (sM s (hy_u s.2.2.2 113 x1 (s.2.2.2 74 64))))
      refine hY _ _ _ _ ?_
      exact hQ 1 (hy_u s.2.2.2 113 x1 (s.2.2.2 74 64)) h.2.2
  · have h := h.2 hc
    refine hY _ _ _ _ (?_ : Y 7 [(0, 5, true, 74), (1, 0, true, x1)] [(2, true, 0)] s)
    refine hY _ _ _ _ ?_
    exact hQ 0 s.2.2.2 h
def we_242 : sFf := sEf 3 [(0, 5, 74), (1, 0, 0)] (fun xs s Q => ap1 (fun x1 => wq_242 x1 s.2.2.2 Q) xs)
theorem we_242_ok : kS dM 1 242 2 (.inl we_242) := sEf_ok (mi := im_m242) rfl rfl rfl (fun R xs s r1 hb => by obtain ⟨x1, rfl, hb⟩ := ap1_ok hb; exact wk_242_0 _ R s x1 (fun x m' hx => ⟨m', rfl, hx⟩) r1 hb)
/-- LMModel.occurs(JJ)Z -/
def wf_243_84 (P20 : Int → hy_m → Prop) (x1 : Int) (x6 : Int) (Q : Int → hy_m → Prop) (P84 : Int → Int → hy_m → Prop) (x5 : Int) (x8 : Int) (m : hy_m) : Prop := wq_232 x6 m (fun r1 m1 => 0 ≤ r1 ∧ r1 < 3584 ∧ (((m1 78 r1) ≤ x8 → (P20 x5 m1)) ∧ (x8 < (m1 78 r1) → (wq_236 x6 x8 m1 (fun r2 m2 => 0 ≤ x5 ∧ x5 < 30000 ∧ (hy_r 0 (x5 + 1) ∧ (hy_r 0 (x8 + 1) ∧ (P84 (x5 + 1) (x8 + 1) (hy_u m2 112 x5 r2)))))))))
def wq_243_84 (P20 : Int → hy_m → Prop) (x1 : Int) (x5 : Int) (x6 : Int) (x8 : Int) (m : hy_m) (Q : Int → hy_m → Prop) : Prop := wL2 hy_m (wf_243_84 P20 x1 x6 Q) x5 x8 m
def wf_243_20 (x1 : Int) (Q : Int → hy_m → Prop) (P20 : Int → hy_m → Prop) (x5 : Int) (m : hy_m) : Prop := (x5 ≤ 0 → (Q 0 m)) ∧ (0 < x5 → (0 ≤ (x5 + (-1)) ∧ (x5 + (-1)) < 30000 ∧ (wq_241 (m 112 (x5 + (-1))) m (fun r1 m1 => wq_242 r1 m1 (fun r2 m2 => (r2 = 0 → (0 ≤ (x5 + (-1)) ∧ (x5 + (-1)) < 30000 ∧ (wq_237 (m2 112 (x5 + (-1))) m2 (fun r3 m3 => (r3 ≠ x1 → (wq_238 r3 m3 (fun r4 m4 => (r4 ≠ 4 → (hy_r 0 (x5 + (-1)) ∧ (P20 (x5 + (-1)) m4))) ∧ (r4 = 4 → (hy_r 0 (x5 + (-1)) ∧ (wq_243_84 P20 x1 (x5 + (-1)) r3 0 m4 Q)))))) ∧ (r3 = x1 → (Q 1 m3)))))) ∧ (r2 ≠ 0 → (hy_r 0 (x5 + (-1)) ∧ (P20 (x5 + (-1)) m2))))))))
def wq_243_20 (x1 : Int) (x5 : Int) (m : hy_m) (Q : Int → hy_m → Prop) : Prop := wL1 hy_m (wf_243_20 x1 Q) x5 m
def wq_243 (x1 : Int) (x3 : Int) (m : hy_m) (Q : Int → hy_m → Prop) : Prop := 0 ≤ (0 : Int) ∧ (0 : Int) < 30000 ∧ (wq_243_20 x1 1 (hy_u (hy_u m 112 0 x3) 74 64 (iW ((m 74 64) + 1))) Q)
theorem wc_236_r74_1t_0t (x1 : Int) (x2 : Int) (s : sS) (R : Int → hy_m → Prop) (h : wq_236 x1 x2 s.2.2.2 R) : we_236 [(5, true, 74), (1, true, x1), (0, true, x2)] s R := h
theorem wc_241_r74_1t (x1 : Int) (s : sS) (R : Int → hy_m → Prop) (h : wq_241 x1 s.2.2.2 R) : we_241 [(5, true, 74), (1, true, x1)] s R := h
theorem wc_242_r74_0t (x1 : Int) (s : sS) (R : Int → hy_m → Prop) (h : wq_242 x1 s.2.2.2 R) : we_242 [(5, true, 74), (0, true, x1)] s R := h
theorem wc_237_r74_1t (x1 : Int) (s : sS) (R : Int → hy_m → Prop) (h : wq_237 x1 s.2.2.2 R) : we_237 [(5, true, 74), (1, true, x1)] s R := h
theorem wc_238_r74_1t (x1 : Int) (s : sS) (R : Int → hy_m → Prop) (h : wq_238 x1 s.2.2.2 R) : we_238 [(5, true, 74), (1, true, x1)] s R := h
def cs_243 : List (Nat × Nat × sFS) := [(232, 0, .inl we_232), (236, 1, .inl we_236), (237, 1, .inl we_237), (238, 0, .inl we_238), (241, 0, .inl we_241), (242, 2, .inl we_242)]
theorem cs_243_ok : kCs dM 2 cs_243 := (kCs_c (Or.inl rfl) (we_232_ok.deep (by decide)) (kCs_c (Or.inr (Or.inl rfl)) (we_236_ok.deep (by decide)) (kCs_c (Or.inr (Or.inl rfl)) (we_237_ok.deep (by decide)) (kCs_c (Or.inl rfl) (we_238_ok.deep (by decide)) (kCs_c (Or.inl rfl) (we_241_ok.deep (by decide)) (kCs_c (Or.inr (Or.inr (Or.inl rfl))) (we_242_ok.deep (by decide)) kCs_n))))))
def lb_243_84 (s : sS) (Q : sQ) (P20 : Int → hy_m → Prop) (P84 : Int → Int → hy_m → Prop) (R : Int → hy_m → Prop) (x1 : Int) (x5 : Int) (x6 : Int) (x8 : Int) : Nat → Option (sL → sS → Prop) := sLb [(20, fun lv t => sG [(0, 5, 74), (1, 1, 0), (5, 0, 0)] lv (ap2 (fun w1 w5 => ∃ m', t = sM s m' ∧ w1 = x1 ∧ P20 w5 m'))), (84, fun lv t => sG [(0, 5, 74), (1, 1, 0), (5, 0, 0), (6, 1, 0), (8, 0, 0)] lv (ap4 (fun w1 w5 w6 w8 => ∃ m', t = sM s m' ∧ w1 = x1 ∧ w6 = x6 ∧ P84 w5 w8 m')))]
set_option maxRecDepth 30000 in
set_option maxHeartbeats 1000000 in
theorem wj_243_84 (Q : sQ) (R : Int → hy_m → Prop) (s : sS) (P20 : Int → hy_m → Prop) (P84 : Int → Int → hy_m → Prop) (x1 : Int) (x5 : Int) (x6 : Int) (x8 : Int) (m : hy_m) (hP20 : ∀ (z5 : Int) (m : hy_m), P20 z5 m → sRg [(0, 5, 74), (1, 1, 0), (5, 0, 0)] [x1, z5] → kX dM 2 im_m243 2 20 (sCan [(0, 5, 74), (1, 1, 0), (5, 0, 0)] [x1, z5]) [] (sM s m) Q) (hP84 : ∀ (z5 z8 : Int) (m : hy_m), P84 z5 z8 m → sRg [(0, 5, 74), (1, 1, 0), (5, 0, 0), (6, 1, 0), (8, 0, 0)] [x1, z5, x6, z8] → kX dM 2 im_m243 2 84 (sCan [(0, 5, 74), (1, 1, 0), (5, 0, 0), (6, 1, 0), (8, 0, 0)] [x1, z5, x6, z8]) [] (sM s m) Q) (hQ : ∀ x m', R x m' → Q x (sM s m')) (hr : sRg [(0, 5, 74), (1, 1, 0), (5, 0, 0), (6, 1, 0), (8, 0, 0)] [x1, x5, x6, x8]) (h : wf_243_84 P20 x1 x6 R P84 x5 x8 m) : kX dM 2 im_m243 2 84 (sCan [(0, 5, 74), (1, 1, 0), (5, 0, 0), (6, 1, 0), (8, 0, 0)] [x1, x5, x6, x8]) [] (sM s m) Q := by
  unfold wf_243_84 at h
  refine wz2_ok (cs := cs_243) (wr := [16]) (lb := lb_243_84 s Q P20 P84 R x1 x5 x6 x8) cs_243_ok (kLb_c (kLab (Bd := fun xs t => ap2 (fun w1 w5 => ∃ m', t = sM s m' ∧ w1 = x1 ∧ P20 w5 m') xs) rfl (fun xs t r1 r2 hb => by obtain ⟨w1, w5, rfl, hb⟩ := ap2_ok hb; obtain ⟨m', rfl, rfl, hx⟩ := hb; exact hP20 _ m' hx r1)) (kLb_c (kLab (Bd := fun xs t => ap4 (fun w1 w5 w6 w8 => ∃ m', t = sM s m' ∧ w1 = x1 ∧ w6 = x6 ∧ P84 w5 w8 m') xs) rfl (fun xs t r1 r2 hb => by obtain ⟨w1, w5, w6, w8, rfl, hb⟩ := ap4_ok hb; obtain ⟨m', rfl, rfl, rfl, hx⟩ := hb; exact hP84 _ _ m' hx r1)) kLb_n)) (okL_can rfl hr) (fun Y hY hl => ?_)
  have l20 := hl 20 _ rfl
  have l84 := hl 84 _ rfl
  refine hY _ _ _ _ (hY _ _ _ _ (hY _ _ _ _ (?_ : Y 90 [(0, 5, true, 74), (1, 1, true, x1), (5, 0, true, x5), (6, 1, true, x6), (8, 0, true, x8)] [(5, true, 78), (0, true, x8)] (sM s m))))
  refine hY _ _ _ _ (?_ : Y 92 [(0, 5, true, 74), (1, 1, true, x1), (5, 0, true, x5), (6, 1, true, x6), (8, 0, true, x8)] [(1, true, x6), (5, true, 78), (0, true, x8)] (sM s m))
  refine hY _ _ _ _ ?_
  refine Exists.intro _ (And.intro (wc_232_1t x6 _ _ h) (fun r1 m1 h => ?_))
  show Y 95 [(0, 5, true, 74), (1, 1, true, x1), (5, 0, true, x5), (6, 1, true, x6), (8, 0, true, x8)] [(0, true, r1), (5, true, 78), (0, true, x8)] (sM s m1)
  refine hY _ _ _ _ ?_
  refine (And.intro h.1 (And.intro h.2.1 ?_))
  show Y 96 [(0, 5, true, 74), (1, 1, true, x1), (5, 0, true, x5), (6, 1, true, x6), (8, 0, true, x8)] [(0, true, m1 78 r1), (0, true, x8)] (sM s m1)
  refine hY _ _ _ _ ?_
  refine And.intro (fun hc => ?_) (fun hc => ?_)
  · have h := h.2.2.1 hc
    refine hY _ _ _ _ (?_ : Y 20 [(0, 5, true, 74), (1, 1, true, x1), (5, 0, true, x5), (6, 1, true, x6), (8, 0, true, x8)] [] (sM s m1))
    refine l20 _ _ ?_
    exact (Exists.intro m1 (And.intro rfl (And.intro rfl h)))
  · have h := h.2.2.2 hc
    refine hY _ _ _ _ (hY _ _ _ _ (hY _ _ _ _ (?_ : Y 105 [(0, 5, true, 74), (1, 1, true, x1), (5, 0, true, x5), (6, 1, true, x6), (8, 0, true, x8)] [(0, true, x5), (5, true, 112)] (sM s m1))))
    refine hY _ _ _ _ (hY _ _ _ _ (hY _ _ _ _ (?_ : Y 110 [(0, 5, true, 74), (1, 1, true, x1), (5, 0, true, x5), (6, 1, true, x6), (8, 0, true, x8)] [(0, true, x8), (1, true, x6), (5, true, 74), (0, true, x5), (5, true, 112)] (sM s m1))))
    refine hY _ _ _ _ ?_
    refine Exists.intro _ (And.intro (wc_236_r74_1t_0t x6 x8 _ _ h) (fun r2 m2 h => ?_))
    show Y 113 [(0, 5, true, 74), (1, 1, true, x1), (5, 0, true, x5), (6, 1, true, x6), (8, 0, true, x8)] [(1, true, r2), (0, true, x5), (5, true, 112)] (sM s m2)
    refine hY _ _ _ _ ?_
    refine (And.intro h.1 (And.intro h.2.1 ?_))
    refine hY _ _ _ _ (hY _ _ _ _ (hY _ _ _ _ (?_ : Y 84 [(8, 0, false, x8 + 1), (5, 0, false, x5 + 1), (0, 5, true, 74), (1, 1, true, x1), (6, 1, true, x6)] [] (sM s (hy_u m2 112 x5 r2)))))
    refine l84 _ _ ?_
    refine And.intro h.2.2.1 ?_
    refine And.intro h.2.2.2.1 ?_
    exact (Exists.intro (hy_u m2 112 x5 r2) (And.intro rfl (And.intro rfl (And.intro rfl h.2.2.2.2))))
theorem wk_243_84 (Q : sQ) (R : Int → hy_m → Prop) (s : sS) (P20 : Int → hy_m → Prop) (x1 : Int) (x5 : Int) (x6 : Int) (x8 : Int) (hP20 : ∀ (z5 : Int) (m : hy_m), P20 z5 m → sRg [(0, 5, 74), (1, 1, 0), (5, 0, 0)] [x1, z5] → kX dM 2 im_m243 2 20 (sCan [(0, 5, 74), (1, 1, 0), (5, 0, 0)] [x1, z5]) [] (sM s m) Q) (hQ : ∀ x m', R x m' → Q x (sM s m')) (hr : sRg [(0, 5, 74), (1, 1, 0), (5, 0, 0), (6, 1, 0), (8, 0, 0)] [x1, x5, x6, x8]) (h : wq_243_84 P20 x1 x5 x6 x8 s.2.2.2 R) : kX dM 2 im_m243 2 84 (sCan [(0, 5, 74), (1, 1, 0), (5, 0, 0), (6, 1, 0), (8, 0, 0)] [x1, x5, x6, x8]) [] s Q :=
  h (fun x5 x8 m => sRg [(0, 5, 74), (1, 1, 0), (5, 0, 0), (6, 1, 0), (8, 0, 0)] [x1, x5, x6, x8] → kX dM 2 im_m243 2 84 (sCan [(0, 5, 74), (1, 1, 0), (5, 0, 0), (6, 1, 0), (8, 0, 0)] [x1, x5, x6, x8]) [] (sM s m) Q) (fun x5 x8 m h hr => wj_243_84 Q R s P20 (fun x5 x8 m => sRg [(0, 5, 74), (1, 1, 0), (5, 0, 0), (6, 1, 0), (8, 0, 0)] [x1, x5, x6, x8] → kX dM 2 im_m243 2 84 (sCan [(0, 5, 74), (1, 1, 0), (5, 0, 0), (6, 1, 0), (8, 0, 0)] [x1, x5, x6, x8]) [] (sM s m) Q) x1 x5 x6 x8 m  hP20 (fun _ _ _ hp hr => hp hr) hQ hr h) hr
def lb_243_20 (s : sS) (Q : sQ) (P20 : Int → hy_m → Prop) (R : Int → hy_m → Prop) (x1 : Int) (x5 : Int) : Nat → Option (sL → sS → Prop) := sLb [(84, fun lv t => sG [(0, 5, 74), (1, 1, 0), (5, 0, 0), (6, 1, 0), (8, 0, 0)] lv (ap4 (fun w1 w5 w6 w8 => ∃ m', t = sM s m' ∧ w1 = x1 ∧ wq_243_84 P20 w1 w5 w6 w8 m' R))), (20, fun lv t => sG [(0, 5, 74), (1, 1, 0), (5, 0, 0)] lv (ap2 (fun w1 w5 => ∃ m', t = sM s m' ∧ w1 = x1 ∧ P20 w5 m')))]
set_option maxRecDepth 30000 in
set_option maxHeartbeats 1000000 in
theorem wj_243_20 (Q : sQ) (R : Int → hy_m → Prop) (s : sS) (P20 : Int → hy_m → Prop) (x1 : Int) (x5 : Int) (m : hy_m) (hP20 : ∀ (z5 : Int) (m : hy_m), P20 z5 m → sRg [(0, 5, 74), (1, 1, 0), (5, 0, 0)] [x1, z5] → kX dM 2 im_m243 2 20 (sCan [(0, 5, 74), (1, 1, 0), (5, 0, 0)] [x1, z5]) [] (sM s m) Q) (hQ : ∀ x m', R x m' → Q x (sM s m')) (hr : sRg [(0, 5, 74), (1, 1, 0), (5, 0, 0)] [x1, x5]) (h : wf_243_20 x1 R P20 x5 m) : kX dM 2 im_m243 2 20 (sCan [(0, 5, 74), (1, 1, 0), (5, 0, 0)] [x1, x5]) [] (sM s m) Q := by
  unfold wf_243_20 at h
  refine wz2_ok (cs := cs_243) (wr := [16]) (lb := lb_243_20 s Q P20 R x1 x5) cs_243_ok (kLb_c (kLab (Bd := fun xs t => ap4 (fun w1 w5 w6 w8 => ∃ m', t = sM s m' ∧ w1 = x1 ∧ wq_243_84 P20 w1 w5 w6 w8 m' R) xs) rfl (fun xs t r1 r2 hb => by obtain ⟨w1, w5, w6, w8, rfl, hb⟩ := ap4_ok hb; obtain ⟨m', rfl, rfl, hx⟩ := hb; exact wk_243_84 Q R (sM s m') P20 _ _ _ _ hP20 (fun x m'' hy => hQ x m'' hy) r1 hx)) (kLb_c (kLab (Bd := fun xs t => ap2 (fun w1 w5 => ∃ m', t = sM s m' ∧ w1 = x1 ∧ P20 w5 m') xs) rfl (fun xs t r1 r2 hb => by obtain ⟨w1, w5, rfl, hb⟩ := ap2_ok hb; obtain ⟨m', rfl, rfl, hx⟩ := hb; exact hP20 _ m' hx r1)) kLb_n)) (okL_can rfl hr) (fun Y hY hl => ?_)
  have l84 := hl 84 _ rfl
  have l20 := hl 20 _ rfl
  refine hY _ _ _ _ (?_ : Y 22 [(0, 5, true, 74), (1, 1, true, x1), (5, 0, true, x5)] [(0, true, x5)] (sM s m))
  refine hY _ _ _ _ ?_
  refine And.intro (fun hc => ?_) (fun hc => ?_)
  · have h := h.1 hc
    refine hY _ _ _ _ (?_ : Y 127 [(0, 5, true, 74), (1, 1, true, x1), (5, 0, true, x5)] [(2, true, 0)] (sM s m))
    refine hY _ _ _ _ ?_
    exact hQ 0 m h
  · have h := h.2 hc
    refine hY _ _ _ _ (hY _ _ _ _ (hY _ _ _ _ (?_ : Y 30 [(5, 0, false, x5 + (-1)), (0, 5, true, 74), (1, 1, true, x1)] [(5, true, 74), (5, true, 74)] (sM s m))))
    refine hY _ _ _ _ (hY _ _ _ _ (hY _ _ _ _ (?_ : Y 36 [(5, 0, false, x5 + (-1)), (0, 5, true, 74), (1, 1, true, x1)] [(0, false, x5 + (-1)), (5, true, 112), (5, true, 74), (5, true, 74)] (sM s m))))
    refine hY _ _ _ _ ?_
    refine (And.intro h.1 (And.intro h.2.1 ?_))
    show Y 37 [(5, 0, false, x5 + (-1)), (0, 5, true, 74), (1, 1, true, x1)] [(1, true, m 112 (x5 + (-1))), (5, true, 74), (5, true, 74)] (sM s m)
    refine hY _ _ _ _ ?_
    refine Exists.intro _ (And.intro (wc_241_r74_1t (m 112 (x5 + (-1))) _ _ h.2.2) (fun r1 m1 h => ?_))
    show Y 40 [(5, 0, false, x5 + (-1)), (0, 5, true, 74), (1, 1, true, x1)] [(0, true, r1), (5, true, 74)] (sM s m1)
    refine hY _ _ _ _ ?_
    refine Exists.intro _ (And.intro (wc_242_r74_0t r1 _ _ h) (fun r2 m2 h => ?_))
    show Y 43 [(5, 0, false, x5 + (-1)), (0, 5, true, 74), (1, 1, true, x1)] [(2, true, r2)] (sM s m2)
    refine hY _ _ _ _ ?_
    refine And.intro (fun hc => ?_) (fun hc => ?_)
    · have h := h.1 hc
      refine hY _ _ _ _ (hY _ _ _ _ (hY _ _ _ _ (?_ : Y 54 [(5, 0, false, x5 + (-1)), (0, 5, true, 74), (1, 1, true, x1)] [(5, true, 112), (5, true, 74)] (sM s m2))))
      refine hY _ _ _ _ (?_ : Y 56 [(5, 0, false, x5 + (-1)), (0, 5, true, 74), (1, 1, true, x1)] [(0, false, x5 + (-1)), (5, true, 112), (5, true, 74)] (sM s m2))
      refine hY _ _ _ _ ?_
      refine (And.intro h.1 (And.intro h.2.1 ?_))
      show Y 57 [(5, 0, false, x5 + (-1)), (0, 5, true, 74), (1, 1, true, x1)] [(1, true, m2 112 (x5 + (-1))), (5, true, 74)] (sM s m2)
      refine hY _ _ _ _ ?_
      refine Exists.intro _ (And.intro (wc_237_r74_1t (m2 112 (x5 + (-1))) _ _ h.2.2) (fun r3 m3 h => ?_))
      refine hY _ _ _ _ (hY _ _ _ _ (hY _ _ _ _ (?_ : Y 65 [(6, 1, true, r3), (5, 0, false, x5 + (-1)), (0, 5, true, 74), (1, 1, true, x1)] [(1, true, x1), (1, true, r3)] (sM s m3))))
      refine hY _ _ _ _ ?_
      refine And.intro (fun hc => ?_) (fun hc => ?_)
      · have h := h.1 hc
        refine hY _ _ _ _ (hY _ _ _ _ (?_ : Y 74 [(6, 1, true, r3), (5, 0, false, x5 + (-1)), (0, 5, true, 74), (1, 1, true, x1)] [(1, true, r3), (5, true, 74)] (sM s m3)))
        refine hY _ _ _ _ ?_
        refine Exists.intro _ (And.intro (wc_238_r74_1t r3 _ _ h) (fun r4 m4 h => ?_))
        refine hY _ _ _ _ (?_ : Y 78 [(6, 1, true, r3), (5, 0, false, x5 + (-1)), (0, 5, true, 74), (1, 1, true, x1)] [(0, true, 4), (0, true, r4)] (sM s m4))
        refine hY _ _ _ _ ?_
        refine And.intro (fun hc => ?_) (fun hc => ?_)
        · have h := h.1 hc
          refine hY _ _ _ _ (?_ : Y 20 [(6, 1, true, r3), (5, 0, false, x5 + (-1)), (0, 5, true, 74), (1, 1, true, x1)] [] (sM s m4))
          refine l20 _ _ ?_
          refine And.intro h.1 ?_
          exact (Exists.intro m4 (And.intro rfl (And.intro rfl h.2)))
        · have h := h.2 hc
          refine hY _ _ _ _ (hY _ _ _ _ (?_ : Y 84 [(8, 2, true, 0), (6, 1, true, r3), (5, 0, false, x5 + (-1)), (0, 5, true, 74), (1, 1, true, x1)] [] (sM s m4)))
          refine l84 _ _ ?_
          refine And.intro h.1 ?_
          exact (Exists.intro m4 (And.intro rfl (And.intro rfl h.2)))
      · have h := h.2 hc
        refine hY _ _ _ _ (?_ : Y 70 [(6, 1, true, r3), (5, 0, false, x5 + (-1)), (0, 5, true, 74), (1, 1, true, x1)] [(2, true, 1)] (sM s m3))
        refine hY _ _ _ _ ?_
        exact hQ 1 m3 h
    · have h := h.2 hc
      refine hY _ _ _ _ (?_ : Y 20 [(5, 0, false, x5 + (-1)), (0, 5, true, 74), (1, 1, true, x1)] [] (sM s m2))
      refine l20 _ _ ?_
      refine And.intro h.1 ?_
      exact (Exists.intro m2 (And.intro rfl (And.intro rfl h.2)))
theorem wk_243_20 (Q : sQ) (R : Int → hy_m → Prop) (s : sS) (x1 : Int) (x5 : Int) (hQ : ∀ x m', R x m' → Q x (sM s m')) (hr : sRg [(0, 5, 74), (1, 1, 0), (5, 0, 0)] [x1, x5]) (h : wq_243_20 x1 x5 s.2.2.2 R) : kX dM 2 im_m243 2 20 (sCan [(0, 5, 74), (1, 1, 0), (5, 0, 0)] [x1, x5]) [] s Q :=
  h (fun x5 m => sRg [(0, 5, 74), (1, 1, 0), (5, 0, 0)] [x1, x5] → kX dM 2 im_m243 2 20 (sCan [(0, 5, 74), (1, 1, 0), (5, 0, 0)] [x1, x5]) [] (sM s m) Q) (fun x5 m h hr => wj_243_20 Q R s (fun x5 m => sRg [(0, 5, 74), (1, 1, 0), (5, 0, 0)] [x1, x5] → kX dM 2 im_m243 2 20 (sCan [(0, 5, 74), (1, 1, 0), (5, 0, 0)] [x1, x5]) [] (sM s m) Q) x1 x5 m  (fun _ _ hp hr => hp hr) hQ hr h) hr
def lb_243_0 (s : sS) (Q : sQ) (R : Int → hy_m → Prop) (x1 : Int) (x3 : Int) : Nat → Option (sL → sS → Prop) := sLb [(20, fun lv t => sG [(0, 5, 74), (1, 1, 0), (5, 0, 0)] lv (ap2 (fun w1 w5 => ∃ m', t = sM s m' ∧ wq_243_20 w1 w5 m' R)))]
set_option maxRecDepth 30000 in
set_option maxHeartbeats 1000000 in
theorem wk_243_0 (Q : sQ) (R : Int → hy_m → Prop) (s : sS) (x1 : Int) (x3 : Int) (hQ : ∀ x m', R x m' → Q x (sM s m')) (hr : sRg [(0, 5, 74), (1, 1, 0), (3, 1, 0)] [x1, x3]) (h : wq_243 x1 x3 s.2.2.2 R) : kX dM 2 im_m243 2 0 (sCan [(0, 5, 74), (1, 1, 0), (3, 1, 0)] [x1, x3]) [] s Q := by
  unfold wq_243 at h
  refine wz2_ok (cs := cs_243) (wr := [16]) (lb := lb_243_0 s Q R x1 x3) cs_243_ok (kLb_c (kLab (Bd := fun xs t => ap2 (fun w1 w5 => ∃ m', t = sM s m' ∧ wq_243_20 w1 w5 m' R) xs) rfl (fun xs t r1 r2 hb => by obtain ⟨w1, w5, rfl, hb⟩ := ap2_ok hb; obtain ⟨m', rfl, hx⟩ := hb; exact wk_243_20 Q R (sM s m') _ _ (fun x m'' hy => hQ x m'' hy) r1 hx)) kLb_n) (okL_can rfl hr) (fun Y hY hl => ?_)
  have l20 := hl 20 _ rfl
  refine hY _ _ _ _ (hY _ _ _ _ (hY _ _ _ _ (?_ : Y 4 [(5, 2, true, 1), (0, 5, true, 74), (1, 1, true, x1), (3, 1, true, x3)] [(5, true, 74)] s)))
  refine hY _ _ _ _ (hY _ _ _ _ (hY _ _ _ _ (?_ : Y 9 [(5, 2, true, 1), (0, 5, true, 74), (1, 1, true, x1), (3, 1, true, x3)] [(1, true, x3), (2, true, 0), (5, true, 112)] s)))
  refine hY _ _ _ _ ?_
  refine (And.intro h.1 (And.intro h.2.1 ?_))
  refine hY _ _ _ _ (hY _ _ _ _ (hY _ _ _ _ (?_ : Y 15 [(5, 2, true, 1), (0, 5, true, 74), (1, 1, true, x1), (3, 1, true, x3)] [(0, true, s.2.2.2 74 64), (5, true, 74)] (sM s (hy_u s.2.2.2 112 0 x3)))))
  refine hY _ _ _ _ (hY _ _ _ _ (?_ : Y 17 [(5, 2, true, 1), (0, 5, true, 74), (1, 1, true, x1), (3, 1, true, x3)] [(0, true, iW ((s.2.2.2 74 64) + 1)), (5, true, 74)] (sM s (hy_u s.2.2.2 112 0 x3))))
  refine hY _ _ _ _ ?_
  show Y 20 [(5, 2, true, 1), (0, 5, true, 74), (1, 1, true, x1), (3, 1, true, x3)] [] (sM s (hy_u (hy_u s.2.2.2 112 0 x3) 74 64 (iW ((s.2.2.2 74 64) + 1))))
  refine l20 _ _ ?_
  exact (Exists.intro (hy_u (hy_u s.2.2.2 112 0 x3) 74 64 (iW ((s.2.2.2 74 64) + 1))) (And.intro rfl h.2.2))
def we_243 : sFf := sEf 9 [(0, 5, 74), (1, 1, 0), (3, 1, 0)] (fun xs s Q => ap2 (fun x1 x3 => wq_243 x1 x3 s.2.2.2 Q) xs)
theorem we_243_ok : kS dM 3 243 2 (.inl we_243) := sEf_ok (mi := im_m243) rfl rfl rfl (fun R xs s r1 hb => by obtain ⟨x1, x3, rfl, hb⟩ := ap2_ok hb; exact wk_243_0 _ R s x1 x3 (fun x m' hx => ⟨m', rfl, hx⟩) r1 hb)
/-- LMModel.bindsBoth(JJ)Z -/
def wq_244_69 (x1 : Int) (x3 : Int) (m : hy_m) (Q : Int → hy_m → Prop) : Prop := wq_230 x1 m (fun r1 m1 => (r1 = 0 → (wq_230 x1 m1 (fun r2 m2 => (r2 = 0 → (wq_238 x1 m2 (fun r3 m3 => (r3 ≠ 4 → (wq_240 x3 x1 m3 (fun _ m4 => Q 1 m4))) ∧ (r3 = 4 → (wq_243 x3 x1 m3 (fun r5 m5 => (r5 = 0 → (wq_240 x3 x1 m5 (fun _ m6 => Q 1 m6))) ∧ (r5 ≠ 0 → (Q 0 m5)))))))) ∧ (r2 ≠ 0 → (wq_238 x3 m2 (fun r7 m7 => (r7 ≠ 4 → (wq_240 x3 x3 m7 (fun _ m8 => Q 1 m8))) ∧ (r7 = 4 → (wq_243 x3 x3 m7 (fun r9 m9 => (r9 = 0 → (wq_240 x3 x3 m9 (fun _ m10 => Q 1 m10))) ∧ (r9 ≠ 0 → (Q 0 m9))))))))))) ∧ (r1 ≠ 0 → (wq_230 x1 m1 (fun r11 m11 => (r11 = 0 → (wq_238 x1 m11 (fun r12 m12 => (r12 ≠ 4 → (wq_240 x1 x1 m12 (fun _ m13 => Q 1 m13))) ∧ (r12 = 4 → (wq_243 x1 x1 m12 (fun r14 m14 => (r14 = 0 → (wq_240 x1 x1 m14 (fun _ m15 => Q 1 m15))) ∧ (r14 ≠ 0 → (Q 0 m14)))))))) ∧ (r11 ≠ 0 → (wq_238 x3 m11 (fun r16 m16 => (r16 ≠ 4 → (wq_240 x1 x3 m16 (fun _ m17 => Q 1 m17))) ∧ (r16 = 4 → (wq_243 x1 x3 m16 (fun r18 m18 => (r18 = 0 → (wq_240 x1 x3 m18 (fun _ m19 => Q 1 m19))) ∧ (r18 ≠ 0 → (Q 0 m18))))))))))))
def wq_244 (x1 : Int) (x3 : Int) (m : hy_m) (Q : Int → hy_m → Prop) : Prop := (x1 ≠ x3 → (wq_230 x1 m (fun r1 m1 => (r1 = 0 → (wq_244_69 x1 x3 m1 Q)) ∧ (r1 ≠ 0 → (wq_230 x3 m1 (fun r2 m2 => (r2 = 0 → (wq_244_69 x1 x3 m2 Q)) ∧ (r2 ≠ 0 → (((jA x1 65535) ≤ (jA x3 65535) → (((0 : Int) = 0 → (((0 : Int) = 0 → (wq_240 x3 x1 m2 (fun _ m3 => Q 1 m3))) ∧ ((0 : Int) ≠ 0 → (wq_240 x3 x3 m2 (fun _ m4 => Q 1 m4))))) ∧ ((0 : Int) ≠ 0 → (((0 : Int) = 0 → (wq_240 x1 x1 m2 (fun _ m5 => Q 1 m5))) ∧ ((0 : Int) ≠ 0 → (wq_240 x1 x3 m2 (fun _ m6 => Q 1 m6))))))) ∧ ((jA x3 65535) < (jA x1 65535) → (((1 : Int) = 0 → (((1 : Int) = 0 → (wq_240 x3 x1 m2 (fun _ m7 => Q 1 m7))) ∧ ((1 : Int) ≠ 0 → (wq_240 x3 x3 m2 (fun _ m8 => Q 1 m8))))) ∧ ((1 : Int) ≠ 0 → (((1 : Int) = 0 → (wq_240 x1 x1 m2 (fun _ m9 => Q 1 m9))) ∧ ((1 : Int) ≠ 0 → (wq_240 x1 x3 m2 (fun _ m10 => Q 1 m10))))))))))))))) ∧ (x1 = x3 → (Q 1 m))
theorem wc_240_r74_1t_1t (x1 : Int) (x2 : Int) (s : sS) (R : Int → hy_m → Prop) (h : wq_240 x1 x2 s.2.2.2 R) : we_240 [(5, true, 74), (1, true, x1), (1, true, x2)] s R := h
theorem wc_243_r74_1t_1t (x1 : Int) (x2 : Int) (s : sS) (R : Int → hy_m → Prop) (h : wq_243 x1 x2 s.2.2.2 R) : we_243 [(5, true, 74), (1, true, x1), (1, true, x2)] s R := h
def cs_244 : List (Nat × Nat × sFS) := [(230, 2, .inl we_230), (238, 0, .inl we_238), (240, 9, .inl we_240), (243, 2, .inl we_243)]
theorem cs_244_ok : kCs dM 3 cs_244 := (kCs_c (Or.inr (Or.inr (Or.inl rfl))) (we_230_ok.deep (by decide)) (kCs_c (Or.inl rfl) (we_238_ok.deep (by decide)) (kCs_c (Or.inr (Or.inr (Or.inr (Or.inr rfl)))) (we_240_ok.deep (by decide)) (kCs_c (Or.inr (Or.inr (Or.inl rfl))) (we_243_ok.deep (by decide)) kCs_n))))
def lb_244_69 (s : sS) (Q : sQ) (R : Int → hy_m → Prop) (x1 : Int) (x3 : Int) : Nat → Option (sL → sS → Prop) := sLb []
set_option maxRecDepth 30000 in
set_option maxHeartbeats 1000000 in
theorem wk_244_69 (Q : sQ) (R : Int → hy_m → Prop) (s : sS) (x1 : Int) (x3 : Int) (hQ : ∀ x m', R x m' → Q x (sM s m')) (hr : sRg [(0, 5, 74), (1, 1, 0), (3, 1, 0)] [x1, x3]) (h : wq_244_69 x1 x3 s.2.2.2 R) : kX dM 3 im_m244 2 69 (sCan [(0, 5, 74), (1, 1, 0), (3, 1, 0)] [x1, x3]) [] s Q := by
  unfold wq_244_69 at h
  refine wz2_ok (cs := cs_244) (wr := []) (lb := lb_244_69 s Q R x1 x3) cs_244_ok kLb_n (okL_can rfl hr) (fun Y hY hl => ?_)
  refine hY _ _ _ _ (?_ : Y 70 [(0, 5, true, 74), (1, 1, true, x1), (3, 1, true, x3)] [(1, true, x1)] s)
  refine hY _ _ _ _ ?_
  refine Exists.intro _ (And.intro (wc_230_1t x1 _ _ h) (fun r1 m1 h => ?_))
  show Y 73 [(0, 5, true, 74), (1, 1, true, x1), (3, 1, true, x3)] [(2, true, r1)] (sM s m1)
  refine hY _ _ _ _ ?_
  refine And.intro (fun hc => ?_) (fun hc => ?_)
  · have h := h.1 hc
    refine hY _ _ _ _ (hY _ _ _ _ (hY _ _ _ _ (?_ : Y 84 [(5, 1, true, x3), (0, 5, true, 74), (1, 1, true, x1), (3, 1, true, x3)] [(1, true, x1)] (sM s m1))))
    refine hY _ _ _ _ ?_
    refine Exists.intro _ (And.intro (wc_230_1t x1 _ _ h) (fun r2 m2 h => ?_))
    show Y 87 [(5, 1, true, x3), (0, 5, true, 74), (1, 1, true, x1), (3, 1, true, x3)] [(2, true, r2)] (sM s m2)
    refine hY _ _ _ _ ?_
    refine And.intro (fun hc => ?_) (fun hc => ?_)
    · have h := h.1 hc
      refine hY _ _ _ _ (hY _ _ _ _ (hY _ _ _ _ (?_ : Y 98 [(7, 1, true, x1), (5, 1, true, x3), (0, 5, true, 74), (1, 1, true, x1), (3, 1, true, x3)] [(5, true, 74)] (sM s m2))))
      refine hY _ _ _ _ (?_ : Y 100 [(7, 1, true, x1), (5, 1, true, x3), (0, 5, true, 74), (1, 1, true, x1), (3, 1, true, x3)] [(1, true, x1), (5, true, 74)] (sM s m2))
      refine hY _ _ _ _ ?_
      refine Exists.intro _ (And.intro (wc_238_r74_1t x1 _ _ h) (fun r3 m3 h => ?_))
      refine hY _ _ _ _ (?_ : Y 104 [(7, 1, true, x1), (5, 1, true, x3), (0, 5, true, 74), (1, 1, true, x1), (3, 1, true, x3)] [(0, true, 4), (0, true, r3)] (sM s m3))
      refine hY _ _ _ _ ?_
      refine And.intro (fun hc => ?_) (fun hc => ?_)
      · have h := h.1 hc
        refine hY _ _ _ _ (hY _ _ _ _ (hY _ _ _ _ (?_ : Y 125 [(7, 1, true, x1), (5, 1, true, x3), (0, 5, true, 74), (1, 1, true, x1), (3, 1, true, x3)] [(1, true, x1), (1, true, x3), (5, true, 74)] (sM s m3))))
        refine hY _ _ _ _ ?_
        refine Exists.intro _ (And.intro (wc_240_r74_1t_1t x3 x1 _ _ h) (fun r4 m4 h => ?_))
        refine hY _ _ _ _ (?_ : Y 129 [(7, 1, true, x1), (5, 1, true, x3), (0, 5, true, 74), (1, 1, true, x1), (3, 1, true, x3)] [(2, true, 1)] (sM s m4))
        refine hY _ _ _ _ ?_
        exact hQ 1 m4 h
      · have h := h.2 hc
        refine hY _ _ _ _ (hY _ _ _ _ (hY _ _ _ _ (?_ : Y 112 [(7, 1, true, x1), (5, 1, true, x3), (0, 5, true, 74), (1, 1, true, x1), (3, 1, true, x3)] [(1, true, x1), (1, true, x3), (5, true, 74)] (sM s m3))))
        refine hY _ _ _ _ ?_
        refine Exists.intro _ (And.intro (wc_243_r74_1t_1t x3 x1 _ _ h) (fun r5 m5 h => ?_))
        show Y 115 [(7, 1, true, x1), (5, 1, true, x3), (0, 5, true, 74), (1, 1, true, x1), (3, 1, true, x3)] [(2, true, r5)] (sM s m5)
        refine hY _ _ _ _ ?_
        refine And.intro (fun hc => ?_) (fun hc => ?_)
        · have h := h.1 hc
          refine hY _ _ _ _ (hY _ _ _ _ (hY _ _ _ _ (?_ : Y 125 [(7, 1, true, x1), (5, 1, true, x3), (0, 5, true, 74), (1, 1, true, x1), (3, 1, true, x3)] [(1, true, x1), (1, true, x3), (5, true, 74)] (sM s m5))))
          refine hY _ _ _ _ ?_
          refine Exists.intro _ (And.intro (wc_240_r74_1t_1t x3 x1 _ _ h) (fun r6 m6 h => ?_))
          refine hY _ _ _ _ (?_ : Y 129 [(7, 1, true, x1), (5, 1, true, x3), (0, 5, true, 74), (1, 1, true, x1), (3, 1, true, x3)] [(2, true, 1)] (sM s m6))
          refine hY _ _ _ _ ?_
          exact hQ 1 m6 h
        · have h := h.2 hc
          refine hY _ _ _ _ (?_ : Y 119 [(7, 1, true, x1), (5, 1, true, x3), (0, 5, true, 74), (1, 1, true, x1), (3, 1, true, x3)] [(2, true, 0)] (sM s m5))
          refine hY _ _ _ _ ?_
          exact hQ 0 m5 h
    · have h := h.2 hc
      refine hY _ _ _ _ (hY _ _ _ _ (hY _ _ _ _ (?_ : Y 97 [(7, 1, true, x3), (5, 1, true, x3), (0, 5, true, 74), (1, 1, true, x1), (3, 1, true, x3)] [] (sM s m2))))
      refine hY _ _ _ _ (hY _ _ _ _ (?_ : Y 100 [(7, 1, true, x3), (5, 1, true, x3), (0, 5, true, 74), (1, 1, true, x1), (3, 1, true, x3)] [(1, true, x3), (5, true, 74)] (sM s m2)))
      refine hY _ _ _ _ ?_
      refine Exists.intro _ (And.intro (wc_238_r74_1t x3 _ _ h) (fun r7 m7 h => ?_))
      refine hY _ _ _ _ (?_ : Y 104 [(7, 1, true, x3), (5, 1, true, x3), (0, 5, true, 74), (1, 1, true, x1), (3, 1, true, x3)] [(0, true, 4), (0, true, r7)] (sM s m7))
      refine hY _ _ _ _ ?_
      refine And.intro (fun hc => ?_) (fun hc => ?_)
      · have h := h.1 hc
        refine hY _ _ _ _ (hY _ _ _ _ (hY _ _ _ _ (?_ : Y 125 [(7, 1, true, x3), (5, 1, true, x3), (0, 5, true, 74), (1, 1, true, x1), (3, 1, true, x3)] [(1, true, x3), (1, true, x3), (5, true, 74)] (sM s m7))))
        refine hY _ _ _ _ ?_
        refine Exists.intro _ (And.intro (wc_240_r74_1t_1t x3 x3 _ _ h) (fun r8 m8 h => ?_))
        refine hY _ _ _ _ (?_ : Y 129 [(7, 1, true, x3), (5, 1, true, x3), (0, 5, true, 74), (1, 1, true, x1), (3, 1, true, x3)] [(2, true, 1)] (sM s m8))
        refine hY _ _ _ _ ?_
        exact hQ 1 m8 h
      · have h := h.2 hc
        refine hY _ _ _ _ (hY _ _ _ _ (hY _ _ _ _ (?_ : Y 112 [(7, 1, true, x3), (5, 1, true, x3), (0, 5, true, 74), (1, 1, true, x1), (3, 1, true, x3)] [(1, true, x3), (1, true, x3), (5, true, 74)] (sM s m7))))
        refine hY _ _ _ _ ?_
        refine Exists.intro _ (And.intro (wc_243_r74_1t_1t x3 x3 _ _ h) (fun r9 m9 h => ?_))
        show Y 115 [(7, 1, true, x3), (5, 1, true, x3), (0, 5, true, 74), (1, 1, true, x1), (3, 1, true, x3)] [(2, true, r9)] (sM s m9)
        refine hY _ _ _ _ ?_
        refine And.intro (fun hc => ?_) (fun hc => ?_)
        · have h := h.1 hc
          refine hY _ _ _ _ (hY _ _ _ _ (hY _ _ _ _ (?_ : Y 125 [(7, 1, true, x3), (5, 1, true, x3), (0, 5, true, 74), (1, 1, true, x1), (3, 1, true, x3)] [(1, true, x3), (1, true, x3), (5, true, 74)] (sM s m9))))
          refine hY _ _ _ _ ?_
          refine Exists.intro _ (And.intro (wc_240_r74_1t_1t x3 x3 _ _ h) (fun r10 m10 h => ?_))
          refine hY _ _ _ _ (?_ : Y 129 [(7, 1, true, x3), (5, 1, true, x3), (0, 5, true, 74), (1, 1, true, x1), (3, 1, true, x3)] [(2, true, 1)] (sM s m10))
          refine hY _ _ _ _ ?_
          exact hQ 1 m10 h
        · have h := h.2 hc
          refine hY _ _ _ _ (?_ : Y 119 [(7, 1, true, x3), (5, 1, true, x3), (0, 5, true, 74), (1, 1, true, x1), (3, 1, true, x3)] [(2, true, 0)] (sM s m9))
          refine hY _ _ _ _ ?_
          exact hQ 0 m9 h
  · have h := h.2 hc
    refine hY _ _ _ _ (hY _ _ _ _ (hY _ _ _ _ (?_ : Y 83 [(5, 1, true, x1), (0, 5, true, 74), (1, 1, true, x1), (3, 1, true, x3)] [] (sM s m1))))
    refine hY _ _ _ _ (?_ : Y 84 [(5, 1, true, x1), (0, 5, true, 74), (1, 1, true, x1), (3, 1, true, x3)] [(1, true, x1)] (sM s m1))
    refine hY _ _ _ _ ?_
    refine Exists.intro _ (And.intro (wc_230_1t x1 _ _ h) (fun r11 m11 h => ?_))
    show Y 87 [(5, 1, true, x1), (0, 5, true, 74), (1, 1, true, x1), (3, 1, true, x3)] [(2, true, r11)] (sM s m11)
    refine hY _ _ _ _ ?_
    refine And.intro (fun hc => ?_) (fun hc => ?_)
    · have h := h.1 hc
      refine hY _ _ _ _ (hY _ _ _ _ (hY _ _ _ _ (?_ : Y 98 [(7, 1, true, x1), (5, 1, true, x1), (0, 5, true, 74), (1, 1, true, x1), (3, 1, true, x3)] [(5, true, 74)] (sM s m11))))
      refine hY _ _ _ _ (?_ : Y 100 [(7, 1, true, x1), (5, 1, true, x1), (0, 5, true, 74), (1, 1, true, x1), (3, 1, true, x3)] [(1, true, x1), (5, true, 74)] (sM s m11))
      refine hY _ _ _ _ ?_
      refine Exists.intro _ (And.intro (wc_238_r74_1t x1 _ _ h) (fun r12 m12 h => ?_))
      refine hY _ _ _ _ (?_ : Y 104 [(7, 1, true, x1), (5, 1, true, x1), (0, 5, true, 74), (1, 1, true, x1), (3, 1, true, x3)] [(0, true, 4), (0, true, r12)] (sM s m12))
      refine hY _ _ _ _ ?_
      refine And.intro (fun hc => ?_) (fun hc => ?_)
      · have h := h.1 hc
        refine hY _ _ _ _ (hY _ _ _ _ (hY _ _ _ _ (?_ : Y 125 [(7, 1, true, x1), (5, 1, true, x1), (0, 5, true, 74), (1, 1, true, x1), (3, 1, true, x3)] [(1, true, x1), (1, true, x1), (5, true, 74)] (sM s m12))))
        refine hY _ _ _ _ ?_
        refine Exists.intro _ (And.intro (wc_240_r74_1t_1t x1 x1 _ _ h) (fun r13 m13 h => ?_))
        refine hY _ _ _ _ (?_ : Y 129 [(7, 1, true, x1), (5, 1, true, x1), (0, 5, true, 74), (1, 1, true, x1), (3, 1, true, x3)] [(2, true, 1)] (sM s m13))
        refine hY _ _ _ _ ?_
        exact hQ 1 m13 h
      · have h := h.2 hc
        refine hY _ _ _ _ (hY _ _ _ _ (hY _ _ _ _ (?_ : Y 112 [(7, 1, true, x1), (5, 1, true, x1), (0, 5, true, 74), (1, 1, true, x1), (3, 1, true, x3)] [(1, true, x1), (1, true, x1), (5, true, 74)] (sM s m12))))
        refine hY _ _ _ _ ?_
        refine Exists.intro _ (And.intro (wc_243_r74_1t_1t x1 x1 _ _ h) (fun r14 m14 h => ?_))
        show Y 115 [(7, 1, true, x1), (5, 1, true, x1), (0, 5, true, 74), (1, 1, true, x1), (3, 1, true, x3)] [(2, true, r14)] (sM s m14)
        refine hY _ _ _ _ ?_
        refine And.intro (fun hc => ?_) (fun hc => ?_)
        · have h := h.1 hc
          refine hY _ _ _ _ (hY _ _ _ _ (hY _ _ _ _ (?_ : Y 125 [(7, 1, true, x1), (5, 1, true, x1), (0, 5, true, 74), (1, 1, true, x1), (3, 1, true, x3)] [(1, true, x1), (1, true, x1), (5, true, 74)] (sM s m14))))
          refine hY _ _ _ _ ?_
          refine Exists.intro _ (And.intro (wc_240_r74_1t_1t x1 x1 _ _ h) (fun r15 m15 h => ?_))
          refine hY _ _ _ _ (?_ : Y 129 [(7, 1, true, x1), (5, 1, true, x1), (0, 5, true, 74), (1, 1, true, x1), (3, 1, true, x3)] [(2, true, 1)] (sM s m15))
          refine hY _ _ _ _ ?_
          exact hQ 1 m15 h
        · have h := h.2 hc
          refine hY _ _ _ _ (?_ : Y 119 [(7, 1, true, x1), (5, 1, true, x1), (0, 5, true, 74), (1, 1, true, x1), (3, 1, true, x3)] [(2, true, 0)] (sM s m14))
          refine hY _ _ _ _ ?_
          exact hQ 0 m14 h
    · have h := h.2 hc
      refine hY _ _ _ _ (hY _ _ _ _ (hY _ _ _ _ (?_ : Y 97 [(7, 1, true, x3), (5, 1, true, x1), (0, 5, true, 74), (1, 1, true, x1), (3, 1, true, x3)] [] (sM s m11))))
      refine hY _ _ _ _ (hY _ _ _ _ (?_ : Y 100 [(7, 1, true, x3), (5, 1, true, x1), (0, 5, true, 74), (1, 1, true, x1), (3, 1, true, x3)] [(1, true, x3), (5, true, 74)] (sM s m11)))
      refine hY _ _ _ _ ?_
      refine Exists.intro _ (And.intro (wc_238_r74_1t x3 _ _ h) (fun r16 m16 h => ?_))
      refine hY _ _ _ _ (?_ : Y 104 [(7, 1, true, x3), (5, 1, true, x1), (0, 5, true, 74), (1, 1, true, x1), (3, 1, true, x3)] [(0, true, 4), (0, true, r16)] (sM s m16))
      refine hY _ _ _ _ ?_
      refine And.intro (fun hc => ?_) (fun hc => ?_)
      · have h := h.1 hc
        refine hY _ _ _ _ (hY _ _ _ _ (hY _ _ _ _ (?_ : Y 125 [(7, 1, true, x3), (5, 1, true, x1), (0, 5, true, 74), (1, 1, true, x1), (3, 1, true, x3)] [(1, true, x3), (1, true, x1), (5, true, 74)] (sM s m16))))
        refine hY _ _ _ _ ?_
        refine Exists.intro _ (And.intro (wc_240_r74_1t_1t x1 x3 _ _ h) (fun r17 m17 h => ?_))
        refine hY _ _ _ _ (?_ : Y 129 [(7, 1, true, x3), (5, 1, true, x1), (0, 5, true, 74), (1, 1, true, x1), (3, 1, true, x3)] [(2, true, 1)] (sM s m17))
        refine hY _ _ _ _ ?_
        exact hQ 1 m17 h
      · have h := h.2 hc
        refine hY _ _ _ _ (hY _ _ _ _ (hY _ _ _ _ (?_ : Y 112 [(7, 1, true, x3), (5, 1, true, x1), (0, 5, true, 74), (1, 1, true, x1), (3, 1, true, x3)] [(1, true, x3), (1, true, x1), (5, true, 74)] (sM s m16))))
        refine hY _ _ _ _ ?_
        refine Exists.intro _ (And.intro (wc_243_r74_1t_1t x1 x3 _ _ h) (fun r18 m18 h => ?_))
        show Y 115 [(7, 1, true, x3), (5, 1, true, x1), (0, 5, true, 74), (1, 1, true, x1), (3, 1, true, x3)] [(2, true, r18)] (sM s m18)
        refine hY _ _ _ _ ?_
        refine And.intro (fun hc => ?_) (fun hc => ?_)
        · have h := h.1 hc
          refine hY _ _ _ _ (hY _ _ _ _ (hY _ _ _ _ (?_ : Y 125 [(7, 1, true, x3), (5, 1, true, x1), (0, 5, true, 74), (1, 1, true, x1), (3, 1, true, x3)] [(1, true, x3), (1, true, x1), (5, true, 74)] (sM s m18))))
          refine hY _ _ _ _ ?_
          refine Exists.intro _ (And.intro (wc_240_r74_1t_1t x1 x3 _ _ h) (fun r19 m19 h => ?_))
          refine hY _ _ _ _ (?_ : Y 129 [(7, 1, true, x3), (5, 1, true, x1), (0, 5, true, 74), (1, 1, true, x1), (3, 1, true, x3)] [(2, true, 1)] (sM s m19))
          refine hY _ _ _ _ ?_
          exact hQ 1 m19 h
        · have h := h.2 hc
          refine hY _ _ _ _ (?_ : Y 119 [(7, 1, true, x3), (5, 1, true, x1), (0, 5, true, 74), (1, 1, true, x1), (3, 1, true, x3)] [(2, true, 0)] (sM s m18))
          refine hY _ _ _ _ ?_
          exact hQ 0 m18 h
def lb_244_0 (s : sS) (Q : sQ) (R : Int → hy_m → Prop) (x1 : Int) (x3 : Int) : Nat → Option (sL → sS → Prop) := sLb [(69, fun lv t => sG [(0, 5, 74), (1, 1, 0), (3, 1, 0)] lv (ap2 (fun w1 w3 => ∃ m', t = sM s m' ∧ wq_244_69 w1 w3 m' R)))]
set_option maxRecDepth 30000 in
set_option maxHeartbeats 1000000 in
theorem wk_244_0 (Q : sQ) (R : Int → hy_m → Prop) (s : sS) (x1 : Int) (x3 : Int) (hQ : ∀ x m', R x m' → Q x (sM s m')) (hr : sRg [(0, 5, 74), (1, 1, 0), (3, 1, 0)] [x1, x3]) (h : wq_244 x1 x3 s.2.2.2 R) : kX dM 3 im_m244 2 0 (sCan [(0, 5, 74), (1, 1, 0), (3, 1, 0)] [x1, x3]) [] s Q := by
  unfold wq_244 at h
  refine wz2_ok (cs := cs_244) (wr := []) (lb := lb_244_0 s Q R x1 x3) cs_244_ok (kLb_c (kLab (Bd := fun xs t => ap2 (fun w1 w3 => ∃ m', t = sM s m' ∧ wq_244_69 w1 w3 m' R) xs) rfl (fun xs t r1 r2 hb => by obtain ⟨w1, w3, rfl, hb⟩ := ap2_ok hb; obtain ⟨m', rfl, hx⟩ := hb; exact wk_244_69 Q R (sM s m') _ _ (fun x m'' hy => hQ x m'' hy) r1 hx)) kLb_n) (okL_can rfl hr) (fun Y hY hl => ?_)
  have l69 := hl 69 _ rfl
  refine hY _ _ _ _ (hY _ _ _ _ (?_ : Y 2 [(0, 5, true, 74), (1, 1, true, x1), (3, 1, true, x3)] [(1, true, x3), (1, true, x1)] s))
  refine hY _ _ _ _ ?_
  refine And.intro (fun hc => ?_) (fun hc => ?_)
  · have h := h.1 hc
    refine hY _ _ _ _ (?_ : Y 9 [(0, 5, true, 74), (1, 1, true, x1), (3, 1, true, x3)] [(1, true, x1)] s)
    refine hY _ _ _ _ ?_
    refine Exists.intro _ (And.intro (wc_230_1t x1 _ _ h) (fun r1 m1 h => ?_))
    show Y 12 [(0, 5, true, 74), (1, 1, true, x1), (3, 1, true, x3)] [(2, true, r1)] (sM s m1)
    refine hY _ _ _ _ ?_
    refine And.intro (fun hc => ?_) (fun hc => ?_)
    · have h := h.1 hc
      show Y 69 [(0, 5, true, 74), (1, 1, true, x1), (3, 1, true, x3)] [] (sM s m1)
      refine l69 _ _ ?_
      exact (Exists.intro m1 (And.intro rfl h))
    · have h := h.2 hc
      refine hY _ _ _ _ (?_ : Y 16 [(0, 5, true, 74), (1, 1, true, x1), (3, 1, true, x3)] [(1, true, x3)] (sM s m1))
      refine hY _ _ _ _ ?_
      refine Exists.intro _ (And.intro (wc_230_1t x3 _ _ h) (fun r2 m2 h => ?_))
      show Y 19 [(0, 5, true, 74), (1, 1, true, x1), (3, 1, true, x3)] [(2, true, r2)] (sM s m2)
      refine hY _ _ _ _ ?_
      refine And.intro (fun hc => ?_) (fun hc => ?_)
      · have h := h.1 hc
        show Y 69 [(0, 5, true, 74), (1, 1, true, x1), (3, 1, true, x3)] [] (sM s m2)
        refine l69 _ _ ?_
        exact (Exists.intro m2 (And.intro rfl h))
      · have h := h.2 hc
        refine hY _ _ _ _ (hY _ _ _ _ (?_ : Y 26 [(0, 5, true, 74), (1, 1, true, x1), (3, 1, true, x3)] [(1, true, 65535), (1, true, x1)] (sM s m2)))
        refine hY _ _ _ _ (?_ : Y 27 [(0, 5, true, 74), (1, 1, true, x1), (3, 1, true, x3)] [(1, true, jA x1 65535)] (sM s m2))
        refine hY _ _ _ _ (hY _ _ _ _ (?_ : Y 31 [(0, 5, true, 74), (1, 1, true, x1), (3, 1, true, x3)] [(1, true, 65535), (1, true, x3), (1, true, jA x1 65535)] (sM s m2)))
        refine hY _ _ _ _ (?_ : Y 32 [(0, 5, true, 74), (1, 1, true, x1), (3, 1, true, x3)] [(1, true, jA x3 65535), (1, true, jA x1 65535)] (sM s m2))
        refine hY _ _ _ _ ?_
        refine And.intro (fun hc => ?_) (fun hc => ?_)
        · have h := h.1 hc
          refine hY _ _ _ _ (hY _ _ _ _ (hY _ _ _ _ (?_ : Y 44 [(5, 2, true, 0), (0, 5, true, 74), (1, 1, true, x1), (3, 1, true, x3)] [(5, true, 74)] (sM s m2))))
          refine hY _ _ _ _ (?_ : Y 46 [(5, 2, true, 0), (0, 5, true, 74), (1, 1, true, x1), (3, 1, true, x3)] [(2, true, 0), (5, true, 74)] (sM s m2))
          refine hY _ _ _ _ ?_
          refine And.intro (fun hc => ?_) (fun hc => ?_)
          · have h := h.1 hc
            refine hY _ _ _ _ (hY _ _ _ _ (?_ : Y 56 [(5, 2, true, 0), (0, 5, true, 74), (1, 1, true, x1), (3, 1, true, x3)] [(2, true, 0), (1, true, x3), (5, true, 74)] (sM s m2)))
            refine hY _ _ _ _ ?_
            refine And.intro (fun hc => ?_) (fun hc => ?_)
            · have h := h.1 hc
              refine hY _ _ _ _ (?_ : Y 64 [(5, 2, true, 0), (0, 5, true, 74), (1, 1, true, x1), (3, 1, true, x3)] [(1, true, x1), (1, true, x3), (5, true, 74)] (sM s m2))
              refine hY _ _ _ _ ?_
              refine Exists.intro _ (And.intro (wc_240_r74_1t_1t x3 x1 _ _ h) (fun r3 m3 h => ?_))
              refine hY _ _ _ _ (?_ : Y 68 [(5, 2, true, 0), (0, 5, true, 74), (1, 1, true, x1), (3, 1, true, x3)] [(2, true, 1)] (sM s m3))
              refine hY _ _ _ _ ?_
              exact hQ 1 m3 h
            · have h := h.2 hc
              refine hY _ _ _ _ (hY _ _ _ _ (?_ : Y 64 [(5, 2, true, 0), (0, 5, true, 74), (1, 1, true, x1), (3, 1, true, x3)] [(1, true, x3), (1, true, x3), (5, true, 74)] (sM s m2)))
              refine hY _ _ _ _ ?_
              refine Exists.intro _ (And.intro (wc_240_r74_1t_1t x3 x3 _ _ h) (fun r4 m4 h => ?_))
              refine hY _ _ _ _ (?_ : Y 68 [(5, 2, true, 0), (0, 5, true, 74), (1, 1, true, x1), (3, 1, true, x3)] [(2, true, 1)] (sM s m4))
              refine hY _ _ _ _ ?_
              exact hQ 1 m4 h
          · have h := h.2 hc
            refine hY _ _ _ _ (hY _ _ _ _ (hY _ _ _ _ (?_ : Y 56 [(5, 2, true, 0), (0, 5, true, 74), (1, 1, true, x1), (3, 1, true, x3)] [(2, true, 0), (1, true, x1), (5, true, 74)] (sM s m2))))
            refine hY _ _ _ _ ?_
            refine And.intro (fun hc => ?_) (fun hc => ?_)
            · have h := h.1 hc
              refine hY _ _ _ _ (?_ : Y 64 [(5, 2, true, 0), (0, 5, true, 74), (1, 1, true, x1), (3, 1, true, x3)] [(1, true, x1), (1, true, x1), (5, true, 74)] (sM s m2))
              refine hY _ _ _ _ ?_
              refine Exists.intro _ (And.intro (wc_240_r74_1t_1t x1 x1 _ _ h) (fun r5 m5 h => ?_))
              refine hY _ _ _ _ (?_ : Y 68 [(5, 2, true, 0), (0, 5, true, 74), (1, 1, true, x1), (3, 1, true, x3)] [(2, true, 1)] (sM s m5))
              refine hY _ _ _ _ ?_
              exact hQ 1 m5 h
            · have h := h.2 hc
              refine hY _ _ _ _ (hY _ _ _ _ (?_ : Y 64 [(5, 2, true, 0), (0, 5, true, 74), (1, 1, true, x1), (3, 1, true, x3)] [(1, true, x3), (1, true, x1), (5, true, 74)] (sM s m2)))
              refine hY _ _ _ _ ?_
              refine Exists.intro _ (And.intro (wc_240_r74_1t_1t x1 x3 _ _ h) (fun r6 m6 h => ?_))
              refine hY _ _ _ _ (?_ : Y 68 [(5, 2, true, 0), (0, 5, true, 74), (1, 1, true, x1), (3, 1, true, x3)] [(2, true, 1)] (sM s m6))
              refine hY _ _ _ _ ?_
              exact hQ 1 m6 h
        · have h := h.2 hc
          refine hY _ _ _ _ (hY _ _ _ _ (hY _ _ _ _ (?_ : Y 43 [(5, 2, true, 1), (0, 5, true, 74), (1, 1, true, x1), (3, 1, true, x3)] [] (sM s m2))))
          refine hY _ _ _ _ (hY _ _ _ _ (?_ : Y 46 [(5, 2, true, 1), (0, 5, true, 74), (1, 1, true, x1), (3, 1, true, x3)] [(2, true, 1), (5, true, 74)] (sM s m2)))
          refine hY _ _ _ _ ?_
          refine And.intro (fun hc => ?_) (fun hc => ?_)
          · have h := h.1 hc
            refine hY _ _ _ _ (hY _ _ _ _ (?_ : Y 56 [(5, 2, true, 1), (0, 5, true, 74), (1, 1, true, x1), (3, 1, true, x3)] [(2, true, 1), (1, true, x3), (5, true, 74)] (sM s m2)))
            refine hY _ _ _ _ ?_
            refine And.intro (fun hc => ?_) (fun hc => ?_)
            · have h := h.1 hc
              refine hY _ _ _ _ (?_ : Y 64 [(5, 2, true, 1), (0, 5, true, 74), (1, 1, true, x1), (3, 1, true, x3)] [(1, true, x1), (1, true, x3), (5, true, 74)] (sM s m2))
              refine hY _ _ _ _ ?_
              refine Exists.intro _ (And.intro (wc_240_r74_1t_1t x3 x1 _ _ h) (fun r7 m7 h => ?_))
              refine hY _ _ _ _ (?_ : Y 68 [(5, 2, true, 1), (0, 5, true, 74), (1, 1, true, x1), (3, 1, true, x3)] [(2, true, 1)] (sM s m7))
              refine hY _ _ _ _ ?_
              exact hQ 1 m7 h
            · have h := h.2 hc
              refine hY _ _ _ _ (hY _ _ _ _ (?_ : Y 64 [(5, 2, true, 1), (0, 5, true, 74), (1, 1, true, x1), (3, 1, true, x3)] [(1, true, x3), (1, true, x3), (5, true, 74)] (sM s m2)))
              refine hY _ _ _ _ ?_
              refine Exists.intro _ (And.intro (wc_240_r74_1t_1t x3 x3 _ _ h) (fun r8 m8 h => ?_))
              refine hY _ _ _ _ (?_ : Y 68 [(5, 2, true, 1), (0, 5, true, 74), (1, 1, true, x1), (3, 1, true, x3)] [(2, true, 1)] (sM s m8))
              refine hY _ _ _ _ ?_
              exact hQ 1 m8 h
          · have h := h.2 hc
            refine hY _ _ _ _ (hY _ _ _ _ (hY _ _ _ _ (?_ : Y 56 [(5, 2, true, 1), (0, 5, true, 74), (1, 1, true, x1), (3, 1, true, x3)] [(2, true, 1), (1, true, x1), (5, true, 74)] (sM s m2))))
            refine hY _ _ _ _ ?_
            refine And.intro (fun hc => ?_) (fun hc => ?_)
            · have h := h.1 hc
              refine hY _ _ _ _ (?_ : Y 64 [(5, 2, true, 1), (0, 5, true, 74), (1, 1, true, x1), (3, 1, true, x3)] [(1, true, x1), (1, true, x1), (5, true, 74)] (sM s m2))
              refine hY _ _ _ _ ?_
              refine Exists.intro _ (And.intro (wc_240_r74_1t_1t x1 x1 _ _ h) (fun r9 m9 h => ?_))
              refine hY _ _ _ _ (?_ : Y 68 [(5, 2, true, 1), (0, 5, true, 74), (1, 1, true, x1), (3, 1, true, x3)] [(2, true, 1)] (sM s m9))
              refine hY _ _ _ _ ?_
              exact hQ 1 m9 h
            · have h := h.2 hc
              refine hY _ _ _ _ (hY _ _ _ _ (?_ : Y 64 [(5, 2, true, 1), (0, 5, true, 74), (1, 1, true, x1), (3, 1, true, x3)] [(1, true, x3), (1, true, x1), (5, true, 74)] (sM s m2)))
              refine hY _ _ _ _ ?_
              refine Exists.intro _ (And.intro (wc_240_r74_1t_1t x1 x3 _ _ h) (fun r10 m10 h => ?_))
              refine hY _ _ _ _ (?_ : Y 68 [(5, 2, true, 1), (0, 5, true, 74), (1, 1, true, x1), (3, 1, true, x3)] [(2, true, 1)] (sM s m10))
              refine hY _ _ _ _ ?_
              exact hQ 1 m10 h
  · have h := h.2 hc
    refine hY _ _ _ _ (?_ : Y 7 [(0, 5, true, 74), (1, 1, true, x1), (3, 1, true, x3)] [(2, true, 1)] s)
    refine hY _ _ _ _ ?_
    exact hQ 1 s.2.2.2 h
def we_244 : sFf := sEf 9 [(0, 5, 74), (1, 1, 0), (3, 1, 0)] (fun xs s Q => ap2 (fun x1 x3 => wq_244 x1 x3 s.2.2.2 Q) xs)
theorem we_244_ok : kS dM 4 244 2 (.inl we_244) := sEf_ok (mi := im_m244) rfl rfl rfl (fun R xs s r1 hb => by obtain ⟨x1, x3, rfl, hb⟩ := ap2_ok hb; exact wk_244_0 _ R s x1 x3 (fun x m' hx => ⟨m', rfl, hx⟩) r1 hb)
/-- LMModel.isSimilar(JJ)Z -/
def wq_245 (x1 : Int) (x3 : Int) (m : hy_m) (Q : Int → hy_m → Prop) : Prop := wq_238 x1 m (fun r1 m1 => wq_238 x3 m1 (fun r2 m2 => (r1 = r2 → ((r1 ≠ 2 → (wq_232 x1 m2 (fun r3 m3 => 0 ≤ r3 ∧ r3 < 3584 ∧ (wq_232 x3 m3 (fun r4 m4 => 0 ≤ r4 ∧ r4 < 3584 ∧ (((m3 77 r3) ≠ (m4 77 r4) → (Q 0 m4)) ∧ ((m3 77 r3) = (m4 77 r4) → (wq_232 x1 m4 (fun r5 m5 => 0 ≤ r5 ∧ r5 < 3584 ∧ (wq_232 x3 m5 (fun r6 m6 => 0 ≤ r6 ∧ r6 < 3584 ∧ (((m5 78 r5) ≠ (m6 78 r6) → (Q 0 m6)) ∧ ((m5 78 r5) = (m6 78 r6) → (Q 1 m6)))))))))))))) ∧ (r1 = 2 → (wq_239 x1 m2 (fun r7 m7 => wq_239 x3 m7 (fun r8 m8 => (r7 ≠ r8 → (Q 0 m8)) ∧ (r7 = r8 → (Q 1 m8)))))))) ∧ (r1 ≠ r2 → (Q 0 m2))))
theorem wc_239_r74_1t (x1 : Int) (s : sS) (R : Int → hy_m → Prop) (h : wq_239 x1 s.2.2.2 R) : we_239 [(5, true, 74), (1, true, x1)] s R := h
def cs_245 : List (Nat × Nat × sFS) := [(232, 0, .inl we_232), (238, 0, .inl we_238), (239, 0, .inl we_239)]
theorem cs_245_ok : kCs dM 2 cs_245 := (kCs_c (Or.inl rfl) (we_232_ok.deep (by decide)) (kCs_c (Or.inl rfl) (we_238_ok.deep (by decide)) (kCs_c (Or.inl rfl) (we_239_ok.deep (by decide)) kCs_n)))
def lb_245_0 (s : sS) (Q : sQ) (R : Int → hy_m → Prop) (x1 : Int) (x3 : Int) : Nat → Option (sL → sS → Prop) := sLb []
set_option maxRecDepth 30000 in
set_option maxHeartbeats 1000000 in
theorem wk_245_0 (Q : sQ) (R : Int → hy_m → Prop) (s : sS) (x1 : Int) (x3 : Int) (hQ : ∀ x m', R x m' → Q x (sM s m')) (hr : sRg [(0, 5, 74), (1, 1, 0), (3, 1, 0)] [x1, x3]) (h : wq_245 x1 x3 s.2.2.2 R) : kX dM 2 im_m245 2 0 (sCan [(0, 5, 74), (1, 1, 0), (3, 1, 0)] [x1, x3]) [] s Q := by
  unfold wq_245 at h
  refine wz2_ok (cs := cs_245) (wr := []) (lb := lb_245_0 s Q R x1 x3) cs_245_ok kLb_n (okL_can rfl hr) (fun Y hY hl => ?_)
  refine hY _ _ _ _ (hY _ _ _ _ (?_ : Y 2 [(0, 5, true, 74), (1, 1, true, x1), (3, 1, true, x3)] [(1, true, x1), (5, true, 74)] s))
  refine hY _ _ _ _ ?_
  refine Exists.intro _ (And.intro (wc_238_r74_1t x1 _ _ h) (fun r1 m1 h => ?_))
  refine hY _ _ _ _ (hY _ _ _ _ (hY _ _ _ _ (?_ : Y 10 [(5, 0, true, r1), (0, 5, true, 74), (1, 1, true, x1), (3, 1, true, x3)] [(5, true, 74), (0, true, r1)] (sM s m1))))
  refine hY _ _ _ _ (?_ : Y 11 [(5, 0, true, r1), (0, 5, true, 74), (1, 1, true, x1), (3, 1, true, x3)] [(1, true, x3), (5, true, 74), (0, true, r1)] (sM s m1))
  refine hY _ _ _ _ ?_
  refine Exists.intro _ (And.intro (wc_238_r74_1t x3 _ _ h) (fun r2 m2 h => ?_))
  show Y 14 [(5, 0, true, r1), (0, 5, true, 74), (1, 1, true, x1), (3, 1, true, x3)] [(0, true, r2), (0, true, r1)] (sM s m2)
  refine hY _ _ _ _ ?_
  refine And.intro (fun hc => ?_) (fun hc => ?_)
  · have h := h.1 hc
    refine hY _ _ _ _ (hY _ _ _ _ (?_ : Y 22 [(5, 0, true, r1), (0, 5, true, 74), (1, 1, true, x1), (3, 1, true, x3)] [(0, true, 2), (0, true, r1)] (sM s m2)))
    refine hY _ _ _ _ ?_
    refine And.intro (fun hc => ?_) (fun hc => ?_)
    · have h := h.1 hc
      refine hY _ _ _ _ (hY _ _ _ _ (hY _ _ _ _ (?_ : Y 49 [(5, 0, true, r1), (0, 5, true, 74), (1, 1, true, x1), (3, 1, true, x3)] [(1, true, x1), (5, true, 77)] (sM s m2))))
      refine hY _ _ _ _ ?_
      refine Exists.intro _ (And.intro (wc_232_1t x1 _ _ h) (fun r3 m3 h => ?_))
      show Y 52 [(5, 0, true, r1), (0, 5, true, 74), (1, 1, true, x1), (3, 1, true, x3)] [(0, true, r3), (5, true, 77)] (sM s m3)
      refine hY _ _ _ _ ?_
      refine (And.intro h.1 (And.intro h.2.1 ?_))
      refine hY _ _ _ _ (hY _ _ _ _ (hY _ _ _ _ (?_ : Y 58 [(5, 0, true, r1), (0, 5, true, 74), (1, 1, true, x1), (3, 1, true, x3)] [(1, true, x3), (5, true, 77), (1, true, m3 77 r3)] (sM s m3))))
      refine hY _ _ _ _ ?_
      refine Exists.intro _ (And.intro (wc_232_1t x3 _ _ h.2.2) (fun r4 m4 h => ?_))
      show Y 61 [(5, 0, true, r1), (0, 5, true, 74), (1, 1, true, x1), (3, 1, true, x3)] [(0, true, r4), (5, true, 77), (1, true, m3 77 r3)] (sM s m4)
      refine hY _ _ _ _ ?_
      refine (And.intro h.1 (And.intro h.2.1 ?_))
      show Y 62 [(5, 0, true, r1), (0, 5, true, 74), (1, 1, true, x1), (3, 1, true, x3)] [(1, true, m4 77 r4), (1, true, m3 77 r3)] (sM s m4)
      refine hY _ _ _ _ ?_
      refine And.intro (fun hc => ?_) (fun hc => ?_)
      · have h := h.2.2.1 hc
        refine hY _ _ _ _ (?_ : Y 92 [(5, 0, true, r1), (0, 5, true, 74), (1, 1, true, x1), (3, 1, true, x3)] [(2, true, 0)] (sM s m4))
        refine hY _ _ _ _ ?_
        exact hQ 0 m4 h
      · have h := h.2.2.2 hc
        refine hY _ _ _ _ (hY _ _ _ _ (hY _ _ _ _ (?_ : Y 71 [(5, 0, true, r1), (0, 5, true, 74), (1, 1, true, x1), (3, 1, true, x3)] [(1, true, x1), (5, true, 78)] (sM s m4))))
        refine hY _ _ _ _ ?_
        refine Exists.intro _ (And.intro (wc_232_1t x1 _ _ h) (fun r5 m5 h => ?_))
        show Y 74 [(5, 0, true, r1), (0, 5, true, 74), (1, 1, true, x1), (3, 1, true, x3)] [(0, true, r5), (5, true, 78)] (sM s m5)
        refine hY _ _ _ _ ?_
        refine (And.intro h.1 (And.intro h.2.1 ?_))
        refine hY _ _ _ _ (hY _ _ _ _ (hY _ _ _ _ (?_ : Y 80 [(5, 0, true, r1), (0, 5, true, 74), (1, 1, true, x1), (3, 1, true, x3)] [(1, true, x3), (5, true, 78), (0, true, m5 78 r5)] (sM s m5))))
        refine hY _ _ _ _ ?_
        refine Exists.intro _ (And.intro (wc_232_1t x3 _ _ h.2.2) (fun r6 m6 h => ?_))
        show Y 83 [(5, 0, true, r1), (0, 5, true, 74), (1, 1, true, x1), (3, 1, true, x3)] [(0, true, r6), (5, true, 78), (0, true, m5 78 r5)] (sM s m6)
        refine hY _ _ _ _ ?_
        refine (And.intro h.1 (And.intro h.2.1 ?_))
        show Y 84 [(5, 0, true, r1), (0, 5, true, 74), (1, 1, true, x1), (3, 1, true, x3)] [(0, true, m6 78 r6), (0, true, m5 78 r5)] (sM s m6)
        refine hY _ _ _ _ ?_
        refine And.intro (fun hc => ?_) (fun hc => ?_)
        · have h := h.2.2.1 hc
          refine hY _ _ _ _ (?_ : Y 92 [(5, 0, true, r1), (0, 5, true, 74), (1, 1, true, x1), (3, 1, true, x3)] [(2, true, 0)] (sM s m6))
          refine hY _ _ _ _ ?_
          exact hQ 0 m6 h
        · have h := h.2.2.2 hc
          refine hY _ _ _ _ (hY _ _ _ _ (?_ : Y 92 [(5, 0, true, r1), (0, 5, true, 74), (1, 1, true, x1), (3, 1, true, x3)] [(2, true, 1)] (sM s m6)))
          refine hY _ _ _ _ ?_
          exact hQ 1 m6 h
    · have h := h.2 hc
      refine hY _ _ _ _ (hY _ _ _ _ (?_ : Y 27 [(5, 0, true, r1), (0, 5, true, 74), (1, 1, true, x1), (3, 1, true, x3)] [(1, true, x1), (5, true, 74)] (sM s m2)))
      refine hY _ _ _ _ ?_
      refine Exists.intro _ (And.intro (wc_239_r74_1t x1 _ _ h) (fun r7 m7 h => ?_))
      refine hY _ _ _ _ (hY _ _ _ _ (?_ : Y 32 [(5, 0, true, r1), (0, 5, true, 74), (1, 1, true, x1), (3, 1, true, x3)] [(1, true, x3), (5, true, 74), (0, true, r7)] (sM s m7)))
      refine hY _ _ _ _ ?_
      refine Exists.intro _ (And.intro (wc_239_r74_1t x3 _ _ h) (fun r8 m8 h => ?_))
      show Y 35 [(5, 0, true, r1), (0, 5, true, 74), (1, 1, true, x1), (3, 1, true, x3)] [(0, true, r8), (0, true, r7)] (sM s m8)
      refine hY _ _ _ _ ?_
      refine And.intro (fun hc => ?_) (fun hc => ?_)
      · have h := h.1 hc
        refine hY _ _ _ _ (?_ : Y 43 [(5, 0, true, r1), (0, 5, true, 74), (1, 1, true, x1), (3, 1, true, x3)] [(2, true, 0)] (sM s m8))
        refine hY _ _ _ _ ?_
        exact hQ 0 m8 h
      · have h := h.2 hc
        refine hY _ _ _ _ (hY _ _ _ _ (?_ : Y 43 [(5, 0, true, r1), (0, 5, true, 74), (1, 1, true, x1), (3, 1, true, x3)] [(2, true, 1)] (sM s m8)))
        refine hY _ _ _ _ ?_
        exact hQ 1 m8 h
  · have h := h.2 hc
    refine hY _ _ _ _ (?_ : Y 18 [(5, 0, true, r1), (0, 5, true, 74), (1, 1, true, x1), (3, 1, true, x3)] [(2, true, 0)] (sM s m2))
    refine hY _ _ _ _ ?_
    exact hQ 0 m2 h
def we_245 : sFf := sEf 6 [(0, 5, 74), (1, 1, 0), (3, 1, 0)] (fun xs s Q => ap2 (fun x1 x3 => wq_245 x1 x3 s.2.2.2 Q) xs)
theorem we_245_ok : kS dM 3 245 2 (.inl we_245) := sEf_ok (mi := im_m245) rfl rfl rfl (fun R xs s r1 hb => by obtain ⟨x1, x3, rfl, hb⟩ := ap2_ok hb; exact wk_245_0 _ R s x1 x3 (fun x m' hx => ⟨m', rfl, hx⟩) r1 hb)
/-- LMModel.isPairKnown(II)Z -/
def wq_246 (x1 : Int) (x2 : Int) (m : hy_m) (Q : Int → hy_m → Prop) : Prop := (x1 = (-9) → (Q 0 m)) ∧ (x1 ≠ (-9) → ((x2 = (-9) → (Q 0 m)) ∧ (x2 ≠ (-9) → (0 ≤ x1 ∧ x1 < 2500 ∧ (((m 97 x1) = (-1) → (Q 0 m)) ∧ ((m 97 x1) ≠ (-1) → (0 ≤ x2 ∧ x2 < 2500 ∧ (((m 97 x2) ≠ (-1) → (0 ≤ (iA ((31 * x1) + x2) 4095) ∧ (iA ((31 * x1) + x2) 4095) < 4096 ∧ (hy_r 1 (((((m 74 66) * 2500) + x1) * 2500) + x2) ∧ (((m 115 (iA ((31 * x1) + x2) 4095)) ≠ (((((m 74 66) * 2500) + x1) * 2500) + x2) → (0 ≤ (iA ((31 * x1) + x2) 4095) ∧ (iA ((31 * x1) + x2) 4095) < 4096 ∧ (hy_r 1 (((((m 74 66) * 2500) + x1) * 2500) + x2) ∧ (Q 0 (hy_u m 115 (iA ((31 * x1) + x2) 4095) (((((m 74 66) * 2500) + x1) * 2500) + x2)))))) ∧ ((m 115 (iA ((31 * x1) + x2) 4095)) = (((((m 74 66) * 2500) + x1) * 2500) + x2) → (0 ≤ (iA ((31 * x1) + x2) 4095) ∧ (iA ((31 * x1) + x2) 4095) < 4096 ∧ (hy_r 1 (((((m 74 66) * 2500) + x1) * 2500) + x2) ∧ (Q 1 (hy_u m 115 (iA ((31 * x1) + x2) 4095) (((((m 74 66) * 2500) + x1) * 2500) + x2)))))))))) ∧ ((m 97 x2) = (-1) → (Q 0 m))))))))))
def cs_246 : List (Nat × Nat × sFS) := []
theorem cs_246_ok : kCs dM 0 cs_246 := kCs_n
def lb_246_0 (s : sS) (Q : sQ) (R : Int → hy_m → Prop) (x1 : Int) (x2 : Int) : Nat → Option (sL → sS → Prop) := sLb []
set_option maxRecDepth 30000 in
set_option maxHeartbeats 1000000 in
theorem wk_246_0 (Q : sQ) (R : Int → hy_m → Prop) (s : sS) (x1 : Int) (x2 : Int) (hQ : ∀ x m', R x m' → Q x (sM s m')) (hr : sRg [(0, 5, 74), (1, 0, 0), (2, 0, 0)] [x1, x2]) (h : wq_246 x1 x2 s.2.2.2 R) : kX dM 0 im_m246 2 0 (sCan [(0, 5, 74), (1, 0, 0), (2, 0, 0)] [x1, x2]) [] s Q := by
  unfold wq_246 at h
  refine wz2_ok (cs := cs_246) (wr := []) (lb := lb_246_0 s Q R x1 x2) cs_246_ok kLb_n (okL_can rfl hr) (fun Y hY hl => ?_)
  refine hY _ _ _ _ (hY _ _ _ _ (?_ : Y 3 [(0, 5, true, 74), (1, 0, true, x1), (2, 0, true, x2)] [(0, true, (-9)), (0, true, x1)] s))
  refine hY _ _ _ _ ?_
  refine And.intro (fun hc => ?_) (fun hc => ?_)
  · have h := h.1 hc
    refine hY _ _ _ _ (?_ : Y 39 [(0, 5, true, 74), (1, 0, true, x1), (2, 0, true, x2)] [(2, true, 0)] s)
    refine hY _ _ _ _ ?_
    exact hQ 0 s.2.2.2 h
  · have h := h.2 hc
    refine hY _ _ _ _ (hY _ _ _ _ (?_ : Y 9 [(0, 5, true, 74), (1, 0, true, x1), (2, 0, true, x2)] [(0, true, (-9)), (0, true, x2)] s))
    refine hY _ _ _ _ ?_
    refine And.intro (fun hc => ?_) (fun hc => ?_)
    · have h := h.1 hc
      refine hY _ _ _ _ (?_ : Y 39 [(0, 5, true, 74), (1, 0, true, x1), (2, 0, true, x2)] [(2, true, 0)] s)
      refine hY _ _ _ _ ?_
      exact hQ 0 s.2.2.2 h
    · have h := h.2 hc
      refine hY _ _ _ _ (hY _ _ _ _ (hY _ _ _ _ (?_ : Y 17 [(0, 5, true, 74), (1, 0, true, x1), (2, 0, true, x2)] [(0, true, x1), (5, true, 97)] s)))
      refine hY _ _ _ _ ?_
      refine (And.intro h.1 (And.intro h.2.1 ?_))
      refine hY _ _ _ _ (?_ : Y 21 [(0, 5, true, 74), (1, 0, true, x1), (2, 0, true, x2)] [(1, true, (-1)), (1, true, s.2.2.2 97 x1)] s)
      refine hY _ _ _ _ ?_
      refine And.intro (fun hc => ?_) (fun hc => ?_)
      · have h := h.2.2.1 hc
        refine hY _ _ _ _ (?_ : Y 39 [(0, 5, true, 74), (1, 0, true, x1), (2, 0, true, x2)] [(2, true, 0)] s)
        refine hY _ _ _ _ ?_
        exact hQ 0 s.2.2.2 h
      · have h := h.2.2.2 hc
        refine hY _ _ _ _ (hY _ _ _ _ (hY _ _ _ _ (?_ : Y 30 [(0, 5, true, 74), (1, 0, true, x1), (2, 0, true, x2)] [(0, true, x2), (5, true, 97)] s)))
        refine hY _ _ _ _ ?_
        refine (And.intro h.1 (And.intro h.2.1 ?_))
        refine hY _ _ _ _ (?_ : Y 34 [(0, 5, true, 74), (1, 0, true, x1), (2, 0, true, x2)] [(1, true, (-1)), (1, true, s.2.2.2 97 x2)] s)
        refine hY _ _ _ _ ?_
        refine And.intro (fun hc => ?_) (fun hc => ?_)
        · have h := h.2.2.1 hc
          refine hY _ _ _ _ (hY _ _ _ _ (hY _ _ _ _ (?_ : Y 47 [(0, 5, true, 74), (1, 0, true, x1), (2, 0, true, x2)] [(1, true, 2500), (1, true, s.2.2.2 74 66)] s)))
          refine hY _ _ _ _ (hY _ _ _ _ (?_ : Y 49 [(0, 5, true, 74), (1, 0, true, x1), (2, 0, true, x2)] [(0, true, x1), (1, false, (s.2.2.2 74 66) * 2500)] s))
          refine hY _ _ _ _ ?_
          refine hY _ _ _ _ (hY _ _ _ _ (hY _ _ _ _ (?_ : Y 55 [(0, 5, true, 74), (1, 0, true, x1), (2, 0, true, x2)] [(1, false, (((s.2.2.2 74 66) * 2500) + x1) * 2500)] s)))
          refine hY _ _ _ _ (?_ : Y 56 [(0, 5, true, 74), (1, 0, true, x1), (2, 0, true, x2)] [(0, true, x2), (1, false, (((s.2.2.2 74 66) * 2500) + x1) * 2500)] s)
          refine hY _ _ _ _ ?_
          refine hY _ _ _ _ (hY _ _ _ _ (hY _ _ _ _ (?_ : Y 61 [(3, 1, false, ((((s.2.2.2 74 66) * 2500) + x1) * 2500) + x2), (0, 5, true, 74), (1, 0, true, x1), (2, 0, true, x2)] [(0, true, 31)] s)))
          refine hY _ _ _ _ (hY _ _ _ _ (hY _ _ _ _ (?_ : Y 64 [(3, 1, false, ((((s.2.2.2 74 66) * 2500) + x1) * 2500) + x2), (0, 5, true, 74), (1, 0, true, x1), (2, 0, true, x2)] [(0, true, x2), (0, false, 31 * x1)] s)))
          refine hY _ _ _ _ (hY _ _ _ _ (?_ : Y 68 [(3, 1, false, ((((s.2.2.2 74 66) * 2500) + x1) * 2500) + x2), (0, 5, true, 74), (1, 0, true, x1), (2, 0, true, x2)] [(0, true, 4095), (0, false, (31 * x1) + x2)] s))
          refine hY _ _ _ _ (?_ : Y 69 [(3, 1, false, ((((s.2.2.2 74 66) * 2500) + x1) * 2500) + x2), (0, 5, true, 74), (1, 0, true, x1), (2, 0, true, x2)] [(0, true, iA ((31 * x1) + x2) 4095)] s)
          refine hY _ _ _ _ (hY _ _ _ _ (hY _ _ _ _ (?_ : Y 75 [(5, 0, true, iA ((31 * x1) + x2) 4095), (3, 1, false, ((((s.2.2.2 74 66) * 2500) + x1) * 2500) + x2), (0, 5, true, 74), (1, 0, true, x1), (2, 0, true, x2)] [(5, true, 115)] s)))
          refine hY _ _ _ _ (?_ : Y 77 [(5, 0, true, iA ((31 * x1) + x2) 4095), (3, 1, false, ((((s.2.2.2 74 66) * 2500) + x1) * 2500) + x2), (0, 5, true, 74), (1, 0, true, x1), (2, 0, true, x2)] [(0, true, iA ((31 * x1) + x2) 4095), (5, true, 115)] s)
          refine hY _ _ _ _ ?_
          refine (And.intro h.1 (And.intro h.2.1 ?_))
          refine hY _ _ _ _ (?_ : Y 79 [(5, 0, true, iA ((31 * x1) + x2) 4095), (3, 1, false, ((((s.2.2.2 74 66) * 2500) + x1) * 2500) + x2), (0, 5, true, 74), (1, 0, true, x1), (2, 0, true, x2)] [(1, false, ((((s.2.2.2 74 66) * 2500) + x1) * 2500) + x2), (1, true, s.2.2.2 115 (iA ((31 * x1) + x2) 4095))] s)
          refine hY _ _ _ _ ?_
          refine And.intro h.2.2.1 ?_
          refine And.intro (fun hc => ?_) (fun hc => ?_)
          · have h := h.2.2.2.1 hc
            refine hY _ _ _ _ (hY _ _ _ _ (hY _ _ _ _ (?_ : Y 91 [(6, 2, true, 0), (5, 0, true, iA ((31 * x1) + x2) 4095), (3, 1, false, ((((s.2.2.2 74 66) * 2500) + x1) * 2500) + x2), (0, 5, true, 74), (1, 0, true, x1), (2, 0, true, x2)] [(5, true, 74)] s)))
            refine hY _ _ _ _ (hY _ _ _ _ (hY _ _ _ _ (?_ : Y 97 [(6, 2, true, 0), (5, 0, true, iA ((31 * x1) + x2) 4095), (3, 1, false, ((((s.2.2.2 74 66) * 2500) + x1) * 2500) + x2), (0, 5, true, 74), (1, 0, true, x1), (2, 0, true, x2)] [(1, false, ((((s.2.2.2 74 66) * 2500) + x1) * 2500) + x2), (0, true, iA ((31 * x1) + x2) 4095), (5, true, 115)] s)))
            refine hY _ _ _ _ ?_
            refine (And.intro h.1 (And.intro h.2.1 ?_))
            refine And.intro h.2.2.1 ?_
            refine hY _ _ _ _ (?_ : Y 100 [(6, 2, true, 0), (5, 0, true, iA ((31 * x1) + x2) 4095), (3, 1, false, ((((s.2.2.2 74 66) * 2500) + x1) * 2500) + x2), (0, 5, true, 74), (1, 0, true, x1), (2, 0, true, x2)] [(2, true, 0)] (sM s (hy_u s.2.2.2 115 (iA ((31 * x1) + x2) 4095) (((((s.2.2.2 74 66) * 2500) + x1) * 2500) + x2))))
            refine hY _ _ _ _ ?_
            exact hQ 0 (hy_u s.2.2.2 115 (iA ((31 * x1) + x2) 4095) (((((s.2.2.2 74 66) * 2500) + x1) * 2500) + x2)) h.2.2.2
          · have h := h.2.2.2.2 hc
            refine hY _ _ _ _ (hY _ _ _ _ (hY _ _ _ _ (?_ : Y 90 [(6, 2, true, 1), (5, 0, true, iA ((31 * x1) + x2) 4095), (3, 1, false, ((((s.2.2.2 74 66) * 2500) + x1) * 2500) + x2), (0, 5, true, 74), (1, 0, true, x1), (2, 0, true, x2)] [] s)))
            refine hY _ _ _ _ (hY _ _ _ _ (hY _ _ _ _ (?_ : Y 96 [(6, 2, true, 1), (5, 0, true, iA ((31 * x1) + x2) 4095), (3, 1, false, ((((s.2.2.2 74 66) * 2500) + x1) * 2500) + x2), (0, 5, true, 74), (1, 0, true, x1), (2, 0, true, x2)] [(0, true, iA ((31 * x1) + x2) 4095), (5, true, 115)] s)))
            refine hY _ _ _ _ (?_ : Y 97 [(6, 2, true, 1), (5, 0, true, iA ((31 * x1) + x2) 4095), (3, 1, false, ((((s.2.2.2 74 66) * 2500) + x1) * 2500) + x2), (0, 5, true, 74), (1, 0, true, x1), (2, 0, true, x2)] [(1, false, ((((s.2.2.2 74 66) * 2500) + x1) * 2500) + x2), (0, true, iA ((31 * x1) + x2) 4095), (5, true, 115)] s)
            refine hY _ _ _ _ ?_
            refine (And.intro h.1 (And.intro h.2.1 ?_))
            refine And.intro h.2.2.1 ?_
            refine hY _ _ _ _ (?_ : Y 100 [(6, 2, true, 1), (5, 0, true, iA ((31 * x1) + x2) 4095), (3, 1, false, ((((s.2.2.2 74 66) * 2500) + x1) * 2500) + x2), (0, 5, true, 74), (1, 0, true, x1), (2, 0, true, x2)] [(2, true, 1)] (sM s (hy_u s.2.2.2 115 (iA ((31 * x1) + x2) 4095) (((((s.2.2.2 74 66) * 2500) + x1) * 2500) + x2))))
            refine hY _ _ _ _ ?_
            exact hQ 1 (hy_u s.2.2.2 115 (iA ((31 * x1) + x2) 4095) (((((s.2.2.2 74 66) * 2500) + x1) * 2500) + x2)) h.2.2.2
        · have h := h.2.2.2 hc
          refine hY _ _ _ _ (?_ : Y 39 [(0, 5, true, 74), (1, 0, true, x1), (2, 0, true, x2)] [(2, true, 0)] s)
          refine hY _ _ _ _ ?_
          exact hQ 0 s.2.2.2 h
def we_246 : sFf := sEf 7 [(0, 5, 74), (1, 0, 0), (2, 0, 0)] (fun xs s Q => ap2 (fun x1 x2 => wq_246 x1 x2 s.2.2.2 Q) xs)
theorem we_246_ok : kS dM 1 246 2 (.inl we_246) := sEf_ok (mi := im_m246) rfl rfl rfl (fun R xs s r1 hb => by obtain ⟨x1, x2, rfl, hb⟩ := ap2_ok hb; exact wk_246_0 _ R s x1 x2 (fun x m' hx => ⟨m', rfl, hx⟩) r1 hb)
