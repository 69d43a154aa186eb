/-- LMModel.unifies(JJ)Z -/
def wf_247_179 (P27 : Int → hy_m → Prop) (x6 : Int) (x8 : Int) (Q : Int → hy_m → Prop) (P179 : Int → Int → hy_m → Prop) (x5 : Int) (x10 : Int) (m : hy_m) : Prop := (x10 < 0 → (P27 x5 m)) ∧ (0 ≤ x10 → (wq_236 x6 x10 m (fun r1 m1 => 0 ≤ (2 * x5) ∧ (2 * x5) < 50000 ∧ (wq_236 x8 x10 (hy_u m1 111 (2 * x5) r1) (fun r2 m2 => 0 ≤ ((2 * x5) + 1) ∧ ((2 * x5) + 1) < 50000 ∧ (hy_r 0 (x5 + 1) ∧ (hy_r 0 (x10 + (-1)) ∧ (P179 (x5 + 1) (x10 + (-1)) (hy_u m2 111 ((2 * x5) + 1) r2)))))))))
def wq_247_179 (P27 : Int → hy_m → Prop) (x5 : Int) (x6 : Int) (x8 : Int) (x10 : Int) (m : hy_m) (Q : Int → hy_m → Prop) : Prop := wL2 hy_m (wf_247_179 P27 x6 x8 Q) x5 x10 m
def wf_247_27 (Q : Int → hy_m → Prop) (P27 : Int → hy_m → Prop) (x5 : Int) (m : hy_m) : Prop := (x5 ≤ 0 → (Q 1 m)) ∧ (0 < x5 → (0 ≤ (2 * (x5 + (-1))) ∧ (2 * (x5 + (-1))) < 50000 ∧ (wq_241 (m 111 (2 * (x5 + (-1)))) m (fun r1 m1 => 0 ≤ ((2 * (x5 + (-1))) + 1) ∧ ((2 * (x5 + (-1))) + 1) < 50000 ∧ (wq_241 (m1 111 ((2 * (x5 + (-1))) + 1)) m1 (fun r2 m2 => wq_246 r1 r2 m2 (fun r3 m3 => (r3 = 0 → (0 ≤ (2 * (x5 + (-1))) ∧ (2 * (x5 + (-1))) < 50000 ∧ (wq_237 (m3 111 (2 * (x5 + (-1)))) m3 (fun r4 m4 => 0 ≤ ((2 * (x5 + (-1))) + 1) ∧ ((2 * (x5 + (-1))) + 1) < 50000 ∧ (wq_237 (m4 111 ((2 * (x5 + (-1))) + 1)) m4 (fun r5 m5 => wq_230 r4 m5 (fun r6 m6 => (r6 ≠ 0 → (wq_244 r4 r5 m6 (fun r7 m7 => (r7 ≠ 0 → (hy_r 0 (x5 + (-1)) ∧ (P27 (x5 + (-1)) m7))) ∧ (r7 = 0 → (Q 0 m7))))) ∧ (r6 = 0 → (wq_230 r5 m6 (fun r8 m8 => (r8 = 0 → (wq_245 r4 r5 m8 (fun r9 m9 => (r9 ≠ 0 → ((r4 = r5 → (hy_r 0 (x5 + (-1)) ∧ (P27 (x5 + (-1)) m9))) ∧ (r4 ≠ r5 → (wq_238 r4 m9 (fun r10 m10 => (r10 ≠ 4 → (hy_r 0 (x5 + (-1)) ∧ (P27 (x5 + (-1)) m10))) ∧ (r10 = 4 → (wq_232 r4 m10 (fun r11 m11 => 0 ≤ r11 ∧ r11 < 3584 ∧ (hy_r 0 (x5 + (-1)) ∧ (hy_r 0 ((m11 78 r11) - 1) ∧ (wq_247_179 P27 (x5 + (-1)) r4 r5 ((m11 78 r11) - 1) m11 Q))))))))))) ∧ (r9 = 0 → (Q 0 m9))))) ∧ (r8 ≠ 0 → (wq_244 r4 r5 m8 (fun r12 m12 => (r12 ≠ 0 → (hy_r 0 (x5 + (-1)) ∧ (P27 (x5 + (-1)) m12))) ∧ (r12 = 0 → (Q 0 m12))))))))))))))) ∧ (r3 ≠ 0 → (hy_r 0 (x5 + (-1)) ∧ (P27 (x5 + (-1)) m3))))))))))
def wq_247_27 (x5 : Int) (m : hy_m) (Q : Int → hy_m → Prop) : Prop := wL1 hy_m (wf_247_27 Q) x5 m
def wq_247 (x1 : Int) (x3 : Int) (m : hy_m) (Q : Int → hy_m → Prop) : Prop := 0 ≤ (0 : Int) ∧ (0 : Int) < 50000 ∧ (0 ≤ (1 : Int) ∧ (1 : Int) < 50000 ∧ (hy_r 1 ((m 74 66) + 1) ∧ (wq_247_27 1 (hy_u (hy_u (hy_u m 111 0 x1) 111 1 x3) 74 66 ((m 74 66) + 1)) Q)))
theorem wc_246_r74_0t_0t (x1 : Int) (x2 : Int) (s : sS) (R : Int → hy_m → Prop) (h : wq_246 x1 x2 s.2.2.2 R) : we_246 [(5, true, 74), (0, true, x1), (0, true, x2)] s R := h
theorem wc_244_r74_1t_1t (x1 : Int) (x2 : Int) (s : sS) (R : Int → hy_m → Prop) (h : wq_244 x1 x2 s.2.2.2 R) : we_244 [(5, true, 74), (1, true, x1), (1, true, x2)] s R := h
theorem wc_245_r74_1t_1t (x1 : Int) (x2 : Int) (s : sS) (R : Int → hy_m → Prop) (h : wq_245 x1 x2 s.2.2.2 R) : we_245 [(5, true, 74), (1, true, x1), (1, true, x2)] s R := h
def cs_247 : List (Nat × Nat × sFS) := [(230, 2, .inl we_230), (232, 0, .inl we_232), (236, 1, .inl we_236), (237, 1, .inl we_237), (238, 0, .inl we_238), (241, 0, .inl we_241), (244, 2, .inl we_244), (245, 2, .inl we_245), (246, 2, .inl we_246)]
theorem cs_247_ok : kCs dM 4 cs_247 := (kCs_c (Or.inr (Or.inr (Or.inl rfl))) (we_230_ok.deep (by decide)) (kCs_c (Or.inl rfl) (we_232_ok.deep (by decide)) (kCs_c (Or.inr (Or.inl rfl)) (we_236_ok.deep (by decide)) (kCs_c (Or.inr (Or.inl rfl)) (we_237_ok.deep (by decide)) (kCs_c (Or.inl rfl) (we_238_ok.deep (by decide)) (kCs_c (Or.inl rfl) (we_241_ok.deep (by decide)) (kCs_c (Or.inr (Or.inr (Or.inl rfl))) (we_244_ok.deep (by decide)) (kCs_c (Or.inr (Or.inr (Or.inl rfl))) (we_245_ok.deep (by decide)) (kCs_c (Or.inr (Or.inr (Or.inl rfl))) (we_246_ok.deep (by decide)) kCs_n)))))))))
def lb_247_179 (s : sS) (Q : sQ) (P27 : Int → hy_m → Prop) (P179 : Int → Int → hy_m → Prop) (R : Int → hy_m → Prop) (x5 : Int) (x6 : Int) (x8 : Int) (x10 : Int) : Nat → Option (sL → sS → Prop) := sLb [(27, fun lv t => sG [(0, 5, 74), (5, 0, 0)] lv (ap1 (fun w5 => ∃ m', t = sM s m' ∧ P27 w5 m'))), (179, fun lv t => sG [(0, 5, 74), (5, 0, 0), (6, 1, 0), (8, 1, 0), (10, 0, 0)] lv (ap4 (fun w5 w6 w8 w10 => ∃ m', t = sM s m' ∧ w6 = x6 ∧ w8 = x8 ∧ P179 w5 w10 m')))]
set_option maxRecDepth 30000 in
set_option maxHeartbeats 1000000 in
theorem wj_247_179 (Q : sQ) (R : Int → hy_m → Prop) (s : sS) (P27 : Int → hy_m → Prop) (P179 : Int → Int → hy_m → Prop) (x5 : Int) (x6 : Int) (x8 : Int) (x10 : Int) (m : hy_m) (hP27 : ∀ (z5 : Int) (m : hy_m), P27 z5 m → sRg [(0, 5, 74), (5, 0, 0)] [z5] → kX dM 4 im_m247 2 27 (sCan [(0, 5, 74), (5, 0, 0)] [z5]) [] (sM s m) Q) (hP179 : ∀ (z5 z10 : Int) (m : hy_m), P179 z5 z10 m → sRg [(0, 5, 74), (5, 0, 0), (6, 1, 0), (8, 1, 0), (10, 0, 0)] [z5, x6, x8, z10] → kX dM 4 im_m247 2 179 (sCan [(0, 5, 74), (5, 0, 0), (6, 1, 0), (8, 1, 0), (10, 0, 0)] [z5, x6, x8, z10]) [] (sM s m) Q) (hQ : ∀ x m', R x m' → Q x (sM s m')) (hr : sRg [(0, 5, 74), (5, 0, 0), (6, 1, 0), (8, 1, 0), (10, 0, 0)] [x5, x6, x8, x10]) (h : wf_247_179 P27 x6 x8 R P179 x5 x10 m) : kX dM 4 im_m247 2 179 (sCan [(0, 5, 74), (5, 0, 0), (6, 1, 0), (8, 1, 0), (10, 0, 0)] [x5, x6, x8, x10]) [] (sM s m) Q := by
  unfold wf_247_179 at h
  refine wz2_ok (cs := cs_247) (wr := []) (lb := lb_247_179 s Q P27 P179 R x5 x6 x8 x10) cs_247_ok (kLb_c (kLab (Bd := fun xs t => ap1 (fun w5 => ∃ m', t = sM s m' ∧ P27 w5 m') xs) rfl (fun xs t r1 r2 hb => by obtain ⟨w5, rfl, hb⟩ := ap1_ok hb; obtain ⟨m', rfl, hx⟩ := hb; exact hP27 _ m' hx r1)) (kLb_c (kLab (Bd := fun xs t => ap4 (fun w5 w6 w8 w10 => ∃ m', t = sM s m' ∧ w6 = x6 ∧ w8 = x8 ∧ P179 w5 w10 m') xs) rfl (fun xs t r1 r2 hb => by obtain ⟨w5, w6, w8, w10, rfl, hb⟩ := ap4_ok hb; obtain ⟨m', rfl, rfl, rfl, hx⟩ := hb; exact hP179 _ _ m' hx r1)) kLb_n)) (okL_can rfl hr) (fun Y hY hl => ?_)
  have l27 := hl 27 _ rfl
  have l179 := hl 179 _ rfl
  refine hY _ _ _ _ (?_ : Y 181 [(0, 5, true, 74), (5, 0, true, x5), (6, 1, true, x6), (8, 1, true, x8), (10, 0, true, x10)] [(0, true, x10)] (sM s m))
  refine hY _ _ _ _ ?_
  refine And.intro (fun hc => ?_) (fun hc => ?_)
  · have h := h.1 hc
    refine hY _ _ _ _ (?_ : Y 27 [(0, 5, true, 74), (5, 0, true, x5), (6, 1, true, x6), (8, 1, true, x8), (10, 0, true, x10)] [] (sM s m))
    refine l27 _ _ ?_
    exact (Exists.intro m (And.intro rfl h))
  · have h := h.2 hc
    refine hY _ _ _ _ (hY _ _ _ _ (hY _ _ _ _ (?_ : Y 189 [(0, 5, true, 74), (5, 0, true, x5), (6, 1, true, x6), (8, 1, true, x8), (10, 0, true, x10)] [(0, true, 2), (5, true, 111)] (sM s m))))
    refine hY _ _ _ _ (hY _ _ _ _ (hY _ _ _ _ (?_ : Y 193 [(0, 5, true, 74), (5, 0, true, x5), (6, 1, true, x6), (8, 1, true, x8), (10, 0, true, x10)] [(5, true, 74), (0, false, 2 * x5), (5, true, 111)] (sM s m))))
    refine hY _ _ _ _ (hY _ _ _ _ (?_ : Y 197 [(0, 5, true, 74), (5, 0, true, x5), (6, 1, true, x6), (8, 1, true, x8), (10, 0, true, x10)] [(0, true, x10), (1, true, x6), (5, true, 74), (0, false, 2 * x5), (5, true, 111)] (sM s m)))
    refine hY _ _ _ _ ?_
    refine Exists.intro _ (And.intro (wc_236_r74_1t_0t x6 x10 _ _ h) (fun r1 m1 h => ?_))
    show Y 200 [(0, 5, true, 74), (5, 0, true, x5), (6, 1, true, x6), (8, 1, true, x8), (10, 0, true, x10)] [(1, true, r1), (0, false, 2 * x5), (5, true, 111)] (sM s m1)
    refine hY _ _ _ _ ?_
    refine (And.intro h.1 (And.intro h.2.1 ?_))
    refine hY _ _ _ _ (hY _ _ _ _ (hY _ _ _ _ (?_ : Y 206 [(0, 5, true, 74), (5, 0, true, x5), (6, 1, true, x6), (8, 1, true, x8), (10, 0, true, x10)] [(0, true, 2), (5, true, 111)] (sM s (hy_u m1 111 (2 * x5) r1)))))
    refine hY _ _ _ _ (hY _ _ _ _ (hY _ _ _ _ (?_ : Y 210 [(0, 5, true, 74), (5, 0, true, x5), (6, 1, true, x6), (8, 1, true, x8), (10, 0, true, x10)] [(2, true, 1), (0, false, 2 * x5), (5, true, 111)] (sM s (hy_u m1 111 (2 * x5) r1)))))
    refine hY _ _ _ _ (hY _ _ _ _ (hY _ _ _ _ (?_ : Y 214 [(0, 5, true, 74), (5, 0, true, x5), (6, 1, true, x6), (8, 1, true, x8), (10, 0, true, x10)] [(1, true, x8), (5, true, 74), (0, false, (2 * x5) + 1), (5, true, 111)] (sM s (hy_u m1 111 (2 * x5) r1)))))
    refine hY _ _ _ _ (?_ : Y 216 [(0, 5, true, 74), (5, 0, true, x5), (6, 1, true, x6), (8, 1, true, x8), (10, 0, true, x10)] [(0, true, x10), (1, true, x8), (5, true, 74), (0, false, (2 * x5) + 1), (5, true, 111)] (sM s (hy_u m1 111 (2 * x5) r1)))
    refine hY _ _ _ _ ?_
    refine Exists.intro _ (And.intro (wc_236_r74_1t_0t x8 x10 _ _ h.2.2) (fun r2 m2 h => ?_))
    show Y 219 [(0, 5, true, 74), (5, 0, true, x5), (6, 1, true, x6), (8, 1, true, x8), (10, 0, true, x10)] [(1, true, r2), (0, false, (2 * x5) + 1), (5, true, 111)] (sM s m2)
    refine hY _ _ _ _ ?_
    refine (And.intro h.1 (And.intro h.2.1 ?_))
    refine hY _ _ _ _ (hY _ _ _ _ (hY _ _ _ _ (?_ : Y 179 [(10, 0, false, x10 + (-1)), (5, 0, false, x5 + 1), (0, 5, true, 74), (6, 1, true, x6), (8, 1, true, x8)] [] (sM s (hy_u m2 111 ((2 * x5) + 1) r2)))))
    refine l179 _ _ ?_
    refine And.intro h.2.2.1 ?_
    refine And.intro h.2.2.2.1 ?_
    exact (Exists.intro (hy_u m2 111 ((2 * x5) + 1) r2) (And.intro rfl (And.intro rfl (And.intro rfl h.2.2.2.2))))
theorem wk_247_179 (Q : sQ) (R : Int → hy_m → Prop) (s : sS) (P27 : Int → hy_m → Prop) (x5 : Int) (x6 : Int) (x8 : Int) (x10 : Int) (hP27 : ∀ (z5 : Int) (m : hy_m), P27 z5 m → sRg [(0, 5, 74), (5, 0, 0)] [z5] → kX dM 4 im_m247 2 27 (sCan [(0, 5, 74), (5, 0, 0)] [z5]) [] (sM s m) Q) (hQ : ∀ x m', R x m' → Q x (sM s m')) (hr : sRg [(0, 5, 74), (5, 0, 0), (6, 1, 0), (8, 1, 0), (10, 0, 0)] [x5, x6, x8, x10]) (h : wq_247_179 P27 x5 x6 x8 x10 s.2.2.2 R) : kX dM 4 im_m247 2 179 (sCan [(0, 5, 74), (5, 0, 0), (6, 1, 0), (8, 1, 0), (10, 0, 0)] [x5, x6, x8, x10]) [] s Q :=
  h (fun x5 x10 m => sRg [(0, 5, 74), (5, 0, 0), (6, 1, 0), (8, 1, 0), (10, 0, 0)] [x5, x6, x8, x10] → kX dM 4 im_m247 2 179 (sCan [(0, 5, 74), (5, 0, 0), (6, 1, 0), (8, 1, 0), (10, 0, 0)] [x5, x6, x8, x10]) [] (sM s m) Q) (fun x5 x10 m h hr => wj_247_179 Q R s P27 (fun x5 x10 m => sRg [(0, 5, 74), (5, 0, 0), (6, 1, 0), (8, 1, 0), (10, 0, 0)] [x5, x6, x8, x10] → kX dM 4 im_m247 2 179 (sCan [(0, 5, 74), (5, 0, 0), (6, 1, 0), (8, 1, 0), (10, 0, 0)] [x5, x6, x8, x10]) [] (sM s m) Q) x5 x6 x8 x10 m  hP27 (fun _ _ _ hp hr => hp hr) hQ hr h) hr
def lb_247_27 (s : sS) (Q : sQ) (P27 : Int → hy_m → Prop) (R : Int → hy_m → Prop) (x5 : Int) : Nat → Option (sL → sS → Prop) := sLb [(179, fun lv t => sG [(0, 5, 74), (5, 0, 0), (6, 1, 0), (8, 1, 0), (10, 0, 0)] lv (ap4 (fun w5 w6 w8 w10 => ∃ m', t = sM s m' ∧ wq_247_179 P27 w5 w6 w8 w10 m' R))), (27, fun lv t => sG [(0, 5, 74), (5, 0, 0)] lv (ap1 (fun w5 => ∃ m', t = sM s m' ∧ P27 w5 m')))]
set_option maxRecDepth 30000 in
set_option maxHeartbeats 1000000 in
theorem wj_247_27 (Q : sQ) (R : Int → hy_m → Prop) (s : sS) (P27 : Int → hy_m → Prop) (x5 : Int) (m : hy_m) (hP27 : ∀ (z5 : Int) (m : hy_m), P27 z5 m → sRg [(0, 5, 74), (5, 0, 0)] [z5] → kX dM 4 im_m247 2 27 (sCan [(0, 5, 74), (5, 0, 0)] [z5]) [] (sM s m) Q) (hQ : ∀ x m', R x m' → Q x (sM s m')) (hr : sRg [(0, 5, 74), (5, 0, 0)] [x5]) (h : wf_247_27 R P27 x5 m) : kX dM 4 im_m247 2 27 (sCan [(0, 5, 74), (5, 0, 0)] [x5]) [] (sM s m) Q := by
  unfold wf_247_27 at h
  refine wz2_ok (cs := cs_247) (wr := []) (lb := lb_247_27 s Q P27 R x5) cs_247_ok (kLb_c (kLab (Bd := fun xs t => ap4 (fun w5 w6 w8 w10 => ∃ m', t = sM s m' ∧ wq_247_179 P27 w5 w6 w8 w10 m' R) xs) rfl (fun xs t r1 r2 hb => by obtain ⟨w5, w6, w8, w10, rfl, hb⟩ := ap4_ok hb; obtain ⟨m', rfl, hx⟩ := hb; exact wk_247_179 Q R (sM s m') P27 _ _ _ _ hP27 (fun x m'' hy => hQ x m'' hy) r1 hx)) (kLb_c (kLab (Bd := fun xs t => ap1 (fun w5 => ∃ m', t = sM s m' ∧ P27 w5 m') xs) rfl (fun xs t r1 r2 hb => by obtain ⟨w5, rfl, hb⟩ := ap1_ok hb; obtain ⟨m', rfl, hx⟩ := hb; exact hP27 _ m' hx r1)) kLb_n)) (okL_can rfl hr) (fun Y hY hl => ?_)
  have l179 := hl 179 _ rfl
  have l27 := hl 27 _ rfl
  refine hY _ _ _ _ (?_ : Y 29 [(0, 5, true, 74), (5, 0, true, x5)] [(0, true, x5)] (sM s m))
  refine hY _ _ _ _ ?_
  refine And.intro (fun hc => ?_) (fun hc => ?_)
  · have h := h.1 hc
    refine hY _ _ _ _ (?_ : Y 233 [(0, 5, true, 74), (5, 0, true, x5)] [(2, true, 1)] (sM s m))
    refine hY _ _ _ _ ?_
    exact hQ 1 m h
  · have h := h.2 hc
    refine hY _ _ _ _ (hY _ _ _ _ (hY _ _ _ _ (?_ : Y 37 [(5, 0, false, x5 + (-1)), (0, 5, true, 74)] [(5, true, 74), (5, true, 74)] (sM s m))))
    refine hY _ _ _ _ (hY _ _ _ _ (hY _ _ _ _ (?_ : Y 42 [(5, 0, false, x5 + (-1)), (0, 5, true, 74)] [(0, true, 2), (5, true, 111), (5, true, 74), (5, true, 74)] (sM s m))))
    refine hY _ _ _ _ (hY _ _ _ _ (?_ : Y 45 [(5, 0, false, x5 + (-1)), (0, 5, true, 74)] [(0, false, 2 * (x5 + (-1))), (5, true, 111), (5, true, 74), (5, true, 74)] (sM s m)))
    refine hY _ _ _ _ ?_
    refine (And.intro h.1 (And.intro h.2.1 ?_))
    show Y 46 [(5, 0, false, x5 + (-1)), (0, 5, true, 74)] [(1, true, m 111 (2 * (x5 + (-1)))), (5, true, 74), (5, true, 74)] (sM s m)
    refine hY _ _ _ _ ?_
    refine Exists.intro _ (And.intro (wc_241_r74_1t (m 111 (2 * (x5 + (-1)))) _ _ h.2.2) (fun r1 m1 h => ?_))
    refine hY _ _ _ _ (hY _ _ _ _ (hY _ _ _ _ (?_ : Y 54 [(5, 0, false, x5 + (-1)), (0, 5, true, 74)] [(5, true, 111), (5, true, 74), (0, true, r1), (5, true, 74)] (sM s m1))))
    refine hY _ _ _ _ (hY _ _ _ _ (hY _ _ _ _ (?_ : Y 58 [(5, 0, false, x5 + (-1)), (0, 5, true, 74)] [(0, false, 2 * (x5 + (-1))), (5, true, 111), (5, true, 74), (0, true, r1), (5, true, 74)] (sM s m1))))
    refine hY _ _ _ _ (hY _ _ _ _ (?_ : Y 60 [(5, 0, false, x5 + (-1)), (0, 5, true, 74)] [(0, false, (2 * (x5 + (-1))) + 1), (5, true, 111), (5, true, 74), (0, true, r1), (5, true, 74)] (sM s m1)))
    refine hY _ _ _ _ ?_
    refine (And.intro h.1 (And.intro h.2.1 ?_))
    show Y 61 [(5, 0, false, x5 + (-1)), (0, 5, true, 74)] [(1, true, m1 111 ((2 * (x5 + (-1))) + 1)), (5, true, 74), (0, true, r1), (5, true, 74)] (sM s m1)
    refine hY _ _ _ _ ?_
    refine Exists.intro _ (And.intro (wc_241_r74_1t (m1 111 ((2 * (x5 + (-1))) + 1)) _ _ h.2.2) (fun r2 m2 h => ?_))
    show Y 64 [(5, 0, false, x5 + (-1)), (0, 5, true, 74)] [(0, true, r2), (0, true, r1), (5, true, 74)] (sM s m2)
    refine hY _ _ _ _ ?_
    refine Exists.intro _ (And.intro (wc_246_r74_0t_0t r1 r2 _ _ h) (fun r3 m3 h => ?_))
    show Y 67 [(5, 0, false, x5 + (-1)), (0, 5, true, 74)] [(2, true, r3)] (sM s m3)
    refine hY _ _ _ _ ?_
    refine And.intro (fun hc => ?_) (fun hc => ?_)
    · have h := h.1 hc
      refine hY _ _ _ _ (hY _ _ _ _ (hY _ _ _ _ (?_ : Y 78 [(5, 0, false, x5 + (-1)), (0, 5, true, 74)] [(5, true, 111), (5, true, 74)] (sM s m3))))
      refine hY _ _ _ _ (hY _ _ _ _ (hY _ _ _ _ (?_ : Y 82 [(5, 0, false, x5 + (-1)), (0, 5, true, 74)] [(0, false, 2 * (x5 + (-1))), (5, true, 111), (5, true, 74)] (sM s m3))))
      refine hY _ _ _ _ ?_
      refine (And.intro h.1 (And.intro h.2.1 ?_))
      show Y 83 [(5, 0, false, x5 + (-1)), (0, 5, true, 74)] [(1, true, m3 111 (2 * (x5 + (-1)))), (5, true, 74)] (sM s m3)
      refine hY _ _ _ _ ?_
      refine Exists.intro _ (And.intro (wc_237_r74_1t (m3 111 (2 * (x5 + (-1)))) _ _ h.2.2) (fun r4 m4 h => ?_))
      refine hY _ _ _ _ (hY _ _ _ _ (hY _ _ _ _ (?_ : Y 90 [(6, 1, true, r4), (5, 0, false, x5 + (-1)), (0, 5, true, 74)] [(5, true, 74), (5, true, 74)] (sM s m4))))
      refine hY _ _ _ _ (hY _ _ _ _ (hY _ _ _ _ (?_ : Y 96 [(6, 1, true, r4), (5, 0, false, x5 + (-1)), (0, 5, true, 74)] [(0, false, x5 + (-1)), (0, true, 2), (5, true, 111), (5, true, 74)] (sM s m4))))
      refine hY _ _ _ _ (hY _ _ _ _ (hY _ _ _ _ (?_ : Y 99 [(6, 1, true, r4), (5, 0, false, x5 + (-1)), (0, 5, true, 74)] [(0, false, (2 * (x5 + (-1))) + 1), (5, true, 111), (5, true, 74)] (sM s m4))))
      refine hY _ _ _ _ ?_
      refine (And.intro h.1 (And.intro h.2.1 ?_))
      show Y 100 [(6, 1, true, r4), (5, 0, false, x5 + (-1)), (0, 5, true, 74)] [(1, true, m4 111 ((2 * (x5 + (-1))) + 1)), (5, true, 74)] (sM s m4)
      refine hY _ _ _ _ ?_
      refine Exists.intro _ (And.intro (wc_237_r74_1t (m4 111 ((2 * (x5 + (-1))) + 1)) _ _ h.2.2) (fun r5 m5 h => ?_))
      refine hY _ _ _ _ (hY _ _ _ _ (?_ : Y 107 [(8, 1, true, r5), (6, 1, true, r4), (5, 0, false, x5 + (-1)), (0, 5, true, 74)] [(1, true, r4)] (sM s m5)))
      refine hY _ _ _ _ ?_
      refine Exists.intro _ (And.intro (wc_230_1t r4 _ _ h) (fun r6 m6 h => ?_))
      show Y 110 [(8, 1, true, r5), (6, 1, true, r4), (5, 0, false, x5 + (-1)), (0, 5, true, 74)] [(2, true, r6)] (sM s m6)
      refine hY _ _ _ _ ?_
      refine And.intro (fun hc => ?_) (fun hc => ?_)
      · have h := h.1 hc
        refine hY _ _ _ _ (hY _ _ _ _ (hY _ _ _ _ (?_ : Y 126 [(8, 1, true, r5), (6, 1, true, r4), (5, 0, false, x5 + (-1)), (0, 5, true, 74)] [(1, true, r5), (1, true, r4), (5, true, 74)] (sM s m6))))
        refine hY _ _ _ _ ?_
        refine Exists.intro _ (And.intro (wc_244_r74_1t_1t r4 r5 _ _ h) (fun r7 m7 h => ?_))
        show Y 129 [(8, 1, true, r5), (6, 1, true, r4), (5, 0, false, x5 + (-1)), (0, 5, true, 74)] [(2, true, r7)] (sM s m7)
        refine hY _ _ _ _ ?_
        refine And.intro (fun hc => ?_) (fun hc => ?_)
        · have h := h.1 hc
          refine hY _ _ _ _ (?_ : Y 27 [(8, 1, true, r5), (6, 1, true, r4), (5, 0, false, x5 + (-1)), (0, 5, true, 74)] [] (sM s m7))
          refine l27 _ _ ?_
          refine And.intro h.1 ?_
          exact (Exists.intro m7 (And.intro rfl h.2))
        · have h := h.2 hc
          refine hY _ _ _ _ (?_ : Y 133 [(8, 1, true, r5), (6, 1, true, r4), (5, 0, false, x5 + (-1)), (0, 5, true, 74)] [(2, true, 0)] (sM s m7))
          refine hY _ _ _ _ ?_
          exact hQ 0 m7 h
      · have h := h.2 hc
        refine hY _ _ _ _ (?_ : Y 115 [(8, 1, true, r5), (6, 1, true, r4), (5, 0, false, x5 + (-1)), (0, 5, true, 74)] [(1, true, r5)] (sM s m6))
        refine hY _ _ _ _ ?_
        refine Exists.intro _ (And.intro (wc_230_1t r5 _ _ h) (fun r8 m8 h => ?_))
        show Y 118 [(8, 1, true, r5), (6, 1, true, r4), (5, 0, false, x5 + (-1)), (0, 5, true, 74)] [(2, true, r8)] (sM s m8)
        refine hY _ _ _ _ ?_
        refine And.intro (fun hc => ?_) (fun hc => ?_)
        · have h := h.1 hc
          refine hY _ _ _ _ (hY _ _ _ _ (hY _ _ _ _ (?_ : Y 139 [(8, 1, true, r5), (6, 1, true, r4), (5, 0, false, x5 + (-1)), (0, 5, true, 74)] [(1, true, r5), (1, true, r4), (5, true, 74)] (sM s m8))))
          refine hY _ _ _ _ ?_
          refine Exists.intro _ (And.intro (wc_245_r74_1t_1t r4 r5 _ _ h) (fun r9 m9 h => ?_))
          show Y 142 [(8, 1, true, r5), (6, 1, true, r4), (5, 0, false, x5 + (-1)), (0, 5, true, 74)] [(2, true, r9)] (sM s m9)
          refine hY _ _ _ _ ?_
          refine And.intro (fun hc => ?_) (fun hc => ?_)
          · have h := h.1 hc
            refine hY _ _ _ _ (hY _ _ _ _ (?_ : Y 151 [(8, 1, true, r5), (6, 1, true, r4), (5, 0, false, x5 + (-1)), (0, 5, true, 74)] [(1, true, r5), (1, true, r4)] (sM s m9)))
            refine hY _ _ _ _ ?_
            refine And.intro (fun hc => ?_) (fun hc => ?_)
            · have h := h.1 hc
              refine hY _ _ _ _ (?_ : Y 27 [(8, 1, true, r5), (6, 1, true, r4), (5, 0, false, x5 + (-1)), (0, 5, true, 74)] [] (sM s m9))
              refine l27 _ _ ?_
              refine And.intro h.1 ?_
              exact (Exists.intro m9 (And.intro rfl h.2))
            · have h := h.2 hc
              refine hY _ _ _ _ (hY _ _ _ _ (?_ : Y 158 [(8, 1, true, r5), (6, 1, true, r4), (5, 0, false, x5 + (-1)), (0, 5, true, 74)] [(1, true, r4), (5, true, 74)] (sM s m9)))
              refine hY _ _ _ _ ?_
              refine Exists.intro _ (And.intro (wc_238_r74_1t r4 _ _ h) (fun r10 m10 h => ?_))
              refine hY _ _ _ _ (?_ : Y 162 [(8, 1, true, r5), (6, 1, true, r4), (5, 0, false, x5 + (-1)), (0, 5, true, 74)] [(0, true, 4), (0, true, r10)] (sM s m10))
              refine hY _ _ _ _ ?_
              refine And.intro (fun hc => ?_) (fun hc => ?_)
              · have h := h.1 hc
                refine hY _ _ _ _ (?_ : Y 27 [(8, 1, true, r5), (6, 1, true, r4), (5, 0, false, x5 + (-1)), (0, 5, true, 74)] [] (sM s m10))
                refine l27 _ _ ?_
                refine And.intro h.1 ?_
                exact (Exists.intro m10 (And.intro rfl h.2))
              · have h := h.2 hc
                refine hY _ _ _ _ (hY _ _ _ _ (hY _ _ _ _ (?_ : Y 171 [(8, 1, true, r5), (6, 1, true, r4), (5, 0, false, x5 + (-1)), (0, 5, true, 74)] [(1, true, r4), (5, true, 78)] (sM s m10))))
                refine hY _ _ _ _ ?_
                refine Exists.intro _ (And.intro (wc_232_1t r4 _ _ h) (fun r11 m11 h => ?_))
                show Y 174 [(8, 1, true, r5), (6, 1, true, r4), (5, 0, false, x5 + (-1)), (0, 5, true, 74)] [(0, true, r11), (5, true, 78)] (sM s m11)
                refine hY _ _ _ _ ?_
                refine (And.intro h.1 (And.intro h.2.1 ?_))
                refine hY _ _ _ _ (hY _ _ _ _ (hY _ _ _ _ (?_ : Y 179 [(10, 0, false, (m11 78 r11) - 1), (8, 1, true, r5), (6, 1, true, r4), (5, 0, false, x5 + (-1)), (0, 5, true, 74)] [] (sM s m11))))
                refine l179 _ _ ?_
                refine And.intro h.2.2.1 ?_
                refine And.intro h.2.2.2.1 ?_
                exact (Exists.intro m11 (And.intro rfl h.2.2.2.2))
          · have h := h.2 hc
            refine hY _ _ _ _ (?_ : Y 146 [(8, 1, true, r5), (6, 1, true, r4), (5, 0, false, x5 + (-1)), (0, 5, true, 74)] [(2, true, 0)] (sM s m9))
            refine hY _ _ _ _ ?_
            exact hQ 0 m9 h
        · have h := h.2 hc
          refine hY _ _ _ _ (hY _ _ _ _ (hY _ _ _ _ (?_ : Y 126 [(8, 1, true, r5), (6, 1, true, r4), (5, 0, false, x5 + (-1)), (0, 5, true, 74)] [(1, true, r5), (1, true, r4), (5, true, 74)] (sM s m8))))
          refine hY _ _ _ _ ?_
          refine Exists.intro _ (And.intro (wc_244_r74_1t_1t r4 r5 _ _ h) (fun r12 m12 h => ?_))
          show Y 129 [(8, 1, true, r5), (6, 1, true, r4), (5, 0, false, x5 + (-1)), (0, 5, true, 74)] [(2, true, r12)] (sM s m12)
          refine hY _ _ _ _ ?_
          refine And.intro (fun hc => ?_) (fun hc => ?_)
          · have h := h.1 hc
            refine hY _ _ _ _ (?_ : Y 27 [(8, 1, true, r5), (6, 1, true, r4), (5, 0, false, x5 + (-1)), (0, 5, true, 74)] [] (sM s m12))
            refine l27 _ _ ?_
            refine And.intro h.1 ?_
            exact (Exists.intro m12 (And.intro rfl h.2))
          · have h := h.2 hc
            refine hY _ _ _ _ (?_ : Y 133 [(8, 1, true, r5), (6, 1, true, r4), (5, 0, false, x5 + (-1)), (0, 5, true, 74)] [(2, true, 0)] (sM s m12))
            refine hY _ _ _ _ ?_
            exact hQ 0 m12 h
    · have h := h.2 hc
      refine hY _ _ _ _ (?_ : Y 27 [(5, 0, false, x5 + (-1)), (0, 5, true, 74)] [] (sM s m3))
      refine l27 _ _ ?_
      refine And.intro h.1 ?_
      exact (Exists.intro m3 (And.intro rfl h.2))
theorem wk_247_27 (Q : sQ) (R : Int → hy_m → Prop) (s : sS) (x5 : Int) (hQ : ∀ x m', R x m' → Q x (sM s m')) (hr : sRg [(0, 5, 74), (5, 0, 0)] [x5]) (h : wq_247_27 x5 s.2.2.2 R) : kX dM 4 im_m247 2 27 (sCan [(0, 5, 74), (5, 0, 0)] [x5]) [] s Q :=
  h (fun x5 m => sRg [(0, 5, 74), (5, 0, 0)] [x5] → kX dM 4 im_m247 2 27 (sCan [(0, 5, 74), (5, 0, 0)] [x5]) [] (sM s m) Q) (fun x5 m h hr => wj_247_27 Q R s (fun x5 m => sRg [(0, 5, 74), (5, 0, 0)] [x5] → kX dM 4 im_m247 2 27 (sCan [(0, 5, 74), (5, 0, 0)] [x5]) [] (sM s m) Q) x5 m  (fun _ _ hp hr => hp hr) hQ hr h) hr
def lb_247_0 (s : sS) (Q : sQ) (R : Int → hy_m → Prop) (x1 : Int) (x3 : Int) : Nat → Option (sL → sS → Prop) := sLb [(27, fun lv t => sG [(0, 5, 74), (5, 0, 0)] lv (ap1 (fun w5 => ∃ m', t = sM s m' ∧ wq_247_27 w5 m' R)))]
set_option maxRecDepth 30000 in
set_option maxHeartbeats 1000000 in
theorem wk_247_0 (Q : sQ) (R : Int → hy_m → Prop) (s : sS) (x1 : Int) (x3 : Int) (hQ : ∀ x m', R x m' → Q x (sM s m')) (hr : sRg [(0, 5, 74), (1, 1, 0), (3, 1, 0)] [x1, x3]) (h : wq_247 x1 x3 s.2.2.2 R) : kX dM 4 im_m247 2 0 (sCan [(0, 5, 74), (1, 1, 0), (3, 1, 0)] [x1, x3]) [] s Q := by
  unfold wq_247 at h
  refine wz2_ok (cs := cs_247) (wr := []) (lb := lb_247_0 s Q R x1 x3) cs_247_ok (kLb_c (kLab (Bd := fun xs t => ap1 (fun w5 => ∃ m', t = sM s m' ∧ wq_247_27 w5 m' R) xs) rfl (fun xs t r1 r2 hb => by obtain ⟨w5, rfl, hb⟩ := ap1_ok hb; obtain ⟨m', rfl, hx⟩ := hb; exact wk_247_27 Q R (sM s m') _ (fun x m'' hy => hQ x m'' hy) r1 hx)) kLb_n) (okL_can rfl hr) (fun Y hY hl => ?_)
  have l27 := hl 27 _ rfl
  refine hY _ _ _ _ (hY _ _ _ _ (hY _ _ _ _ (?_ : Y 4 [(5, 2, true, 1), (0, 5, true, 74), (1, 1, true, x1), (3, 1, true, x3)] [(5, true, 74)] s)))
  refine hY _ _ _ _ (hY _ _ _ _ (hY _ _ _ _ (?_ : Y 9 [(5, 2, true, 1), (0, 5, true, 74), (1, 1, true, x1), (3, 1, true, x3)] [(1, true, x1), (2, true, 0), (5, true, 111)] s)))
  refine hY _ _ _ _ ?_
  refine (And.intro h.1 (And.intro h.2.1 ?_))
  refine hY _ _ _ _ (hY _ _ _ _ (hY _ _ _ _ (?_ : Y 15 [(5, 2, true, 1), (0, 5, true, 74), (1, 1, true, x1), (3, 1, true, x3)] [(2, true, 1), (5, true, 111)] (sM s (hy_u s.2.2.2 111 0 x1)))))
  refine hY _ _ _ _ (?_ : Y 16 [(5, 2, true, 1), (0, 5, true, 74), (1, 1, true, x1), (3, 1, true, x3)] [(1, true, x3), (2, true, 1), (5, true, 111)] (sM s (hy_u s.2.2.2 111 0 x1)))
  refine hY _ _ _ _ ?_
  refine (And.intro h.2.2.1 (And.intro h.2.2.2.1 ?_))
  refine hY _ _ _ _ (hY _ _ _ _ (hY _ _ _ _ (?_ : Y 22 [(5, 2, true, 1), (0, 5, true, 74), (1, 1, true, x1), (3, 1, true, x3)] [(1, true, s.2.2.2 74 66), (5, true, 74)] (sM s (hy_u (hy_u s.2.2.2 111 0 x1) 111 1 x3)))))
  refine hY _ _ _ _ (hY _ _ _ _ (?_ : Y 24 [(5, 2, true, 1), (0, 5, true, 74), (1, 1, true, x1), (3, 1, true, x3)] [(1, false, (s.2.2.2 74 66) + 1), (5, true, 74)] (sM s (hy_u (hy_u s.2.2.2 111 0 x1) 111 1 x3))))
  refine hY _ _ _ _ ?_
  refine And.intro h.2.2.2.2.1 ?_
  show Y 27 [(5, 2, true, 1), (0, 5, true, 74), (1, 1, true, x1), (3, 1, true, x3)] [] (sM s (hy_u (hy_u (hy_u s.2.2.2 111 0 x1) 111 1 x3) 74 66 ((s.2.2.2 74 66) + 1)))
  refine l27 _ _ ?_
  exact (Exists.intro (hy_u (hy_u (hy_u s.2.2.2 111 0 x1) 111 1 x3) 74 66 ((s.2.2.2 74 66) + 1)) (And.intro rfl h.2.2.2.2.2))
def we_247 : sFf := sEf 11 [(0, 5, 74), (1, 1, 0), (3, 1, 0)] (fun xs s Q => ap2 (fun x1 x3 => wq_247 x1 x3 s.2.2.2 Q) xs)
theorem we_247_ok : kS dM 5 247 2 (.inl we_247) := sEf_ok (mi := im_m247) rfl rfl rfl (fun R xs s r1 hb => by obtain ⟨x1, x3, rfl, hb⟩ := ap2_ok hb; exact wk_247_0 _ R s x1 x3 (fun x m' hx => ⟨m', rfl, hx⟩) r1 hb)
/-- LMModel.combined(III)I -/
def wq_248 (x0 : Int) (x1 : Int) (x2 : Int) (m : hy_m) (Q : Int → hy_m → Prop) : Prop := (x0 ≠ 0 → ((x0 ≠ 1 → (Q (iW (x1 * x2)) m)) ∧ (x0 = 1 → (Q (iW (x1 - x2)) m)))) ∧ (x0 = 0 → (Q (iW (x1 + x2)) m))
def cs_248 : List (Nat × Nat × sFS) := []
theorem cs_248_ok : kCs dM 0 cs_248 := kCs_n
def lb_248_0 (s : sS) (Q : sQ) (R : Int → hy_m → Prop) (x0 : Int) (x1 : Int) (x2 : Int) : Nat → Option (sL → sS → Prop) := sLb []
set_option maxRecDepth 30000 in
set_option maxHeartbeats 1000000 in
theorem wk_248_0 (Q : sQ) (R : Int → hy_m → Prop) (s : sS) (x0 : Int) (x1 : Int) (x2 : Int) (hQ : ∀ x m', R x m' → Q x (sM s m')) (hr : sRg [(0, 0, 0), (1, 0, 0), (2, 0, 0)] [x0, x1, x2]) (h : wq_248 x0 x1 x2 s.2.2.2 R) : kX dM 0 im_m248 0 0 (sCan [(0, 0, 0), (1, 0, 0), (2, 0, 0)] [x0, x1, x2]) [] s Q := by
  unfold wq_248 at h
  refine wz2_ok (cs := cs_248) (wr := [0, 1, 4, 5, 6, 7, 10, 11, 12, 15, 16, 17, 18, 21, 22, 23, 24]) (lb := lb_248_0 s Q R x0 x1 x2) cs_248_ok kLb_n (okL_can rfl hr) (fun Y hY hl => ?_)
  refine hY _ _ _ _ (?_ : Y 1 [(0, 0, true, x0), (1, 0, true, x1), (2, 0, true, x2)] [(0, true, x0)] s)
  refine hY _ _ _ _ ?_
  refine And.intro (fun hc => ?_) (fun hc => ?_)
  · have h := h.1 hc
    refine hY _ _ _ _ (hY _ _ _ _ (?_ : Y 12 [(0, 0, true, x0), (1, 0, true, x1), (2, 0, true, x2)] [(2, true, 1), (0, true, x0)] s))
    refine hY _ _ _ _ ?_
    refine And.intro (fun hc => ?_) (fun hc => ?_)
    · have h := h.1 hc
      refine hY _ _ _ _ (hY _ _ _ _ (hY _ _ _ _ (?_ : Y 24 [(0, 0, true, x0), (1, 0, true, x1), (2, 0, true, x2)] [(0, true, iW (x1 * x2))] s)))
      refine hY _ _ _ _ ?_
      exact hQ (iW (x1 * x2)) s.2.2.2 h
    · have h := h.2 hc
      refine hY _ _ _ _ (hY _ _ _ _ (hY _ _ _ _ (?_ : Y 18 [(0, 0, true, x0), (1, 0, true, x1), (2, 0, true, x2)] [(0, true, iW (x1 - x2))] s)))
      refine hY _ _ _ _ (?_ : Y 24 [(0, 0, true, x0), (1, 0, true, x1), (2, 0, true, x2)] [(0, true, iW (x1 - x2))] s)
      refine hY _ _ _ _ ?_
      exact hQ (iW (x1 - x2)) s.2.2.2 h
  · have h := h.2 hc
    refine hY _ _ _ _ (hY _ _ _ _ (hY _ _ _ _ (?_ : Y 7 [(0, 0, true, x0), (1, 0, true, x1), (2, 0, true, x2)] [(0, true, iW (x1 + x2))] s)))
    refine hY _ _ _ _ (?_ : Y 24 [(0, 0, true, x0), (1, 0, true, x1), (2, 0, true, x2)] [(0, true, iW (x1 + x2))] s)
    refine hY _ _ _ _ ?_
    exact hQ (iW (x1 + x2)) s.2.2.2 h
def we_248 : sFf := sEf 3 [(0, 0, 0), (1, 0, 0), (2, 0, 0)] (fun xs s Q => ap3 (fun x0 x1 x2 => wq_248 x0 x1 x2 s.2.2.2 Q) xs)
theorem we_248_ok : kS dM 1 248 0 (.inl we_248) := sEf_ok (mi := im_m248) rfl rfl rfl (fun R xs s r1 hb => by obtain ⟨x0, x1, x2, rfl, hb⟩ := ap3_ok hb; exact wk_248_0 _ R s x0 x1 x2 (fun x m' hx => ⟨m', rfl, hx⟩) r1 hb)
/-- LMModel.operation(J)I -/
def wq_249 (x1 : Int) (m : hy_m) (Q : Int → hy_m → Prop) : Prop := wq_238 x1 m (fun r1 m1 => (r1 ≠ 4 → (Q (-9) m1)) ∧ (r1 = 4 → (wq_232 x1 m1 (fun r2 m2 => 0 ≤ r2 ∧ r2 < 3584 ∧ (((m2 78 r2) = 2 → (wq_232 x1 m2 (fun r3 m3 => 0 ≤ r3 ∧ r3 < 3584 ∧ (wq_171 97 100 100 0 m3 (fun r4 m4 => ((m3 77 r3) ≠ r4 → (wq_171 115 117 98 0 m4 (fun r5 m5 => ((m3 77 r3) ≠ r5 → (wq_171 109 117 108 0 m5 (fun r6 m6 => ((m3 77 r3) ≠ r6 → (Q (-9) m6)) ∧ ((m3 77 r3) = r6 → (Q 2 m6))))) ∧ ((m3 77 r3) = r5 → (Q 1 m5))))) ∧ ((m3 77 r3) = r4 → (Q 0 m4))))))) ∧ ((m2 78 r2) ≠ 2 → (Q (-9) m2)))))))
def cs_249 : List (Nat × Nat × sFS) := [(171, 1, .inl we_171), (232, 0, .inl we_232), (238, 0, .inl we_238)]
theorem cs_249_ok : kCs dM 2 cs_249 := (kCs_c (Or.inr (Or.inl rfl)) (we_171_ok.deep (by decide)) (kCs_c (Or.inl rfl) (we_232_ok.deep (by decide)) (kCs_c (Or.inl rfl) (we_238_ok.deep (by decide)) kCs_n)))
def lb_249_0 (s : sS) (Q : sQ) (R : Int → hy_m → Prop) (x1 : Int) : Nat → Option (sL → sS → Prop) := sLb []
set_option maxRecDepth 30000 in
set_option maxHeartbeats 1000000 in
theorem wk_249_0 (Q : sQ) (R : Int → hy_m → Prop) (s : sS) (x1 : Int) (hQ : ∀ x m', R x m' → Q x (sM s m')) (hr : sRg [(0, 5, 74), (1, 1, 0)] [x1]) (h : wq_249 x1 s.2.2.2 R) : kX dM 2 im_m249 0 0 (sCan [(0, 5, 74), (1, 1, 0)] [x1]) [] s Q := by
  unfold wq_249 at h
  refine wz2_ok (cs := cs_249) (wr := []) (lb := lb_249_0 s Q R x1) cs_249_ok kLb_n (okL_can rfl hr) (fun Y hY hl => ?_)
  refine hY _ _ _ _ (hY _ _ _ _ (?_ : Y 2 [(0, 5, true, 74), (1, 1, true, x1)] [(1, true, x1), (5, true, 74)] s))
  refine hY _ _ _ _ ?_
  refine Exists.intro _ (And.intro (wc_238_r74_1t x1 _ _ h) (fun r1 m1 h => ?_))
  refine hY _ _ _ _ (?_ : Y 6 [(0, 5, true, 74), (1, 1, true, x1)] [(0, true, 4), (0, true, r1)] (sM s m1))
  refine hY _ _ _ _ ?_
  refine And.intro (fun hc => ?_) (fun hc => ?_)
  · have h := h.1 hc
    refine hY _ _ _ _ (?_ : Y 24 [(0, 5, true, 74), (1, 1, true, x1)] [(0, true, (-9))] (sM s m1))
    refine hY _ _ _ _ ?_
    exact hQ (-9) m1 h
  · have h := h.2 hc
    refine hY _ _ _ _ (hY _ _ _ _ (hY _ _ _ _ (?_ : Y 14 [(0, 5, true, 74), (1, 1, true, x1)] [(1, true, x1), (5, true, 78)] (sM s m1))))
    refine hY _ _ _ _ ?_
    refine Exists.intro _ (And.intro (wc_232_1t x1 _ _ h) (fun r2 m2 h => ?_))
    show Y 17 [(0, 5, true, 74), (1, 1, true, x1)] [(0, true, r2), (5, true, 78)] (sM s m2)
    refine hY _ _ _ _ ?_
    refine (And.intro h.1 (And.intro h.2.1 ?_))
    refine hY _ _ _ _ (?_ : Y 19 [(0, 5, true, 74), (1, 1, true, x1)] [(0, true, 2), (0, true, m2 78 r2)] (sM s m2))
    refine hY _ _ _ _ ?_
    refine And.intro (fun hc => ?_) (fun hc => ?_)
    · have h := h.2.2.1 hc
      refine hY _ _ _ _ (hY _ _ _ _ (hY _ _ _ _ (?_ : Y 30 [(0, 5, true, 74), (1, 1, true, x1)] [(1, true, x1), (5, true, 77)] (sM s m2))))
      refine hY _ _ _ _ ?_
      refine Exists.intro _ (And.intro (wc_232_1t x1 _ _ h) (fun r3 m3 h => ?_))
      show Y 33 [(0, 5, true, 74), (1, 1, true, x1)] [(0, true, r3), (5, true, 77)] (sM s m3)
      refine hY _ _ _ _ ?_
      refine (And.intro h.1 (And.intro h.2.1 ?_))
      refine hY _ _ _ _ (hY _ _ _ _ (hY _ _ _ _ (?_ : Y 38 [(3, 1, true, m3 77 r3), (0, 5, true, 74), (1, 1, true, x1)] [(0, true, 97), (1, true, m3 77 r3)] (sM s m3))))
      refine hY _ _ _ _ (hY _ _ _ _ (hY _ _ _ _ (?_ : Y 43 [(3, 1, true, m3 77 r3), (0, 5, true, 74), (1, 1, true, x1)] [(2, true, 0), (0, true, 100), (0, true, 100), (0, true, 97), (1, true, m3 77 r3)] (sM s m3))))
      refine hY _ _ _ _ ?_
      refine Exists.intro _ (And.intro (wc_171_0t_0t_0t_2t 97 100 100 0 _ _ h.2.2) (fun r4 m4 h => ?_))
      show Y 46 [(3, 1, true, m3 77 r3), (0, 5, true, 74), (1, 1, true, x1)] [(1, true, r4), (1, true, m3 77 r3)] (sM s m4)
      refine hY _ _ _ _ ?_
      refine And.intro (fun hc => ?_) (fun hc => ?_)
      · have h := h.1 hc
        refine hY _ _ _ _ (hY _ _ _ _ (hY _ _ _ _ (?_ : Y 57 [(3, 1, true, m3 77 r3), (0, 5, true, 74), (1, 1, true, x1)] [(0, true, 117), (0, true, 115), (1, true, m3 77 r3)] (sM s m4))))
        refine hY _ _ _ _ (hY _ _ _ _ (?_ : Y 60 [(3, 1, true, m3 77 r3), (0, 5, true, 74), (1, 1, true, x1)] [(2, true, 0), (0, true, 98), (0, true, 117), (0, true, 115), (1, true, m3 77 r3)] (sM s m4)))
        refine hY _ _ _ _ ?_
        refine Exists.intro _ (And.intro (wc_171_0t_0t_0t_2t 115 117 98 0 _ _ h) (fun r5 m5 h => ?_))
        show Y 63 [(3, 1, true, m3 77 r3), (0, 5, true, 74), (1, 1, true, x1)] [(1, true, r5), (1, true, m3 77 r3)] (sM s m5)
        refine hY _ _ _ _ ?_
        refine And.intro (fun hc => ?_) (fun hc => ?_)
        · have h := h.1 hc
          refine hY _ _ _ _ (hY _ _ _ _ (hY _ _ _ _ (?_ : Y 76 [(3, 1, true, m3 77 r3), (0, 5, true, 74), (1, 1, true, x1)] [(0, true, 117), (0, true, 109), (1, true, m3 77 r3)] (sM s m5))))
          refine hY _ _ _ _ (hY _ _ _ _ (?_ : Y 79 [(3, 1, true, m3 77 r3), (0, 5, true, 74), (1, 1, true, x1)] [(2, true, 0), (0, true, 108), (0, true, 117), (0, true, 109), (1, true, m3 77 r3)] (sM s m5)))
          refine hY _ _ _ _ ?_
          refine Exists.intro _ (And.intro (wc_171_0t_0t_0t_2t 109 117 108 0 _ _ h) (fun r6 m6 h => ?_))
          show Y 82 [(3, 1, true, m3 77 r3), (0, 5, true, 74), (1, 1, true, x1)] [(1, true, r6), (1, true, m3 77 r3)] (sM s m6)
          refine hY _ _ _ _ ?_
          refine And.intro (fun hc => ?_) (fun hc => ?_)
          · have h := h.1 hc
            refine hY _ _ _ _ (?_ : Y 92 [(3, 1, true, m3 77 r3), (0, 5, true, 74), (1, 1, true, x1)] [(0, true, (-9))] (sM s m6))
            refine hY _ _ _ _ ?_
            exact hQ (-9) m6 h
          · have h := h.2 hc
            refine hY _ _ _ _ (hY _ _ _ _ (?_ : Y 92 [(3, 1, true, m3 77 r3), (0, 5, true, 74), (1, 1, true, x1)] [(0, true, 2)] (sM s m6)))
            refine hY _ _ _ _ ?_
            exact hQ 2 m6 h
        · have h := h.2 hc
          refine hY _ _ _ _ (hY _ _ _ _ (?_ : Y 92 [(3, 1, true, m3 77 r3), (0, 5, true, 74), (1, 1, true, x1)] [(2, true, 1)] (sM s m5)))
          refine hY _ _ _ _ ?_
          exact hQ 1 m5 h
      · have h := h.2 hc
        refine hY _ _ _ _ (?_ : Y 51 [(3, 1, true, m3 77 r3), (0, 5, true, 74), (1, 1, true, x1)] [(2, true, 0)] (sM s m4))
        refine hY _ _ _ _ ?_
        exact hQ 0 m4 h
    · have h := h.2.2.2 hc
      refine hY _ _ _ _ (?_ : Y 24 [(0, 5, true, 74), (1, 1, true, x1)] [(0, true, (-9))] (sM s m2))
      refine hY _ _ _ _ ?_
      exact hQ (-9) m2 h
def we_249 : sFf := sEf 5 [(0, 5, 74), (1, 1, 0)] (fun xs s Q => ap1 (fun x1 => wq_249 x1 s.2.2.2 Q) xs)
theorem we_249_ok : kS dM 3 249 0 (.inl we_249) := sEf_ok (mi := im_m249) rfl rfl rfl (fun R xs s r1 hb => by obtain ⟨x1, rfl, hb⟩ := ap1_ok hb; exact wk_249_0 _ R s x1 (fun x m' hx => ⟨m', rfl, hx⟩) r1 hb)
/-- LMModel.isMarked(JJ)Z -/
def wq_250 (x0 : Int) (x2 : Int) (m : hy_m) (Q : Int → hy_m → Prop) : Prop := wq_231 x0 m (fun r1 m1 => (r1 ≠ 0 → (Q 0 m1)) ∧ (r1 = 0 → (wq_230 x0 m1 (fun r2 m2 => (r2 ≠ 0 → (Q 0 m2)) ∧ (r2 = 0 → (((jA x0 x2) = 0 → (Q 0 m2)) ∧ ((jA x0 x2) ≠ 0 → (Q 1 m2))))))))
def cs_250 : List (Nat × Nat × sFS) := [(230, 2, .inl we_230), (231, 2, .inl we_231)]
theorem cs_250_ok : kCs dM 1 cs_250 := (kCs_c (Or.inr (Or.inr (Or.inl rfl))) (we_230_ok.deep (by decide)) (kCs_c (Or.inr (Or.inr (Or.inl rfl))) (we_231_ok.deep (by decide)) kCs_n))
def lb_250_0 (s : sS) (Q : sQ) (R : Int → hy_m → Prop) (x0 : Int) (x2 : Int) : Nat → Option (sL → sS → Prop) := sLb []
set_option maxRecDepth 30000 in
set_option maxHeartbeats 1000000 in
theorem wk_250_0 (Q : sQ) (R : Int → hy_m → Prop) (s : sS) (x0 : Int) (x2 : Int) (hQ : ∀ x m', R x m' → Q x (sM s m')) (hr : sRg [(0, 1, 0), (2, 1, 0)] [x0, x2]) (h : wq_250 x0 x2 s.2.2.2 R) : kX dM 1 im_m250 2 0 (sCan [(0, 1, 0), (2, 1, 0)] [x0, x2]) [] s Q := by
  unfold wq_250 at h
  refine wz2_ok (cs := cs_250) (wr := []) (lb := lb_250_0 s Q R x0 x2) cs_250_ok kLb_n (okL_can rfl hr) (fun Y hY hl => ?_)
  refine hY _ _ _ _ (?_ : Y 1 [(0, 1, true, x0), (2, 1, true, x2)] [(1, true, x0)] s)
  refine hY _ _ _ _ ?_
  refine Exists.intro _ (And.intro (wc_231_1t x0 _ _ h) (fun r1 m1 h => ?_))
  show Y 4 [(0, 1, true, x0), (2, 1, true, x2)] [(2, true, r1)] (sM s m1)
  refine hY _ _ _ _ ?_
  refine And.intro (fun hc => ?_) (fun hc => ?_)
  · have h := h.1 hc
    refine hY _ _ _ _ (?_ : Y 27 [(0, 1, true, x0), (2, 1, true, x2)] [(2, true, 0)] (sM s m1))
    refine hY _ _ _ _ ?_
    exact hQ 0 m1 h
  · have h := h.2 hc
    refine hY _ _ _ _ (?_ : Y 8 [(0, 1, true, x0), (2, 1, true, x2)] [(1, true, x0)] (sM s m1))
    refine hY _ _ _ _ ?_
    refine Exists.intro _ (And.intro (wc_230_1t x0 _ _ h) (fun r2 m2 h => ?_))
    show Y 11 [(0, 1, true, x0), (2, 1, true, x2)] [(2, true, r2)] (sM s m2)
    refine hY _ _ _ _ ?_
    refine And.intro (fun hc => ?_) (fun hc => ?_)
    · have h := h.1 hc
      refine hY _ _ _ _ (?_ : Y 27 [(0, 1, true, x0), (2, 1, true, x2)] [(2, true, 0)] (sM s m2))
      refine hY _ _ _ _ ?_
      exact hQ 0 m2 h
    · have h := h.2 hc
      refine hY _ _ _ _ (hY _ _ _ _ (?_ : Y 16 [(0, 1, true, x0), (2, 1, true, x2)] [(1, true, x2), (1, true, x0)] (sM s m2)))
      refine hY _ _ _ _ (?_ : Y 17 [(0, 1, true, x0), (2, 1, true, x2)] [(1, true, jA x0 x2)] (sM s m2))
      refine hY _ _ _ _ (?_ : Y 18 [(0, 1, true, x0), (2, 1, true, x2)] [(1, true, 0), (1, true, jA x0 x2)] (sM s m2))
      refine hY _ _ _ _ ?_
      refine And.intro (fun hc => ?_) (fun hc => ?_)
      · have h := h.1 hc
        refine hY _ _ _ _ (?_ : Y 27 [(0, 1, true, x0), (2, 1, true, x2)] [(2, true, 0)] (sM s m2))
        refine hY _ _ _ _ ?_
        exact hQ 0 m2 h
      · have h := h.2 hc
        refine hY _ _ _ _ (hY _ _ _ _ (?_ : Y 27 [(0, 1, true, x0), (2, 1, true, x2)] [(2, true, 1)] (sM s m2)))
        refine hY _ _ _ _ ?_
        exact hQ 1 m2 h
def we_250 : sFf := sEf 4 [(0, 1, 0), (2, 1, 0)] (fun xs s Q => ap2 (fun x0 x2 => wq_250 x0 x2 s.2.2.2 Q) xs)
theorem we_250_ok : kS dM 2 250 2 (.inl we_250) := sEf_ok (mi := im_m250) rfl rfl rfl (fun R xs s r1 hb => by obtain ⟨x0, x2, rfl, hb⟩ := ap2_ok hb; exact wk_250_0 _ R s x0 x2 (fun x m' hx => ⟨m', rfl, hx⟩) r1 hb)
/-- LMModel.evaluates(J)Z -/
def wq_251_205 (P22 : Int → Int → hy_m → Prop) (x3 : Int) (x4 : Int) (x5 : Int) (x7 : Int) (m : hy_m) (Q : Int → hy_m → Prop) : Prop := (x7 = (-9) → (wq_237 x5 m (fun r1 m1 => wq_249 r1 m1 (fun r2 m2 => wq_238 r1 m2 (fun r3 m3 => (r3 ≠ 2 → ((r2 = (-9) → (Q 0 m3)) ∧ (r2 ≠ (-9) → (0 ≤ x3 ∧ x3 < 30000 ∧ (wq_236 r1 1 (hy_u m3 112 x3 (jO 1152921504606846976 r2)) (fun r4 m4 => 0 ≤ (x3 + 1) ∧ (x3 + 1) < 30000 ∧ (wq_236 r1 0 (hy_u m4 112 (x3 + 1) r4) (fun r5 m5 => 0 ≤ (x3 + 2) ∧ (x3 + 2) < 30000 ∧ (hy_r 0 (x3 + 3) ∧ (P22 (x3 + 3) x4 (hy_u m5 112 (x3 + 2) r5))))))))))) ∧ (r3 = 2 → (wq_239 r1 m3 (fun r6 m6 => 0 ≤ x4 ∧ x4 < 30000 ∧ (hy_r 0 (x4 + 1) ∧ (P22 x3 (x4 + 1) (hy_u m6 116 x4 r6))))))))))) ∧ (x7 ≠ (-9) → (0 ≤ x3 ∧ x3 < 30000 ∧ (wq_237 x5 (hy_u m 112 x3 (jO 576460752303423488 x7)) (fun r7 m7 => 0 ≤ (x3 + 1) ∧ (x3 + 1) < 30000 ∧ (hy_r 0 (x3 + 2) ∧ (P22 (x3 + 2) x4 (hy_u m7 112 (x3 + 1) r7)))))))
def wf_251_22 (Q : Int → hy_m → Prop) (P22 : Int → Int → hy_m → Prop) (x3 : Int) (x4 : Int) (m : hy_m) : Prop := (x3 ≤ 0 → (0 ≤ (0 : Int) ∧ (0 : Int) < 30000 ∧ (Q 1 (hy_u m 74 68 (m 116 0))))) ∧ (0 < x3 → (0 ≤ (x3 + (-1)) ∧ (x3 + (-1)) < 30000 ∧ (wq_250 (m 112 (x3 + (-1))) 1729382256910270464 m (fun r1 m1 => (r1 = 0 → (wq_241 (m 112 (x3 + (-1))) m1 (fun r2 m2 => wq_250 (m 112 (x3 + (-1))) 1152921504606846976 m2 (fun r3 m3 => (r3 = 0 → (wq_250 (m 112 (x3 + (-1))) 576460752303423488 m3 (fun r4 m4 => (r4 = 0 → ((r2 = (-9) → (hy_r 0 (x3 + (-1)) ∧ (wq_251_205 P22 (x3 + (-1)) x4 (m 112 (x3 + (-1))) r2 m4 Q))) ∧ (r2 ≠ (-9) → (0 ≤ r2 ∧ r2 < 2500 ∧ (((m4 113 r2) ≠ (m4 74 64) → (hy_r 0 (x3 + (-1)) ∧ (wq_251_205 P22 (x3 + (-1)) x4 (m 112 (x3 + (-1))) r2 m4 Q))) ∧ ((m4 113 r2) = (m4 74 64) → (0 ≤ r2 ∧ r2 < 2500 ∧ (0 ≤ x4 ∧ x4 < 30000 ∧ (hy_r 0 (x3 + (-1)) ∧ (hy_r 0 (x4 + 1) ∧ (P22 (x3 + (-1)) (x4 + 1) (hy_u m4 116 x4 (m4 114 r2))))))))))))) ∧ (r4 ≠ 0 → (0 ≤ (x4 - 1) ∧ (x4 - 1) < 30000 ∧ (0 ≤ (jA (m 112 (x3 + (-1))) 65535) ∧ (jA (m 112 (x3 + (-1))) 65535) < 2500 ∧ (0 ≤ (jA (m 112 (x3 + (-1))) 65535) ∧ (jA (m 112 (x3 + (-1))) 65535) < 2500 ∧ (hy_r 0 (x3 + (-1)) ∧ (P22 (x3 + (-1)) x4 (hy_u (hy_u m4 114 (jA (m 112 (x3 + (-1))) 65535) (m4 116 (x4 - 1))) 113 (jA (m 112 (x3 + (-1))) 65535) (m4 74 64))))))))))) ∧ (r3 ≠ 0 → (0 ≤ ((x4 + (-1)) - 1) ∧ ((x4 + (-1)) - 1) < 30000 ∧ (0 ≤ (x4 + (-1)) ∧ (x4 + (-1)) < 30000 ∧ (hy_r 0 (jA (m 112 (x3 + (-1))) 3) ∧ (wq_248 (jA (m 112 (x3 + (-1))) 3) (m3 116 ((x4 + (-1)) - 1)) (m3 116 (x4 + (-1))) m3 (fun r5 m5 => 0 ≤ ((x4 + (-1)) - 1) ∧ ((x4 + (-1)) - 1) < 30000 ∧ (hy_r 0 (x3 + (-1)) ∧ (hy_r 0 (x4 + (-1)) ∧ (P22 (x3 + (-1)) (x4 + (-1)) (hy_u m5 116 ((x4 + (-1)) - 1) r5)))))))))))))) ∧ (r1 ≠ 0 → (wq_250 (m 112 (x3 + (-1))) 1152921504606846976 m1 (fun r6 m6 => (r6 = 0 → (wq_250 (m 112 (x3 + (-1))) 576460752303423488 m6 (fun r7 m7 => (r7 = 0 → (((-9 : Int) = (-9) → (hy_r 0 (x3 + (-1)) ∧ (wq_251_205 P22 (x3 + (-1)) x4 (m 112 (x3 + (-1))) (-9) m7 Q))) ∧ ((-9 : Int) ≠ (-9) → (0 ≤ (-9 : Int) ∧ (-9 : Int) < 2500 ∧ (((m7 113 (-9)) ≠ (m7 74 64) → (hy_r 0 (x3 + (-1)) ∧ (wq_251_205 P22 (x3 + (-1)) x4 (m 112 (x3 + (-1))) (-9) m7 Q))) ∧ ((m7 113 (-9)) = (m7 74 64) → (0 ≤ (-9 : Int) ∧ (-9 : Int) < 2500 ∧ (0 ≤ x4 ∧ x4 < 30000 ∧ (hy_r 0 (x3 + (-1)) ∧ (hy_r 0 (x4 + 1) ∧ (P22 (x3 + (-1)) (x4 + 1) (hy_u m7 116 x4 (m7 114 (-9)))))))))))))) ∧ (r7 ≠ 0 → (0 ≤ (x4 - 1) ∧ (x4 - 1) < 30000 ∧ (0 ≤ (jA (m 112 (x3 + (-1))) 65535) ∧ (jA (m 112 (x3 + (-1))) 65535) < 2500 ∧ (0 ≤ (jA (m 112 (x3 + (-1))) 65535) ∧ (jA (m 112 (x3 + (-1))) 65535) < 2500 ∧ (hy_r 0 (x3 + (-1)) ∧ (P22 (x3 + (-1)) x4 (hy_u (hy_u m7 114 (jA (m 112 (x3 + (-1))) 65535) (m7 116 (x4 - 1))) 113 (jA (m 112 (x3 + (-1))) 65535) (m7 74 64))))))))))) ∧ (r6 ≠ 0 → (0 ≤ ((x4 + (-1)) - 1) ∧ ((x4 + (-1)) - 1) < 30000 ∧ (0 ≤ (x4 + (-1)) ∧ (x4 + (-1)) < 30000 ∧ (hy_r 0 (jA (m 112 (x3 + (-1))) 3) ∧ (wq_248 (jA (m 112 (x3 + (-1))) 3) (m6 116 ((x4 + (-1)) - 1)) (m6 116 (x4 + (-1))) m6 (fun r8 m8 => 0 ≤ ((x4 + (-1)) - 1) ∧ ((x4 + (-1)) - 1) < 30000 ∧ (hy_r 0 (x3 + (-1)) ∧ (hy_r 0 (x4 + (-1)) ∧ (P22 (x3 + (-1)) (x4 + (-1)) (hy_u m8 116 ((x4 + (-1)) - 1) r8)))))))))))))))))
def wq_251_22 (x3 : Int) (x4 : Int) (m : hy_m) (Q : Int → hy_m → Prop) : Prop := wL2 hy_m (wf_251_22 Q) x3 x4 m
def wq_251 (x1 : Int) (m : hy_m) (Q : Int → hy_m → Prop) : Prop := 0 ≤ (0 : Int) ∧ (0 : Int) < 30000 ∧ (wq_251_22 1 0 (hy_u (hy_u m 112 0 x1) 74 64 (iW ((m 74 64) + 1))) Q)
theorem wc_249_r74_1t (x1 : Int) (s : sS) (R : Int → hy_m → Prop) (h : wq_249 x1 s.2.2.2 R) : we_249 [(5, true, 74), (1, true, x1)] s R := h
theorem wc_236_r74_1t_2t (x1 : Int) (x2 : Int) (s : sS) (R : Int → hy_m → Prop) (h : wq_236 x1 x2 s.2.2.2 R) : we_236 [(5, true, 74), (1, true, x1), (2, true, x2)] s R := h
theorem wc_250_1t_1t (x0 : Int) (x1 : Int) (s : sS) (R : Int → hy_m → Prop) (h : wq_250 x0 x1 s.2.2.2 R) : we_250 [(1, true, x0), (1, true, x1)] s R := h
theorem wc_248_0f_0t_0t (x0 : Int) (x1 : Int) (x2 : Int) (s : sS) (R : Int → hy_m → Prop) (h : hy_r 0 x0 ∧ wq_248 x0 x1 x2 s.2.2.2 R) : we_248 [(0, false, x0), (0, true, x1), (0, true, x2)] s R := h
def cs_251 : List (Nat × Nat × sFS) := [(236, 1, .inl we_236), (237, 1, .inl we_237), (238, 0, .inl we_238), (239, 0, .inl we_239), (241, 0, .inl we_241), (248, 0, .inl we_248), (249, 0, .inl we_249), (250, 2, .inl we_250)]
theorem cs_251_ok : kCs dM 3 cs_251 := (kCs_c (Or.inr (Or.inl rfl)) (we_236_ok.deep (by decide)) (kCs_c (Or.inr (Or.inl rfl)) (we_237_ok.deep (by decide)) (kCs_c (Or.inl rfl) (we_238_ok.deep (by decide)) (kCs_c (Or.inl rfl) (we_239_ok.deep (by decide)) (kCs_c (Or.inl rfl) (we_241_ok.deep (by decide)) (kCs_c (Or.inl rfl) (we_248_ok.deep (by decide)) (kCs_c (Or.inl rfl) (we_249_ok.deep (by decide)) (kCs_c (Or.inr (Or.inr (Or.inl rfl))) (we_250_ok.deep (by decide)) kCs_n))))))))
def lb_251_205 (s : sS) (Q : sQ) (P22 : Int → Int → hy_m → Prop) (R : Int → hy_m → Prop) (x3 : Int) (x4 : Int) (x5 : Int) (x7 : Int) : Nat → Option (sL → sS → Prop) := sLb [(22, fun lv t => sG [(0, 5, 74), (3, 0, 0), (4, 0, 0)] lv (ap2 (fun w3 w4 => ∃ m', t = sM s m' ∧ P22 w3 w4 m')))]
set_option maxRecDepth 30000 in
set_option maxHeartbeats 1000000 in
theorem wk_251_205 (Q : sQ) (R : Int → hy_m → Prop) (s : sS) (P22 : Int → Int → hy_m → Prop) (x3 : Int) (x4 : Int) (x5 : Int) (x7 : Int) (hP22 : ∀ (z3 z4 : Int) (m : hy_m), P22 z3 z4 m → sRg [(0, 5, 74), (3, 0, 0), (4, 0, 0)] [z3, z4] → kX dM 3 im_m251 2 22 (sCan [(0, 5, 74), (3, 0, 0), (4, 0, 0)] [z3, z4]) [] (sM s m) Q) (hQ : ∀ x m', R x m' → Q x (sM s m')) (hr : sRg [(0, 5, 74), (3, 0, 0), (4, 0, 0), (5, 1, 0), (7, 0, 0)] [x3, x4, x5, x7]) (h : wq_251_205 P22 x3 x4 x5 x7 s.2.2.2 R) : kX dM 3 im_m251 2 205 (sCan [(0, 5, 74), (3, 0, 0), (4, 0, 0), (5, 1, 0), (7, 0, 0)] [x3, x4, x5, x7]) [] s Q := by
  unfold wq_251_205 at h
  refine wz2_ok (cs := cs_251) (wr := [18]) (lb := lb_251_205 s Q P22 R x3 x4 x5 x7) cs_251_ok (kLb_c (kLab (Bd := fun xs t => ap2 (fun w3 w4 => ∃ m', t = sM s m' ∧ P22 w3 w4 m') xs) rfl (fun xs t r1 r2 hb => by obtain ⟨w3, w4, rfl, hb⟩ := ap2_ok hb; obtain ⟨m', rfl, hx⟩ := hb; exact hP22 _ _ m' hx r1)) kLb_n) (okL_can rfl hr) (fun Y hY hl => ?_)
  have l22 := hl 22 _ rfl
  refine hY _ _ _ _ (hY _ _ _ _ (?_ : Y 209 [(0, 5, true, 74), (3, 0, true, x3), (4, 0, true, x4), (5, 1, true, x5), (7, 0, true, x7)] [(0, true, (-9)), (0, true, x7)] s))
  refine hY _ _ _ _ ?_
  refine And.intro (fun hc => ?_) (fun hc => ?_)
  · have h := h.1 hc
    refine hY _ _ _ _ (hY _ _ _ _ (?_ : Y 248 [(0, 5, true, 74), (3, 0, true, x3), (4, 0, true, x4), (5, 1, true, x5), (7, 0, true, x7)] [(1, true, x5), (5, true, 74)] s))
    refine hY _ _ _ _ ?_
    refine Exists.intro _ (And.intro (wc_237_r74_1t x5 _ _ h) (fun r1 m1 h => ?_))
    refine hY _ _ _ _ (hY _ _ _ _ (hY _ _ _ _ (?_ : Y 256 [(5, 1, true, r1), (0, 5, true, 74), (3, 0, true, x3), (4, 0, true, x4), (7, 0, true, x7)] [(1, true, r1), (5, true, 74)] (sM s m1))))
    refine hY _ _ _ _ ?_
    refine Exists.intro _ (And.intro (wc_249_r74_1t r1 _ _ h) (fun r2 m2 h => ?_))
    refine hY _ _ _ _ (hY _ _ _ _ (hY _ _ _ _ (?_ : Y 264 [(8, 0, true, r2), (5, 1, true, r1), (0, 5, true, 74), (3, 0, true, x3), (4, 0, true, x4), (7, 0, true, x7)] [(1, true, r1), (5, true, 74)] (sM s m2))))
    refine hY _ _ _ _ ?_
    refine Exists.intro _ (And.intro (wc_238_r74_1t r1 _ _ h) (fun r3 m3 h => ?_))
    refine hY _ _ _ _ (?_ : Y 268 [(8, 0, true, r2), (5, 1, true, r1), (0, 5, true, 74), (3, 0, true, x3), (4, 0, true, x4), (7, 0, true, x7)] [(0, true, 2), (0, true, r3)] (sM s m3))
    refine hY _ _ _ _ ?_
    refine And.intro (fun hc => ?_) (fun hc => ?_)
    · have h := h.1 hc
      refine hY _ _ _ _ (hY _ _ _ _ (?_ : Y 294 [(8, 0, true, r2), (5, 1, true, r1), (0, 5, true, 74), (3, 0, true, x3), (4, 0, true, x4), (7, 0, true, x7)] [(0, true, (-9)), (0, true, r2)] (sM s m3)))
      refine hY _ _ _ _ ?_
      refine And.intro (fun hc => ?_) (fun hc => ?_)
      · have h := h.1 hc
        refine hY _ _ _ _ (?_ : Y 347 [(8, 0, true, r2), (5, 1, true, r1), (0, 5, true, 74), (3, 0, true, x3), (4, 0, true, x4), (7, 0, true, x7)] [(2, true, 0)] (sM s m3))
        refine hY _ _ _ _ ?_
        exact hQ 0 m3 h
      · have h := h.2 hc
        refine hY _ _ _ _ (hY _ _ _ _ (hY _ _ _ _ (?_ : Y 302 [(8, 0, true, r2), (5, 1, true, r1), (0, 5, true, 74), (3, 0, true, x3), (4, 0, true, x4), (7, 0, true, x7)] [(0, true, x3), (5, true, 112)] (sM s m3))))
        refine hY _ _ _ _ (hY _ _ _ _ (?_ : Y 307 [(8, 0, true, r2), (5, 1, true, r1), (0, 5, true, 74), (3, 0, true, x3), (4, 0, true, x4), (7, 0, true, x7)] [(0, true, r2), (1, true, 1152921504606846976), (0, true, x3), (5, true, 112)] (sM s m3)))
        refine hY _ _ _ _ ?_
        show Y 308 [(8, 0, true, r2), (5, 1, true, r1), (0, 5, true, 74), (3, 0, true, x3), (4, 0, true, x4), (7, 0, true, x7)] [(1, true, r2), (1, true, 1152921504606846976), (0, true, x3), (5, true, 112)] (sM s m3)
        refine hY _ _ _ _ (?_ : Y 309 [(8, 0, true, r2), (5, 1, true, r1), (0, 5, true, 74), (3, 0, true, x3), (4, 0, true, x4), (7, 0, true, x7)] [(1, true, jO 1152921504606846976 r2), (0, true, x3), (5, true, 112)] (sM s m3))
        refine hY _ _ _ _ ?_
        refine (And.intro h.1 (And.intro h.2.1 ?_))
        refine hY _ _ _ _ (hY _ _ _ _ (hY _ _ _ _ (?_ : Y 315 [(8, 0, true, r2), (5, 1, true, r1), (0, 5, true, 74), (3, 0, true, x3), (4, 0, true, x4), (7, 0, true, x7)] [(0, true, x3), (5, true, 112)] (sM s (hy_u m3 112 x3 (jO 1152921504606846976 r2))))))
        refine hY _ _ _ _ (hY _ _ _ _ (hY _ _ _ _ (?_ : Y 318 [(8, 0, true, r2), (5, 1, true, r1), (0, 5, true, 74), (3, 0, true, x3), (4, 0, true, x4), (7, 0, true, x7)] [(5, true, 74), (0, false, x3 + 1), (5, true, 112)] (sM s (hy_u m3 112 x3 (jO 1152921504606846976 r2))))))
        refine hY _ _ _ _ (hY _ _ _ _ (?_ : Y 321 [(8, 0, true, r2), (5, 1, true, r1), (0, 5, true, 74), (3, 0, true, x3), (4, 0, true, x4), (7, 0, true, x7)] [(2, true, 1), (1, true, r1), (5, true, 74), (0, false, x3 + 1), (5, true, 112)] (sM s (hy_u m3 112 x3 (jO 1152921504606846976 r2)))))
        refine hY _ _ _ _ ?_
        refine Exists.intro _ (And.intro (wc_236_r74_1t_2t r1 1 _ _ h.2.2) (fun r4 m4 h => ?_))
        show Y 324 [(8, 0, true, r2), (5, 1, true, r1), (0, 5, true, 74), (3, 0, true, x3), (4, 0, true, x4), (7, 0, true, x7)] [(1, true, r4), (0, false, x3 + 1), (5, true, 112)] (sM s m4)
        refine hY _ _ _ _ ?_
        refine (And.intro h.1 (And.intro h.2.1 ?_))
        refine hY _ _ _ _ (hY _ _ _ _ (hY _ _ _ _ (?_ : Y 330 [(8, 0, true, r2), (5, 1, true, r1), (0, 5, true, 74), (3, 0, true, x3), (4, 0, true, x4), (7, 0, true, x7)] [(0, true, x3), (5, true, 112)] (sM s (hy_u m4 112 (x3 + 1) r4)))))
        refine hY _ _ _ _ (hY _ _ _ _ (hY _ _ _ _ (?_ : Y 333 [(8, 0, true, r2), (5, 1, true, r1), (0, 5, true, 74), (3, 0, true, x3), (4, 0, true, x4), (7, 0, true, x7)] [(5, true, 74), (0, false, x3 + 2), (5, true, 112)] (sM s (hy_u m4 112 (x3 + 1) r4)))))
        refine hY _ _ _ _ (hY _ _ _ _ (?_ : Y 336 [(8, 0, true, r2), (5, 1, true, r1), (0, 5, true, 74), (3, 0, true, x3), (4, 0, true, x4), (7, 0, true, x7)] [(2, true, 0), (1, true, r1), (5, true, 74), (0, false, x3 + 2), (5, true, 112)] (sM s (hy_u m4 112 (x3 + 1) r4))))
        refine hY _ _ _ _ ?_
        refine Exists.intro _ (And.intro (wc_236_r74_1t_2t r1 0 _ _ h.2.2) (fun r5 m5 h => ?_))
        show Y 339 [(8, 0, true, r2), (5, 1, true, r1), (0, 5, true, 74), (3, 0, true, x3), (4, 0, true, x4), (7, 0, true, x7)] [(1, true, r5), (0, false, x3 + 2), (5, true, 112)] (sM s m5)
        refine hY _ _ _ _ ?_
        refine (And.intro h.1 (And.intro h.2.1 ?_))
        refine hY _ _ _ _ (hY _ _ _ _ (hY _ _ _ _ (?_ : Y 22 [(3, 0, false, x3 + 3), (8, 0, true, r2), (5, 1, true, r1), (0, 5, true, 74), (4, 0, true, x4), (7, 0, true, x7)] [] (sM s (hy_u m5 112 (x3 + 2) r5)))))
        refine l22 _ _ ?_
        refine And.intro h.2.2.1 ?_
        exact (Exists.intro (hy_u m5 112 (x3 + 2) r5) (And.intro rfl h.2.2.2))
    · have h := h.2 hc
      refine hY _ _ _ _ (hY _ _ _ _ (hY _ _ _ _ (?_ : Y 277 [(8, 0, true, r2), (5, 1, true, r1), (0, 5, true, 74), (3, 0, true, x3), (4, 0, true, x4), (7, 0, true, x7)] [(0, true, x4), (5, true, 116)] (sM s m3))))
      refine hY _ _ _ _ (hY _ _ _ _ (?_ : Y 280 [(8, 0, true, r2), (5, 1, true, r1), (0, 5, true, 74), (3, 0, true, x3), (4, 0, true, x4), (7, 0, true, x7)] [(1, true, r1), (5, true, 74), (0, true, x4), (5, true, 116)] (sM s m3)))
      refine hY _ _ _ _ ?_
      refine Exists.intro _ (And.intro (wc_239_r74_1t r1 _ _ h) (fun r6 m6 h => ?_))
      show Y 283 [(8, 0, true, r2), (5, 1, true, r1), (0, 5, true, 74), (3, 0, true, x3), (4, 0, true, x4), (7, 0, true, x7)] [(0, true, r6), (0, true, x4), (5, true, 116)] (sM s m6)
      refine hY _ _ _ _ ?_
      refine (And.intro h.1 (And.intro h.2.1 ?_))
      refine hY _ _ _ _ (hY _ _ _ _ (hY _ _ _ _ (?_ : Y 22 [(4, 0, false, x4 + 1), (8, 0, true, r2), (5, 1, true, r1), (0, 5, true, 74), (3, 0, true, x3), (7, 0, true, x7)] [] (sM s (hy_u m6 116 x4 r6)))))
      refine l22 _ _ ?_
      refine And.intro h.2.2.1 ?_
      exact (Exists.intro (hy_u m6 116 x4 r6) (And.intro rfl h.2.2.2))
  · have h := h.2 hc
    refine hY _ _ _ _ (hY _ _ _ _ (hY _ _ _ _ (?_ : Y 217 [(0, 5, true, 74), (3, 0, true, x3), (4, 0, true, x4), (5, 1, true, x5), (7, 0, true, x7)] [(0, true, x3), (5, true, 112)] s)))
    refine hY _ _ _ _ (hY _ _ _ _ (?_ : Y 222 [(0, 5, true, 74), (3, 0, true, x3), (4, 0, true, x4), (5, 1, true, x5), (7, 0, true, x7)] [(0, true, x7), (1, true, 576460752303423488), (0, true, x3), (5, true, 112)] s))
    refine hY _ _ _ _ ?_
    show Y 223 [(0, 5, true, 74), (3, 0, true, x3), (4, 0, true, x4), (5, 1, true, x5), (7, 0, true, x7)] [(1, true, x7), (1, true, 576460752303423488), (0, true, x3), (5, true, 112)] s
    refine hY _ _ _ _ (?_ : Y 224 [(0, 5, true, 74), (3, 0, true, x3), (4, 0, true, x4), (5, 1, true, x5), (7, 0, true, x7)] [(1, true, jO 576460752303423488 x7), (0, true, x3), (5, true, 112)] s)
    refine hY _ _ _ _ ?_
    refine (And.intro h.1 (And.intro h.2.1 ?_))
    refine hY _ _ _ _ (hY _ _ _ _ (hY _ _ _ _ (?_ : Y 230 [(0, 5, true, 74), (3, 0, true, x3), (4, 0, true, x4), (5, 1, true, x5), (7, 0, true, x7)] [(0, true, x3), (5, true, 112)] (sM s (hy_u s.2.2.2 112 x3 (jO 576460752303423488 x7))))))
    refine hY _ _ _ _ (hY _ _ _ _ (hY _ _ _ _ (?_ : Y 233 [(0, 5, true, 74), (3, 0, true, x3), (4, 0, true, x4), (5, 1, true, x5), (7, 0, true, x7)] [(5, true, 74), (0, false, x3 + 1), (5, true, 112)] (sM s (hy_u s.2.2.2 112 x3 (jO 576460752303423488 x7))))))
    refine hY _ _ _ _ (?_ : Y 235 [(0, 5, true, 74), (3, 0, true, x3), (4, 0, true, x4), (5, 1, true, x5), (7, 0, true, x7)] [(1, true, x5), (5, true, 74), (0, false, x3 + 1), (5, true, 112)] (sM s (hy_u s.2.2.2 112 x3 (jO 576460752303423488 x7))))
    refine hY _ _ _ _ ?_
    refine Exists.intro _ (And.intro (wc_237_r74_1t x5 _ _ h.2.2) (fun r7 m7 h => ?_))
    show Y 238 [(0, 5, true, 74), (3, 0, true, x3), (4, 0, true, x4), (5, 1, true, x5), (7, 0, true, x7)] [(1, true, r7), (0, false, x3 + 1), (5, true, 112)] (sM s m7)
    refine hY _ _ _ _ ?_
    refine (And.intro h.1 (And.intro h.2.1 ?_))
    refine hY _ _ _ _ (hY _ _ _ _ (hY _ _ _ _ (?_ : Y 22 [(3, 0, false, x3 + 2), (0, 5, true, 74), (4, 0, true, x4), (5, 1, true, x5), (7, 0, true, x7)] [] (sM s (hy_u m7 112 (x3 + 1) r7)))))
    refine l22 _ _ ?_
    refine And.intro h.2.2.1 ?_
    exact (Exists.intro (hy_u m7 112 (x3 + 1) r7) (And.intro rfl h.2.2.2))
def lb_251_22 (s : sS) (Q : sQ) (P22 : Int → Int → hy_m → Prop) (R : Int → hy_m → Prop) (x3 : Int) (x4 : Int) : Nat → Option (sL → sS → Prop) := sLb [(205, fun lv t => sG [(0, 5, 74), (3, 0, 0), (4, 0, 0), (5, 1, 0), (7, 0, 0)] lv (ap4 (fun w3 w4 w5 w7 => ∃ m', t = sM s m' ∧ wq_251_205 P22 w3 w4 w5 w7 m' R))), (22, fun lv t => sG [(0, 5, 74), (3, 0, 0), (4, 0, 0)] lv (ap2 (fun w3 w4 => ∃ m', t = sM s m' ∧ P22 w3 w4 m')))]
set_option maxRecDepth 30000 in
set_option maxHeartbeats 1000000 in
theorem wj_251_22 (Q : sQ) (R : Int → hy_m → Prop) (s : sS) (P22 : Int → Int → hy_m → Prop) (x3 : Int) (x4 : Int) (m : hy_m) (hP22 : ∀ (z3 z4 : Int) (m : hy_m), P22 z3 z4 m → sRg [(0, 5, 74), (3, 0, 0), (4, 0, 0)] [z3, z4] → kX dM 3 im_m251 2 22 (sCan [(0, 5, 74), (3, 0, 0), (4, 0, 0)] [z3, z4]) [] (sM s m) Q) (hQ : ∀ x m', R x m' → Q x (sM s m')) (hr : sRg [(0, 5, 74), (3, 0, 0), (4, 0, 0)] [x3, x4]) (h : wf_251_22 R P22 x3 x4 m) : kX dM 3 im_m251 2 22 (sCan [(0, 5, 74), (3, 0, 0), (4, 0, 0)] [x3, x4]) [] (sM s m) Q := by
  unfold wf_251_22 at h
  refine wz2_ok (cs := cs_251) (wr := [18]) (lb := lb_251_22 s Q P22 R x3 x4) cs_251_ok (kLb_c (kLab (Bd := fun xs t => ap4 (fun w3 w4 w5 w7 => ∃ m', t = sM s m' ∧ wq_251_205 P22 w3 w4 w5 w7 m' R) xs) rfl (fun xs t r1 r2 hb => by obtain ⟨w3, w4, w5, w7, rfl, hb⟩ := ap4_ok hb; obtain ⟨m', rfl, hx⟩ := hb; exact wk_251_205 Q R (sM s m') P22 _ _ _ _ hP22 (fun x m'' hy => hQ x m'' hy) r1 hx)) (kLb_c (kLab (Bd := fun xs t => ap2 (fun w3 w4 => ∃ m', t = sM s m' ∧ P22 w3 w4 m') xs) rfl (fun xs t r1 r2 hb => by obtain ⟨w3, w4, rfl, hb⟩ := ap2_ok hb; obtain ⟨m', rfl, hx⟩ := hb; exact hP22 _ _ m' hx r1)) kLb_n)) (okL_can rfl hr) (fun Y hY hl => ?_)
  have l205 := hl 205 _ rfl
  have l22 := hl 22 _ rfl
  refine hY _ _ _ _ (?_ : Y 23 [(0, 5, true, 74), (3, 0, true, x3), (4, 0, true, x4)] [(0, true, x3)] (sM s m))
  refine hY _ _ _ _ ?_
  refine And.intro (fun hc => ?_) (fun hc => ?_)
  · have h := h.1 hc
    refine hY _ _ _ _ (hY _ _ _ _ (hY _ _ _ _ (?_ : Y 356 [(0, 5, true, 74), (3, 0, true, x3), (4, 0, true, x4)] [(5, true, 116), (5, true, 74)] (sM s m))))
    refine hY _ _ _ _ (?_ : Y 357 [(0, 5, true, 74), (3, 0, true, x3), (4, 0, true, x4)] [(2, true, 0), (5, true, 116), (5, true, 74)] (sM s m))
    refine hY _ _ _ _ ?_
    refine (And.intro h.1 (And.intro h.2.1 ?_))
    show Y 358 [(0, 5, true, 74), (3, 0, true, x3), (4, 0, true, x4)] [(0, true, m 116 0), (5, true, 74)] (sM s m)
    refine hY _ _ _ _ ?_
    refine hY _ _ _ _ (?_ : Y 362 [(0, 5, true, 74), (3, 0, true, x3), (4, 0, true, x4)] [(2, true, 1)] (sM s (hy_u m 74 68 (m 116 0))))
    refine hY _ _ _ _ ?_
    exact hQ 1 (hy_u m 74 68 (m 116 0)) h.2.2
  · have h := h.2 hc
    refine hY _ _ _ _ (hY _ _ _ _ (hY _ _ _ _ (?_ : Y 33 [(3, 0, false, x3 + (-1)), (0, 5, true, 74), (4, 0, true, x4)] [(5, true, 112)] (sM s m))))
    refine hY _ _ _ _ (?_ : Y 34 [(3, 0, false, x3 + (-1)), (0, 5, true, 74), (4, 0, true, x4)] [(0, false, x3 + (-1)), (5, true, 112)] (sM s m))
    refine hY _ _ _ _ ?_
    refine (And.intro h.1 (And.intro h.2.1 ?_))
    refine hY _ _ _ _ (hY _ _ _ _ (hY _ _ _ _ (?_ : Y 42 [(5, 1, true, m 112 (x3 + (-1))), (3, 0, false, x3 + (-1)), (0, 5, true, 74), (4, 0, true, x4)] [(1, true, 1729382256910270464), (1, true, m 112 (x3 + (-1)))] (sM s m))))
    refine hY _ _ _ _ ?_
    refine Exists.intro _ (And.intro (wc_250_1t_1t (m 112 (x3 + (-1))) 1729382256910270464 _ _ h.2.2) (fun r1 m1 h => ?_))
    show Y 45 [(5, 1, true, m 112 (x3 + (-1))), (3, 0, false, x3 + (-1)), (0, 5, true, 74), (4, 0, true, x4)] [(2, true, r1)] (sM s m1)
    refine hY _ _ _ _ ?_
    refine And.intro (fun hc => ?_) (fun hc => ?_)
    · have h := h.1 hc
      refine hY _ _ _ _ (hY _ _ _ _ (?_ : Y 56 [(5, 1, true, m 112 (x3 + (-1))), (3, 0, false, x3 + (-1)), (0, 5, true, 74), (4, 0, true, x4)] [(1, true, m 112 (x3 + (-1))), (5, true, 74)] (sM s m1)))
      refine hY _ _ _ _ ?_
      refine Exists.intro _ (And.intro (wc_241_r74_1t (m 112 (x3 + (-1))) _ _ h) (fun r2 m2 h => ?_))
      refine hY _ _ _ _ (hY _ _ _ _ (hY _ _ _ _ (?_ : Y 66 [(7, 0, true, r2), (5, 1, true, m 112 (x3 + (-1))), (3, 0, false, x3 + (-1)), (0, 5, true, 74), (4, 0, true, x4)] [(1, true, 1152921504606846976), (1, true, m 112 (x3 + (-1)))] (sM s m2))))
      refine hY _ _ _ _ ?_
      refine Exists.intro _ (And.intro (wc_250_1t_1t (m 112 (x3 + (-1))) 1152921504606846976 _ _ h) (fun r3 m3 h => ?_))
      show Y 69 [(7, 0, true, r2), (5, 1, true, m 112 (x3 + (-1))), (3, 0, false, x3 + (-1)), (0, 5, true, 74), (4, 0, true, x4)] [(2, true, r3)] (sM s m3)
      refine hY _ _ _ _ ?_
      refine And.intro (fun hc => ?_) (fun hc => ?_)
      · have h := h.1 hc
        refine hY _ _ _ _ (hY _ _ _ _ (?_ : Y 118 [(7, 0, true, r2), (5, 1, true, m 112 (x3 + (-1))), (3, 0, false, x3 + (-1)), (0, 5, true, 74), (4, 0, true, x4)] [(1, true, 576460752303423488), (1, true, m 112 (x3 + (-1)))] (sM s m3)))
        refine hY _ _ _ _ ?_
        refine Exists.intro _ (And.intro (wc_250_1t_1t (m 112 (x3 + (-1))) 576460752303423488 _ _ h) (fun r4 m4 h => ?_))
        show Y 121 [(7, 0, true, r2), (5, 1, true, m 112 (x3 + (-1))), (3, 0, false, x3 + (-1)), (0, 5, true, 74), (4, 0, true, x4)] [(2, true, r4)] (sM s m4)
        refine hY _ _ _ _ ?_
        refine And.intro (fun hc => ?_) (fun hc => ?_)
        · have h := h.1 hc
          refine hY _ _ _ _ (hY _ _ _ _ (?_ : Y 168 [(7, 0, true, r2), (5, 1, true, m 112 (x3 + (-1))), (3, 0, false, x3 + (-1)), (0, 5, true, 74), (4, 0, true, x4)] [(0, true, (-9)), (0, true, r2)] (sM s m4)))
          refine hY _ _ _ _ ?_
          refine And.intro (fun hc => ?_) (fun hc => ?_)
          · have h := h.1 hc
            show Y 205 [(7, 0, true, r2), (5, 1, true, m 112 (x3 + (-1))), (3, 0, false, x3 + (-1)), (0, 5, true, 74), (4, 0, true, x4)] [] (sM s m4)
            refine l205 _ _ ?_
            refine And.intro h.1 ?_
            exact (Exists.intro m4 (And.intro rfl h.2))
          · have h := h.2 hc
            refine hY _ _ _ _ (hY _ _ _ _ (hY _ _ _ _ (?_ : Y 177 [(7, 0, true, r2), (5, 1, true, m 112 (x3 + (-1))), (3, 0, false, x3 + (-1)), (0, 5, true, 74), (4, 0, true, x4)] [(0, true, r2), (5, true, 113)] (sM s m4))))
            refine hY _ _ _ _ ?_
            refine (And.intro h.1 (And.intro h.2.1 ?_))
            refine hY _ _ _ _ (hY _ _ _ _ (?_ : Y 182 [(7, 0, true, r2), (5, 1, true, m 112 (x3 + (-1))), (3, 0, false, x3 + (-1)), (0, 5, true, 74), (4, 0, true, x4)] [(0, true, m4 74 64), (0, true, m4 113 r2)] (sM s m4)))
            refine hY _ _ _ _ ?_
            refine And.intro (fun hc => ?_) (fun hc => ?_)
            · have h := h.2.2.1 hc
              show Y 205 [(7, 0, true, r2), (5, 1, true, m 112 (x3 + (-1))), (3, 0, false, x3 + (-1)), (0, 5, true, 74), (4, 0, true, x4)] [] (sM s m4)
              refine l205 _ _ ?_
              refine And.intro h.1 ?_
              exact (Exists.intro m4 (And.intro rfl h.2))
            · have h := h.2.2.2 hc
              refine hY _ _ _ _ (hY _ _ _ _ (hY _ _ _ _ (?_ : Y 191 [(7, 0, true, r2), (5, 1, true, m 112 (x3 + (-1))), (3, 0, false, x3 + (-1)), (0, 5, true, 74), (4, 0, true, x4)] [(0, true, x4), (5, true, 116)] (sM s m4))))
              refine hY _ _ _ _ (hY _ _ _ _ (hY _ _ _ _ (?_ : Y 197 [(7, 0, true, r2), (5, 1, true, m 112 (x3 + (-1))), (3, 0, false, x3 + (-1)), (0, 5, true, 74), (4, 0, true, x4)] [(0, true, r2), (5, true, 114), (0, true, x4), (5, true, 116)] (sM s m4))))
              refine hY _ _ _ _ ?_
              refine (And.intro h.1 (And.intro h.2.1 ?_))
              show Y 198 [(7, 0, true, r2), (5, 1, true, m 112 (x3 + (-1))), (3, 0, false, x3 + (-1)), (0, 5, true, 74), (4, 0, true, x4)] [(0, true, m4 114 r2), (0, true, x4), (5, true, 116)] (sM s m4)
              refine hY _ _ _ _ ?_
              refine (And.intro h.2.2.1 (And.intro h.2.2.2.1 ?_))
              refine hY _ _ _ _ (hY _ _ _ _ (hY _ _ _ _ (?_ : Y 22 [(4, 0, false, x4 + 1), (7, 0, true, r2), (5, 1, true, m 112 (x3 + (-1))), (3, 0, false, x3 + (-1)), (0, 5, true, 74)] [] (sM s (hy_u m4 116 x4 (m4 114 r2))))))
              refine l22 _ _ ?_
              refine And.intro h.2.2.2.2.1 ?_
              refine And.intro h.2.2.2.2.2.1 ?_
              exact (Exists.intro (hy_u m4 116 x4 (m4 114 r2)) (And.intro rfl h.2.2.2.2.2.2))
        · have h := h.2 hc
          refine hY _ _ _ _ (hY _ _ _ _ (hY _ _ _ _ (?_ : Y 130 [(7, 0, true, r2), (5, 1, true, m 112 (x3 + (-1))), (3, 0, false, x3 + (-1)), (0, 5, true, 74), (4, 0, true, x4)] [(1, true, m 112 (x3 + (-1))), (5, true, 114)] (sM s m4))))
          refine hY _ _ _ _ (?_ : Y 133 [(7, 0, true, r2), (5, 1, true, m 112 (x3 + (-1))), (3, 0, false, x3 + (-1)), (0, 5, true, 74), (4, 0, true, x4)] [(1, true, 65535), (1, true, m 112 (x3 + (-1))), (5, true, 114)] (sM s m4))
          refine hY _ _ _ _ (?_ : Y 134 [(7, 0, true, r2), (5, 1, true, m 112 (x3 + (-1))), (3, 0, false, x3 + (-1)), (0, 5, true, 74), (4, 0, true, x4)] [(1, true, jA (m 112 (x3 + (-1))) 65535), (5, true, 114)] (sM s m4))
          refine hY _ _ _ _ (hY _ _ _ _ (hY _ _ _ _ (?_ : Y 139 [(7, 0, true, r2), (5, 1, true, m 112 (x3 + (-1))), (3, 0, false, x3 + (-1)), (0, 5, true, 74), (4, 0, true, x4)] [(5, true, 116), (0, false, jA (m 112 (x3 + (-1))) 65535), (5, true, 114)] (sM s m4))))
          refine hY _ _ _ _ (hY _ _ _ _ (hY _ _ _ _ (?_ : Y 143 [(7, 0, true, r2), (5, 1, true, m 112 (x3 + (-1))), (3, 0, false, x3 + (-1)), (0, 5, true, 74), (4, 0, true, x4)] [(0, false, x4 - 1), (5, true, 116), (0, false, jA (m 112 (x3 + (-1))) 65535), (5, true, 114)] (sM s m4))))
          refine hY _ _ _ _ ?_
          refine (And.intro h.1 (And.intro h.2.1 ?_))
          show Y 144 [(7, 0, true, r2), (5, 1, true, m 112 (x3 + (-1))), (3, 0, false, x3 + (-1)), (0, 5, true, 74), (4, 0, true, x4)] [(0, true, m4 116 (x4 - 1)), (0, false, jA (m 112 (x3 + (-1))) 65535), (5, true, 114)] (sM s m4)
          refine hY _ _ _ _ ?_
          refine (And.intro h.2.2.1 (And.intro h.2.2.2.1 ?_))
          refine hY _ _ _ _ (hY _ _ _ _ (hY _ _ _ _ (?_ : Y 151 [(7, 0, true, r2), (5, 1, true, m 112 (x3 + (-1))), (3, 0, false, x3 + (-1)), (0, 5, true, 74), (4, 0, true, x4)] [(1, true, m 112 (x3 + (-1))), (5, true, 113)] (sM s (hy_u m4 114 (jA (m 112 (x3 + (-1))) 65535) (m4 116 (x4 - 1)))))))
          refine hY _ _ _ _ (?_ : Y 154 [(7, 0, true, r2), (5, 1, true, m 112 (x3 + (-1))), (3, 0, false, x3 + (-1)), (0, 5, true, 74), (4, 0, true, x4)] [(1, true, 65535), (1, true, m 112 (x3 + (-1))), (5, true, 113)] (sM s (hy_u m4 114 (jA (m 112 (x3 + (-1))) 65535) (m4 116 (x4 - 1)))))
          refine hY _ _ _ _ (?_ : Y 155 [(7, 0, true, r2), (5, 1, true, m 112 (x3 + (-1))), (3, 0, false, x3 + (-1)), (0, 5, true, 74), (4, 0, true, x4)] [(1, true, jA (m 112 (x3 + (-1))) 65535), (5, true, 113)] (sM s (hy_u m4 114 (jA (m 112 (x3 + (-1))) 65535) (m4 116 (x4 - 1)))))
          refine hY _ _ _ _ (hY _ _ _ _ (hY _ _ _ _ (?_ : Y 160 [(7, 0, true, r2), (5, 1, true, m 112 (x3 + (-1))), (3, 0, false, x3 + (-1)), (0, 5, true, 74), (4, 0, true, x4)] [(0, true, m4 74 64), (0, false, jA (m 112 (x3 + (-1))) 65535), (5, true, 113)] (sM s (hy_u m4 114 (jA (m 112 (x3 + (-1))) 65535) (m4 116 (x4 - 1)))))))
          refine hY _ _ _ _ ?_
          refine (And.intro h.2.2.2.2.1 (And.intro h.2.2.2.2.2.1 ?_))
          refine hY _ _ _ _ (hY _ _ _ _ (?_ : Y 22 [(7, 0, true, r2), (5, 1, true, m 112 (x3 + (-1))), (3, 0, false, x3 + (-1)), (0, 5, true, 74), (4, 0, true, x4)] [] (sM s (hy_u (hy_u m4 114 (jA (m 112 (x3 + (-1))) 65535) (m4 116 (x4 - 1))) 113 (jA (m 112 (x3 + (-1))) 65535) (m4 74 64)))))
          refine l22 _ _ ?_
          refine And.intro h.2.2.2.2.2.2.1 ?_
          exact (Exists.intro (hy_u (hy_u m4 114 (jA (m 112 (x3 + (-1))) 65535) (m4 116 (x4 - 1))) 113 (jA (m 112 (x3 + (-1))) 65535) (m4 74 64)) (And.intro rfl h.2.2.2.2.2.2.2))
      · have h := h.2 hc
        refine hY _ _ _ _ (hY _ _ _ _ (hY _ _ _ _ (?_ : Y 79 [(4, 0, false, x4 + (-1)), (7, 0, true, r2), (5, 1, true, m 112 (x3 + (-1))), (3, 0, false, x3 + (-1)), (0, 5, true, 74)] [(5, true, 116)] (sM s m3))))
        refine hY _ _ _ _ (hY _ _ _ _ (hY _ _ _ _ (?_ : Y 83 [(4, 0, false, x4 + (-1)), (7, 0, true, r2), (5, 1, true, m 112 (x3 + (-1))), (3, 0, false, x3 + (-1)), (0, 5, true, 74)] [(0, false, (x4 + (-1)) - 1), (5, true, 116)] (sM s m3))))
        refine hY _ _ _ _ (hY _ _ _ _ (?_ : Y 88 [(4, 0, false, x4 + (-1)), (7, 0, true, r2), (5, 1, true, m 112 (x3 + (-1))), (3, 0, false, x3 + (-1)), (0, 5, true, 74)] [(1, true, 3), (1, true, m 112 (x3 + (-1))), (0, false, (x4 + (-1)) - 1), (5, true, 116)] (sM s m3)))
        refine hY _ _ _ _ (?_ : Y 89 [(4, 0, false, x4 + (-1)), (7, 0, true, r2), (5, 1, true, m 112 (x3 + (-1))), (3, 0, false, x3 + (-1)), (0, 5, true, 74)] [(1, true, jA (m 112 (x3 + (-1))) 3), (0, false, (x4 + (-1)) - 1), (5, true, 116)] (sM s m3))
        refine hY _ _ _ _ (hY _ _ _ _ (hY _ _ _ _ (?_ : Y 94 [(4, 0, false, x4 + (-1)), (7, 0, true, r2), (5, 1, true, m 112 (x3 + (-1))), (3, 0, false, x3 + (-1)), (0, 5, true, 74)] [(5, true, 116), (0, false, jA (m 112 (x3 + (-1))) 3), (0, false, (x4 + (-1)) - 1), (5, true, 116)] (sM s m3))))
        refine hY _ _ _ _ (hY _ _ _ _ (hY _ _ _ _ (?_ : Y 98 [(4, 0, false, x4 + (-1)), (7, 0, true, r2), (5, 1, true, m 112 (x3 + (-1))), (3, 0, false, x3 + (-1)), (0, 5, true, 74)] [(0, false, (x4 + (-1)) - 1), (5, true, 116), (0, false, jA (m 112 (x3 + (-1))) 3), (0, false, (x4 + (-1)) - 1), (5, true, 116)] (sM s m3))))
        refine hY _ _ _ _ ?_
        refine (And.intro h.1 (And.intro h.2.1 ?_))
        refine hY _ _ _ _ (hY _ _ _ _ (hY _ _ _ _ (?_ : Y 105 [(4, 0, false, x4 + (-1)), (7, 0, true, r2), (5, 1, true, m 112 (x3 + (-1))), (3, 0, false, x3 + (-1)), (0, 5, true, 74)] [(0, false, x4 + (-1)), (5, true, 116), (0, true, m3 116 ((x4 + (-1)) - 1)), (0, false, jA (m 112 (x3 + (-1))) 3), (0, false, (x4 + (-1)) - 1), (5, true, 116)] (sM s m3))))
        refine hY _ _ _ _ ?_
        refine (And.intro h.2.2.1 (And.intro h.2.2.2.1 ?_))
        show Y 106 [(4, 0, false, x4 + (-1)), (7, 0, true, r2), (5, 1, true, m 112 (x3 + (-1))), (3, 0, false, x3 + (-1)), (0, 5, true, 74)] [(0, true, m3 116 (x4 + (-1))), (0, true, m3 116 ((x4 + (-1)) - 1)), (0, false, jA (m 112 (x3 + (-1))) 3), (0, false, (x4 + (-1)) - 1), (5, true, 116)] (sM s m3)
        refine hY _ _ _ _ ?_
        refine Exists.intro _ (And.intro (wc_248_0f_0t_0t (jA (m 112 (x3 + (-1))) 3) (m3 116 ((x4 + (-1)) - 1)) (m3 116 (x4 + (-1))) _ _ h.2.2.2.2) (fun r5 m5 h => ?_))
        show Y 109 [(4, 0, false, x4 + (-1)), (7, 0, true, r2), (5, 1, true, m 112 (x3 + (-1))), (3, 0, false, x3 + (-1)), (0, 5, true, 74)] [(0, true, r5), (0, false, (x4 + (-1)) - 1), (5, true, 116)] (sM s m5)
        refine hY _ _ _ _ ?_
        refine (And.intro h.1 (And.intro h.2.1 ?_))
        refine hY _ _ _ _ (hY _ _ _ _ (?_ : Y 22 [(4, 0, false, x4 + (-1)), (7, 0, true, r2), (5, 1, true, m 112 (x3 + (-1))), (3, 0, false, x3 + (-1)), (0, 5, true, 74)] [] (sM s (hy_u m5 116 ((x4 + (-1)) - 1) r5))))
        refine l22 _ _ ?_
        refine And.intro h.2.2.1 ?_
        refine And.intro h.2.2.2.1 ?_
        exact (Exists.intro (hy_u m5 116 ((x4 + (-1)) - 1) r5) (And.intro rfl h.2.2.2.2))
    · have h := h.2 hc
      refine hY _ _ _ _ (hY _ _ _ _ (hY _ _ _ _ (?_ : Y 61 [(7, 0, true, (-9)), (5, 1, true, m 112 (x3 + (-1))), (3, 0, false, x3 + (-1)), (0, 5, true, 74), (4, 0, true, x4)] [] (sM s m1))))
      refine hY _ _ _ _ (hY _ _ _ _ (?_ : Y 66 [(7, 0, true, (-9)), (5, 1, true, m 112 (x3 + (-1))), (3, 0, false, x3 + (-1)), (0, 5, true, 74), (4, 0, true, x4)] [(1, true, 1152921504606846976), (1, true, m 112 (x3 + (-1)))] (sM s m1)))
      refine hY _ _ _ _ ?_
      refine Exists.intro _ (And.intro (wc_250_1t_1t (m 112 (x3 + (-1))) 1152921504606846976 _ _ h) (fun r6 m6 h => ?_))
      show Y 69 [(7, 0, true, (-9)), (5, 1, true, m 112 (x3 + (-1))), (3, 0, false, x3 + (-1)), (0, 5, true, 74), (4, 0, true, x4)] [(2, true, r6)] (sM s m6)
      refine hY _ _ _ _ ?_
      refine And.intro (fun hc => ?_) (fun hc => ?_)
      · have h := h.1 hc
        refine hY _ _ _ _ (hY _ _ _ _ (?_ : Y 118 [(7, 0, true, (-9)), (5, 1, true, m 112 (x3 + (-1))), (3, 0, false, x3 + (-1)), (0, 5, true, 74), (4, 0, true, x4)] [(1, true, 576460752303423488), (1, true, m 112 (x3 + (-1)))] (sM s m6)))
        refine hY _ _ _ _ ?_
        refine Exists.intro _ (And.intro (wc_250_1t_1t (m 112 (x3 + (-1))) 576460752303423488 _ _ h) (fun r7 m7 h => ?_))
        show Y 121 [(7, 0, true, (-9)), (5, 1, true, m 112 (x3 + (-1))), (3, 0, false, x3 + (-1)), (0, 5, true, 74), (4, 0, true, x4)] [(2, true, r7)] (sM s m7)
        refine hY _ _ _ _ ?_
        refine And.intro (fun hc => ?_) (fun hc => ?_)
        · have h := h.1 hc
          refine hY _ _ _ _ (hY _ _ _ _ (?_ : Y 168 [(7, 0, true, (-9)), (5, 1, true, m 112 (x3 + (-1))), (3, 0, false, x3 + (-1)), (0, 5, true, 74), (4, 0, true, x4)] [(0, true, (-9)), (0, true, (-9))] (sM s m7)))
          refine hY _ _ _ _ ?_
          refine And.intro (fun hc => ?_) (fun hc => ?_)
          · have h := h.1 hc
            show Y 205 [(7, 0, true, (-9)), (5, 1, true, m 112 (x3 + (-1))), (3, 0, false, x3 + (-1)), (0, 5, true, 74), (4, 0, true, x4)] [] (sM s m7)
            refine l205 _ _ ?_
            refine And.intro h.1 ?_
            exact (Exists.intro m7 (And.intro rfl h.2))
          · have h := h.2 hc
            refine hY _ _ _ _ (hY _ _ _ _ (hY _ _ _ _ (?_ : Y 177 [(7, 0, true, (-9)), (5, 1, true, m 112 (x3 + (-1))), (3, 0, false, x3 + (-1)), (0, 5, true, 74), (4, 0, true, x4)] [(0, true, (-9)), (5, true, 113)] (sM s m7))))
            refine hY _ _ _ _ ?_
            refine (And.intro h.1 (And.intro h.2.1 ?_))
            refine hY _ _ _ _ (hY _ _ _ _ (?_ : Y 182 [(7, 0, true, (-9)), (5, 1, true, m 112 (x3 + (-1))), (3, 0, false, x3 + (-1)), (0, 5, true, 74), (4, 0, true, x4)] [(0, true, m7 74 64), (0, true, m7 113 (-9))] (sM s m7)))
            refine hY _ _ _ _ ?_
            refine And.intro (fun hc => ?_) (fun hc => ?_)
            · have h := h.2.2.1 hc
              show Y 205 [(7, 0, true, (-9)), (5, 1, true, m 112 (x3 + (-1))), (3, 0, false, x3 + (-1)), (0, 5, true, 74), (4, 0, true, x4)] [] (sM s m7)
              refine l205 _ _ ?_
              refine And.intro h.1 ?_
              exact (Exists.intro m7 (And.intro rfl h.2))
            · have h := h.2.2.2 hc
              refine hY _ _ _ _ (hY _ _ _ _ (hY _ _ _ _ (?_ : Y 191 [(7, 0, true, (-9)), (5, 1, true, m 112 (x3 + (-1))), (3, 0, false, x3 + (-1)), (0, 5, true, 74), (4, 0, true, x4)] [(0, true, x4), (5, true, 116)] (sM s m7))))
              refine hY _ _ _ _ (hY _ _ _ _ (hY _ _ _ _ (?_ : Y 197 [(7, 0, true, (-9)), (5, 1, true, m 112 (x3 + (-1))), (3, 0, false, x3 + (-1)), (0, 5, true, 74), (4, 0, true, x4)] [(0, true, (-9)), (5, true, 114), (0, true, x4), (5, true, 116)] (sM s m7))))
              refine hY _ _ _ _ ?_
              refine (And.intro h.1 (And.intro h.2.1 ?_))
              show Y 198 [(7, 0, true, (-9)), (5, 1, true, m 112 (x3 + (-1))), (3, 0, false, x3 + (-1)), (0, 5, true, 74), (4, 0, true, x4)] [(0, true, m7 114 (-9)), (0, true, x4), (5, true, 116)] (sM s m7)
              refine hY _ _ _ _ ?_
              refine (And.intro h.2.2.1 (And.intro h.2.2.2.1 ?_))
              refine hY _ _ _ _ (hY _ _ _ _ (hY _ _ _ _ (?_ : Y 22 [(4, 0, false, x4 + 1), (7, 0, true, (-9)), (5, 1, true, m 112 (x3 + (-1))), (3, 0, false, x3 + (-1)), (0, 5, true, 74)] [] (sM s (hy_u m7 116 x4 (m7 114 (-9)))))))
              refine l22 _ _ ?_
              refine And.intro h.2.2.2.2.1 ?_
              refine And.intro h.2.2.2.2.2.1 ?_
              exact (Exists.intro (hy_u m7 116 x4 (m7 114 (-9))) (And.intro rfl h.2.2.2.2.2.2))
        · have h := h.2 hc
          refine hY _ _ _ _ (hY _ _ _ _ (hY _ _ _ _ (?_ : Y 130 [(7, 0, true, (-9)), (5, 1, true, m 112 (x3 + (-1))), (3, 0, false, x3 + (-1)), (0, 5, true, 74), (4, 0, true, x4)] [(1, true, m 112 (x3 + (-1))), (5, true, 114)] (sM s m7))))
          refine hY _ _ _ _ (?_ : Y 133 [(7, 0, true, (-9)), (5, 1, true, m 112 (x3 + (-1))), (3, 0, false, x3 + (-1)), (0, 5, true, 74), (4, 0, true, x4)] [(1, true, 65535), (1, true, m 112 (x3 + (-1))), (5, true, 114)] (sM s m7))
          refine hY _ _ _ _ (?_ : Y 134 [(7, 0, true, (-9)), (5, 1, true, m 112 (x3 + (-1))), (3, 0, false, x3 + (-1)), (0, 5, true, 74), (4, 0, true, x4)] [(1, true, jA (m 112 (x3 + (-1))) 65535), (5, true, 114)] (sM s m7))
          refine hY _ _ _ _ (hY _ _ _ _ (hY _ _ _ _ (?_ : Y 139 [(7, 0, true, (-9)), (5, 1, true, m 112 (x3 + (-1))), (3, 0, false, x3 + (-1)), (0, 5, true, 74), (4, 0, true, x4)] [(5, true, 116), (0, false, jA (m 112 (x3 + (-1))) 65535), (5, true, 114)] (sM s m7))))
          refine hY _ _ _ _ (hY _ _ _ _ (hY _ _ _ _ (?_ : Y 143 [(7, 0, true, (-9)), (5, 1, true, m 112 (x3 + (-1))), (3, 0, false, x3 + (-1)), (0, 5, true, 74), (4, 0, true, x4)] [(0, false, x4 - 1), (5, true, 116), (0, false, jA (m 112 (x3 + (-1))) 65535), (5, true, 114)] (sM s m7))))
          refine hY _ _ _ _ ?_
          refine (And.intro h.1 (And.intro h.2.1 ?_))
          show Y 144 [(7, 0, true, (-9)), (5, 1, true, m 112 (x3 + (-1))), (3, 0, false, x3 + (-1)), (0, 5, true, 74), (4, 0, true, x4)] [(0, true, m7 116 (x4 - 1)), (0, false, jA (m 112 (x3 + (-1))) 65535), (5, true, 114)] (sM s m7)
          refine hY _ _ _ _ ?_
          refine (And.intro h.2.2.1 (And.intro h.2.2.2.1 ?_))
          refine hY _ _ _ _ (hY _ _ _ _ (hY _ _ _ _ (?_ : Y 151 [(7, 0, true, (-9)), (5, 1, true, m 112 (x3 + (-1))), (3, 0, false, x3 + (-1)), (0, 5, true, 74), (4, 0, true, x4)] [(1, true, m 112 (x3 + (-1))), (5, true, 113)] (sM s (hy_u m7 114 (jA (m 112 (x3 + (-1))) 65535) (m7 116 (x4 - 1)))))))
          refine hY _ _ _ _ (?_ : Y 154 [(7, 0, true, (-9)), (5, 1, true, m 112 (x3 + (-1))), (3, 0, false, x3 + (-1)), (0, 5, true, 74), (4, 0, true, x4)] [(1, true, 65535), (1, true, m 112 (x3 + (-1))), (5, true, 113)] (sM s (hy_u m7 114 (jA (m 112 (x3 + (-1))) 65535) (m7 116 (x4 - 1)))))
          refine hY _ _ _ _ (?_ : Y 155 [(7, 0, true, (-9)), (5, 1, true, m 112 (x3 + (-1))), (3, 0, false, x3 + (-1)), (0, 5, true, 74), (4, 0, true, x4)] [(1, true, jA (m 112 (x3 + (-1))) 65535), (5, true, 113)] (sM s (hy_u m7 114 (jA (m 112 (x3 + (-1))) 65535) (m7 116 (x4 - 1)))))
          refine hY _ _ _ _ (hY _ _ _ _ (hY _ _ _ _ (?_ : Y 160 [(7, 0, true, (-9)), (5, 1, true, m 112 (x3 + (-1))), (3, 0, false, x3 + (-1)), (0, 5, true, 74), (4, 0, true, x4)] [(0, true, m7 74 64), (0, false, jA (m 112 (x3 + (-1))) 65535), (5, true, 113)] (sM s (hy_u m7 114 (jA (m 112 (x3 + (-1))) 65535) (m7 116 (x4 - 1)))))))
          refine hY _ _ _ _ ?_
          refine (And.intro h.2.2.2.2.1 (And.intro h.2.2.2.2.2.1 ?_))
          refine hY _ _ _ _ (hY _ _ _ _ (?_ : Y 22 [(7, 0, true, (-9)), (5, 1, true, m 112 (x3 + (-1))), (3, 0, false, x3 + (-1)), (0, 5, true, 74), (4, 0, true, x4)] [] (sM s (hy_u (hy_u m7 114 (jA (m 112 (x3 + (-1))) 65535) (m7 116 (x4 - 1))) 113 (jA (m 112 (x3 + (-1))) 65535) (m7 74 64)))))
          refine l22 _ _ ?_
          refine And.intro h.2.2.2.2.2.2.1 ?_
          exact (Exists.intro (hy_u (hy_u m7 114 (jA (m 112 (x3 + (-1))) 65535) (m7 116 (x4 - 1))) 113 (jA (m 112 (x3 + (-1))) 65535) (m7 74 64)) (And.intro rfl h.2.2.2.2.2.2.2))
      · have h := h.2 hc
        refine hY _ _ _ _ (hY _ _ _ _ (hY _ _ _ _ (?_ : Y 79 [(4, 0, false, x4 + (-1)), (7, 0, true, (-9)), (5, 1, true, m 112 (x3 + (-1))), (3, 0, false, x3 + (-1)), (0, 5, true, 74)] [(5, true, 116)] (sM s m6))))
        refine hY _ _ _ _ (hY _ _ _ _ (hY _ _ _ _ (?_ : Y 83 [(4, 0, false, x4 + (-1)), (7, 0, true, (-9)), (5, 1, true, m 112 (x3 + (-1))), (3, 0, false, x3 + (-1)), (0, 5, true, 74)] [(0, false, (x4 + (-1)) - 1), (5, true, 116)] (sM s m6))))
        refine hY _ _ _ _ (hY _ _ _ _ (?_ : Y 88 [(4, 0, false, x4 + (-1)), (7, 0, true, (-9)), (5, 1, true, m 112 (x3 + (-1))), (3, 0, false, x3 + (-1)), (0, 5, true, 74)] [(1, true, 3), (1, true, m 112 (x3 + (-1))), (0, false, (x4 + (-1)) - 1), (5, true, 116)] (sM s m6)))
        refine hY _ _ _ _ (?_ : Y 89 [(4, 0, false, x4 + (-1)), (7, 0, true, (-9)), (5, 1, true, m 112 (x3 + (-1))), (3, 0, false, x3 + (-1)), (0, 5, true, 74)] [(1, true, jA (m 112 (x3 + (-1))) 3), (0, false, (x4 + (-1)) - 1), (5, true, 116)] (sM s m6))
        refine hY _ _ _ _ (hY _ _ _ _ (hY _ _ _ _ (?_ : Y 94 [(4, 0, false, x4 + (-1)), (7, 0, true, (-9)), (5, 1, true, m 112 (x3 + (-1))), (3, 0, false, x3 + (-1)), (0, 5, true, 74)] [(5, true, 116), (0, false, jA (m 112 (x3 + (-1))) 3), (0, false, (x4 + (-1)) - 1), (5, true, 116)] (sM s m6))))
        refine hY _ _ _ _ (hY _ _ _ _ (hY _ _ _ _ (?_ : Y 98 [(4, 0, false, x4 + (-1)), (7, 0, true, (-9)), (5, 1, true, m 112 (x3 + (-1))), (3, 0, false, x3 + (-1)), (0, 5, true, 74)] [(0, false, (x4 + (-1)) - 1), (5, true, 116), (0, false, jA (m 112 (x3 + (-1))) 3), (0, false, (x4 + (-1)) - 1), (5, true, 116)] (sM s m6))))
        refine hY _ _ _ _ ?_
        refine (And.intro h.1 (And.intro h.2.1 ?_))
        refine hY _ _ _ _ (hY _ _ _ _ (hY _ _ _ _ (?_ : Y 105 [(4, 0, false, x4 + (-1)), (7, 0, true, (-9)), (5, 1, true, m 112 (x3 + (-1))), (3, 0, false, x3 + (-1)), (0, 5, true, 74)] [(0, false, x4 + (-1)), (5, true, 116), (0, true, m6 116 ((x4 + (-1)) - 1)), (0, false, jA (m 112 (x3 + (-1))) 3), (0, false, (x4 + (-1)) - 1), (5, true, 116)] (sM s m6))))
        refine hY _ _ _ _ ?_
        refine (And.intro h.2.2.1 (And.intro h.2.2.2.1 ?_))
        show Y 106 [(4, 0, false, x4 + (-1)), (7, 0, true, (-9)), (5, 1, true, m 112 (x3 + (-1))), (3, 0, false, x3 + (-1)), (0, 5, true, 74)] [(0, true, m6 116 (x4 + (-1))), (0, true, m6 116 ((x4 + (-1)) - 1)), (0, false, jA (m 112 (x3 + (-1))) 3), (0, false, (x4 + (-1)) - 1), (5, true, 116)] (sM s m6)
        refine hY _ _ _ _ ?_
        refine Exists.intro _ (And.intro (wc_248_0f_0t_0t (jA (m 112 (x3 + (-1))) 3) (m6 116 ((x4 + (-1)) - 1)) (m6 116 (x4 + (-1))) _ _ h.2.2.2.2) (fun r8 m8 h => ?_))
        show Y 109 [(4, 0, false, x4 + (-1)), (7, 0, true, (-9)), (5, 1, true, m 112 (x3 + (-1))), (3, 0, false, x3 + (-1)), (0, 5, true, 74)] [(0, true, r8), (0, false, (x4 + (-1)) - 1), (5, true, 116)] (sM s m8)
        refine hY _ _ _ _ ?_
        refine (And.intro h.1 (And.intro h.2.1 ?_))
        refine hY _ _ _ _ (hY _ _ _ _ (?_ : Y 22 [(4, 0, false, x4 + (-1)), (7, 0, true, (-9)), (5, 1, true, m 112 (x3 + (-1))), (3, 0, false, x3 + (-1)), (0, 5, true, 74)] [] (sM s (hy_u m8 116 ((x4 + (-1)) - 1) r8))))
        refine l22 _ _ ?_
        refine And.intro h.2.2.1 ?_
        refine And.intro h.2.2.2.1 ?_
        exact (Exists.intro (hy_u m8 116 ((x4 + (-1)) - 1) r8) (And.intro rfl h.2.2.2.2))
theorem wk_251_22 (Q : sQ) (R : Int → hy_m → Prop) (s : sS) (x3 : Int) (x4 : Int) (hQ : ∀ x m', R x m' → Q x (sM s m')) (hr : sRg [(0, 5, 74), (3, 0, 0), (4, 0, 0)] [x3, x4]) (h : wq_251_22 x3 x4 s.2.2.2 R) : kX dM 3 im_m251 2 22 (sCan [(0, 5, 74), (3, 0, 0), (4, 0, 0)] [x3, x4]) [] s Q :=
  h (fun x3 x4 m => sRg [(0, 5, 74), (3, 0, 0), (4, 0, 0)] [x3, x4] → kX dM 3 im_m251 2 22 (sCan [(0, 5, 74), (3, 0, 0), (4, 0, 0)] [x3, x4]) [] (sM s m) Q) (fun x3 x4 m h hr => wj_251_22 Q R s (fun x3 x4 m => sRg [(0, 5, 74), (3, 0, 0), (4, 0, 0)] [x3, x4] → kX dM 3 im_m251 2 22 (sCan [(0, 5, 74), (3, 0, 0), (4, 0, 0)] [x3, x4]) [] (sM s m) Q) x3 x4 m  (fun _ _ _ hp hr => hp hr) hQ hr h) hr
def lb_251_0 (s : sS) (Q : sQ) (R : Int → hy_m → Prop) (x1 : Int) : Nat → Option (sL → sS → Prop) := sLb [(22, fun lv t => sG [(0, 5, 74), (3, 0, 0), (4, 0, 0)] lv (ap2 (fun w3 w4 => ∃ m', t = sM s m' ∧ wq_251_22 w3 w4 m' R)))]
set_option maxRecDepth 30000 in
set_option maxHeartbeats 1000000 in
theorem wk_251_0 (Q : sQ) (R : Int → hy_m → Prop) (s : sS) (x1 : Int) (hQ : ∀ x m', R x m' → Q x (sM s m')) (hr : sRg [(0, 5, 74), (1, 1, 0)] [x1]) (h : wq_251 x1 s.2.2.2 R) : kX dM 3 im_m251 2 0 (sCan [(0, 5, 74), (1, 1, 0)] [x1]) [] s Q := by
  unfold wq_251 at h
  refine wz2_ok (cs := cs_251) (wr := [18]) (lb := lb_251_0 s Q R x1) cs_251_ok (kLb_c (kLab (Bd := fun xs t => ap2 (fun w3 w4 => ∃ m', t = sM s m' ∧ wq_251_22 w3 w4 m' R) xs) rfl (fun xs t r1 r2 hb => by obtain ⟨w3, w4, rfl, hb⟩ := ap2_ok hb; obtain ⟨m', rfl, hx⟩ := hb; exact wk_251_22 Q R (sM s m') _ _ (fun x m'' hy => hQ x m'' hy) r1 hx)) kLb_n) (okL_can rfl hr) (fun Y hY hl => ?_)
  have l22 := hl 22 _ rfl
  refine hY _ _ _ _ (hY _ _ _ _ (hY _ _ _ _ (?_ : Y 3 [(3, 2, true, 1), (0, 5, true, 74), (1, 1, true, x1)] [(2, true, 0)] s)))
  refine hY _ _ _ _ (hY _ _ _ _ (hY _ _ _ _ (?_ : Y 9 [(4, 2, true, 0), (3, 2, true, 1), (0, 5, true, 74), (1, 1, true, x1)] [(5, true, 112)] s)))
  refine hY _ _ _ _ (hY _ _ _ _ (?_ : Y 11 [(4, 2, true, 0), (3, 2, true, 1), (0, 5, true, 74), (1, 1, true, x1)] [(1, true, x1), (2, true, 0), (5, true, 112)] s))
  refine hY _ _ _ _ ?_
  refine (And.intro h.1 (And.intro h.2.1 ?_))
  refine hY _ _ _ _ (hY _ _ _ _ (hY _ _ _ _ (?_ : Y 17 [(4, 2, true, 0), (3, 2, true, 1), (0, 5, true, 74), (1, 1, true, x1)] [(0, true, s.2.2.2 74 64), (5, true, 74)] (sM s (hy_u s.2.2.2 112 0 x1)))))
  refine hY _ _ _ _ (hY _ _ _ _ (?_ : Y 19 [(4, 2, true, 0), (3, 2, true, 1), (0, 5, true, 74), (1, 1, true, x1)] [(0, true, iW ((s.2.2.2 74 64) + 1)), (5, true, 74)] (sM s (hy_u s.2.2.2 112 0 x1))))
  refine hY _ _ _ _ ?_
  show Y 22 [(4, 2, true, 0), (3, 2, true, 1), (0, 5, true, 74), (1, 1, true, x1)] [] (sM s (hy_u (hy_u s.2.2.2 112 0 x1) 74 64 (iW ((s.2.2.2 74 64) + 1))))
  refine l22 _ _ ?_
  exact (Exists.intro (hy_u (hy_u s.2.2.2 112 0 x1) 74 64 (iW ((s.2.2.2 74 64) + 1))) (And.intro rfl h.2.2))
def we_251 : sFf := sEf 9 [(0, 5, 74), (1, 1, 0)] (fun xs s Q => ap1 (fun x1 => wq_251 x1 s.2.2.2 Q) xs)
theorem we_251_ok : kS dM 4 251 2 (.inl we_251) := sEf_ok (mi := im_m251) rfl rfl rfl (fun R xs s r1 hb => by obtain ⟨x1, rfl, hb⟩ := ap1_ok hb; exact wk_251_0 _ R s x1 (fun x m' hx => ⟨m', rfl, hx⟩) r1 hb)
/-- LMModel.newFrame(IIIII)I -/
def wq_252 (x1 : Int) (x2 : Int) (x3 : Int) (x4 : Int) (x5 : Int) (m : hy_m) (Q : Int → hy_m → Prop) : Prop := 0 ≤ (m 74 51) ∧ (m 74 51) < 1300 ∧ (0 ≤ (m 74 51) ∧ (m 74 51) < 1300 ∧ (0 ≤ (m 74 51) ∧ (m 74 51) < 1300 ∧ (0 ≤ (m 74 51) ∧ (m 74 51) < 1300 ∧ (0 ≤ (m 74 51) ∧ (m 74 51) < 1300 ∧ (hy_r 0 ((m 74 51) + 1) ∧ (hy_r 0 (((m 74 51) + 1) - 1) ∧ (Q (((m 74 51) + 1) - 1) (hy_u (hy_u (hy_u (hy_u (hy_u (hy_u m 99 (m 74 51) x1) 100 (m 74 51) x2) 101 (m 74 51) x3) 102 (m 74 51) x4) 103 (m 74 51) x5) 74 51 ((m 74 51) + 1)))))))))
def cs_252 : List (Nat × Nat × sFS) := []
theorem cs_252_ok : kCs dM 0 cs_252 := kCs_n
def lb_252_0 (s : sS) (Q : sQ) (R : Int → hy_m → Prop) (x1 : Int) (x2 : Int) (x3 : Int) (x4 : Int) (x5 : Int) : Nat → Option (sL → sS → Prop) := sLb []
set_option maxRecDepth 30000 in
set_option maxHeartbeats 1000000 in
theorem wk_252_0 (Q : sQ) (R : Int → hy_m → Prop) (s : sS) (x1 : Int) (x2 : Int) (x3 : Int) (x4 : Int) (x5 : Int) (hQ : ∀ x m', R x m' → Q x (sM s m')) (hr : sRg [(0, 5, 74), (1, 0, 0), (2, 0, 0), (3, 0, 0), (4, 0, 0), (5, 0, 0)] [x1, x2, x3, x4, x5]) (h : wq_252 x1 x2 x3 x4 x5 s.2.2.2 R) : kX dM 0 im_m252 0 0 (sCan [(0, 5, 74), (1, 0, 0), (2, 0, 0), (3, 0, 0), (4, 0, 0), (5, 0, 0)] [x1, x2, x3, x4, x5]) [] s Q := by
  unfold wq_252 at h
  refine wz2_ok (cs := cs_252) (wr := []) (lb := lb_252_0 s Q R x1 x2 x3 x4 x5) cs_252_ok kLb_n (okL_can rfl hr) (fun Y hY hl => ?_)
  refine hY _ _ _ _ (hY _ _ _ _ (hY _ _ _ _ (?_ : Y 5 [(0, 5, true, 74), (1, 0, true, x1), (2, 0, true, x2), (3, 0, true, x3), (4, 0, true, x4), (5, 0, true, x5)] [(5, true, 74), (5, true, 99)] s)))
  refine hY _ _ _ _ (hY _ _ _ _ (?_ : Y 9 [(0, 5, true, 74), (1, 0, true, x1), (2, 0, true, x2), (3, 0, true, x3), (4, 0, true, x4), (5, 0, true, x5)] [(0, true, x1), (0, true, s.2.2.2 74 51), (5, true, 99)] s))
  refine hY _ _ _ _ ?_
  refine (And.intro h.1 (And.intro h.2.1 ?_))
  refine hY _ _ _ _ (hY _ _ _ _ (hY _ _ _ _ (?_ : Y 15 [(0, 5, true, 74), (1, 0, true, x1), (2, 0, true, x2), (3, 0, true, x3), (4, 0, true, x4), (5, 0, true, x5)] [(5, true, 74), (5, true, 100)] (sM s (hy_u s.2.2.2 99 (s.2.2.2 74 51) x1)))))
  refine hY _ _ _ _ (hY _ _ _ _ (?_ : Y 19 [(0, 5, true, 74), (1, 0, true, x1), (2, 0, true, x2), (3, 0, true, x3), (4, 0, true, x4), (5, 0, true, x5)] [(0, true, x2), (0, true, s.2.2.2 74 51), (5, true, 100)] (sM s (hy_u s.2.2.2 99 (s.2.2.2 74 51) x1))))
  refine hY _ _ _ _ ?_
  refine (And.intro h.2.2.1 (And.intro h.2.2.2.1 ?_))
  refine hY _ _ _ _ (hY _ _ _ _ (hY _ _ _ _ (?_ : Y 25 [(0, 5, true, 74), (1, 0, true, x1), (2, 0, true, x2), (3, 0, true, x3), (4, 0, true, x4), (5, 0, true, x5)] [(5, true, 74), (5, true, 101)] (sM s (hy_u (hy_u s.2.2.2 99 (s.2.2.2 74 51) x1) 100 (s.2.2.2 74 51) x2)))))
  refine hY _ _ _ _ (hY _ _ _ _ (?_ : Y 29 [(0, 5, true, 74), (1, 0, true, x1), (2, 0, true, x2), (3, 0, true, x3), (4, 0, true, x4), (5, 0, true, x5)] [(0, true, x3), (0, true, s.2.2.2 74 51), (5, true, 101)] (sM s (hy_u (hy_u s.2.2.2 99 (s.2.2.2 74 51) x1) 100 (s.2.2.2 74 51) x2))))
  refine hY _ _ _ _ ?_
  refine (And.intro h.2.2.2.2.1 (And.intro h.2.2.2.2.2.1 ?_))
  refine hY _ _ _ _ (hY _ _ _ _ (hY _ _ _ _ (?_ : Y 35 [(0, 5, true, 74), (1, 0, true, x1), (2, 0, true, x2), (3, 0, true, x3), (4, 0, true, x4), (5, 0, true, x5)] [(5, true, 74), (5, true, 102)] (sM s (hy_u (hy_u (hy_u s.2.2.2 99 (s.2.2.2 74 51) x1) 100 (s.2.2.2 74 51) x2) 101 (s.2.2.2 74 51) x3)))))
  refine hY _ _ _ _ (hY _ _ _ _ (?_ : Y 40 [(0, 5, true, 74), (1, 0, true, x1), (2, 0, true, x2), (3, 0, true, x3), (4, 0, true, x4), (5, 0, true, x5)] [(0, true, x4), (0, true, s.2.2.2 74 51), (5, true, 102)] (sM s (hy_u (hy_u (hy_u s.2.2.2 99 (s.2.2.2 74 51) x1) 100 (s.2.2.2 74 51) x2) 101 (s.2.2.2 74 51) x3))))
  refine hY _ _ _ _ ?_
  refine (And.intro h.2.2.2.2.2.2.1 (And.intro h.2.2.2.2.2.2.2.1 ?_))
  refine hY _ _ _ _ (hY _ _ _ _ (hY _ _ _ _ (?_ : Y 46 [(0, 5, true, 74), (1, 0, true, x1), (2, 0, true, x2), (3, 0, true, x3), (4, 0, true, x4), (5, 0, true, x5)] [(5, true, 74), (5, true, 103)] (sM s (hy_u (hy_u (hy_u (hy_u s.2.2.2 99 (s.2.2.2 74 51) x1) 100 (s.2.2.2 74 51) x2) 101 (s.2.2.2 74 51) x3) 102 (s.2.2.2 74 51) x4)))))
  refine hY _ _ _ _ (hY _ _ _ _ (?_ : Y 51 [(0, 5, true, 74), (1, 0, true, x1), (2, 0, true, x2), (3, 0, true, x3), (4, 0, true, x4), (5, 0, true, x5)] [(0, true, x5), (0, true, s.2.2.2 74 51), (5, true, 103)] (sM s (hy_u (hy_u (hy_u (hy_u s.2.2.2 99 (s.2.2.2 74 51) x1) 100 (s.2.2.2 74 51) x2) 101 (s.2.2.2 74 51) x3) 102 (s.2.2.2 74 51) x4))))
  refine hY _ _ _ _ ?_
  refine (And.intro h.2.2.2.2.2.2.2.2.1 (And.intro h.2.2.2.2.2.2.2.2.2.1 ?_))
  refine hY _ _ _ _ (hY _ _ _ _ (hY _ _ _ _ (?_ : Y 57 [(0, 5, true, 74), (1, 0, true, x1), (2, 0, true, x2), (3, 0, true, x3), (4, 0, true, x4), (5, 0, true, x5)] [(0, true, s.2.2.2 74 51), (5, true, 74)] (sM s (hy_u (hy_u (hy_u (hy_u (hy_u s.2.2.2 99 (s.2.2.2 74 51) x1) 100 (s.2.2.2 74 51) x2) 101 (s.2.2.2 74 51) x3) 102 (s.2.2.2 74 51) x4) 103 (s.2.2.2 74 51) x5)))))
  refine hY _ _ _ _ (hY _ _ _ _ (?_ : Y 59 [(0, 5, true, 74), (1, 0, true, x1), (2, 0, true, x2), (3, 0, true, x3), (4, 0, true, x4), (5, 0, true, x5)] [(0, false, (s.2.2.2 74 51) + 1), (5, true, 74)] (sM s (hy_u (hy_u (hy_u (hy_u (hy_u s.2.2.2 99 (s.2.2.2 74 51) x1) 100 (s.2.2.2 74 51) x2) 101 (s.2.2.2 74 51) x3) 102 (s.2.2.2 74 51) x4) 103 (s.2.2.2 74 51) x5))))
  refine hY _ _ _ _ ?_
  refine And.intro h.2.2.2.2.2.2.2.2.2.2.1 ?_
  refine hY _ _ _ _ (hY _ _ _ _ (hY _ _ _ _ (?_ : Y 67 [(0, 5, true, 74), (1, 0, true, x1), (2, 0, true, x2), (3, 0, true, x3), (4, 0, true, x4), (5, 0, true, x5)] [(2, true, 1), (0, true, (s.2.2.2 74 51) + 1)] (sM s (hy_u (hy_u (hy_u (hy_u (hy_u (hy_u s.2.2.2 99 (s.2.2.2 74 51) x1) 100 (s.2.2.2 74 51) x2) 101 (s.2.2.2 74 51) x3) 102 (s.2.2.2 74 51) x4) 103 (s.2.2.2 74 51) x5) 74 51 ((s.2.2.2 74 51) + 1))))))
  refine hY _ _ _ _ (?_ : Y 68 [(0, 5, true, 74), (1, 0, true, x1), (2, 0, true, x2), (3, 0, true, x3), (4, 0, true, x4), (5, 0, true, x5)] [(0, false, ((s.2.2.2 74 51) + 1) - 1)] (sM s (hy_u (hy_u (hy_u (hy_u (hy_u (hy_u s.2.2.2 99 (s.2.2.2 74 51) x1) 100 (s.2.2.2 74 51) x2) 101 (s.2.2.2 74 51) x3) 102 (s.2.2.2 74 51) x4) 103 (s.2.2.2 74 51) x5) 74 51 ((s.2.2.2 74 51) + 1))))
  refine hY _ _ _ _ ?_
  refine And.intro h.2.2.2.2.2.2.2.2.2.2.2.1 ?_
  exact hQ (((s.2.2.2 74 51) + 1) - 1) (hy_u (hy_u (hy_u (hy_u (hy_u (hy_u s.2.2.2 99 (s.2.2.2 74 51) x1) 100 (s.2.2.2 74 51) x2) 101 (s.2.2.2 74 51) x3) 102 (s.2.2.2 74 51) x4) 103 (s.2.2.2 74 51) x5) 74 51 ((s.2.2.2 74 51) + 1)) h.2.2.2.2.2.2.2.2.2.2.2.2
def we_252 : sFf := sEf 6 [(0, 5, 74), (1, 0, 0), (2, 0, 0), (3, 0, 0), (4, 0, 0), (5, 0, 0)] (fun xs s Q => ap5 (fun x1 x2 x3 x4 x5 => wq_252 x1 x2 x3 x4 x5 s.2.2.2 Q) xs)
theorem we_252_ok : kS dM 1 252 0 (.inl we_252) := sEf_ok (mi := im_m252) rfl rfl rfl (fun R xs s r1 hb => by obtain ⟨x1, x2, x3, x4, x5, rfl, hb⟩ := ap5_ok hb; exact wk_252_0 _ R s x1 x2 x3 x4 x5 (fun x m' hx => ⟨m', rfl, hx⟩) r1 hb)
/-- LMModel.newChoice(JI)V -/
def wq_253 (x1 : Int) (x3 : Int) (m : hy_m) (Q : Int → hy_m → Prop) : Prop := 0 ≤ (m 74 59) ∧ (m 74 59) < 700 ∧ (0 ≤ (m 74 59) ∧ (m 74 59) < 700 ∧ (0 ≤ (m 74 59) ∧ (m 74 59) < 700 ∧ (0 ≤ (m 74 59) ∧ (m 74 59) < 700 ∧ (0 ≤ (m 74 59) ∧ (m 74 59) < 700 ∧ (0 ≤ (m 74 59) ∧ (m 74 59) < 700 ∧ (hy_r 0 ((m 74 59) + 1) ∧ (Q 0 (hy_u (hy_u (hy_u (hy_u (hy_u (hy_u (hy_u m 105 (m 74 59) x1) 106 (m 74 59) x3) 107 (m 74 59) (m 74 52)) 108 (m 74 59) (m 74 44)) 109 (m 74 59) (m 74 42)) 110 (m 74 59) (m 74 51)) 74 59 ((m 74 59) + 1)))))))))
def cs_253 : List (Nat × Nat × sFS) := []
theorem cs_253_ok : kCs dM 0 cs_253 := kCs_n
def lb_253_0 (s : sS) (Q : sQ) (R : Int → hy_m → Prop) (x1 : Int) (x3 : Int) : Nat → Option (sL → sS → Prop) := sLb []
set_option maxRecDepth 30000 in
set_option maxHeartbeats 1000000 in
theorem wk_253_0 (Q : sQ) (R : Int → hy_m → Prop) (s : sS) (x1 : Int) (x3 : Int) (hQ : ∀ x m', R x m' → Q x (sM s m')) (hr : sRg [(0, 5, 74), (1, 1, 0), (3, 0, 0)] [x1, x3]) (h : wq_253 x1 x3 s.2.2.2 R) : kX dM 0 im_m253 9 0 (sCan [(0, 5, 74), (1, 1, 0), (3, 0, 0)] [x1, x3]) [] s Q := by
  unfold wq_253 at h
  refine wz2_ok (cs := cs_253) (wr := []) (lb := lb_253_0 s Q R x1 x3) cs_253_ok kLb_n (okL_can rfl hr) (fun Y hY hl => ?_)
  refine hY _ _ _ _ (hY _ _ _ _ (hY _ _ _ _ (?_ : Y 5 [(0, 5, true, 74), (1, 1, true, x1), (3, 0, true, x3)] [(5, true, 74), (5, true, 105)] s)))
  refine hY _ _ _ _ (hY _ _ _ _ (?_ : Y 9 [(0, 5, true, 74), (1, 1, true, x1), (3, 0, true, x3)] [(1, true, x1), (0, true, s.2.2.2 74 59), (5, true, 105)] s))
  refine hY _ _ _ _ ?_
  refine (And.intro h.1 (And.intro h.2.1 ?_))
  refine hY _ _ _ _ (hY _ _ _ _ (hY _ _ _ _ (?_ : Y 15 [(0, 5, true, 74), (1, 1, true, x1), (3, 0, true, x3)] [(5, true, 74), (5, true, 106)] (sM s (hy_u s.2.2.2 105 (s.2.2.2 74 59) x1)))))
  refine hY _ _ _ _ (hY _ _ _ _ (?_ : Y 19 [(0, 5, true, 74), (1, 1, true, x1), (3, 0, true, x3)] [(0, true, x3), (0, true, s.2.2.2 74 59), (5, true, 106)] (sM s (hy_u s.2.2.2 105 (s.2.2.2 74 59) x1))))
  refine hY _ _ _ _ ?_
  refine (And.intro h.2.2.1 (And.intro h.2.2.2.1 ?_))
  refine hY _ _ _ _ (hY _ _ _ _ (hY _ _ _ _ (?_ : Y 25 [(0, 5, true, 74), (1, 1, true, x1), (3, 0, true, x3)] [(5, true, 74), (5, true, 107)] (sM s (hy_u (hy_u s.2.2.2 105 (s.2.2.2 74 59) x1) 106 (s.2.2.2 74 59) x3)))))
  refine hY _ _ _ _ (hY _ _ _ _ (hY _ _ _ _ (?_ : Y 32 [(0, 5, true, 74), (1, 1, true, x1), (3, 0, true, x3)] [(0, true, s.2.2.2 74 52), (0, true, s.2.2.2 74 59), (5, true, 107)] (sM s (hy_u (hy_u s.2.2.2 105 (s.2.2.2 74 59) x1) 106 (s.2.2.2 74 59) x3)))))
  refine hY _ _ _ _ ?_
  refine (And.intro h.2.2.2.2.1 (And.intro h.2.2.2.2.2.1 ?_))
  refine hY _ _ _ _ (hY _ _ _ _ (hY _ _ _ _ (?_ : Y 38 [(0, 5, true, 74), (1, 1, true, x1), (3, 0, true, x3)] [(5, true, 74), (5, true, 108)] (sM s (hy_u (hy_u (hy_u s.2.2.2 105 (s.2.2.2 74 59) x1) 106 (s.2.2.2 74 59) x3) 107 (s.2.2.2 74 59) (s.2.2.2 74 52))))))
  refine hY _ _ _ _ (hY _ _ _ _ (hY _ _ _ _ (?_ : Y 45 [(0, 5, true, 74), (1, 1, true, x1), (3, 0, true, x3)] [(0, true, s.2.2.2 74 44), (0, true, s.2.2.2 74 59), (5, true, 108)] (sM s (hy_u (hy_u (hy_u s.2.2.2 105 (s.2.2.2 74 59) x1) 106 (s.2.2.2 74 59) x3) 107 (s.2.2.2 74 59) (s.2.2.2 74 52))))))
  refine hY _ _ _ _ ?_
  refine (And.intro h.2.2.2.2.2.2.1 (And.intro h.2.2.2.2.2.2.2.1 ?_))
  refine hY _ _ _ _ (hY _ _ _ _ (hY _ _ _ _ (?_ : Y 51 [(0, 5, true, 74), (1, 1, true, x1), (3, 0, true, x3)] [(5, true, 74), (5, true, 109)] (sM s (hy_u (hy_u (hy_u (hy_u s.2.2.2 105 (s.2.2.2 74 59) x1) 106 (s.2.2.2 74 59) x3) 107 (s.2.2.2 74 59) (s.2.2.2 74 52)) 108 (s.2.2.2 74 59) (s.2.2.2 74 44))))))
  refine hY _ _ _ _ (hY _ _ _ _ (hY _ _ _ _ (?_ : Y 58 [(0, 5, true, 74), (1, 1, true, x1), (3, 0, true, x3)] [(0, true, s.2.2.2 74 42), (0, true, s.2.2.2 74 59), (5, true, 109)] (sM s (hy_u (hy_u (hy_u (hy_u s.2.2.2 105 (s.2.2.2 74 59) x1) 106 (s.2.2.2 74 59) x3) 107 (s.2.2.2 74 59) (s.2.2.2 74 52)) 108 (s.2.2.2 74 59) (s.2.2.2 74 44))))))
  refine hY _ _ _ _ ?_
  refine (And.intro h.2.2.2.2.2.2.2.2.1 (And.intro h.2.2.2.2.2.2.2.2.2.1 ?_))
  refine hY _ _ _ _ (hY _ _ _ _ (hY _ _ _ _ (?_ : Y 64 [(0, 5, true, 74), (1, 1, true, x1), (3, 0, true, x3)] [(5, true, 74), (5, true, 110)] (sM s (hy_u (hy_u (hy_u (hy_u (hy_u s.2.2.2 105 (s.2.2.2 74 59) x1) 106 (s.2.2.2 74 59) x3) 107 (s.2.2.2 74 59) (s.2.2.2 74 52)) 108 (s.2.2.2 74 59) (s.2.2.2 74 44)) 109 (s.2.2.2 74 59) (s.2.2.2 74 42))))))
  refine hY _ _ _ _ (hY _ _ _ _ (hY _ _ _ _ (?_ : Y 71 [(0, 5, true, 74), (1, 1, true, x1), (3, 0, true, x3)] [(0, true, s.2.2.2 74 51), (0, true, s.2.2.2 74 59), (5, true, 110)] (sM s (hy_u (hy_u (hy_u (hy_u (hy_u s.2.2.2 105 (s.2.2.2 74 59) x1) 106 (s.2.2.2 74 59) x3) 107 (s.2.2.2 74 59) (s.2.2.2 74 52)) 108 (s.2.2.2 74 59) (s.2.2.2 74 44)) 109 (s.2.2.2 74 59) (s.2.2.2 74 42))))))
  refine hY _ _ _ _ ?_
  refine (And.intro h.2.2.2.2.2.2.2.2.2.2.1 (And.intro h.2.2.2.2.2.2.2.2.2.2.2.1 ?_))
  have h := h.2.2.2.2.2.2.2.2.2.2.2.2
  refine hY _ _ _ _ (hY _ _ _ _ (hY _ _ _ _ (?_ : Y 77 [(0, 5, true, 74), (1, 1, true, x1), (3, 0, true, x3)] [(0, true, s.2.2.2 74 59), (5, true, 74)] (sM s (hy_u (hy_u (hy_u (hy_u (hy_u (hy_u s.2.2.2 105 (s.2.2.2 74 59) x1) 106 (s.2.2.2 74 59) x3) 107 (s.2.2.2 74 59) (s.2.2.2 74 52)) 108 (s.2.2.2 74 59) (s.2.2.2 74 44)) 109 (s.2.2.2 74 59) (s.2.2.2 74 42)) 110 (s.2.2.2 74 59) (s.2.2.2 74 51))))))
  refine hY _ _ _ _ (hY _ _ _ _ (?_ : Y 79 [(0, 5, true, 74), (1, 1, true, x1), (3, 0, true, x3)] [(0, false, (s.2.2.2 74 59) + 1), (5, true, 74)] (sM s (hy_u (hy_u (hy_u (hy_u (hy_u (hy_u s.2.2.2 105 (s.2.2.2 74 59) x1) 106 (s.2.2.2 74 59) x3) 107 (s.2.2.2 74 59) (s.2.2.2 74 52)) 108 (s.2.2.2 74 59) (s.2.2.2 74 44)) 109 (s.2.2.2 74 59) (s.2.2.2 74 42)) 110 (s.2.2.2 74 59) (s.2.2.2 74 51)))))
  refine hY _ _ _ _ ?_
  refine And.intro h.1 ?_
  show Y 82 [(0, 5, true, 74), (1, 1, true, x1), (3, 0, true, x3)] [] (sM s (hy_u (hy_u (hy_u (hy_u (hy_u (hy_u (hy_u s.2.2.2 105 (s.2.2.2 74 59) x1) 106 (s.2.2.2 74 59) x3) 107 (s.2.2.2 74 59) (s.2.2.2 74 52)) 108 (s.2.2.2 74 59) (s.2.2.2 74 44)) 109 (s.2.2.2 74 59) (s.2.2.2 74 42)) 110 (s.2.2.2 74 59) (s.2.2.2 74 51)) 74 59 ((s.2.2.2 74 59) + 1)))
  refine hY _ _ _ _ ?_
  exact hQ 0 (hy_u (hy_u (hy_u (hy_u (hy_u (hy_u (hy_u s.2.2.2 105 (s.2.2.2 74 59) x1) 106 (s.2.2.2 74 59) x3) 107 (s.2.2.2 74 59) (s.2.2.2 74 52)) 108 (s.2.2.2 74 59) (s.2.2.2 74 44)) 109 (s.2.2.2 74 59) (s.2.2.2 74 42)) 110 (s.2.2.2 74 59) (s.2.2.2 74 51)) 74 59 ((s.2.2.2 74 59) + 1)) h.2
def we_253 : sFf := sEf 4 [(0, 5, 74), (1, 1, 0), (3, 0, 0)] (fun xs s Q => ap2 (fun x1 x3 => wq_253 x1 x3 s.2.2.2 Q) xs)
theorem we_253_ok : kS dM 1 253 9 (.inl we_253) := sEf_ok (mi := im_m253) rfl rfl rfl (fun R xs s r1 hb => by obtain ⟨x1, x3, rfl, hb⟩ := ap2_ok hb; exact wk_253_0 _ R s x1 x3 (fun x m' hx => ⟨m', rfl, hx⟩) r1 hb)
/-- LMModel.lowest(I)I -/
def wf_254_2 (x0 : Int) (Q : Int → hy_m → Prop) (P2 : Int → hy_m → Prop) (x1 : Int) (m : hy_m) : Prop := ((iA (iSr x0 x1) 1) ≠ 0 → (Q x1 m)) ∧ ((iA (iSr x0 x1) 1) = 0 → (hy_r 0 (x1 + 1) ∧ (P2 (x1 + 1) m)))
def wq_254_2 (x0 : Int) (x1 : Int) (m : hy_m) (Q : Int → hy_m → Prop) : Prop := wL1 hy_m (wf_254_2 x0 Q) x1 m
def wq_254 (x0 : Int) (m : hy_m) (Q : Int → hy_m → Prop) : Prop := wq_254_2 x0 0 m Q
def cs_254 : List (Nat × Nat × sFS) := []
theorem cs_254_ok : kCs dM 0 cs_254 := kCs_n
def lb_254_2 (s : sS) (Q : sQ) (P2 : Int → hy_m → Prop) (R : Int → hy_m → Prop) (x0 : Int) (x1 : Int) : Nat → Option (sL → sS → Prop) := sLb [(2, fun lv t => sG [(0, 0, 0), (1, 0, 0)] lv (ap2 (fun w0 w1 => ∃ m', t = sM s m' ∧ w0 = x0 ∧ P2 w1 m')))]
set_option maxRecDepth 30000 in
set_option maxHeartbeats 1000000 in
theorem wj_254_2 (Q : sQ) (R : Int → hy_m → Prop) (s : sS) (P2 : Int → hy_m → Prop) (x0 : Int) (x1 : Int) (m : hy_m) (hP2 : ∀ (z1 : Int) (m : hy_m), P2 z1 m → sRg [(0, 0, 0), (1, 0, 0)] [x0, z1] → kX dM 0 im_m254 0 2 (sCan [(0, 0, 0), (1, 0, 0)] [x0, z1]) [] (sM s m) Q) (hQ : ∀ x m', R x m' → Q x (sM s m')) (hr : sRg [(0, 0, 0), (1, 0, 0)] [x0, x1]) (h : wf_254_2 x0 R P2 x1 m) : kX dM 0 im_m254 0 2 (sCan [(0, 0, 0), (1, 0, 0)] [x0, x1]) [] (sM s m) Q := by
  unfold wf_254_2 at h
  refine wz2_ok (cs := cs_254) (wr := []) (lb := lb_254_2 s Q P2 R x0 x1) cs_254_ok (kLb_c (kLab (Bd := fun xs t => ap2 (fun w0 w1 => ∃ m', t = sM s m' ∧ w0 = x0 ∧ P2 w1 m') xs) rfl (fun xs t r1 r2 hb => by obtain ⟨w0, w1, rfl, hb⟩ := ap2_ok hb; obtain ⟨m', rfl, rfl, hx⟩ := hb; exact hP2 _ m' hx r1)) kLb_n) (okL_can rfl hr) (fun Y hY hl => ?_)
  have l2 := hl 2 _ rfl
  refine hY _ _ _ _ (hY _ _ _ _ (?_ : Y 4 [(0, 0, true, x0), (1, 0, true, x1)] [(0, true, x1), (0, true, x0)] (sM s m)))
  refine hY _ _ _ _ (?_ : Y 5 [(0, 0, true, x0), (1, 0, true, x1)] [(0, true, iSr x0 x1)] (sM s m))
  refine hY _ _ _ _ (?_ : Y 6 [(0, 0, true, x0), (1, 0, true, x1)] [(2, true, 1), (0, true, iSr x0 x1)] (sM s m))
  refine hY _ _ _ _ (?_ : Y 7 [(0, 0, true, x0), (1, 0, true, x1)] [(0, true, iA (iSr x0 x1) 1)] (sM s m))
  refine hY _ _ _ _ ?_
  refine And.intro (fun hc => ?_) (fun hc => ?_)
  · have h := h.1 hc
    refine hY _ _ _ _ (?_ : Y 17 [(0, 0, true, x0), (1, 0, true, x1)] [(0, true, x1)] (sM s m))
    refine hY _ _ _ _ ?_
    exact hQ x1 m h
  · have h := h.2 hc
    refine hY _ _ _ _ (hY _ _ _ _ (?_ : Y 2 [(1, 0, false, x1 + 1), (0, 0, true, x0)] [] (sM s m)))
    refine l2 _ _ ?_
    refine And.intro h.1 ?_
    exact (Exists.intro m (And.intro rfl (And.intro rfl h.2)))
theorem wk_254_2 (Q : sQ) (R : Int → hy_m → Prop) (s : sS) (x0 : Int) (x1 : Int) (hQ : ∀ x m', R x m' → Q x (sM s m')) (hr : sRg [(0, 0, 0), (1, 0, 0)] [x0, x1]) (h : wq_254_2 x0 x1 s.2.2.2 R) : kX dM 0 im_m254 0 2 (sCan [(0, 0, 0), (1, 0, 0)] [x0, x1]) [] s Q :=
  h (fun x1 m => sRg [(0, 0, 0), (1, 0, 0)] [x0, x1] → kX dM 0 im_m254 0 2 (sCan [(0, 0, 0), (1, 0, 0)] [x0, x1]) [] (sM s m) Q) (fun x1 m h hr => wj_254_2 Q R s (fun x1 m => sRg [(0, 0, 0), (1, 0, 0)] [x0, x1] → kX dM 0 im_m254 0 2 (sCan [(0, 0, 0), (1, 0, 0)] [x0, x1]) [] (sM s m) Q) x0 x1 m  (fun _ _ hp hr => hp hr) hQ hr h) hr
def lb_254_0 (s : sS) (Q : sQ) (R : Int → hy_m → Prop) (x0 : Int) : Nat → Option (sL → sS → Prop) := sLb [(2, fun lv t => sG [(0, 0, 0), (1, 0, 0)] lv (ap2 (fun w0 w1 => ∃ m', t = sM s m' ∧ wq_254_2 w0 w1 m' R)))]
set_option maxRecDepth 30000 in
set_option maxHeartbeats 1000000 in
theorem wk_254_0 (Q : sQ) (R : Int → hy_m → Prop) (s : sS) (x0 : Int) (hQ : ∀ x m', R x m' → Q x (sM s m')) (hr : sRg [(0, 0, 0)] [x0]) (h : wq_254 x0 s.2.2.2 R) : kX dM 0 im_m254 0 0 (sCan [(0, 0, 0)] [x0]) [] s Q := by
  unfold wq_254 at h
  refine wz2_ok (cs := cs_254) (wr := []) (lb := lb_254_0 s Q R x0) cs_254_ok (kLb_c (kLab (Bd := fun xs t => ap2 (fun w0 w1 => ∃ m', t = sM s m' ∧ wq_254_2 w0 w1 m' R) xs) rfl (fun xs t r1 r2 hb => by obtain ⟨w0, w1, rfl, hb⟩ := ap2_ok hb; obtain ⟨m', rfl, hx⟩ := hb; exact wk_254_2 Q R (sM s m') _ _ (fun x m'' hy => hQ x m'' hy) r1 hx)) kLb_n) (okL_can rfl hr) (fun Y hY hl => ?_)
  have l2 := hl 2 _ rfl
  refine hY _ _ _ _ (hY _ _ _ _ (?_ : Y 2 [(1, 2, true, 0), (0, 0, true, x0)] [] s))
  refine l2 _ _ ?_
  exact (Exists.intro s.2.2.2 (And.intro rfl h))
def we_254 : sFf := sEf 2 [(0, 0, 0)] (fun xs s Q => ap1 (fun x0 => wq_254 x0 s.2.2.2 Q) xs)
theorem we_254_ok : kS dM 1 254 0 (.inl we_254) := sEf_ok (mi := im_m254) rfl rfl rfl (fun R xs s r1 hb => by obtain ⟨x0, rfl, hb⟩ := ap1_ok hb; exact wk_254_0 _ R s x0 (fun x m' hx => ⟨m', rfl, hx⟩) r1 hb)
/-- LMModel.triesClause(IJI)Z -/
def wf_255_86 (x1 : Int) (x2 : Int) (x4 : Int) (x5 : Int) (x6 : Int) (Q : Int → hy_m → Prop) (P86 : Int → hy_m → Prop) (x7 : Int) (m : hy_m) : Prop := 0 ≤ x5 ∧ x5 < 28 ∧ (0 ≤ (m 81 x5) ∧ (m 81 x5) < 3584 ∧ (((m 78 (m 81 x5)) ≤ x7 → (0 ≤ x1 ∧ x1 < 20 ∧ (0 ≤ x1 ∧ x1 < 20 ∧ (hy_r 0 ((m 96 x1) + 1) ∧ (0 ≤ x5 ∧ x5 < 28 ∧ (((m 82 x5) ≤ 0 → (Q 1 (hy_u m 96 x1 ((m 96 x1) + 1)))) ∧ (0 < (m 82 x5) → (wq_252 x5 0 x6 (m 74 52) x4 (hy_u m 96 x1 ((m 96 x1) + 1)) (fun r1 m1 => Q 1 (hy_u m1 74 52 r1)))))))))) ∧ (x7 < (m 78 (m 81 x5)) → (0 ≤ x5 ∧ x5 < 28 ∧ (0 ≤ ((3 * (m 81 x5)) + x7) ∧ ((3 * (m 81 x5)) + x7) < 10752 ∧ (wq_234 (m 79 ((3 * (m 81 x5)) + x7)) x6 m (fun r2 m2 => wq_236 x2 x7 m2 (fun r3 m3 => wq_247 r2 r3 m3 (fun r4 m4 => (r4 ≠ 0 → (hy_r 0 (x7 + 1) ∧ (P86 (x7 + 1) m4))) ∧ (r4 = 0 → (Q 0 m4)))))))))))
def wq_255_86 (x1 : Int) (x2 : Int) (x4 : Int) (x5 : Int) (x6 : Int) (x7 : Int) (m : hy_m) (Q : Int → hy_m → Prop) : Prop := wL1 hy_m (wf_255_86 x1 x2 x4 x5 x6 Q) x7 m
def wf_255_36 (x1 : Int) (x2 : Int) (x4 : Int) (x5 : Int) (x6 : Int) (Q : Int → hy_m → Prop) (P36 : Int → hy_m → Prop) (x7 : Int) (m : hy_m) : Prop := 0 ≤ x5 ∧ x5 < 28 ∧ (((m 84 x5) ≤ x7 → (0 ≤ x5 ∧ x5 < 28 ∧ (hy_r 0 ((m 74 42) + (m 84 x5)) ∧ (wq_255_86 x1 x2 x4 x5 x6 0 (hy_u m 74 42 ((m 74 42) + (m 84 x5))) Q)))) ∧ (x7 < (m 84 x5) → (0 ≤ (x6 + x7) ∧ (x6 + x7) < 2500 ∧ (hy_r 0 (x7 + 1) ∧ (P36 (x7 + 1) (hy_u m 97 (x6 + x7) (-1)))))))
def wq_255_36 (x1 : Int) (x2 : Int) (x4 : Int) (x5 : Int) (x6 : Int) (x7 : Int) (m : hy_m) (Q : Int → hy_m → Prop) : Prop := wL1 hy_m (wf_255_36 x1 x2 x4 x5 x6 Q) x7 m
def wq_255 (x1 : Int) (x2 : Int) (x4 : Int) (m : hy_m) (Q : Int → hy_m → Prop) : Prop := wq_206 x1 m (fun r1 m1 => hy_r 0 ((m1 74 36) + 1) ∧ (0 ≤ x1 ∧ x1 < 20 ∧ (0 ≤ x1 ∧ x1 < 20 ∧ (hy_r 0 ((m1 95 x1) + 1) ∧ (wq_255_36 x1 x2 x4 r1 (m1 74 42) 0 (hy_u (hy_u m1 74 36 ((m1 74 36) + 1)) 95 x1 ((m1 95 x1) + 1)) Q)))))
theorem wc_252_r74_0t_2t_0t_0t_0t (x1 : Int) (x2 : Int) (x3 : Int) (x4 : Int) (x5 : Int) (s : sS) (R : Int → hy_m → Prop) (h : wq_252 x1 x2 x3 x4 x5 s.2.2.2 R) : we_252 [(5, true, 74), (0, true, x1), (2, true, x2), (0, true, x3), (0, true, x4), (0, true, x5)] s R := h
theorem wc_247_r74_1t_1t (x1 : Int) (x2 : Int) (s : sS) (R : Int → hy_m → Prop) (h : wq_247 x1 x2 s.2.2.2 R) : we_247 [(5, true, 74), (1, true, x1), (1, true, x2)] s R := h
def cs_255 : List (Nat × Nat × sFS) := [(206, 0, .inl we_206), (234, 1, .inl we_234), (236, 1, .inl we_236), (247, 2, .inl we_247), (252, 0, .inl we_252)]
theorem cs_255_ok : kCs dM 5 cs_255 := (kCs_c (Or.inl rfl) (we_206_ok.deep (by decide)) (kCs_c (Or.inr (Or.inl rfl)) (we_234_ok.deep (by decide)) (kCs_c (Or.inr (Or.inl rfl)) (we_236_ok.deep (by decide)) (kCs_c (Or.inr (Or.inr (Or.inl rfl))) (we_247_ok.deep (by decide)) (kCs_c (Or.inl rfl) (we_252_ok.deep (by decide)) kCs_n)))))
def lb_255_86 (s : sS) (Q : sQ) (P86 : Int → hy_m → Prop) (R : Int → hy_m → Prop) (x1 : Int) (x2 : Int) (x4 : Int) (x5 : Int) (x6 : Int) (x7 : Int) : Nat → Option (sL → sS → Prop) := sLb [(86, fun lv t => sG [(0, 5, 74), (1, 0, 0), (2, 1, 0), (4, 0, 0), (5, 0, 0), (6, 0, 0), (7, 0, 0)] lv (ap6 (fun w1 w2 w4 w5 w6 w7 => ∃ m', t = sM s m' ∧ w1 = x1 ∧ w2 = x2 ∧ w4 = x4 ∧ w5 = x5 ∧ w6 = x6 ∧ P86 w7 m')))]
set_option maxRecDepth 30000 in
set_option maxHeartbeats 1000000 in
theorem wj_255_86 (Q : sQ) (R : Int → hy_m → Prop) (s : sS) (P86 : Int → hy_m → Prop) (x1 : Int) (x2 : Int) (x4 : Int) (x5 : Int) (x6 : Int) (x7 : Int) (m : hy_m) (hP86 : ∀ (z7 : Int) (m : hy_m), P86 z7 m → sRg [(0, 5, 74), (1, 0, 0), (2, 1, 0), (4, 0, 0), (5, 0, 0), (6, 0, 0), (7, 0, 0)] [x1, x2, x4, x5, x6, z7] → kX dM 5 im_m255 2 86 (sCan [(0, 5, 74), (1, 0, 0), (2, 1, 0), (4, 0, 0), (5, 0, 0), (6, 0, 0), (7, 0, 0)] [x1, x2, x4, x5, x6, z7]) [] (sM s m) Q) (hQ : ∀ x m', R x m' → Q x (sM s m')) (hr : sRg [(0, 5, 74), (1, 0, 0), (2, 1, 0), (4, 0, 0), (5, 0, 0), (6, 0, 0), (7, 0, 0)] [x1, x2, x4, x5, x6, x7]) (h : wf_255_86 x1 x2 x4 x5 x6 R P86 x7 m) : kX dM 5 im_m255 2 86 (sCan [(0, 5, 74), (1, 0, 0), (2, 1, 0), (4, 0, 0), (5, 0, 0), (6, 0, 0), (7, 0, 0)] [x1, x2, x4, x5, x6, x7]) [] (sM s m) Q := by
  unfold wf_255_86 at h
  refine wz2_ok (cs := cs_255) (wr := []) (lb := lb_255_86 s Q P86 R x1 x2 x4 x5 x6 x7) cs_255_ok (kLb_c (kLab (Bd := fun xs t => ap6 (fun w1 w2 w4 w5 w6 w7 => ∃ m', t = sM s m' ∧ w1 = x1 ∧ w2 = x2 ∧ w4 = x4 ∧ w5 = x5 ∧ w6 = x6 ∧ P86 w7 m') xs) rfl (fun xs t r1 r2 hb => by obtain ⟨w1, w2, w4, w5, w6, w7, rfl, hb⟩ := ap6_ok hb; obtain ⟨m', rfl, rfl, rfl, rfl, rfl, rfl, hx⟩ := hb; exact hP86 _ m' hx r1)) kLb_n) (okL_can rfl hr) (fun Y hY hl => ?_)
  have l86 := hl 86 _ rfl
  refine hY _ _ _ _ (hY _ _ _ _ (hY _ _ _ _ (?_ : Y 92 [(0, 5, true, 74), (1, 0, true, x1), (2, 1, true, x2), (4, 0, true, x4), (5, 0, true, x5), (6, 0, true, x6), (7, 0, true, x7)] [(5, true, 78), (0, true, x7)] (sM s m))))
  refine hY _ _ _ _ (hY _ _ _ _ (hY _ _ _ _ (?_ : Y 98 [(0, 5, true, 74), (1, 0, true, x1), (2, 1, true, x2), (4, 0, true, x4), (5, 0, true, x5), (6, 0, true, x6), (7, 0, true, x7)] [(0, true, x5), (5, true, 81), (5, true, 78), (0, true, x7)] (sM s m))))
  refine hY _ _ _ _ ?_
  refine (And.intro h.1 (And.intro h.2.1 ?_))
  show Y 99 [(0, 5, true, 74), (1, 0, true, x1), (2, 1, true, x2), (4, 0, true, x4), (5, 0, true, x5), (6, 0, true, x6), (7, 0, true, x7)] [(0, true, m 81 x5), (5, true, 78), (0, true, x7)] (sM s m)
  refine hY _ _ _ _ ?_
  refine (And.intro h.2.2.1 (And.intro h.2.2.2.1 ?_))
  show Y 100 [(0, 5, true, 74), (1, 0, true, x1), (2, 1, true, x2), (4, 0, true, x4), (5, 0, true, x5), (6, 0, true, x6), (7, 0, true, x7)] [(0, true, m 78 (m 81 x5)), (0, true, x7)] (sM s m)
  refine hY _ _ _ _ ?_
  refine And.intro (fun hc => ?_) (fun hc => ?_)
  · have h := h.2.2.2.2.1 hc
    refine hY _ _ _ _ (hY _ _ _ _ (hY _ _ _ _ (?_ : Y 152 [(0, 5, true, 74), (1, 0, true, x1), (2, 1, true, x2), (4, 0, true, x4), (5, 0, true, x5), (6, 0, true, x6), (7, 0, true, x7)] [(0, true, x1), (5, true, 96)] (sM s m))))
    refine hY _ _ _ _ (?_ : Y 153 [(0, 5, true, 74), (1, 0, true, x1), (2, 1, true, x2), (4, 0, true, x4), (5, 0, true, x5), (6, 0, true, x6), (7, 0, true, x7)] [(0, true, x1), (5, true, 96), (0, true, x1), (5, true, 96)] (sM s m))
    refine hY _ _ _ _ ?_
    refine (And.intro h.1 (And.intro h.2.1 ?_))
    refine hY _ _ _ _ (hY _ _ _ _ (?_ : Y 156 [(0, 5, true, 74), (1, 0, true, x1), (2, 1, true, x2), (4, 0, true, x4), (5, 0, true, x5), (6, 0, true, x6), (7, 0, true, x7)] [(0, false, (m 96 x1) + 1), (0, true, x1), (5, true, 96)] (sM s m)))
    refine hY _ _ _ _ ?_
    refine (And.intro h.2.2.1 (And.intro h.2.2.2.1 ?_))
    refine And.intro h.2.2.2.2.1 ?_
    refine hY _ _ _ _ (hY _ _ _ _ (hY _ _ _ _ (?_ : Y 163 [(0, 5, true, 74), (1, 0, true, x1), (2, 1, true, x2), (4, 0, true, x4), (5, 0, true, x5), (6, 0, true, x6), (7, 0, true, x7)] [(0, true, x5), (5, true, 82)] (sM s (hy_u m 96 x1 ((m 96 x1) + 1))))))
    refine hY _ _ _ _ ?_
    refine (And.intro h.2.2.2.2.2.1 (And.intro h.2.2.2.2.2.2.1 ?_))
    show Y 164 [(0, 5, true, 74), (1, 0, true, x1), (2, 1, true, x2), (4, 0, true, x4), (5, 0, true, x5), (6, 0, true, x6), (7, 0, true, x7)] [(0, true, m 82 x5)] (sM s (hy_u m 96 x1 ((m 96 x1) + 1)))
    refine hY _ _ _ _ ?_
    refine And.intro (fun hc => ?_) (fun hc => ?_)
    · have h := h.2.2.2.2.2.2.2.1 hc
      refine hY _ _ _ _ (?_ : Y 187 [(0, 5, true, 74), (1, 0, true, x1), (2, 1, true, x2), (4, 0, true, x4), (5, 0, true, x5), (6, 0, true, x6), (7, 0, true, x7)] [(2, true, 1)] (sM s (hy_u m 96 x1 ((m 96 x1) + 1))))
      refine hY _ _ _ _ ?_
      exact hQ 1 (hy_u m 96 x1 ((m 96 x1) + 1)) h
    · have h := h.2.2.2.2.2.2.2.2 hc
      refine hY _ _ _ _ (hY _ _ _ _ (hY _ _ _ _ (?_ : Y 171 [(0, 5, true, 74), (1, 0, true, x1), (2, 1, true, x2), (4, 0, true, x4), (5, 0, true, x5), (6, 0, true, x6), (7, 0, true, x7)] [(0, true, x5), (5, true, 74), (5, true, 74)] (sM s (hy_u m 96 x1 ((m 96 x1) + 1))))))
      refine hY _ _ _ _ (hY _ _ _ _ (hY _ _ _ _ (?_ : Y 175 [(0, 5, true, 74), (1, 0, true, x1), (2, 1, true, x2), (4, 0, true, x4), (5, 0, true, x5), (6, 0, true, x6), (7, 0, true, x7)] [(5, true, 74), (0, true, x6), (2, true, 0), (0, true, x5), (5, true, 74), (5, true, 74)] (sM s (hy_u m 96 x1 ((m 96 x1) + 1))))))
      refine hY _ _ _ _ (hY _ _ _ _ (?_ : Y 180 [(0, 5, true, 74), (1, 0, true, x1), (2, 1, true, x2), (4, 0, true, x4), (5, 0, true, x5), (6, 0, true, x6), (7, 0, true, x7)] [(0, true, x4), (0, true, m 74 52), (0, true, x6), (2, true, 0), (0, true, x5), (5, true, 74), (5, true, 74)] (sM s (hy_u m 96 x1 ((m 96 x1) + 1)))))
      refine hY _ _ _ _ ?_
      refine Exists.intro _ (And.intro (wc_252_r74_0t_2t_0t_0t_0t x5 0 x6 (m 74 52) x4 _ _ h) (fun r1 m1 h => ?_))
      show Y 183 [(0, 5, true, 74), (1, 0, true, x1), (2, 1, true, x2), (4, 0, true, x4), (5, 0, true, x5), (6, 0, true, x6), (7, 0, true, x7)] [(0, true, r1), (5, true, 74)] (sM s m1)
      refine hY _ _ _ _ ?_
      refine hY _ _ _ _ (?_ : Y 187 [(0, 5, true, 74), (1, 0, true, x1), (2, 1, true, x2), (4, 0, true, x4), (5, 0, true, x5), (6, 0, true, x6), (7, 0, true, x7)] [(2, true, 1)] (sM s (hy_u m1 74 52 r1)))
      refine hY _ _ _ _ ?_
      exact hQ 1 (hy_u m1 74 52 r1) h
  · have h := h.2.2.2.2.2 hc
    refine hY _ _ _ _ (hY _ _ _ _ (hY _ _ _ _ (?_ : Y 108 [(0, 5, true, 74), (1, 0, true, x1), (2, 1, true, x2), (4, 0, true, x4), (5, 0, true, x5), (6, 0, true, x6), (7, 0, true, x7)] [(5, true, 79), (5, true, 74)] (sM s m))))
    refine hY _ _ _ _ (hY _ _ _ _ (hY _ _ _ _ (?_ : Y 113 [(0, 5, true, 74), (1, 0, true, x1), (2, 1, true, x2), (4, 0, true, x4), (5, 0, true, x5), (6, 0, true, x6), (7, 0, true, x7)] [(5, true, 81), (0, true, 3), (5, true, 79), (5, true, 74)] (sM s m))))
    refine hY _ _ _ _ (?_ : Y 115 [(0, 5, true, 74), (1, 0, true, x1), (2, 1, true, x2), (4, 0, true, x4), (5, 0, true, x5), (6, 0, true, x6), (7, 0, true, x7)] [(0, true, x5), (5, true, 81), (0, true, 3), (5, true, 79), (5, true, 74)] (sM s m))
    refine hY _ _ _ _ ?_
    refine (And.intro h.1 (And.intro h.2.1 ?_))
    refine hY _ _ _ _ (hY _ _ _ _ (hY _ _ _ _ (?_ : Y 120 [(0, 5, true, 74), (1, 0, true, x1), (2, 1, true, x2), (4, 0, true, x4), (5, 0, true, x5), (6, 0, true, x6), (7, 0, true, x7)] [(0, false, (3 * (m 81 x5)) + x7), (5, true, 79), (5, true, 74)] (sM s m))))
    refine hY _ _ _ _ ?_
    refine (And.intro h.2.2.1 (And.intro h.2.2.2.1 ?_))
    refine hY _ _ _ _ (?_ : Y 123 [(0, 5, true, 74), (1, 0, true, x1), (2, 1, true, x2), (4, 0, true, x4), (5, 0, true, x5), (6, 0, true, x6), (7, 0, true, x7)] [(0, true, x6), (0, true, m 79 ((3 * (m 81 x5)) + x7)), (5, true, 74)] (sM s m))
    refine hY _ _ _ _ ?_
    refine Exists.intro _ (And.intro (wc_234_0t_0t (m 79 ((3 * (m 81 x5)) + x7)) x6 _ _ h.2.2.2.2) (fun r2 m2 h => ?_))
    refine hY _ _ _ _ (hY _ _ _ _ (hY _ _ _ _ (?_ : Y 130 [(0, 5, true, 74), (1, 0, true, x1), (2, 1, true, x2), (4, 0, true, x4), (5, 0, true, x5), (6, 0, true, x6), (7, 0, true, x7)] [(0, true, x7), (1, true, x2), (5, true, 74), (1, true, r2), (5, true, 74)] (sM s m2))))
    refine hY _ _ _ _ ?_
    refine Exists.intro _ (And.intro (wc_236_r74_1t_0t x2 x7 _ _ h) (fun r3 m3 h => ?_))
    show Y 133 [(0, 5, true, 74), (1, 0, true, x1), (2, 1, true, x2), (4, 0, true, x4), (5, 0, true, x5), (6, 0, true, x6), (7, 0, true, x7)] [(1, true, r3), (1, true, r2), (5, true, 74)] (sM s m3)
    refine hY _ _ _ _ ?_
    refine Exists.intro _ (And.intro (wc_247_r74_1t_1t r2 r3 _ _ h) (fun r4 m4 h => ?_))
    show Y 136 [(0, 5, true, 74), (1, 0, true, x1), (2, 1, true, x2), (4, 0, true, x4), (5, 0, true, x5), (6, 0, true, x6), (7, 0, true, x7)] [(2, true, r4)] (sM s m4)
    refine hY _ _ _ _ ?_
    refine And.intro (fun hc => ?_) (fun hc => ?_)
    · have h := h.1 hc
      refine hY _ _ _ _ (hY _ _ _ _ (?_ : Y 86 [(7, 0, false, x7 + 1), (0, 5, true, 74), (1, 0, true, x1), (2, 1, true, x2), (4, 0, true, x4), (5, 0, true, x5), (6, 0, true, x6)] [] (sM s m4)))
      refine l86 _ _ ?_
      refine And.intro h.1 ?_
      exact (Exists.intro m4 (And.intro rfl (And.intro rfl (And.intro rfl (And.intro rfl (And.intro rfl (And.intro rfl h.2)))))))
    · have h := h.2 hc
      refine hY _ _ _ _ (?_ : Y 140 [(0, 5, true, 74), (1, 0, true, x1), (2, 1, true, x2), (4, 0, true, x4), (5, 0, true, x5), (6, 0, true, x6), (7, 0, true, x7)] [(2, true, 0)] (sM s m4))
      refine hY _ _ _ _ ?_
      exact hQ 0 m4 h
theorem wk_255_86 (Q : sQ) (R : Int → hy_m → Prop) (s : sS) (x1 : Int) (x2 : Int) (x4 : Int) (x5 : Int) (x6 : Int) (x7 : Int) (hQ : ∀ x m', R x m' → Q x (sM s m')) (hr : sRg [(0, 5, 74), (1, 0, 0), (2, 1, 0), (4, 0, 0), (5, 0, 0), (6, 0, 0), (7, 0, 0)] [x1, x2, x4, x5, x6, x7]) (h : wq_255_86 x1 x2 x4 x5 x6 x7 s.2.2.2 R) : kX dM 5 im_m255 2 86 (sCan [(0, 5, 74), (1, 0, 0), (2, 1, 0), (4, 0, 0), (5, 0, 0), (6, 0, 0), (7, 0, 0)] [x1, x2, x4, x5, x6, x7]) [] s Q :=
  h (fun x7 m => sRg [(0, 5, 74), (1, 0, 0), (2, 1, 0), (4, 0, 0), (5, 0, 0), (6, 0, 0), (7, 0, 0)] [x1, x2, x4, x5, x6, x7] → kX dM 5 im_m255 2 86 (sCan [(0, 5, 74), (1, 0, 0), (2, 1, 0), (4, 0, 0), (5, 0, 0), (6, 0, 0), (7, 0, 0)] [x1, x2, x4, x5, x6, x7]) [] (sM s m) Q) (fun x7 m h hr => wj_255_86 Q R s (fun x7 m => sRg [(0, 5, 74), (1, 0, 0), (2, 1, 0), (4, 0, 0), (5, 0, 0), (6, 0, 0), (7, 0, 0)] [x1, x2, x4, x5, x6, x7] → kX dM 5 im_m255 2 86 (sCan [(0, 5, 74), (1, 0, 0), (2, 1, 0), (4, 0, 0), (5, 0, 0), (6, 0, 0), (7, 0, 0)] [x1, x2, x4, x5, x6, x7]) [] (sM s m) Q) x1 x2 x4 x5 x6 x7 m  (fun _ _ hp hr => hp hr) hQ hr h) hr
def lb_255_36 (s : sS) (Q : sQ) (P36 : Int → hy_m → Prop) (R : Int → hy_m → Prop) (x1 : Int) (x2 : Int) (x4 : Int) (x5 : Int) (x6 : Int) (x7 : Int) : Nat → Option (sL → sS → Prop) := sLb [(86, fun lv t => sG [(0, 5, 74), (1, 0, 0), (2, 1, 0), (4, 0, 0), (5, 0, 0), (6, 0, 0), (7, 0, 0)] lv (ap6 (fun w1 w2 w4 w5 w6 w7 => ∃ m', t = sM s m' ∧ wq_255_86 w1 w2 w4 w5 w6 w7 m' R))), (36, fun lv t => sG [(0, 5, 74), (1, 0, 0), (2, 1, 0), (4, 0, 0), (5, 0, 0), (6, 0, 0), (7, 0, 0)] lv (ap6 (fun w1 w2 w4 w5 w6 w7 => ∃ m', t = sM s m' ∧ w1 = x1 ∧ w2 = x2 ∧ w4 = x4 ∧ w5 = x5 ∧ w6 = x6 ∧ P36 w7 m')))]
set_option maxRecDepth 30000 in
set_option maxHeartbeats 1000000 in
theorem wj_255_36 (Q : sQ) (R : Int → hy_m → Prop) (s : sS) (P36 : Int → hy_m → Prop) (x1 : Int) (x2 : Int) (x4 : Int) (x5 : Int) (x6 : Int) (x7 : Int) (m : hy_m) (hP36 : ∀ (z7 : Int) (m : hy_m), P36 z7 m → sRg [(0, 5, 74), (1, 0, 0), (2, 1, 0), (4, 0, 0), (5, 0, 0), (6, 0, 0), (7, 0, 0)] [x1, x2, x4, x5, x6, z7] → kX dM 5 im_m255 2 36 (sCan [(0, 5, 74), (1, 0, 0), (2, 1, 0), (4, 0, 0), (5, 0, 0), (6, 0, 0), (7, 0, 0)] [x1, x2, x4, x5, x6, z7]) [] (sM s m) Q) (hQ : ∀ x m', R x m' → Q x (sM s m')) (hr : sRg [(0, 5, 74), (1, 0, 0), (2, 1, 0), (4, 0, 0), (5, 0, 0), (6, 0, 0), (7, 0, 0)] [x1, x2, x4, x5, x6, x7]) (h : wf_255_36 x1 x2 x4 x5 x6 R P36 x7 m) : kX dM 5 im_m255 2 36 (sCan [(0, 5, 74), (1, 0, 0), (2, 1, 0), (4, 0, 0), (5, 0, 0), (6, 0, 0), (7, 0, 0)] [x1, x2, x4, x5, x6, x7]) [] (sM s m) Q := by
  unfold wf_255_36 at h
  refine wz2_ok (cs := cs_255) (wr := []) (lb := lb_255_36 s Q P36 R x1 x2 x4 x5 x6 x7) cs_255_ok (kLb_c (kLab (Bd := fun xs t => ap6 (fun w1 w2 w4 w5 w6 w7 => ∃ m', t = sM s m' ∧ wq_255_86 w1 w2 w4 w5 w6 w7 m' R) xs) rfl (fun xs t r1 r2 hb => by obtain ⟨w1, w2, w4, w5, w6, w7, rfl, hb⟩ := ap6_ok hb; obtain ⟨m', rfl, hx⟩ := hb; exact wk_255_86 Q R (sM s m') _ _ _ _ _ _ (fun x m'' hy => hQ x m'' hy) r1 hx)) (kLb_c (kLab (Bd := fun xs t => ap6 (fun w1 w2 w4 w5 w6 w7 => ∃ m', t = sM s m' ∧ w1 = x1 ∧ w2 = x2 ∧ w4 = x4 ∧ w5 = x5 ∧ w6 = x6 ∧ P36 w7 m') xs) rfl (fun xs t r1 r2 hb => by obtain ⟨w1, w2, w4, w5, w6, w7, rfl, hb⟩ := ap6_ok hb; obtain ⟨m', rfl, rfl, rfl, rfl, rfl, rfl, hx⟩ := hb; exact hP36 _ m' hx r1)) kLb_n)) (okL_can rfl hr) (fun Y hY hl => ?_)
  have l86 := hl 86 _ rfl
  have l36 := hl 36 _ rfl
  refine hY _ _ _ _ (hY _ _ _ _ (hY _ _ _ _ (?_ : Y 42 [(0, 5, true, 74), (1, 0, true, x1), (2, 1, true, x2), (4, 0, true, x4), (5, 0, true, x5), (6, 0, true, x6), (7, 0, true, x7)] [(5, true, 84), (0, true, x7)] (sM s m))))
  refine hY _ _ _ _ (?_ : Y 44 [(0, 5, true, 74), (1, 0, true, x1), (2, 1, true, x2), (4, 0, true, x4), (5, 0, true, x5), (6, 0, true, x6), (7, 0, true, x7)] [(0, true, x5), (5, true, 84), (0, true, x7)] (sM s m))
  refine hY _ _ _ _ ?_
  refine (And.intro h.1 (And.intro h.2.1 ?_))
  show Y 45 [(0, 5, true, 74), (1, 0, true, x1), (2, 1, true, x2), (4, 0, true, x4), (5, 0, true, x5), (6, 0, true, x6), (7, 0, true, x7)] [(0, true, m 84 x5), (0, true, x7)] (sM s m)
  refine hY _ _ _ _ ?_
  refine And.intro (fun hc => ?_) (fun hc => ?_)
  · have h := h.2.2.1 hc
    refine hY _ _ _ _ (hY _ _ _ _ (hY _ _ _ _ (?_ : Y 72 [(0, 5, true, 74), (1, 0, true, x1), (2, 1, true, x2), (4, 0, true, x4), (5, 0, true, x5), (6, 0, true, x6), (7, 0, true, x7)] [(0, true, m 74 42), (5, true, 74)] (sM s m))))
    refine hY _ _ _ _ (hY _ _ _ _ (hY _ _ _ _ (?_ : Y 78 [(0, 5, true, 74), (1, 0, true, x1), (2, 1, true, x2), (4, 0, true, x4), (5, 0, true, x5), (6, 0, true, x6), (7, 0, true, x7)] [(0, true, x5), (5, true, 84), (0, true, m 74 42), (5, true, 74)] (sM s m))))
    refine hY _ _ _ _ ?_
    refine (And.intro h.1 (And.intro h.2.1 ?_))
    refine hY _ _ _ _ (?_ : Y 80 [(0, 5, true, 74), (1, 0, true, x1), (2, 1, true, x2), (4, 0, true, x4), (5, 0, true, x5), (6, 0, true, x6), (7, 0, true, x7)] [(0, false, (m 74 42) + (m 84 x5)), (5, true, 74)] (sM s m))
    refine hY _ _ _ _ ?_
    refine And.intro h.2.2.1 ?_
    refine hY _ _ _ _ (hY _ _ _ _ (?_ : Y 86 [(7, 2, true, 0), (0, 5, true, 74), (1, 0, true, x1), (2, 1, true, x2), (4, 0, true, x4), (5, 0, true, x5), (6, 0, true, x6)] [] (sM s (hy_u m 74 42 ((m 74 42) + (m 84 x5))))))
    refine l86 _ _ ?_
    exact (Exists.intro (hy_u m 74 42 ((m 74 42) + (m 84 x5))) (And.intro rfl h.2.2.2))
  · have h := h.2.2.2 hc
    refine hY _ _ _ _ (hY _ _ _ _ (hY _ _ _ _ (?_ : Y 54 [(0, 5, true, 74), (1, 0, true, x1), (2, 1, true, x2), (4, 0, true, x4), (5, 0, true, x5), (6, 0, true, x6), (7, 0, true, x7)] [(0, true, x6), (5, true, 97)] (sM s m))))
    refine hY _ _ _ _ (hY _ _ _ _ (hY _ _ _ _ (?_ : Y 60 [(0, 5, true, 74), (1, 0, true, x1), (2, 1, true, x2), (4, 0, true, x4), (5, 0, true, x5), (6, 0, true, x6), (7, 0, true, x7)] [(1, true, (-1)), (0, false, x6 + x7), (5, true, 97)] (sM s m))))
    refine hY _ _ _ _ ?_
    refine (And.intro h.1 (And.intro h.2.1 ?_))
    refine hY _ _ _ _ (hY _ _ _ _ (?_ : Y 36 [(7, 0, false, x7 + 1), (0, 5, true, 74), (1, 0, true, x1), (2, 1, true, x2), (4, 0, true, x4), (5, 0, true, x5), (6, 0, true, x6)] [] (sM s (hy_u m 97 (x6 + x7) (-1)))))
    refine l36 _ _ ?_
    refine And.intro h.2.2.1 ?_
    exact (Exists.intro (hy_u m 97 (x6 + x7) (-1)) (And.intro rfl (And.intro rfl (And.intro rfl (And.intro rfl (And.intro rfl (And.intro rfl h.2.2.2)))))))
theorem wk_255_36 (Q : sQ) (R : Int → hy_m → Prop) (s : sS) (x1 : Int) (x2 : Int) (x4 : Int) (x5 : Int) (x6 : Int) (x7 : Int) (hQ : ∀ x m', R x m' → Q x (sM s m')) (hr : sRg [(0, 5, 74), (1, 0, 0), (2, 1, 0), (4, 0, 0), (5, 0, 0), (6, 0, 0), (7, 0, 0)] [x1, x2, x4, x5, x6, x7]) (h : wq_255_36 x1 x2 x4 x5 x6 x7 s.2.2.2 R) : kX dM 5 im_m255 2 36 (sCan [(0, 5, 74), (1, 0, 0), (2, 1, 0), (4, 0, 0), (5, 0, 0), (6, 0, 0), (7, 0, 0)] [x1, x2, x4, x5, x6, x7]) [] s Q :=
  h (fun x7 m => sRg [(0, 5, 74), (1, 0, 0), (2, 1, 0), (4, 0, 0), (5, 0, 0), (6, 0, 0), (7, 0, 0)] [x1, x2, x4, x5, x6, x7] → kX dM 5 im_m255 2 36 (sCan [(0, 5, 74), (1, 0, 0), (2, 1, 0), (4, 0, 0), (5, 0, 0), (6, 0, 0), (7, 0, 0)] [x1, x2, x4, x5, x6, x7]) [] (sM s m) Q) (fun x7 m h hr => wj_255_36 Q R s (fun x7 m => sRg [(0, 5, 74), (1, 0, 0), (2, 1, 0), (4, 0, 0), (5, 0, 0), (6, 0, 0), (7, 0, 0)] [x1, x2, x4, x5, x6, x7] → kX dM 5 im_m255 2 36 (sCan [(0, 5, 74), (1, 0, 0), (2, 1, 0), (4, 0, 0), (5, 0, 0), (6, 0, 0), (7, 0, 0)] [x1, x2, x4, x5, x6, x7]) [] (sM s m) Q) x1 x2 x4 x5 x6 x7 m  (fun _ _ hp hr => hp hr) hQ hr h) hr
def lb_255_0 (s : sS) (Q : sQ) (R : Int → hy_m → Prop) (x1 : Int) (x2 : Int) (x4 : Int) : Nat → Option (sL → sS → Prop) := sLb [(36, fun lv t => sG [(0, 5, 74), (1, 0, 0), (2, 1, 0), (4, 0, 0), (5, 0, 0), (6, 0, 0), (7, 0, 0)] lv (ap6 (fun w1 w2 w4 w5 w6 w7 => ∃ m', t = sM s m' ∧ wq_255_36 w1 w2 w4 w5 w6 w7 m' R)))]
set_option maxRecDepth 30000 in
set_option maxHeartbeats 1000000 in
theorem wk_255_0 (Q : sQ) (R : Int → hy_m → Prop) (s : sS) (x1 : Int) (x2 : Int) (x4 : Int) (hQ : ∀ x m', R x m' → Q x (sM s m')) (hr : sRg [(0, 5, 74), (1, 0, 0), (2, 1, 0), (4, 0, 0)] [x1, x2, x4]) (h : wq_255 x1 x2 x4 s.2.2.2 R) : kX dM 5 im_m255 2 0 (sCan [(0, 5, 74), (1, 0, 0), (2, 1, 0), (4, 0, 0)] [x1, x2, x4]) [] s Q := by
  unfold wq_255 at h
  refine wz2_ok (cs := cs_255) (wr := []) (lb := lb_255_0 s Q R x1 x2 x4) cs_255_ok (kLb_c (kLab (Bd := fun xs t => ap6 (fun w1 w2 w4 w5 w6 w7 => ∃ m', t = sM s m' ∧ wq_255_36 w1 w2 w4 w5 w6 w7 m' R) xs) rfl (fun xs t r1 r2 hb => by obtain ⟨w1, w2, w4, w5, w6, w7, rfl, hb⟩ := ap6_ok hb; obtain ⟨m', rfl, hx⟩ := hb; exact wk_255_36 Q R (sM s m') _ _ _ _ _ _ (fun x m'' hy => hQ x m'' hy) r1 hx)) kLb_n) (okL_can rfl hr) (fun Y hY hl => ?_)
  have l36 := hl 36 _ rfl
  refine hY _ _ _ _ (hY _ _ _ _ (?_ : Y 2 [(0, 5, true, 74), (1, 0, true, x1), (2, 1, true, x2), (4, 0, true, x4)] [(0, true, x1), (5, true, 74)] s))
  refine hY _ _ _ _ ?_
  refine Exists.intro _ (And.intro (wc_206_r74_0t x1 _ _ h) (fun r1 m1 h => ?_))
  refine hY _ _ _ _ (hY _ _ _ _ (hY _ _ _ _ (?_ : Y 11 [(5, 0, true, r1), (0, 5, true, 74), (1, 0, true, x1), (2, 1, true, x2), (4, 0, true, x4)] [(0, true, m1 74 42)] (sM s m1))))
  refine hY _ _ _ _ (hY _ _ _ _ (hY _ _ _ _ (?_ : Y 15 [(6, 0, true, m1 74 42), (5, 0, true, r1), (0, 5, true, 74), (1, 0, true, x1), (2, 1, true, x2), (4, 0, true, x4)] [(5, true, 74), (5, true, 74)] (sM s m1))))
  refine hY _ _ _ _ (hY _ _ _ _ (hY _ _ _ _ (?_ : Y 20 [(6, 0, true, m1 74 42), (5, 0, true, r1), (0, 5, true, 74), (1, 0, true, x1), (2, 1, true, x2), (4, 0, true, x4)] [(0, false, (m1 74 36) + 1), (5, true, 74)] (sM s m1))))
  refine hY _ _ _ _ ?_
  refine And.intro h.1 ?_
  refine hY _ _ _ _ (hY _ _ _ _ (hY _ _ _ _ (?_ : Y 28 [(6, 0, true, m1 74 42), (5, 0, true, r1), (0, 5, true, 74), (1, 0, true, x1), (2, 1, true, x2), (4, 0, true, x4)] [(0, true, x1), (5, true, 95)] (sM s (hy_u m1 74 36 ((m1 74 36) + 1))))))
  refine hY _ _ _ _ (?_ : Y 29 [(6, 0, true, m1 74 42), (5, 0, true, r1), (0, 5, true, 74), (1, 0, true, x1), (2, 1, true, x2), (4, 0, true, x4)] [(0, true, x1), (5, true, 95), (0, true, x1), (5, true, 95)] (sM s (hy_u m1 74 36 ((m1 74 36) + 1))))
  refine hY _ _ _ _ ?_
  refine (And.intro h.2.1 (And.intro h.2.2.1 ?_))
  refine hY _ _ _ _ (hY _ _ _ _ (?_ : Y 32 [(6, 0, true, m1 74 42), (5, 0, true, r1), (0, 5, true, 74), (1, 0, true, x1), (2, 1, true, x2), (4, 0, true, x4)] [(0, false, (m1 95 x1) + 1), (0, true, x1), (5, true, 95)] (sM s (hy_u m1 74 36 ((m1 74 36) + 1)))))
  refine hY _ _ _ _ ?_
  refine (And.intro h.2.2.2.1 (And.intro h.2.2.2.2.1 ?_))
  refine And.intro h.2.2.2.2.2.1 ?_
  refine hY _ _ _ _ (hY _ _ _ _ (?_ : Y 36 [(7, 2, true, 0), (6, 0, true, m1 74 42), (5, 0, true, r1), (0, 5, true, 74), (1, 0, true, x1), (2, 1, true, x2), (4, 0, true, x4)] [] (sM s (hy_u (hy_u m1 74 36 ((m1 74 36) + 1)) 95 x1 ((m1 95 x1) + 1)))))
  refine l36 _ _ ?_
  exact (Exists.intro (hy_u (hy_u m1 74 36 ((m1 74 36) + 1)) 95 x1 ((m1 95 x1) + 1)) (And.intro rfl h.2.2.2.2.2.2))
def we_255 : sFf := sEf 8 [(0, 5, 74), (1, 0, 0), (2, 1, 0), (4, 0, 0)] (fun xs s Q => ap3 (fun x1 x2 x4 => wq_255 x1 x2 x4 s.2.2.2 Q) xs)
theorem we_255_ok : kS dM 6 255 2 (.inl we_255) := sEf_ok (mi := im_m255) rfl rfl rfl (fun R xs s r1 hb => by obtain ⟨x1, x2, x4, rfl, hb⟩ := ap3_ok hb; exact wk_255_0 _ R s x1 x2 x4 (fun x m' hx => ⟨m', rfl, hx⟩) r1 hb)
/-- LMModel.goesBack(I)V -/
def wf_256_0 (x1 : Int) (Q : Int → hy_m → Prop) (P0 : hy_m → Prop) (m : hy_m) : Prop := 0 ≤ x1 ∧ x1 < 700 ∧ (((m 74 44) ≤ (m 108 x1) → (0 ≤ x1 ∧ x1 < 700 ∧ (0 ≤ x1 ∧ x1 < 700 ∧ (0 ≤ x1 ∧ x1 < 700 ∧ (Q 0 (hy_u (hy_u (hy_u m 74 42 (m 109 x1)) 74 51 (m 110 x1)) 74 52 (m 107 x1))))))) ∧ ((m 108 x1) < (m 74 44) → (hy_r 0 ((m 74 44) - 1) ∧ (0 ≤ ((m 74 44) - 1) ∧ ((m 74 44) - 1) < 2500 ∧ (0 ≤ (m 98 ((m 74 44) - 1)) ∧ (m 98 ((m 74 44) - 1)) < 2500 ∧ (P0 (hy_u (hy_u m 74 44 ((m 74 44) - 1)) 97 (m 98 ((m 74 44) - 1)) (-1))))))))
def wq_256 (x1 : Int) (m : hy_m) (Q : Int → hy_m → Prop) : Prop := wL0 hy_m (wf_256_0 x1 Q) m
def cs_256 : List (Nat × Nat × sFS) := []
theorem cs_256_ok : kCs dM 0 cs_256 := kCs_n
def lb_256_0 (s : sS) (Q : sQ) (P0 : hy_m → Prop) (R : Int → hy_m → Prop) (x1 : Int) : Nat → Option (sL → sS → Prop) := sLb [(0, fun lv t => sG [(0, 5, 74), (1, 0, 0)] lv (ap1 (fun w1 => ∃ m', t = sM s m' ∧ w1 = x1 ∧ P0 m')))]
set_option maxRecDepth 30000 in
set_option maxHeartbeats 1000000 in
theorem wj_256_0 (Q : sQ) (R : Int → hy_m → Prop) (s : sS) (P0 : hy_m → Prop) (x1 : Int) (m : hy_m) (hP0 : ∀ (m : hy_m), P0 m → sRg [(0, 5, 74), (1, 0, 0)] [x1] → kX dM 0 im_m256 9 0 (sCan [(0, 5, 74), (1, 0, 0)] [x1]) [] (sM s m) Q) (hQ : ∀ x m', R x m' → Q x (sM s m')) (hr : sRg [(0, 5, 74), (1, 0, 0)] [x1]) (h : wf_256_0 x1 R P0 m) : kX dM 0 im_m256 9 0 (sCan [(0, 5, 74), (1, 0, 0)] [x1]) [] (sM s m) Q := by
  unfold wf_256_0 at h
  refine wz2_ok (cs := cs_256) (wr := []) (lb := lb_256_0 s Q P0 R x1) cs_256_ok (kLb_c (kLab (Bd := fun xs t => ap1 (fun w1 => ∃ m', t = sM s m' ∧ w1 = x1 ∧ P0 m') xs) rfl (fun xs t r1 r2 hb => by obtain ⟨w1, rfl, hb⟩ := ap1_ok hb; obtain ⟨m', rfl, rfl, hx⟩ := hb; exact hP0 m' hx r1)) kLb_n) (okL_can rfl hr) (fun Y hY hl => ?_)
  have l0 := hl 0 _ rfl
  refine hY _ _ _ _ (hY _ _ _ _ (hY _ _ _ _ (?_ : Y 5 [(0, 5, true, 74), (1, 0, true, x1)] [(5, true, 74), (0, true, m 74 44)] (sM s m))))
  refine hY _ _ _ _ (hY _ _ _ _ (?_ : Y 9 [(0, 5, true, 74), (1, 0, true, x1)] [(0, true, x1), (5, true, 108), (0, true, m 74 44)] (sM s m)))
  refine hY _ _ _ _ ?_
  refine (And.intro h.1 (And.intro h.2.1 ?_))
  show Y 10 [(0, 5, true, 74), (1, 0, true, x1)] [(0, true, m 108 x1), (0, true, m 74 44)] (sM s m)
  refine hY _ _ _ _ ?_
  refine And.intro (fun hc => ?_) (fun hc => ?_)
  · have h := h.2.2.1 hc
    refine hY _ _ _ _ (hY _ _ _ _ (hY _ _ _ _ (?_ : Y 48 [(0, 5, true, 74), (1, 0, true, x1)] [(5, true, 109), (5, true, 74)] (sM s m))))
    refine hY _ _ _ _ (?_ : Y 49 [(0, 5, true, 74), (1, 0, true, x1)] [(0, true, x1), (5, true, 109), (5, true, 74)] (sM s m))
    refine hY _ _ _ _ ?_
    refine (And.intro h.1 (And.intro h.2.1 ?_))
    show Y 50 [(0, 5, true, 74), (1, 0, true, x1)] [(0, true, m 109 x1), (5, true, 74)] (sM s m)
    refine hY _ _ _ _ ?_
    refine hY _ _ _ _ (hY _ _ _ _ (hY _ _ _ _ (?_ : Y 58 [(0, 5, true, 74), (1, 0, true, x1)] [(5, true, 110), (5, true, 74)] (sM s (hy_u m 74 42 (m 109 x1))))))
    refine hY _ _ _ _ (?_ : Y 59 [(0, 5, true, 74), (1, 0, true, x1)] [(0, true, x1), (5, true, 110), (5, true, 74)] (sM s (hy_u m 74 42 (m 109 x1))))
    refine hY _ _ _ _ ?_
    refine (And.intro h.2.2.1 (And.intro h.2.2.2.1 ?_))
    show Y 60 [(0, 5, true, 74), (1, 0, true, x1)] [(0, true, m 110 x1), (5, true, 74)] (sM s (hy_u m 74 42 (m 109 x1)))
    refine hY _ _ _ _ ?_
    refine hY _ _ _ _ (hY _ _ _ _ (hY _ _ _ _ (?_ : Y 68 [(0, 5, true, 74), (1, 0, true, x1)] [(5, true, 107), (5, true, 74)] (sM s (hy_u (hy_u m 74 42 (m 109 x1)) 74 51 (m 110 x1))))))
    refine hY _ _ _ _ (?_ : Y 69 [(0, 5, true, 74), (1, 0, true, x1)] [(0, true, x1), (5, true, 107), (5, true, 74)] (sM s (hy_u (hy_u m 74 42 (m 109 x1)) 74 51 (m 110 x1))))
    refine hY _ _ _ _ ?_
    refine (And.intro h.2.2.2.2.1 (And.intro h.2.2.2.2.2.1 ?_))
    show Y 70 [(0, 5, true, 74), (1, 0, true, x1)] [(0, true, m 107 x1), (5, true, 74)] (sM s (hy_u (hy_u m 74 42 (m 109 x1)) 74 51 (m 110 x1)))
    refine hY _ _ _ _ ?_
    show Y 73 [(0, 5, true, 74), (1, 0, true, x1)] [] (sM s (hy_u (hy_u (hy_u m 74 42 (m 109 x1)) 74 51 (m 110 x1)) 74 52 (m 107 x1)))
    refine hY _ _ _ _ ?_
    exact hQ 0 (hy_u (hy_u (hy_u m 74 42 (m 109 x1)) 74 51 (m 110 x1)) 74 52 (m 107 x1)) h.2.2.2.2.2.2
  · have h := h.2.2.2 hc
    refine hY _ _ _ _ (hY _ _ _ _ (hY _ _ _ _ (?_ : Y 18 [(0, 5, true, 74), (1, 0, true, x1)] [(0, true, m 74 44), (5, true, 74)] (sM s m))))
    refine hY _ _ _ _ (hY _ _ _ _ (?_ : Y 20 [(0, 5, true, 74), (1, 0, true, x1)] [(0, false, (m 74 44) - 1), (5, true, 74)] (sM s m)))
    refine hY _ _ _ _ ?_
    refine And.intro h.1 ?_
    refine hY _ _ _ _ (hY _ _ _ _ (hY _ _ _ _ (?_ : Y 28 [(0, 5, true, 74), (1, 0, true, x1)] [(5, true, 74), (5, true, 97)] (sM s (hy_u m 74 44 ((m 74 44) - 1))))))
    refine hY _ _ _ _ (hY _ _ _ _ (hY _ _ _ _ (?_ : Y 35 [(0, 5, true, 74), (1, 0, true, x1)] [(0, true, (m 74 44) - 1), (5, true, 98), (5, true, 97)] (sM s (hy_u m 74 44 ((m 74 44) - 1))))))
    refine hY _ _ _ _ ?_
    refine (And.intro h.2.1 (And.intro h.2.2.1 ?_))
    refine hY _ _ _ _ (?_ : Y 39 [(0, 5, true, 74), (1, 0, true, x1)] [(1, true, (-1)), (0, true, m 98 ((m 74 44) - 1)), (5, true, 97)] (sM s (hy_u m 74 44 ((m 74 44) - 1))))
    refine hY _ _ _ _ ?_
    refine (And.intro h.2.2.2.1 (And.intro h.2.2.2.2.1 ?_))
    refine hY _ _ _ _ (?_ : Y 0 [(0, 5, true, 74), (1, 0, true, x1)] [] (sM s (hy_u (hy_u m 74 44 ((m 74 44) - 1)) 97 (m 98 ((m 74 44) - 1)) (-1))))
    refine l0 _ _ ?_
    exact (Exists.intro (hy_u (hy_u m 74 44 ((m 74 44) - 1)) 97 (m 98 ((m 74 44) - 1)) (-1)) (And.intro rfl (And.intro rfl h.2.2.2.2.2)))
theorem wk_256_0 (Q : sQ) (R : Int → hy_m → Prop) (s : sS) (x1 : Int) (hQ : ∀ x m', R x m' → Q x (sM s m')) (hr : sRg [(0, 5, 74), (1, 0, 0)] [x1]) (h : wq_256 x1 s.2.2.2 R) : kX dM 0 im_m256 9 0 (sCan [(0, 5, 74), (1, 0, 0)] [x1]) [] s Q :=
  h (fun m => sRg [(0, 5, 74), (1, 0, 0)] [x1] → kX dM 0 im_m256 9 0 (sCan [(0, 5, 74), (1, 0, 0)] [x1]) [] (sM s m) Q) (fun m h hr => wj_256_0 Q R s (fun m => sRg [(0, 5, 74), (1, 0, 0)] [x1] → kX dM 0 im_m256 9 0 (sCan [(0, 5, 74), (1, 0, 0)] [x1]) [] (sM s m) Q) x1 m  (fun _ hp hr => hp hr) hQ hr h) hr
def we_256 : sFf := sEf 2 [(0, 5, 74), (1, 0, 0)] (fun xs s Q => ap1 (fun x1 => wq_256 x1 s.2.2.2 Q) xs)
theorem we_256_ok : kS dM 1 256 9 (.inl we_256) := sEf_ok (mi := im_m256) rfl rfl rfl (fun R xs s r1 hb => by obtain ⟨x1, rfl, hb⟩ := ap1_ok hb; exact wk_256_0 _ R s x1 (fun x m' hx => ⟨m', rfl, hx⟩) r1 hb)
/-- LMModel.backtracks()Z -/
def wf_257_0 (Q : Int → hy_m → Prop) (P0 : hy_m → Prop) (m : hy_m) : Prop := ((m 74 59) ≤ 0 → (Q 0 m)) ∧ (0 < (m 74 59) → (hy_r 0 ((m 74 59) - 1) ∧ (wq_256 ((m 74 59) - 1) m (fun _ m1 => 0 ≤ ((m 74 59) - 1) ∧ ((m 74 59) - 1) < 700 ∧ (((m1 106 ((m 74 59) - 1)) ≠ (-9) → (wq_254 (m1 106 ((m 74 59) - 1)) m1 (fun r2 m2 => 0 ≤ ((m 74 59) - 1) ∧ ((m 74 59) - 1) < 700 ∧ (0 ≤ ((m 74 59) - 1) ∧ ((m 74 59) - 1) < 700 ∧ ((((hy_u m2 106 ((m 74 59) - 1) (iA (m1 106 ((m 74 59) - 1)) (iX (iSl 1 r2) (-1)))) 106 ((m 74 59) - 1)) ≠ 0 → (hy_r 0 ((m2 74 59) - 0) ∧ (0 ≤ ((m 74 59) - 1) ∧ ((m 74 59) - 1) < 700 ∧ (hy_r 0 ((m 74 59) - 1) ∧ (wq_255 r2 (m2 105 ((m 74 59) - 1)) ((m 74 59) - 1) (hy_u (hy_u m2 106 ((m 74 59) - 1) (iA (m1 106 ((m 74 59) - 1)) (iX (iSl 1 r2) (-1)))) 74 59 ((m2 74 59) - 0)) (fun r3 m3 => (r3 = 0 → (P0 m3)) ∧ (r3 ≠ 0 → (Q 1 m3)))))))) ∧ (((hy_u m2 106 ((m 74 59) - 1) (iA (m1 106 ((m 74 59) - 1)) (iX (iSl 1 r2) (-1)))) 106 ((m 74 59) - 1)) = 0 → (hy_r 0 ((m2 74 59) - 1) ∧ (0 ≤ ((m 74 59) - 1) ∧ ((m 74 59) - 1) < 700 ∧ (hy_r 0 ((m 74 59) - 1) ∧ (wq_255 r2 (m2 105 ((m 74 59) - 1)) ((m 74 59) - 1) (hy_u (hy_u m2 106 ((m 74 59) - 1) (iA (m1 106 ((m 74 59) - 1)) (iX (iSl 1 r2) (-1)))) 74 59 ((m2 74 59) - 1)) (fun r4 m4 => (r4 = 0 → (P0 m4)) ∧ (r4 ≠ 0 → (Q 1 m4))))))))))))) ∧ ((m1 106 ((m 74 59) - 1)) = (-9) → (hy_r 0 ((m1 74 59) - 1) ∧ (Q 1 (hy_u m1 74 59 ((m1 74 59) - 1))))))))))
def wq_257 (m : hy_m) (Q : Int → hy_m → Prop) : Prop := wL0 hy_m (wf_257_0 Q) m
theorem wc_256_r74_0f (x1 : Int) (s : sS) (R : Int → hy_m → Prop) (h : hy_r 0 x1 ∧ wq_256 x1 s.2.2.2 R) : we_256 [(5, true, 74), (0, false, x1)] s R := h
theorem wc_254_0t (x0 : Int) (s : sS) (R : Int → hy_m → Prop) (h : wq_254 x0 s.2.2.2 R) : we_254 [(0, true, x0)] s R := h
theorem wc_255_r74_0t_1t_0f (x1 : Int) (x2 : Int) (x3 : Int) (s : sS) (R : Int → hy_m → Prop) (h : hy_r 0 x3 ∧ wq_255 x1 x2 x3 s.2.2.2 R) : we_255 [(5, true, 74), (0, true, x1), (1, true, x2), (0, false, x3)] s R := h
def cs_257 : List (Nat × Nat × sFS) := [(254, 0, .inl we_254), (255, 2, .inl we_255), (256, 9, .inl we_256)]
theorem cs_257_ok : kCs dM 6 cs_257 := (kCs_c (Or.inl rfl) (we_254_ok.deep (by decide)) (kCs_c (Or.inr (Or.inr (Or.inl rfl))) (we_255_ok.deep (by decide)) (kCs_c (Or.inr (Or.inr (Or.inr (Or.inr rfl)))) (we_256_ok.deep (by decide)) kCs_n)))
def lb_257_0 (s : sS) (Q : sQ) (P0 : hy_m → Prop) (R : Int → hy_m → Prop) : Nat → Option (sL → sS → Prop) := sLb [(0, fun lv t => sG [(0, 5, 74)] lv (ap0 (∃ m', t = sM s m' ∧ P0 m')))]
set_option maxRecDepth 30000 in
set_option maxHeartbeats 1000000 in
theorem wj_257_0 (Q : sQ) (R : Int → hy_m → Prop) (s : sS) (P0 : hy_m → Prop) (m : hy_m) (hP0 : ∀ (m : hy_m), P0 m → sRg [(0, 5, 74)] [] → kX dM 6 im_m257 2 0 (sCan [(0, 5, 74)] []) [] (sM s m) Q) (hQ : ∀ x m', R x m' → Q x (sM s m')) (hr : sRg [(0, 5, 74)] []) (h : wf_257_0 R P0 m) : kX dM 6 im_m257 2 0 (sCan [(0, 5, 74)] []) [] (sM s m) Q := by
  unfold wf_257_0 at h
  refine wz2_ok (cs := cs_257) (wr := []) (lb := lb_257_0 s Q P0 R) cs_257_ok (kLb_c (kLab (Bd := fun xs t => ap0 (∃ m', t = sM s m' ∧ P0 m') xs) rfl (fun xs t r1 r2 hb => by obtain ⟨rfl, hb⟩ := ap0_ok hb; obtain ⟨m', rfl, hx⟩ := hb; exact hP0 m' hx r1)) kLb_n) (okL_can rfl hr) (fun Y hY hl => ?_)
  have l0 := hl 0 _ rfl
  refine hY _ _ _ _ (hY _ _ _ _ (?_ : Y 4 [(0, 5, true, 74)] [(0, true, m 74 59)] (sM s m)))
  refine hY _ _ _ _ ?_
  refine And.intro (fun hc => ?_) (fun hc => ?_)
  · have h := h.1 hc
    refine hY _ _ _ _ (?_ : Y 106 [(0, 5, true, 74)] [(2, true, 0)] (sM s m))
    refine hY _ _ _ _ ?_
    exact hQ 0 m h
  · have h := h.2 hc
    refine hY _ _ _ _ (hY _ _ _ _ (hY _ _ _ _ (?_ : Y 12 [(0, 5, true, 74)] [(2, true, 1), (0, true, m 74 59)] (sM s m))))
    refine hY _ _ _ _ (hY _ _ _ _ (hY _ _ _ _ (?_ : Y 15 [(1, 0, false, (m 74 59) - 1), (0, 5, true, 74)] [(5, true, 74)] (sM s m))))
    refine hY _ _ _ _ (?_ : Y 16 [(1, 0, false, (m 74 59) - 1), (0, 5, true, 74)] [(0, false, (m 74 59) - 1), (5, true, 74)] (sM s m))
    refine hY _ _ _ _ ?_
    refine Exists.intro _ (And.intro (wc_256_r74_0f ((m 74 59) - 1) _ _ h) (fun r1 m1 h => ?_))
    refine hY _ _ _ _ (hY _ _ _ _ (hY _ _ _ _ (?_ : Y 24 [(1, 0, false, (m 74 59) - 1), (0, 5, true, 74)] [(0, false, (m 74 59) - 1), (5, true, 106)] (sM s m1))))
    refine hY _ _ _ _ ?_
    refine (And.intro h.1 (And.intro h.2.1 ?_))
    refine hY _ _ _ _ (hY _ _ _ _ (hY _ _ _ _ (?_ : Y 29 [(2, 0, true, m1 106 ((m 74 59) - 1)), (1, 0, false, (m 74 59) - 1), (0, 5, true, 74)] [(0, true, (-9)), (0, true, m1 106 ((m 74 59) - 1))] (sM s m1))))
    refine hY _ _ _ _ ?_
    refine And.intro (fun hc => ?_) (fun hc => ?_)
    · have h := h.2.2.1 hc
      refine hY _ _ _ _ (?_ : Y 45 [(2, 0, true, m1 106 ((m 74 59) - 1)), (1, 0, false, (m 74 59) - 1), (0, 5, true, 74)] [(0, true, m1 106 ((m 74 59) - 1))] (sM s m1))
      refine hY _ _ _ _ ?_
      refine Exists.intro _ (And.intro (wc_254_0t (m1 106 ((m 74 59) - 1)) _ _ h) (fun r2 m2 h => ?_))
      refine hY _ _ _ _ (hY _ _ _ _ (hY _ _ _ _ (?_ : Y 53 [(3, 0, true, r2), (2, 0, true, m1 106 ((m 74 59) - 1)), (1, 0, false, (m 74 59) - 1), (0, 5, true, 74)] [(5, true, 106)] (sM s m2))))
      refine hY _ _ _ _ (hY _ _ _ _ (hY _ _ _ _ (?_ : Y 56 [(3, 0, true, r2), (2, 0, true, m1 106 ((m 74 59) - 1)), (1, 0, false, (m 74 59) - 1), (0, 5, true, 74)] [(2, true, 1), (0, true, m1 106 ((m 74 59) - 1)), (0, false, (m 74 59) - 1), (5, true, 106)] (sM s m2))))
      refine hY _ _ _ _ (?_ : Y 57 [(3, 0, true, r2), (2, 0, true, m1 106 ((m 74 59) - 1)), (1, 0, false, (m 74 59) - 1), (0, 5, true, 74)] [(0, true, r2), (2, true, 1), (0, true, m1 106 ((m 74 59) - 1)), (0, false, (m 74 59) - 1), (5, true, 106)] (sM s m2))
      refine hY _ _ _ _ (?_ : Y 58 [(3, 0, true, r2), (2, 0, true, m1 106 ((m 74 59) - 1)), (1, 0, false, (m 74 59) - 1), (0, 5, true, 74)] [(0, true, iSl 1 r2), (0, true, m1 106 ((m 74 59) - 1)), (0, false, (m 74 59) - 1), (5, true, 106)] (sM s m2))
      refine hY _ _ _ _ (?_ : Y 59 [(3, 0, true, r2), (2, 0, true, m1 106 ((m 74 59) - 1)), (1, 0, false, (m 74 59) - 1), (0, 5, true, 74)] [(0, true, (-1)), (0, true, iSl 1 r2), (0, true, m1 106 ((m 74 59) - 1)), (0, false, (m 74 59) - 1), (5, true, 106)] (sM s m2))
      refine hY _ _ _ _ (?_ : Y 60 [(3, 0, true, r2), (2, 0, true, m1 106 ((m 74 59) - 1)), (1, 0, false, (m 74 59) - 1), (0, 5, true, 74)] [(0, true, iX (iSl 1 r2) (-1)), (0, true, m1 106 ((m 74 59) - 1)), (0, false, (m 74 59) - 1), (5, true, 106)] (sM s m2))
      refine hY _ _ _ _ (?_ : Y 61 [(3, 0, true, r2), (2, 0, true, m1 106 ((m 74 59) - 1)), (1, 0, false, (m 74 59) - 1), (0, 5, true, 74)] [(0, true, iA (m1 106 ((m 74 59) - 1)) (iX (iSl 1 r2) (-1))), (0, false, (m 74 59) - 1), (5, true, 106)] (sM s m2))
      refine hY _ _ _ _ ?_
      refine (And.intro h.1 (And.intro h.2.1 ?_))
      refine hY _ _ _ _ (hY _ _ _ _ (hY _ _ _ _ (?_ : Y 67 [(3, 0, true, r2), (2, 0, true, m1 106 ((m 74 59) - 1)), (1, 0, false, (m 74 59) - 1), (0, 5, true, 74)] [(0, true, m2 74 59), (5, true, 74)] (sM s (hy_u m2 106 ((m 74 59) - 1) (iA (m1 106 ((m 74 59) - 1)) (iX (iSl 1 r2) (-1))))))))
      refine hY _ _ _ _ (hY _ _ _ _ (hY _ _ _ _ (?_ : Y 72 [(3, 0, true, r2), (2, 0, true, m1 106 ((m 74 59) - 1)), (1, 0, false, (m 74 59) - 1), (0, 5, true, 74)] [(0, false, (m 74 59) - 1), (5, true, 106), (0, true, m2 74 59), (5, true, 74)] (sM s (hy_u m2 106 ((m 74 59) - 1) (iA (m1 106 ((m 74 59) - 1)) (iX (iSl 1 r2) (-1))))))))
      refine hY _ _ _ _ ?_
      refine (And.intro h.2.2.1 (And.intro h.2.2.2.1 ?_))
      show Y 73 [(3, 0, true, r2), (2, 0, true, m1 106 ((m 74 59) - 1)), (1, 0, false, (m 74 59) - 1), (0, 5, true, 74)] [(0, true, (hy_u m2 106 ((m 74 59) - 1) (iA (m1 106 ((m 74 59) - 1)) (iX (iSl 1 r2) (-1)))) 106 ((m 74 59) - 1)), (0, true, m2 74 59), (5, true, 74)] (sM s (hy_u m2 106 ((m 74 59) - 1) (iA (m1 106 ((m 74 59) - 1)) (iX (iSl 1 r2) (-1)))))
      refine hY _ _ _ _ ?_
      refine And.intro (fun hc => ?_) (fun hc => ?_)
      · have h := h.2.2.2.2.1 hc
        refine hY _ _ _ _ (hY _ _ _ _ (?_ : Y 82 [(3, 0, true, r2), (2, 0, true, m1 106 ((m 74 59) - 1)), (1, 0, false, (m 74 59) - 1), (0, 5, true, 74)] [(0, false, (m2 74 59) - 0), (5, true, 74)] (sM s (hy_u m2 106 ((m 74 59) - 1) (iA (m1 106 ((m 74 59) - 1)) (iX (iSl 1 r2) (-1)))))))
        refine hY _ _ _ _ ?_
        refine And.intro h.1 ?_
        refine hY _ _ _ _ (hY _ _ _ _ (hY _ _ _ _ (?_ : Y 88 [(3, 0, true, r2), (2, 0, true, m1 106 ((m 74 59) - 1)), (1, 0, false, (m 74 59) - 1), (0, 5, true, 74)] [(5, true, 74), (0, true, r2), (5, true, 74)] (sM s (hy_u (hy_u m2 106 ((m 74 59) - 1) (iA (m1 106 ((m 74 59) - 1)) (iX (iSl 1 r2) (-1)))) 74 59 ((m2 74 59) - 0))))))
        refine hY _ _ _ _ (hY _ _ _ _ (?_ : Y 92 [(3, 0, true, r2), (2, 0, true, m1 106 ((m 74 59) - 1)), (1, 0, false, (m 74 59) - 1), (0, 5, true, 74)] [(0, false, (m 74 59) - 1), (5, true, 105), (0, true, r2), (5, true, 74)] (sM s (hy_u (hy_u m2 106 ((m 74 59) - 1) (iA (m1 106 ((m 74 59) - 1)) (iX (iSl 1 r2) (-1)))) 74 59 ((m2 74 59) - 0)))))
        refine hY _ _ _ _ ?_
        refine (And.intro h.2.1 (And.intro h.2.2.1 ?_))
        refine hY _ _ _ _ (?_ : Y 94 [(3, 0, true, r2), (2, 0, true, m1 106 ((m 74 59) - 1)), (1, 0, false, (m 74 59) - 1), (0, 5, true, 74)] [(0, false, (m 74 59) - 1), (1, true, m2 105 ((m 74 59) - 1)), (0, true, r2), (5, true, 74)] (sM s (hy_u (hy_u m2 106 ((m 74 59) - 1) (iA (m1 106 ((m 74 59) - 1)) (iX (iSl 1 r2) (-1)))) 74 59 ((m2 74 59) - 0))))
        refine hY _ _ _ _ ?_
        refine Exists.intro _ (And.intro (wc_255_r74_0t_1t_0f r2 (m2 105 ((m 74 59) - 1)) ((m 74 59) - 1) _ _ h.2.2.2) (fun r3 m3 h => ?_))
        show Y 97 [(3, 0, true, r2), (2, 0, true, m1 106 ((m 74 59) - 1)), (1, 0, false, (m 74 59) - 1), (0, 5, true, 74)] [(2, true, r3)] (sM s m3)
        refine hY _ _ _ _ ?_
        refine And.intro (fun hc => ?_) (fun hc => ?_)
        · have h := h.1 hc
          refine hY _ _ _ _ (?_ : Y 0 [(3, 0, true, r2), (2, 0, true, m1 106 ((m 74 59) - 1)), (1, 0, false, (m 74 59) - 1), (0, 5, true, 74)] [] (sM s m3))
          refine l0 _ _ ?_
          exact (Exists.intro m3 (And.intro rfl h))
        · have h := h.2 hc
          refine hY _ _ _ _ (?_ : Y 101 [(3, 0, true, r2), (2, 0, true, m1 106 ((m 74 59) - 1)), (1, 0, false, (m 74 59) - 1), (0, 5, true, 74)] [(2, true, 1)] (sM s m3))
          refine hY _ _ _ _ ?_
          exact hQ 1 m3 h
      · have h := h.2.2.2.2.2 hc
        refine hY _ _ _ _ (hY _ _ _ _ (hY _ _ _ _ (?_ : Y 82 [(3, 0, true, r2), (2, 0, true, m1 106 ((m 74 59) - 1)), (1, 0, false, (m 74 59) - 1), (0, 5, true, 74)] [(0, false, (m2 74 59) - 1), (5, true, 74)] (sM s (hy_u m2 106 ((m 74 59) - 1) (iA (m1 106 ((m 74 59) - 1)) (iX (iSl 1 r2) (-1))))))))
        refine hY _ _ _ _ ?_
        refine And.intro h.1 ?_
        refine hY _ _ _ _ (hY _ _ _ _ (hY _ _ _ _ (?_ : Y 88 [(3, 0, true, r2), (2, 0, true, m1 106 ((m 74 59) - 1)), (1, 0, false, (m 74 59) - 1), (0, 5, true, 74)] [(5, true, 74), (0, true, r2), (5, true, 74)] (sM s (hy_u (hy_u m2 106 ((m 74 59) - 1) (iA (m1 106 ((m 74 59) - 1)) (iX (iSl 1 r2) (-1)))) 74 59 ((m2 74 59) - 1))))))
        refine hY _ _ _ _ (hY _ _ _ _ (?_ : Y 92 [(3, 0, true, r2), (2, 0, true, m1 106 ((m 74 59) - 1)), (1, 0, false, (m 74 59) - 1), (0, 5, true, 74)] [(0, false, (m 74 59) - 1), (5, true, 105), (0, true, r2), (5, true, 74)] (sM s (hy_u (hy_u m2 106 ((m 74 59) - 1) (iA (m1 106 ((m 74 59) - 1)) (iX (iSl 1 r2) (-1)))) 74 59 ((m2 74 59) - 1)))))
        refine hY _ _ _ _ ?_
        refine (And.intro h.2.1 (And.intro h.2.2.1 ?_))
        refine hY _ _ _ _ (?_ : Y 94 [(3, 0, true, r2), (2, 0, true, m1 106 ((m 74 59) - 1)), (1, 0, false, (m 74 59) - 1), (0, 5, true, 74)] [(0, false, (m 74 59) - 1), (1, true, m2 105 ((m 74 59) - 1)), (0, true, r2), (5, true, 74)] (sM s (hy_u (hy_u m2 106 ((m 74 59) - 1) (iA (m1 106 ((m 74 59) - 1)) (iX (iSl 1 r2) (-1)))) 74 59 ((m2 74 59) - 1))))
        refine hY _ _ _ _ ?_
        refine Exists.intro _ (And.intro (wc_255_r74_0t_1t_0f r2 (m2 105 ((m 74 59) - 1)) ((m 74 59) - 1) _ _ h.2.2.2) (fun r4 m4 h => ?_))
        show Y 97 [(3, 0, true, r2), (2, 0, true, m1 106 ((m 74 59) - 1)), (1, 0, false, (m 74 59) - 1), (0, 5, true, 74)] [(2, true, r4)] (sM s m4)
        refine hY _ _ _ _ ?_
        refine And.intro (fun hc => ?_) (fun hc => ?_)
        · have h := h.1 hc
          refine hY _ _ _ _ (?_ : Y 0 [(3, 0, true, r2), (2, 0, true, m1 106 ((m 74 59) - 1)), (1, 0, false, (m 74 59) - 1), (0, 5, true, 74)] [] (sM s m4))
          refine l0 _ _ ?_
          exact (Exists.intro m4 (And.intro rfl h))
        · have h := h.2 hc
          refine hY _ _ _ _ (?_ : Y 101 [(3, 0, true, r2), (2, 0, true, m1 106 ((m 74 59) - 1)), (1, 0, false, (m 74 59) - 1), (0, 5, true, 74)] [(2, true, 1)] (sM s m4))
          refine hY _ _ _ _ ?_
          exact hQ 1 m4 h
    · have h := h.2.2.2 hc
      refine hY _ _ _ _ (hY _ _ _ _ (hY _ _ _ _ (?_ : Y 37 [(2, 0, true, m1 106 ((m 74 59) - 1)), (1, 0, false, (m 74 59) - 1), (0, 5, true, 74)] [(0, true, m1 74 59), (5, true, 74)] (sM s m1))))
      refine hY _ _ _ _ (hY _ _ _ _ (?_ : Y 39 [(2, 0, true, m1 106 ((m 74 59) - 1)), (1, 0, false, (m 74 59) - 1), (0, 5, true, 74)] [(0, false, (m1 74 59) - 1), (5, true, 74)] (sM s m1)))
      refine hY _ _ _ _ ?_
      refine And.intro h.1 ?_
      refine hY _ _ _ _ (?_ : Y 43 [(2, 0, true, m1 106 ((m 74 59) - 1)), (1, 0, false, (m 74 59) - 1), (0, 5, true, 74)] [(2, true, 1)] (sM s (hy_u m1 74 59 ((m1 74 59) - 1))))
      refine hY _ _ _ _ ?_
      exact hQ 1 (hy_u m1 74 59 ((m1 74 59) - 1)) h.2
theorem wk_257_0 (Q : sQ) (R : Int → hy_m → Prop) (s : sS) (hQ : ∀ x m', R x m' → Q x (sM s m')) (hr : sRg [(0, 5, 74)] []) (h : wq_257 s.2.2.2 R) : kX dM 6 im_m257 2 0 (sCan [(0, 5, 74)] []) [] s Q :=
  h (fun m => sRg [(0, 5, 74)] [] → kX dM 6 im_m257 2 0 (sCan [(0, 5, 74)] []) [] (sM s m) Q) (fun m h hr => wj_257_0 Q R s (fun m => sRg [(0, 5, 74)] [] → kX dM 6 im_m257 2 0 (sCan [(0, 5, 74)] []) [] (sM s m) Q) m  (fun _ hp hr => hp hr) hQ hr h) hr
def we_257 : sFf := sEf 4 [(0, 5, 74)] (fun xs s Q => ap0 (wq_257 s.2.2.2 Q) xs)
theorem we_257_ok : kS dM 7 257 2 (.inl we_257) := sEf_ok (mi := im_m257) rfl rfl rfl (fun R xs s r1 hb => by obtain ⟨rfl, hb⟩ := ap0_ok hb; exact wk_257_0 _ R s (fun x m' hx => ⟨m', rfl, hx⟩) r1 hb)
