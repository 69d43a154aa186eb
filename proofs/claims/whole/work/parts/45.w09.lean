/-- LMModel.ask()I -/
def wf_276_85 (P23 : Int → hy_m → Prop) (x1 : Int) (x2 : Int) (x3 : Int) (Q : Int → hy_m → Prop) (P85 : Int → hy_m → Prop) (x4 : Int) (m : hy_m) : Prop := (3 ≤ x4 → (hy_r 0 (x2 + 1) ∧ (P23 (x2 + 1) m))) ∧ (x4 < 3 → (0 ≤ ((3 * x3) + x4) ∧ ((3 * x3) + x4) < 10752 ∧ (0 ≤ ((3 * (x3 - x1)) + x4) ∧ ((3 * (x3 - x1)) + x4) < 10752 ∧ (hy_r 0 ((m 79 ((3 * x3) + x4)) - x1) ∧ (hy_r 0 (x4 + 1) ∧ (P85 (x4 + 1) (hy_u m 79 ((3 * (x3 - x1)) + x4) ((m 79 ((3 * x3) + x4)) - x1))))))))
def wq_276_85 (P23 : Int → hy_m → Prop) (x1 : Int) (x2 : Int) (x3 : Int) (x4 : Int) (m : hy_m) (Q : Int → hy_m → Prop) : Prop := wL1 hy_m (wf_276_85 P23 x1 x2 x3 Q) x4 m
def wf_276_173 (x1 : Int) (Q : Int → hy_m → Prop) (P173 : Int → hy_m → Prop) (x2 : Int) (m : hy_m) : Prop := (5 ≤ x2 → (wq_272 1 m (fun _ m1 => wq_252 26 0 0 (-9) 0 m1 (fun r2 m2 => 0 ≤ (26 : Int) ∧ (26 : Int) < 28 ∧ (Q (m2 82 26) (hy_u m2 74 52 r2)))))) ∧ (x2 < 5 → (0 ≤ (135 + x2) ∧ (135 + x2) < 140 ∧ (0 ≤ (130 + x2) ∧ (130 + x2) < 140 ∧ (hy_r 0 ((m 83 (135 + x2)) - x1) ∧ (hy_r 0 (x2 + 1) ∧ (P173 (x2 + 1) (hy_u m 83 (130 + x2) ((m 83 (135 + x2)) - x1))))))))
def wq_276_173 (x1 : Int) (x2 : Int) (m : hy_m) (Q : Int → hy_m → Prop) : Prop := wL1 hy_m (wf_276_173 x1 Q) x2 m
def wf_276_23 (x1 : Int) (Q : Int → hy_m → Prop) (P23 : Int → hy_m → Prop) (x2 : Int) (m : hy_m) : Prop := 0 ≤ (27 : Int) ∧ (27 : Int) < 28 ∧ (((m 80 27) ≤ x2 → (0 ≤ (27 : Int) ∧ (27 : Int) < 28 ∧ (0 ≤ (26 : Int) ∧ (26 : Int) < 28 ∧ (0 ≤ (27 : Int) ∧ (27 : Int) < 28 ∧ (0 ≤ (26 : Int) ∧ (26 : Int) < 28 ∧ (0 ≤ (27 : Int) ∧ (27 : Int) < 28 ∧ (0 ≤ (26 : Int) ∧ (26 : Int) < 28 ∧ (wq_276_173 x1 0 (hy_u (hy_u (hy_u m 80 26 (m 80 27)) 84 26 (m 84 27)) 82 26 (m 82 27)) Q)))))))) ∧ (x2 < (m 80 27) → (0 ≤ (3456 + x2) ∧ (3456 + x2) < 3584 ∧ (0 ≤ ((3456 + x2) - x1) ∧ ((3456 + x2) - x1) < 3584 ∧ (0 ≤ (3456 + x2) ∧ (3456 + x2) < 3584 ∧ (0 ≤ ((3456 + x2) - x1) ∧ ((3456 + x2) - x1) < 3584 ∧ (0 ≤ (3456 + x2) ∧ (3456 + x2) < 3584 ∧ (0 ≤ ((3456 + x2) - x1) ∧ ((3456 + x2) - x1) < 3584 ∧ (hy_r 0 (3456 + x2) ∧ (wq_276_85 P23 x1 x2 (3456 + x2) 0 (hy_u (hy_u (hy_u m 76 ((3456 + x2) - x1) (m 76 (3456 + x2))) 77 ((3456 + x2) - x1) (m 77 (3456 + x2))) 78 ((3456 + x2) - x1) (m 78 (3456 + x2))) Q))))))))))
def wq_276_23 (x1 : Int) (x2 : Int) (m : hy_m) (Q : Int → hy_m → Prop) : Prop := wL1 hy_m (wf_276_23 x1 Q) x2 m
def wq_276 (m : hy_m) (Q : Int → hy_m → Prop) : Prop := wq_199 1 m (fun r1 m1 => (r1 = (-9) → (wq_229 m1 (fun _ m2 => wq_276_23 128 0 m2 Q))) ∧ (r1 ≠ (-9) → (Q (-2) m1)))
theorem wc_272_r74_2t (x1 : Int) (s : sS) (R : Int → hy_m → Prop) (h : wq_272 x1 s.2.2.2 R) : we_272 [(5, true, 74), (2, true, x1)] s R := h
theorem wc_252_r74_0t_2t_2t_0t_2t (x1 : Int) (x2 : Int) (x3 : Int) (x4 : Int) (x5 : Int) (s : sS) (R : Int → hy_m → Prop) (h : wq_252 x1 x2 x3 x4 x5 s.2.2.2 R) : we_252 [(5, true, 74), (0, true, x1), (2, true, x2), (2, true, x3), (0, true, x4), (2, true, x5)] s R := h
def cs_276 : List (Nat × Nat × sFS) := [(199, 0, .inl we_199), (229, 9, .inl we_229), (252, 0, .inl we_252), (272, 9, .inl we_272)]
theorem cs_276_ok : kCs dM 9 cs_276 := (kCs_c (Or.inl rfl) (we_199_ok.deep (by decide)) (kCs_c (Or.inr (Or.inr (Or.inr (Or.inr rfl)))) (we_229_ok.deep (by decide)) (kCs_c (Or.inl rfl) (we_252_ok.deep (by decide)) (kCs_c (Or.inr (Or.inr (Or.inr (Or.inr rfl)))) (we_272_ok.deep (by decide)) kCs_n))))
def lb_276_85 (s : sS) (Q : sQ) (P23 : Int → hy_m → Prop) (P85 : Int → hy_m → Prop) (R : Int → hy_m → Prop) (x1 : Int) (x2 : Int) (x3 : Int) (x4 : Int) : Nat → Option (sL → sS → Prop) := sLb [(23, fun lv t => sG [(0, 5, 74), (1, 0, 0), (2, 0, 0)] lv (ap2 (fun w1 w2 => ∃ m', t = sM s m' ∧ w1 = x1 ∧ P23 w2 m'))), (85, fun lv t => sG [(0, 5, 74), (1, 0, 0), (2, 0, 0), (3, 0, 0), (4, 0, 0)] lv (ap4 (fun w1 w2 w3 w4 => ∃ m', t = sM s m' ∧ w1 = x1 ∧ w2 = x2 ∧ w3 = x3 ∧ P85 w4 m')))]
set_option maxRecDepth 30000 in
set_option maxHeartbeats 1000000 in
theorem wj_276_85 (Q : sQ) (R : Int → hy_m → Prop) (s : sS) (P23 : Int → hy_m → Prop) (P85 : Int → hy_m → Prop) (x1 : Int) (x2 : Int) (x3 : Int) (x4 : Int) (m : hy_m) (hP23 : ∀ (z2 : Int) (m : hy_m), P23 z2 m → sRg [(0, 5, 74), (1, 0, 0), (2, 0, 0)] [x1, z2] → kX dM 9 im_m276 0 23 (sCan [(0, 5, 74), (1, 0, 0), (2, 0, 0)] [x1, z2]) [] (sM s m) Q) (hP85 : ∀ (z4 : Int) (m : hy_m), P85 z4 m → sRg [(0, 5, 74), (1, 0, 0), (2, 0, 0), (3, 0, 0), (4, 0, 0)] [x1, x2, x3, z4] → kX dM 9 im_m276 0 85 (sCan [(0, 5, 74), (1, 0, 0), (2, 0, 0), (3, 0, 0), (4, 0, 0)] [x1, x2, x3, z4]) [] (sM s m) Q) (hQ : ∀ x m', R x m' → Q x (sM s m')) (hr : sRg [(0, 5, 74), (1, 0, 0), (2, 0, 0), (3, 0, 0), (4, 0, 0)] [x1, x2, x3, x4]) (h : wf_276_85 P23 x1 x2 x3 R P85 x4 m) : kX dM 9 im_m276 0 85 (sCan [(0, 5, 74), (1, 0, 0), (2, 0, 0), (3, 0, 0), (4, 0, 0)] [x1, x2, x3, x4]) [] (sM s m) Q := by
  unfold wf_276_85 at h
  refine wz2_ok (cs := cs_276) (wr := []) (lb := lb_276_85 s Q P23 P85 R x1 x2 x3 x4) cs_276_ok (kLb_c (kLab (Bd := fun xs t => ap2 (fun w1 w2 => ∃ m', t = sM s m' ∧ w1 = x1 ∧ P23 w2 m') xs) rfl (fun xs t r1 r2 hb => by obtain ⟨w1, w2, rfl, hb⟩ := ap2_ok hb; obtain ⟨m', rfl, rfl, hx⟩ := hb; exact hP23 _ m' hx r1)) (kLb_c (kLab (Bd := fun xs t => ap4 (fun w1 w2 w3 w4 => ∃ m', t = sM s m' ∧ w1 = x1 ∧ w2 = x2 ∧ w3 = x3 ∧ P85 w4 m') xs) rfl (fun xs t r1 r2 hb => by obtain ⟨w1, w2, w3, w4, rfl, hb⟩ := ap4_ok hb; obtain ⟨m', rfl, rfl, rfl, rfl, hx⟩ := hb; exact hP85 _ m' hx r1)) kLb_n)) (okL_can rfl hr) (fun Y hY hl => ?_)
  have l23 := hl 23 _ rfl
  have l85 := hl 85 _ rfl
  refine hY _ _ _ _ (hY _ _ _ _ (?_ : Y 88 [(0, 5, true, 74), (1, 0, true, x1), (2, 0, true, x2), (3, 0, true, x3), (4, 0, true, x4)] [(0, true, 3), (0, true, x4)] (sM s m)))
  refine hY _ _ _ _ ?_
  refine And.intro (fun hc => ?_) (fun hc => ?_)
  · have h := h.1 hc
    refine hY _ _ _ _ (hY _ _ _ _ (?_ : Y 23 [(2, 0, false, x2 + 1), (0, 5, true, 74), (1, 0, true, x1), (3, 0, true, x3), (4, 0, true, x4)] [] (sM s m)))
    refine l23 _ _ ?_
    refine And.intro h.1 ?_
    exact (Exists.intro m (And.intro rfl (And.intro rfl h.2)))
  · have h := h.2 hc
    refine hY _ _ _ _ (hY _ _ _ _ (hY _ _ _ _ (?_ : Y 96 [(0, 5, true, 74), (1, 0, true, x1), (2, 0, true, x2), (3, 0, true, x3), (4, 0, true, x4)] [(0, true, 3), (5, true, 79)] (sM s m))))
    refine hY _ _ _ _ (hY _ _ _ _ (hY _ _ _ _ (?_ : Y 99 [(0, 5, true, 74), (1, 0, true, x1), (2, 0, true, x2), (3, 0, true, x3), (4, 0, true, x4)] [(0, false, x3 - x1), (0, true, 3), (5, true, 79)] (sM s m))))
    refine hY _ _ _ _ (hY _ _ _ _ (hY _ _ _ _ (?_ : Y 103 [(0, 5, true, 74), (1, 0, true, x1), (2, 0, true, x2), (3, 0, true, x3), (4, 0, true, x4)] [(0, false, (3 * (x3 - x1)) + x4), (5, true, 79)] (sM s m))))
    refine hY _ _ _ _ (hY _ _ _ _ (hY _ _ _ _ (?_ : Y 108 [(0, 5, true, 74), (1, 0, true, x1), (2, 0, true, x2), (3, 0, true, x3), (4, 0, true, x4)] [(0, true, 3), (5, true, 79), (0, false, (3 * (x3 - x1)) + x4), (5, true, 79)] (sM s m))))
    refine hY _ _ _ _ (hY _ _ _ _ (hY _ _ _ _ (?_ : Y 112 [(0, 5, true, 74), (1, 0, true, x1), (2, 0, true, x2), (3, 0, true, x3), (4, 0, true, x4)] [(0, true, x4), (0, false, 3 * x3), (5, true, 79), (0, false, (3 * (x3 - x1)) + x4), (5, true, 79)] (sM s m))))
    refine hY _ _ _ _ (?_ : Y 113 [(0, 5, true, 74), (1, 0, true, x1), (2, 0, true, x2), (3, 0, true, x3), (4, 0, true, x4)] [(0, false, (3 * x3) + x4), (5, true, 79), (0, false, (3 * (x3 - x1)) + x4), (5, true, 79)] (sM s m))
    refine hY _ _ _ _ ?_
    refine (And.intro h.1 (And.intro h.2.1 ?_))
    refine hY _ _ _ _ (hY _ _ _ _ (?_ : Y 116 [(0, 5, true, 74), (1, 0, true, x1), (2, 0, true, x2), (3, 0, true, x3), (4, 0, true, x4)] [(0, false, (m 79 ((3 * x3) + x4)) - x1), (0, false, (3 * (x3 - x1)) + x4), (5, true, 79)] (sM s m)))
    refine hY _ _ _ _ ?_
    refine (And.intro h.2.2.1 (And.intro h.2.2.2.1 ?_))
    refine And.intro h.2.2.2.2.1 ?_
    refine hY _ _ _ _ (hY _ _ _ _ (?_ : Y 85 [(4, 0, false, x4 + 1), (0, 5, true, 74), (1, 0, true, x1), (2, 0, true, x2), (3, 0, true, x3)] [] (sM s (hy_u m 79 ((3 * (x3 - x1)) + x4) ((m 79 ((3 * x3) + x4)) - x1)))))
    refine l85 _ _ ?_
    refine And.intro h.2.2.2.2.2.1 ?_
    exact (Exists.intro (hy_u m 79 ((3 * (x3 - x1)) + x4) ((m 79 ((3 * x3) + x4)) - x1)) (And.intro rfl (And.intro rfl (And.intro rfl (And.intro rfl h.2.2.2.2.2.2)))))
theorem wk_276_85 (Q : sQ) (R : Int → hy_m → Prop) (s : sS) (P23 : Int → hy_m → Prop) (x1 : Int) (x2 : Int) (x3 : Int) (x4 : Int) (hP23 : ∀ (z2 : Int) (m : hy_m), P23 z2 m → sRg [(0, 5, 74), (1, 0, 0), (2, 0, 0)] [x1, z2] → kX dM 9 im_m276 0 23 (sCan [(0, 5, 74), (1, 0, 0), (2, 0, 0)] [x1, z2]) [] (sM s m) Q) (hQ : ∀ x m', R x m' → Q x (sM s m')) (hr : sRg [(0, 5, 74), (1, 0, 0), (2, 0, 0), (3, 0, 0), (4, 0, 0)] [x1, x2, x3, x4]) (h : wq_276_85 P23 x1 x2 x3 x4 s.2.2.2 R) : kX dM 9 im_m276 0 85 (sCan [(0, 5, 74), (1, 0, 0), (2, 0, 0), (3, 0, 0), (4, 0, 0)] [x1, x2, x3, x4]) [] s Q :=
  h (fun x4 m => sRg [(0, 5, 74), (1, 0, 0), (2, 0, 0), (3, 0, 0), (4, 0, 0)] [x1, x2, x3, x4] → kX dM 9 im_m276 0 85 (sCan [(0, 5, 74), (1, 0, 0), (2, 0, 0), (3, 0, 0), (4, 0, 0)] [x1, x2, x3, x4]) [] (sM s m) Q) (fun x4 m h hr => wj_276_85 Q R s P23 (fun x4 m => sRg [(0, 5, 74), (1, 0, 0), (2, 0, 0), (3, 0, 0), (4, 0, 0)] [x1, x2, x3, x4] → kX dM 9 im_m276 0 85 (sCan [(0, 5, 74), (1, 0, 0), (2, 0, 0), (3, 0, 0), (4, 0, 0)] [x1, x2, x3, x4]) [] (sM s m) Q) x1 x2 x3 x4 m  hP23 (fun _ _ hp hr => hp hr) hQ hr h) hr
def lb_276_173 (s : sS) (Q : sQ) (P173 : Int → hy_m → Prop) (R : Int → hy_m → Prop) (x1 : Int) (x2 : Int) : Nat → Option (sL → sS → Prop) := sLb [(173, fun lv t => sG [(0, 5, 74), (1, 0, 0), (2, 0, 0)] lv (ap2 (fun w1 w2 => ∃ m', t = sM s m' ∧ w1 = x1 ∧ P173 w2 m')))]
set_option maxRecDepth 30000 in
set_option maxHeartbeats 1000000 in
theorem wj_276_173 (Q : sQ) (R : Int → hy_m → Prop) (s : sS) (P173 : Int → hy_m → Prop) (x1 : Int) (x2 : Int) (m : hy_m) (hP173 : ∀ (z2 : Int) (m : hy_m), P173 z2 m → sRg [(0, 5, 74), (1, 0, 0), (2, 0, 0)] [x1, z2] → kX dM 9 im_m276 0 173 (sCan [(0, 5, 74), (1, 0, 0), (2, 0, 0)] [x1, z2]) [] (sM s m) Q) (hQ : ∀ x m', R x m' → Q x (sM s m')) (hr : sRg [(0, 5, 74), (1, 0, 0), (2, 0, 0)] [x1, x2]) (h : wf_276_173 x1 R P173 x2 m) : kX dM 9 im_m276 0 173 (sCan [(0, 5, 74), (1, 0, 0), (2, 0, 0)] [x1, x2]) [] (sM s m) Q := by
  unfold wf_276_173 at h
  refine wz2_ok (cs := cs_276) (wr := []) (lb := lb_276_173 s Q P173 R x1 x2) cs_276_ok (kLb_c (kLab (Bd := fun xs t => ap2 (fun w1 w2 => ∃ m', t = sM s m' ∧ w1 = x1 ∧ P173 w2 m') xs) rfl (fun xs t r1 r2 hb => by obtain ⟨w1, w2, rfl, hb⟩ := ap2_ok hb; obtain ⟨m', rfl, rfl, hx⟩ := hb; exact hP173 _ m' hx r1)) kLb_n) (okL_can rfl hr) (fun Y hY hl => ?_)
  have l173 := hl 173 _ rfl
  refine hY _ _ _ _ (hY _ _ _ _ (?_ : Y 175 [(0, 5, true, 74), (1, 0, true, x1), (2, 0, true, x2)] [(0, true, 5), (0, true, x2)] (sM s m)))
  refine hY _ _ _ _ ?_
  refine And.intro (fun hc => ?_) (fun hc => ?_)
  · have h := h.1 hc
    refine hY _ _ _ _ (hY _ _ _ _ (?_ : Y 208 [(0, 5, true, 74), (1, 0, true, x1), (2, 0, true, x2)] [(2, true, 1), (5, true, 74)] (sM s m)))
    refine hY _ _ _ _ ?_
    refine Exists.intro _ (And.intro (wc_272_r74_2t 1 _ _ h) (fun r1 m1 h => ?_))
    refine hY _ _ _ _ (hY _ _ _ _ (hY _ _ _ _ (?_ : Y 215 [(0, 5, true, 74), (1, 0, true, x1), (2, 0, true, x2)] [(0, true, 26), (5, true, 74), (5, true, 74)] (sM s m1))))
    refine hY _ _ _ _ (hY _ _ _ _ (hY _ _ _ _ (?_ : Y 219 [(0, 5, true, 74), (1, 0, true, x1), (2, 0, true, x2)] [(0, true, (-9)), (2, true, 0), (2, true, 0), (0, true, 26), (5, true, 74), (5, true, 74)] (sM s m1))))
    refine hY _ _ _ _ (?_ : Y 220 [(0, 5, true, 74), (1, 0, true, x1), (2, 0, true, x2)] [(2, true, 0), (0, true, (-9)), (2, true, 0), (2, true, 0), (0, true, 26), (5, true, 74), (5, true, 74)] (sM s m1))
    refine hY _ _ _ _ ?_
    refine Exists.intro _ (And.intro (wc_252_r74_0t_2t_2t_0t_2t 26 0 0 (-9) 0 _ _ h) (fun r2 m2 h => ?_))
    show Y 223 [(0, 5, true, 74), (1, 0, true, x1), (2, 0, true, x2)] [(0, true, r2), (5, true, 74)] (sM s m2)
    refine hY _ _ _ _ ?_
    refine hY _ _ _ _ (hY _ _ _ _ (hY _ _ _ _ (?_ : Y 232 [(0, 5, true, 74), (1, 0, true, x1), (2, 0, true, x2)] [(0, true, 26), (5, true, 82)] (sM s (hy_u m2 74 52 r2)))))
    refine hY _ _ _ _ ?_
    refine (And.intro h.1 (And.intro h.2.1 ?_))
    show Y 233 [(0, 5, true, 74), (1, 0, true, x1), (2, 0, true, x2)] [(0, true, m2 82 26)] (sM s (hy_u m2 74 52 r2))
    refine hY _ _ _ _ ?_
    exact hQ (m2 82 26) (hy_u m2 74 52 r2) h.2.2
  · have h := h.2 hc
    refine hY _ _ _ _ (hY _ _ _ _ (hY _ _ _ _ (?_ : Y 185 [(0, 5, true, 74), (1, 0, true, x1), (2, 0, true, x2)] [(0, true, 130), (5, true, 83)] (sM s m))))
    refine hY _ _ _ _ (hY _ _ _ _ (hY _ _ _ _ (?_ : Y 188 [(0, 5, true, 74), (1, 0, true, x1), (2, 0, true, x2)] [(5, true, 74), (0, false, 130 + x2), (5, true, 83)] (sM s m))))
    refine hY _ _ _ _ (hY _ _ _ _ (hY _ _ _ _ (?_ : Y 195 [(0, 5, true, 74), (1, 0, true, x1), (2, 0, true, x2)] [(0, true, x2), (0, true, 135), (5, true, 83), (0, false, 130 + x2), (5, true, 83)] (sM s m))))
    refine hY _ _ _ _ (?_ : Y 196 [(0, 5, true, 74), (1, 0, true, x1), (2, 0, true, x2)] [(0, false, 135 + x2), (5, true, 83), (0, false, 130 + x2), (5, true, 83)] (sM s m))
    refine hY _ _ _ _ ?_
    refine (And.intro h.1 (And.intro h.2.1 ?_))
    refine hY _ _ _ _ (hY _ _ _ _ (?_ : Y 199 [(0, 5, true, 74), (1, 0, true, x1), (2, 0, true, x2)] [(0, false, (m 83 (135 + x2)) - x1), (0, false, 130 + x2), (5, true, 83)] (sM s m)))
    refine hY _ _ _ _ ?_
    refine (And.intro h.2.2.1 (And.intro h.2.2.2.1 ?_))
    refine And.intro h.2.2.2.2.1 ?_
    refine hY _ _ _ _ (hY _ _ _ _ (?_ : Y 173 [(2, 0, false, x2 + 1), (0, 5, true, 74), (1, 0, true, x1)] [] (sM s (hy_u m 83 (130 + x2) ((m 83 (135 + x2)) - x1)))))
    refine l173 _ _ ?_
    refine And.intro h.2.2.2.2.2.1 ?_
    exact (Exists.intro (hy_u m 83 (130 + x2) ((m 83 (135 + x2)) - x1)) (And.intro rfl (And.intro rfl h.2.2.2.2.2.2)))
theorem wk_276_173 (Q : sQ) (R : Int → hy_m → Prop) (s : sS) (x1 : Int) (x2 : Int) (hQ : ∀ x m', R x m' → Q x (sM s m')) (hr : sRg [(0, 5, 74), (1, 0, 0), (2, 0, 0)] [x1, x2]) (h : wq_276_173 x1 x2 s.2.2.2 R) : kX dM 9 im_m276 0 173 (sCan [(0, 5, 74), (1, 0, 0), (2, 0, 0)] [x1, x2]) [] s Q :=
  h (fun x2 m => sRg [(0, 5, 74), (1, 0, 0), (2, 0, 0)] [x1, x2] → kX dM 9 im_m276 0 173 (sCan [(0, 5, 74), (1, 0, 0), (2, 0, 0)] [x1, x2]) [] (sM s m) Q) (fun x2 m h hr => wj_276_173 Q R s (fun x2 m => sRg [(0, 5, 74), (1, 0, 0), (2, 0, 0)] [x1, x2] → kX dM 9 im_m276 0 173 (sCan [(0, 5, 74), (1, 0, 0), (2, 0, 0)] [x1, x2]) [] (sM s m) Q) x1 x2 m  (fun _ _ hp hr => hp hr) hQ hr h) hr
def lb_276_23 (s : sS) (Q : sQ) (P23 : Int → hy_m → Prop) (R : Int → hy_m → Prop) (x1 : Int) (x2 : Int) : Nat → Option (sL → sS → Prop) := sLb [(85, fun lv t => sG [(0, 5, 74), (1, 0, 0), (2, 0, 0), (3, 0, 0), (4, 0, 0)] lv (ap4 (fun w1 w2 w3 w4 => ∃ m', t = sM s m' ∧ w1 = x1 ∧ wq_276_85 P23 w1 w2 w3 w4 m' R))), (173, fun lv t => sG [(0, 5, 74), (1, 0, 0), (2, 0, 0)] lv (ap2 (fun w1 w2 => ∃ m', t = sM s m' ∧ wq_276_173 w1 w2 m' R))), (23, fun lv t => sG [(0, 5, 74), (1, 0, 0), (2, 0, 0)] lv (ap2 (fun w1 w2 => ∃ m', t = sM s m' ∧ w1 = x1 ∧ P23 w2 m')))]
set_option maxRecDepth 30000 in
set_option maxHeartbeats 1000000 in
theorem wj_276_23 (Q : sQ) (R : Int → hy_m → Prop) (s : sS) (P23 : Int → hy_m → Prop) (x1 : Int) (x2 : Int) (m : hy_m) (hP23 : ∀ (z2 : Int) (m : hy_m), P23 z2 m → sRg [(0, 5, 74), (1, 0, 0), (2, 0, 0)] [x1, z2] → kX dM 9 im_m276 0 23 (sCan [(0, 5, 74), (1, 0, 0), (2, 0, 0)] [x1, z2]) [] (sM s m) Q) (hQ : ∀ x m', R x m' → Q x (sM s m')) (hr : sRg [(0, 5, 74), (1, 0, 0), (2, 0, 0)] [x1, x2]) (h : wf_276_23 x1 R P23 x2 m) : kX dM 9 im_m276 0 23 (sCan [(0, 5, 74), (1, 0, 0), (2, 0, 0)] [x1, x2]) [] (sM s m) Q := by
  unfold wf_276_23 at h
  refine wz2_ok (cs := cs_276) (wr := []) (lb := lb_276_23 s Q P23 R x1 x2) cs_276_ok (kLb_c (kLab (Bd := fun xs t => ap4 (fun w1 w2 w3 w4 => ∃ m', t = sM s m' ∧ w1 = x1 ∧ wq_276_85 P23 w1 w2 w3 w4 m' R) xs) rfl (fun xs t r1 r2 hb => by obtain ⟨w1, w2, w3, w4, rfl, hb⟩ := ap4_ok hb; obtain ⟨m', rfl, rfl, hx⟩ := hb; exact wk_276_85 Q R (sM s m') P23 _ _ _ _ hP23 (fun x m'' hy => hQ x m'' hy) r1 hx)) (kLb_c (kLab (Bd := fun xs t => ap2 (fun w1 w2 => ∃ m', t = sM s m' ∧ wq_276_173 w1 w2 m' R) xs) rfl (fun xs t r1 r2 hb => by obtain ⟨w1, w2, rfl, hb⟩ := ap2_ok hb; obtain ⟨m', rfl, hx⟩ := hb; exact wk_276_173 Q R (sM s m') _ _ (fun x m'' hy => hQ x m'' hy) r1 hx)) (kLb_c (kLab (Bd := fun xs t => ap2 (fun w1 w2 => ∃ m', t = sM s m' ∧ w1 = x1 ∧ P23 w2 m') xs) rfl (fun xs t r1 r2 hb => by obtain ⟨w1, w2, rfl, hb⟩ := ap2_ok hb; obtain ⟨m', rfl, rfl, hx⟩ := hb; exact hP23 _ m' hx r1)) kLb_n))) (okL_can rfl hr) (fun Y hY hl => ?_)
  have l85 := hl 85 _ rfl
  have l173 := hl 173 _ rfl
  have l23 := hl 23 _ rfl
  refine hY _ _ _ _ (hY _ _ _ _ (hY _ _ _ _ (?_ : Y 28 [(0, 5, true, 74), (1, 0, true, x1), (2, 0, true, x2)] [(5, true, 80), (0, true, x2)] (sM s m))))
  refine hY _ _ _ _ (?_ : Y 30 [(0, 5, true, 74), (1, 0, true, x1), (2, 0, true, x2)] [(0, true, 27), (5, true, 80), (0, true, x2)] (sM s m))
  refine hY _ _ _ _ ?_
  refine (And.intro h.1 (And.intro h.2.1 ?_))
  show Y 31 [(0, 5, true, 74), (1, 0, true, x1), (2, 0, true, x2)] [(0, true, m 80 27), (0, true, x2)] (sM s m)
  refine hY _ _ _ _ ?_
  refine And.intro (fun hc => ?_) (fun hc => ?_)
  · have h := h.2.2.1 hc
    refine hY _ _ _ _ (hY _ _ _ _ (hY _ _ _ _ (?_ : Y 135 [(0, 5, true, 74), (1, 0, true, x1), (2, 0, true, x2)] [(0, true, 26), (5, true, 80)] (sM s m))))
    refine hY _ _ _ _ (hY _ _ _ _ (hY _ _ _ _ (?_ : Y 141 [(0, 5, true, 74), (1, 0, true, x1), (2, 0, true, x2)] [(0, true, 27), (5, true, 80), (0, true, 26), (5, true, 80)] (sM s m))))
    refine hY _ _ _ _ ?_
    refine (And.intro h.1 (And.intro h.2.1 ?_))
    show Y 142 [(0, 5, true, 74), (1, 0, true, x1), (2, 0, true, x2)] [(0, true, m 80 27), (0, true, 26), (5, true, 80)] (sM s m)
    refine hY _ _ _ _ ?_
    refine (And.intro h.2.2.1 (And.intro h.2.2.2.1 ?_))
    refine hY _ _ _ _ (hY _ _ _ _ (hY _ _ _ _ (?_ : Y 149 [(0, 5, true, 74), (1, 0, true, x1), (2, 0, true, x2)] [(0, true, 26), (5, true, 84)] (sM s (hy_u m 80 26 (m 80 27))))))
    refine hY _ _ _ _ (hY _ _ _ _ (hY _ _ _ _ (?_ : Y 155 [(0, 5, true, 74), (1, 0, true, x1), (2, 0, true, x2)] [(0, true, 27), (5, true, 84), (0, true, 26), (5, true, 84)] (sM s (hy_u m 80 26 (m 80 27))))))
    refine hY _ _ _ _ ?_
    refine (And.intro h.2.2.2.2.1 (And.intro h.2.2.2.2.2.1 ?_))
    show Y 156 [(0, 5, true, 74), (1, 0, true, x1), (2, 0, true, x2)] [(0, true, m 84 27), (0, true, 26), (5, true, 84)] (sM s (hy_u m 80 26 (m 80 27)))
    refine hY _ _ _ _ ?_
    refine (And.intro h.2.2.2.2.2.2.1 (And.intro h.2.2.2.2.2.2.2.1 ?_))
    refine hY _ _ _ _ (hY _ _ _ _ (hY _ _ _ _ (?_ : Y 163 [(0, 5, true, 74), (1, 0, true, x1), (2, 0, true, x2)] [(0, true, 26), (5, true, 82)] (sM s (hy_u (hy_u m 80 26 (m 80 27)) 84 26 (m 84 27))))))
    refine hY _ _ _ _ (hY _ _ _ _ (hY _ _ _ _ (?_ : Y 169 [(0, 5, true, 74), (1, 0, true, x1), (2, 0, true, x2)] [(0, true, 27), (5, true, 82), (0, true, 26), (5, true, 82)] (sM s (hy_u (hy_u m 80 26 (m 80 27)) 84 26 (m 84 27))))))
    refine hY _ _ _ _ ?_
    refine (And.intro h.2.2.2.2.2.2.2.2.1 (And.intro h.2.2.2.2.2.2.2.2.2.1 ?_))
    show Y 170 [(0, 5, true, 74), (1, 0, true, x1), (2, 0, true, x2)] [(0, true, m 82 27), (0, true, 26), (5, true, 82)] (sM s (hy_u (hy_u m 80 26 (m 80 27)) 84 26 (m 84 27)))
    refine hY _ _ _ _ ?_
    refine (And.intro h.2.2.2.2.2.2.2.2.2.2.1 (And.intro h.2.2.2.2.2.2.2.2.2.2.2.1 ?_))
    have h := h.2.2.2.2.2.2.2.2.2.2.2.2
    refine hY _ _ _ _ (hY _ _ _ _ (?_ : Y 173 [(2, 2, true, 0), (0, 5, true, 74), (1, 0, true, x1)] [] (sM s (hy_u (hy_u (hy_u m 80 26 (m 80 27)) 84 26 (m 84 27)) 82 26 (m 82 27)))))
    refine l173 _ _ ?_
    exact (Exists.intro (hy_u (hy_u (hy_u m 80 26 (m 80 27)) 84 26 (m 84 27)) 82 26 (m 82 27)) (And.intro rfl h))
  · have h := h.2.2.2 hc
    refine hY _ _ _ _ (hY _ _ _ _ (hY _ _ _ _ (?_ : Y 39 [(0, 5, true, 74), (1, 0, true, x1), (2, 0, true, x2)] [(0, false, 3456 + x2)] (sM s m))))
    refine hY _ _ _ _ (hY _ _ _ _ (hY _ _ _ _ (?_ : Y 44 [(3, 0, false, 3456 + x2), (0, 5, true, 74), (1, 0, true, x1), (2, 0, true, x2)] [(5, true, 76)] (sM s m))))
    refine hY _ _ _ _ (hY _ _ _ _ (hY _ _ _ _ (?_ : Y 47 [(3, 0, false, 3456 + x2), (0, 5, true, 74), (1, 0, true, x1), (2, 0, true, x2)] [(0, false, (3456 + x2) - x1), (5, true, 76)] (sM s m))))
    refine hY _ _ _ _ (hY _ _ _ _ (hY _ _ _ _ (?_ : Y 52 [(3, 0, false, 3456 + x2), (0, 5, true, 74), (1, 0, true, x1), (2, 0, true, x2)] [(0, false, 3456 + x2), (5, true, 76), (0, false, (3456 + x2) - x1), (5, true, 76)] (sM s m))))
    refine hY _ _ _ _ ?_
    refine (And.intro h.1 (And.intro h.2.1 ?_))
    show Y 53 [(3, 0, false, 3456 + x2), (0, 5, true, 74), (1, 0, true, x1), (2, 0, true, x2)] [(0, true, m 76 (3456 + x2)), (0, false, (3456 + x2) - x1), (5, true, 76)] (sM s m)
    refine hY _ _ _ _ ?_
    refine (And.intro h.2.2.1 (And.intro h.2.2.2.1 ?_))
    refine hY _ _ _ _ (hY _ _ _ _ (hY _ _ _ _ (?_ : Y 59 [(3, 0, false, 3456 + x2), (0, 5, true, 74), (1, 0, true, x1), (2, 0, true, x2)] [(0, false, 3456 + x2), (5, true, 77)] (sM s (hy_u m 76 ((3456 + x2) - x1) (m 76 (3456 + x2)))))))
    refine hY _ _ _ _ (hY _ _ _ _ (hY _ _ _ _ (?_ : Y 62 [(3, 0, false, 3456 + x2), (0, 5, true, 74), (1, 0, true, x1), (2, 0, true, x2)] [(5, true, 74), (0, false, (3456 + x2) - x1), (5, true, 77)] (sM s (hy_u m 76 ((3456 + x2) - x1) (m 76 (3456 + x2)))))))
    refine hY _ _ _ _ (hY _ _ _ _ (?_ : Y 66 [(3, 0, false, 3456 + x2), (0, 5, true, 74), (1, 0, true, x1), (2, 0, true, x2)] [(0, false, 3456 + x2), (5, true, 77), (0, false, (3456 + x2) - x1), (5, true, 77)] (sM s (hy_u m 76 ((3456 + x2) - x1) (m 76 (3456 + x2))))))
    refine hY _ _ _ _ ?_
    refine (And.intro h.2.2.2.2.1 (And.intro h.2.2.2.2.2.1 ?_))
    show Y 67 [(3, 0, false, 3456 + x2), (0, 5, true, 74), (1, 0, true, x1), (2, 0, true, x2)] [(1, true, m 77 (3456 + x2)), (0, false, (3456 + x2) - x1), (5, true, 77)] (sM s (hy_u m 76 ((3456 + x2) - x1) (m 76 (3456 + x2))))
    refine hY _ _ _ _ ?_
    refine (And.intro h.2.2.2.2.2.2.1 (And.intro h.2.2.2.2.2.2.2.1 ?_))
    refine hY _ _ _ _ (hY _ _ _ _ (hY _ _ _ _ (?_ : Y 73 [(3, 0, false, 3456 + x2), (0, 5, true, 74), (1, 0, true, x1), (2, 0, true, x2)] [(0, false, 3456 + x2), (5, true, 78)] (sM s (hy_u (hy_u m 76 ((3456 + x2) - x1) (m 76 (3456 + x2))) 77 ((3456 + x2) - x1) (m 77 (3456 + x2)))))))
    refine hY _ _ _ _ (hY _ _ _ _ (hY _ _ _ _ (?_ : Y 76 [(3, 0, false, 3456 + x2), (0, 5, true, 74), (1, 0, true, x1), (2, 0, true, x2)] [(5, true, 74), (0, false, (3456 + x2) - x1), (5, true, 78)] (sM s (hy_u (hy_u m 76 ((3456 + x2) - x1) (m 76 (3456 + x2))) 77 ((3456 + x2) - x1) (m 77 (3456 + x2)))))))
    refine hY _ _ _ _ (hY _ _ _ _ (?_ : Y 80 [(3, 0, false, 3456 + x2), (0, 5, true, 74), (1, 0, true, x1), (2, 0, true, x2)] [(0, false, 3456 + x2), (5, true, 78), (0, false, (3456 + x2) - x1), (5, true, 78)] (sM s (hy_u (hy_u m 76 ((3456 + x2) - x1) (m 76 (3456 + x2))) 77 ((3456 + x2) - x1) (m 77 (3456 + x2))))))
    refine hY _ _ _ _ ?_
    refine (And.intro h.2.2.2.2.2.2.2.2.1 (And.intro h.2.2.2.2.2.2.2.2.2.1 ?_))
    show Y 81 [(3, 0, false, 3456 + x2), (0, 5, true, 74), (1, 0, true, x1), (2, 0, true, x2)] [(0, true, m 78 (3456 + x2)), (0, false, (3456 + x2) - x1), (5, true, 78)] (sM s (hy_u (hy_u m 76 ((3456 + x2) - x1) (m 76 (3456 + x2))) 77 ((3456 + x2) - x1) (m 77 (3456 + x2))))
    refine hY _ _ _ _ ?_
    refine (And.intro h.2.2.2.2.2.2.2.2.2.2.1 (And.intro h.2.2.2.2.2.2.2.2.2.2.2.1 ?_))
    have h := h.2.2.2.2.2.2.2.2.2.2.2.2
    refine hY _ _ _ _ (hY _ _ _ _ (?_ : Y 85 [(4, 2, true, 0), (3, 0, false, 3456 + x2), (0, 5, true, 74), (1, 0, true, x1), (2, 0, true, x2)] [] (sM s (hy_u (hy_u (hy_u m 76 ((3456 + x2) - x1) (m 76 (3456 + x2))) 77 ((3456 + x2) - x1) (m 77 (3456 + x2))) 78 ((3456 + x2) - x1) (m 78 (3456 + x2))))))
    refine l85 _ _ ?_
    refine And.intro h.1 ?_
    exact (Exists.intro (hy_u (hy_u (hy_u m 76 ((3456 + x2) - x1) (m 76 (3456 + x2))) 77 ((3456 + x2) - x1) (m 77 (3456 + x2))) 78 ((3456 + x2) - x1) (m 78 (3456 + x2))) (And.intro rfl (And.intro rfl h.2)))
theorem wk_276_23 (Q : sQ) (R : Int → hy_m → Prop) (s : sS) (x1 : Int) (x2 : Int) (hQ : ∀ x m', R x m' → Q x (sM s m')) (hr : sRg [(0, 5, 74), (1, 0, 0), (2, 0, 0)] [x1, x2]) (h : wq_276_23 x1 x2 s.2.2.2 R) : kX dM 9 im_m276 0 23 (sCan [(0, 5, 74), (1, 0, 0), (2, 0, 0)] [x1, x2]) [] s Q :=
  h (fun x2 m => sRg [(0, 5, 74), (1, 0, 0), (2, 0, 0)] [x1, x2] → kX dM 9 im_m276 0 23 (sCan [(0, 5, 74), (1, 0, 0), (2, 0, 0)] [x1, x2]) [] (sM s m) Q) (fun x2 m h hr => wj_276_23 Q R s (fun x2 m => sRg [(0, 5, 74), (1, 0, 0), (2, 0, 0)] [x1, x2] → kX dM 9 im_m276 0 23 (sCan [(0, 5, 74), (1, 0, 0), (2, 0, 0)] [x1, x2]) [] (sM s m) Q) x1 x2 m  (fun _ _ hp hr => hp hr) hQ hr h) hr
def lb_276_0 (s : sS) (Q : sQ) (R : Int → hy_m → Prop) : Nat → Option (sL → sS → Prop) := sLb [(23, fun lv t => sG [(0, 5, 74), (1, 0, 0), (2, 0, 0)] lv (ap2 (fun w1 w2 => ∃ m', t = sM s m' ∧ wq_276_23 w1 w2 m' R)))]
set_option maxRecDepth 30000 in
set_option maxHeartbeats 1000000 in
theorem wk_276_0 (Q : sQ) (R : Int → hy_m → Prop) (s : sS) (hQ : ∀ x m', R x m' → Q x (sM s m')) (hr : sRg [(0, 5, 74)] []) (h : wq_276 s.2.2.2 R) : kX dM 9 im_m276 0 0 (sCan [(0, 5, 74)] []) [] s Q := by
  unfold wq_276 at h
  refine wz2_ok (cs := cs_276) (wr := []) (lb := lb_276_0 s Q R) cs_276_ok (kLb_c (kLab (Bd := fun xs t => ap2 (fun w1 w2 => ∃ m', t = sM s m' ∧ wq_276_23 w1 w2 m' R) xs) rfl (fun xs t r1 r2 hb => by obtain ⟨w1, w2, rfl, hb⟩ := ap2_ok hb; obtain ⟨m', rfl, hx⟩ := hb; exact wk_276_23 Q R (sM s m') _ _ (fun x m'' hy => hQ x m'' hy) r1 hx)) kLb_n) (okL_can rfl hr) (fun Y hY hl => ?_)
  have l23 := hl 23 _ rfl
  refine hY _ _ _ _ (hY _ _ _ _ (?_ : Y 2 [(0, 5, true, 74)] [(2, true, 1), (5, true, 74)] s))
  refine hY _ _ _ _ ?_
  refine Exists.intro _ (And.intro (wc_199_r74_2t 1 _ _ h) (fun r1 m1 h => ?_))
  refine hY _ _ _ _ (?_ : Y 7 [(0, 5, true, 74)] [(0, true, (-9)), (0, true, r1)] (sM s m1))
  refine hY _ _ _ _ ?_
  refine And.intro (fun hc => ?_) (fun hc => ?_)
  · have h := h.1 hc
    refine hY _ _ _ _ (?_ : Y 14 [(0, 5, true, 74)] [(5, true, 74)] (sM s m1))
    refine hY _ _ _ _ ?_
    refine Exists.intro _ (And.intro (wc_229_r74 _ _ h) (fun r2 m2 h => ?_))
    refine hY _ _ _ _ (hY _ _ _ _ (hY _ _ _ _ (?_ : Y 22 [(1, 0, true, 128), (0, 5, true, 74)] [(2, true, 0)] (sM s m2))))
    refine hY _ _ _ _ (?_ : Y 23 [(2, 2, true, 0), (1, 0, true, 128), (0, 5, true, 74)] [] (sM s m2))
    refine l23 _ _ ?_
    exact (Exists.intro m2 (And.intro rfl h))
  · have h := h.2 hc
    refine hY _ _ _ _ (?_ : Y 12 [(0, 5, true, 74)] [(0, true, (-2))] (sM s m1))
    refine hY _ _ _ _ ?_
    exact hQ (-2) m1 h
def we_276 : sFf := sEf 5 [(0, 5, 74)] (fun xs s Q => ap0 (wq_276 s.2.2.2 Q) xs)
theorem we_276_ok : kS dM 10 276 0 (.inl we_276) := sEf_ok (mi := im_m276) rfl rfl rfl (fun R xs s r1 hb => by obtain ⟨rfl, hb⟩ := ap0_ok hb; exact wk_276_0 _ R s (fun x m' hx => ⟨m', rfl, hx⟩) r1 hb)
/-- LMModel.stop()I -/
def wq_277 (m : hy_m) (Q : Int → hy_m → Prop) : Prop := ((m 74 32) ≠ 0 → (wq_229 m (fun _ m1 => Q (m 74 32) m1))) ∧ ((m 74 32) = 0 → (Q (-2) m))
def cs_277 : List (Nat × Nat × sFS) := [(229, 9, .inl we_229)]
theorem cs_277_ok : kCs dM 1 cs_277 := (kCs_c (Or.inr (Or.inr (Or.inr (Or.inr rfl)))) (we_229_ok.deep (by decide)) kCs_n)
def lb_277_0 (s : sS) (Q : sQ) (R : Int → hy_m → Prop) : Nat → Option (sL → sS → Prop) := sLb []
set_option maxRecDepth 30000 in
set_option maxHeartbeats 1000000 in
theorem wk_277_0 (Q : sQ) (R : Int → hy_m → Prop) (s : sS) (hQ : ∀ x m', R x m' → Q x (sM s m')) (hr : sRg [(0, 5, 74)] []) (h : wq_277 s.2.2.2 R) : kX dM 1 im_m277 0 0 (sCan [(0, 5, 74)] []) [] s Q := by
  unfold wq_277 at h
  refine wz2_ok (cs := cs_277) (wr := []) (lb := lb_277_0 s Q R) cs_277_ok kLb_n (okL_can rfl hr) (fun Y hY hl => ?_)
  refine hY _ _ _ _ (hY _ _ _ _ (?_ : Y 4 [(0, 5, true, 74)] [(0, true, s.2.2.2 74 32)] s))
  refine hY _ _ _ _ ?_
  refine And.intro (fun hc => ?_) (fun hc => ?_)
  · have h := h.1 hc
    refine hY _ _ _ _ (hY _ _ _ _ (hY _ _ _ _ (?_ : Y 15 [(1, 0, true, s.2.2.2 74 32), (0, 5, true, 74)] [] s)))
    refine hY _ _ _ _ (?_ : Y 16 [(1, 0, true, s.2.2.2 74 32), (0, 5, true, 74)] [(5, true, 74)] s)
    refine hY _ _ _ _ ?_
    refine Exists.intro _ (And.intro (wc_229_r74 _ _ h) (fun r1 m1 h => ?_))
    refine hY _ _ _ _ (?_ : Y 20 [(1, 0, true, s.2.2.2 74 32), (0, 5, true, 74)] [(0, true, s.2.2.2 74 32)] (sM s m1))
    refine hY _ _ _ _ ?_
    exact hQ (s.2.2.2 74 32) m1 h
  · have h := h.2 hc
    refine hY _ _ _ _ (?_ : Y 9 [(0, 5, true, 74)] [(0, true, (-2))] s)
    refine hY _ _ _ _ ?_
    exact hQ (-2) s.2.2.2 h
def we_277 : sFf := sEf 2 [(0, 5, 74)] (fun xs s Q => ap0 (wq_277 s.2.2.2 Q) xs)
theorem we_277_ok : kS dM 2 277 0 (.inl we_277) := sEf_ok (mi := im_m277) rfl rfl rfl (fun R xs s r1 hb => by obtain ⟨rfl, hb⟩ := ap0_ok hb; exact wk_277_0 _ R s (fun x m' hx => ⟨m', rfl, hx⟩) r1 hb)
/-- LMModel.variablesLeft(I)I -/
def wf_278_113 (P65 : Int → Int → hy_m → Prop) (x4 : Int) (x5 : Int) (Q : Int → hy_m → Prop) (P113 : Int → Int → hy_m → Prop) (x3 : Int) (x6 : Int) (m : hy_m) : Prop := 0 ≤ x5 ∧ x5 < 3584 ∧ (((m 78 x5) ≤ x6 → (P65 x3 x4 m)) ∧ (x6 < (m 78 x5) → (0 ≤ ((3 * x5) + x6) ∧ ((3 * x5) + x6) < 10752 ∧ (0 ≤ x3 ∧ x3 < 400 ∧ (hy_r 0 (x3 + 1) ∧ (hy_r 0 (x6 + 1) ∧ (P113 (x3 + 1) (x6 + 1) (hy_u m 93 x3 (m 79 ((3 * x5) + x6))))))))))
def wq_278_113 (P65 : Int → Int → hy_m → Prop) (x3 : Int) (x4 : Int) (x5 : Int) (x6 : Int) (m : hy_m) (Q : Int → hy_m → Prop) : Prop := wL2 hy_m (wf_278_113 P65 x4 x5 Q) x3 x6 m
def wf_278_161 (x4 : Int) (Q : Int → hy_m → Prop) (P161 : Int → Int → hy_m → Prop) (x5 : Int) (x6 : Int) (m : hy_m) : Prop := (8 ≤ x6 → (Q x5 m)) ∧ (x6 < 8 → (hy_r 0 (x5 + (iA (iSr x4 x6) 1)) ∧ (hy_r 0 (x6 + 1) ∧ (P161 (x5 + (iA (iSr x4 x6) 1)) (x6 + 1) m))))
def wq_278_161 (x4 : Int) (x5 : Int) (x6 : Int) (m : hy_m) (Q : Int → hy_m → Prop) : Prop := wL2 hy_m (wf_278_161 x4 Q) x5 x6 m
def wf_278_65 (Q : Int → hy_m → Prop) (P65 : Int → Int → hy_m → Prop) (x3 : Int) (x4 : Int) (m : hy_m) : Prop := (x3 ≤ 0 → (wq_278_161 x4 0 0 m Q)) ∧ (0 < x3 → (0 ≤ (x3 + (-1)) ∧ (x3 + (-1)) < 400 ∧ (0 ≤ (m 93 (x3 + (-1))) ∧ (m 93 (x3 + (-1))) < 3584 ∧ (((m 76 (m 93 (x3 + (-1)))) ≠ 1 → (hy_r 0 (x3 + (-1)) ∧ (wq_278_113 P65 (x3 + (-1)) (iO x4 0) (m 93 (x3 + (-1))) 0 m Q))) ∧ ((m 76 (m 93 (x3 + (-1)))) = 1 → (0 ≤ (m 93 (x3 + (-1))) ∧ (m 93 (x3 + (-1))) < 3584 ∧ (hy_r 0 (x3 + (-1)) ∧ (wq_278_113 P65 (x3 + (-1)) (iO x4 (iSl 1 (m 77 (m 93 (x3 + (-1)))))) (m 93 (x3 + (-1))) 0 m Q))))))))
def wq_278_65 (x3 : Int) (x4 : Int) (m : hy_m) (Q : Int → hy_m → Prop) : Prop := wL2 hy_m (wf_278_65 Q) x3 x4 m
def wf_278_25 (x2 : Int) (Q : Int → hy_m → Prop) (P25 : Int → Int → hy_m → Prop) (x3 : Int) (x4 : Int) (m : hy_m) : Prop := 0 ≤ x2 ∧ x2 < 28 ∧ (((m 82 x2) ≤ x4 → (wq_278_65 x3 0 m Q)) ∧ (x4 < (m 82 x2) → (0 ≤ ((5 * x2) + x4) ∧ ((5 * x2) + x4) < 140 ∧ (0 ≤ x3 ∧ x3 < 400 ∧ (hy_r 0 (x3 + 1) ∧ (hy_r 0 (x4 + 1) ∧ (P25 (x3 + 1) (x4 + 1) (hy_u m 93 x3 (m 83 ((5 * x2) + x4))))))))))
def wq_278_25 (x2 : Int) (x3 : Int) (x4 : Int) (m : hy_m) (Q : Int → hy_m → Prop) : Prop := wL2 hy_m (wf_278_25 x2 Q) x3 x4 m
def wq_278 (x1 : Int) (m : hy_m) (Q : Int → hy_m → Prop) : Prop := 0 ≤ x1 ∧ x1 < 1300 ∧ (((m 99 x1) ≠ (-9) → (0 ≤ x1 ∧ x1 < 1300 ∧ (wq_278_25 (m 99 x1) 0 (m 100 x1) m Q))) ∧ ((m 99 x1) = (-9) → (Q 0 m)))
def cs_278 : List (Nat × Nat × sFS) := []
theorem cs_278_ok : kCs dM 0 cs_278 := kCs_n
def lb_278_113 (s : sS) (Q : sQ) (P65 : Int → Int → hy_m → Prop) (P113 : Int → Int → hy_m → Prop) (R : Int → hy_m → Prop) (x3 : Int) (x4 : Int) (x5 : Int) (x6 : Int) : Nat → Option (sL → sS → Prop) := sLb [(65, fun lv t => sG [(0, 5, 74), (3, 0, 0), (4, 0, 0)] lv (ap2 (fun w3 w4 => ∃ m', t = sM s m' ∧ P65 w3 w4 m'))), (113, fun lv t => sG [(0, 5, 74), (3, 0, 0), (4, 0, 0), (5, 0, 0), (6, 0, 0)] lv (ap4 (fun w3 w4 w5 w6 => ∃ m', t = sM s m' ∧ w4 = x4 ∧ w5 = x5 ∧ P113 w3 w6 m')))]
set_option maxRecDepth 30000 in
set_option maxHeartbeats 1000000 in
theorem wj_278_113 (Q : sQ) (R : Int → hy_m → Prop) (s : sS) (P65 : Int → Int → hy_m → Prop) (P113 : Int → Int → hy_m → Prop) (x3 : Int) (x4 : Int) (x5 : Int) (x6 : Int) (m : hy_m) (hP65 : ∀ (z3 z4 : Int) (m : hy_m), P65 z3 z4 m → sRg [(0, 5, 74), (3, 0, 0), (4, 0, 0)] [z3, z4] → kX dM 0 im_m278 0 65 (sCan [(0, 5, 74), (3, 0, 0), (4, 0, 0)] [z3, z4]) [] (sM s m) Q) (hP113 : ∀ (z3 z6 : Int) (m : hy_m), P113 z3 z6 m → sRg [(0, 5, 74), (3, 0, 0), (4, 0, 0), (5, 0, 0), (6, 0, 0)] [z3, x4, x5, z6] → kX dM 0 im_m278 0 113 (sCan [(0, 5, 74), (3, 0, 0), (4, 0, 0), (5, 0, 0), (6, 0, 0)] [z3, x4, x5, z6]) [] (sM s m) Q) (hQ : ∀ x m', R x m' → Q x (sM s m')) (hr : sRg [(0, 5, 74), (3, 0, 0), (4, 0, 0), (5, 0, 0), (6, 0, 0)] [x3, x4, x5, x6]) (h : wf_278_113 P65 x4 x5 R P113 x3 x6 m) : kX dM 0 im_m278 0 113 (sCan [(0, 5, 74), (3, 0, 0), (4, 0, 0), (5, 0, 0), (6, 0, 0)] [x3, x4, x5, x6]) [] (sM s m) Q := by
  unfold wf_278_113 at h
  refine wz2_ok (cs := cs_278) (wr := []) (lb := lb_278_113 s Q P65 P113 R x3 x4 x5 x6) cs_278_ok (kLb_c (kLab (Bd := fun xs t => ap2 (fun w3 w4 => ∃ m', t = sM s m' ∧ P65 w3 w4 m') xs) rfl (fun xs t r1 r2 hb => by obtain ⟨w3, w4, rfl, hb⟩ := ap2_ok hb; obtain ⟨m', rfl, hx⟩ := hb; exact hP65 _ _ m' hx r1)) (kLb_c (kLab (Bd := fun xs t => ap4 (fun w3 w4 w5 w6 => ∃ m', t = sM s m' ∧ w4 = x4 ∧ w5 = x5 ∧ P113 w3 w6 m') xs) rfl (fun xs t r1 r2 hb => by obtain ⟨w3, w4, w5, w6, rfl, hb⟩ := ap4_ok hb; obtain ⟨m', rfl, rfl, rfl, hx⟩ := hb; exact hP113 _ _ m' hx r1)) kLb_n)) (okL_can rfl hr) (fun Y hY hl => ?_)
  have l65 := hl 65 _ rfl
  have l113 := hl 113 _ rfl
  refine hY _ _ _ _ (hY _ _ _ _ (hY _ _ _ _ (?_ : Y 119 [(0, 5, true, 74), (3, 0, true, x3), (4, 0, true, x4), (5, 0, true, x5), (6, 0, true, x6)] [(5, true, 78), (0, true, x6)] (sM s m))))
  refine hY _ _ _ _ (?_ : Y 121 [(0, 5, true, 74), (3, 0, true, x3), (4, 0, true, x4), (5, 0, true, x5), (6, 0, true, x6)] [(0, true, x5), (5, true, 78), (0, true, x6)] (sM s m))
  refine hY _ _ _ _ ?_
  refine (And.intro h.1 (And.intro h.2.1 ?_))
  show Y 122 [(0, 5, true, 74), (3, 0, true, x3), (4, 0, true, x4), (5, 0, true, x5), (6, 0, true, x6)] [(0, true, m 78 x5), (0, true, x6)] (sM s m)
  refine hY _ _ _ _ ?_
  refine And.intro (fun hc => ?_) (fun hc => ?_)
  · have h := h.2.2.1 hc
    refine hY _ _ _ _ (?_ : Y 65 [(0, 5, true, 74), (3, 0, true, x3), (4, 0, true, x4), (5, 0, true, x5), (6, 0, true, x6)] [] (sM s m))
    refine l65 _ _ ?_
    exact (Exists.intro m (And.intro rfl h))
  · have h := h.2.2.2 hc
    refine hY _ _ _ _ (hY _ _ _ _ (hY _ _ _ _ (?_ : Y 130 [(0, 5, true, 74), (3, 0, true, x3), (4, 0, true, x4), (5, 0, true, x5), (6, 0, true, x6)] [(0, true, x3), (5, true, 93)] (sM s m))))
    refine hY _ _ _ _ (hY _ _ _ _ (hY _ _ _ _ (?_ : Y 135 [(0, 5, true, 74), (3, 0, true, x3), (4, 0, true, x4), (5, 0, true, x5), (6, 0, true, x6)] [(0, true, 3), (5, true, 79), (0, true, x3), (5, true, 93)] (sM s m))))
    refine hY _ _ _ _ (hY _ _ _ _ (hY _ _ _ _ (?_ : Y 140 [(0, 5, true, 74), (3, 0, true, x3), (4, 0, true, x4), (5, 0, true, x5), (6, 0, true, x6)] [(0, true, x6), (0, false, 3 * x5), (5, true, 79), (0, true, x3), (5, true, 93)] (sM s m))))
    refine hY _ _ _ _ (?_ : Y 141 [(0, 5, true, 74), (3, 0, true, x3), (4, 0, true, x4), (5, 0, true, x5), (6, 0, true, x6)] [(0, false, (3 * x5) + x6), (5, true, 79), (0, true, x3), (5, true, 93)] (sM s m))
    refine hY _ _ _ _ ?_
    refine (And.intro h.1 (And.intro h.2.1 ?_))
    show Y 142 [(0, 5, true, 74), (3, 0, true, x3), (4, 0, true, x4), (5, 0, true, x5), (6, 0, true, x6)] [(0, true, m 79 ((3 * x5) + x6)), (0, true, x3), (5, true, 93)] (sM s m)
    refine hY _ _ _ _ ?_
    refine (And.intro h.2.2.1 (And.intro h.2.2.2.1 ?_))
    refine hY _ _ _ _ (hY _ _ _ _ (hY _ _ _ _ (?_ : Y 113 [(6, 0, false, x6 + 1), (3, 0, false, x3 + 1), (0, 5, true, 74), (4, 0, true, x4), (5, 0, true, x5)] [] (sM s (hy_u m 93 x3 (m 79 ((3 * x5) + x6)))))))
    refine l113 _ _ ?_
    refine And.intro h.2.2.2.2.1 ?_
    refine And.intro h.2.2.2.2.2.1 ?_
    exact (Exists.intro (hy_u m 93 x3 (m 79 ((3 * x5) + x6))) (And.intro rfl (And.intro rfl (And.intro rfl h.2.2.2.2.2.2))))
theorem wk_278_113 (Q : sQ) (R : Int → hy_m → Prop) (s : sS) (P65 : Int → Int → hy_m → Prop) (x3 : Int) (x4 : Int) (x5 : Int) (x6 : Int) (hP65 : ∀ (z3 z4 : Int) (m : hy_m), P65 z3 z4 m → sRg [(0, 5, 74), (3, 0, 0), (4, 0, 0)] [z3, z4] → kX dM 0 im_m278 0 65 (sCan [(0, 5, 74), (3, 0, 0), (4, 0, 0)] [z3, z4]) [] (sM s m) Q) (hQ : ∀ x m', R x m' → Q x (sM s m')) (hr : sRg [(0, 5, 74), (3, 0, 0), (4, 0, 0), (5, 0, 0), (6, 0, 0)] [x3, x4, x5, x6]) (h : wq_278_113 P65 x3 x4 x5 x6 s.2.2.2 R) : kX dM 0 im_m278 0 113 (sCan [(0, 5, 74), (3, 0, 0), (4, 0, 0), (5, 0, 0), (6, 0, 0)] [x3, x4, x5, x6]) [] s Q :=
  h (fun x3 x6 m => sRg [(0, 5, 74), (3, 0, 0), (4, 0, 0), (5, 0, 0), (6, 0, 0)] [x3, x4, x5, x6] → kX dM 0 im_m278 0 113 (sCan [(0, 5, 74), (3, 0, 0), (4, 0, 0), (5, 0, 0), (6, 0, 0)] [x3, x4, x5, x6]) [] (sM s m) Q) (fun x3 x6 m h hr => wj_278_113 Q R s P65 (fun x3 x6 m => sRg [(0, 5, 74), (3, 0, 0), (4, 0, 0), (5, 0, 0), (6, 0, 0)] [x3, x4, x5, x6] → kX dM 0 im_m278 0 113 (sCan [(0, 5, 74), (3, 0, 0), (4, 0, 0), (5, 0, 0), (6, 0, 0)] [x3, x4, x5, x6]) [] (sM s m) Q) x3 x4 x5 x6 m  hP65 (fun _ _ _ hp hr => hp hr) hQ hr h) hr
def lb_278_161 (s : sS) (Q : sQ) (P161 : Int → Int → hy_m → Prop) (R : Int → hy_m → Prop) (x4 : Int) (x5 : Int) (x6 : Int) : Nat → Option (sL → sS → Prop) := sLb [(161, fun lv t => sG [(4, 0, 0), (5, 0, 0), (6, 0, 0)] lv (ap3 (fun w4 w5 w6 => ∃ m', t = sM s m' ∧ w4 = x4 ∧ P161 w5 w6 m')))]
set_option maxRecDepth 30000 in
set_option maxHeartbeats 1000000 in
theorem wj_278_161 (Q : sQ) (R : Int → hy_m → Prop) (s : sS) (P161 : Int → Int → hy_m → Prop) (x4 : Int) (x5 : Int) (x6 : Int) (m : hy_m) (hP161 : ∀ (z5 z6 : Int) (m : hy_m), P161 z5 z6 m → sRg [(4, 0, 0), (5, 0, 0), (6, 0, 0)] [x4, z5, z6] → kX dM 0 im_m278 0 161 (sCan [(4, 0, 0), (5, 0, 0), (6, 0, 0)] [x4, z5, z6]) [] (sM s m) Q) (hQ : ∀ x m', R x m' → Q x (sM s m')) (hr : sRg [(4, 0, 0), (5, 0, 0), (6, 0, 0)] [x4, x5, x6]) (h : wf_278_161 x4 R P161 x5 x6 m) : kX dM 0 im_m278 0 161 (sCan [(4, 0, 0), (5, 0, 0), (6, 0, 0)] [x4, x5, x6]) [] (sM s m) Q := by
  unfold wf_278_161 at h
  refine wz2_ok (cs := cs_278) (wr := []) (lb := lb_278_161 s Q P161 R x4 x5 x6) cs_278_ok (kLb_c (kLab (Bd := fun xs t => ap3 (fun w4 w5 w6 => ∃ m', t = sM s m' ∧ w4 = x4 ∧ P161 w5 w6 m') xs) rfl (fun xs t r1 r2 hb => by obtain ⟨w4, w5, w6, rfl, hb⟩ := ap3_ok hb; obtain ⟨m', rfl, rfl, hx⟩ := hb; exact hP161 _ _ m' hx r1)) kLb_n) (okL_can rfl hr) (fun Y hY hl => ?_)
  have l161 := hl 161 _ rfl
  refine hY _ _ _ _ (hY _ _ _ _ (?_ : Y 165 [(4, 0, true, x4), (5, 0, true, x5), (6, 0, true, x6)] [(0, true, 8), (0, true, x6)] (sM s m)))
  refine hY _ _ _ _ ?_
  refine And.intro (fun hc => ?_) (fun hc => ?_)
  · have h := h.1 hc
    refine hY _ _ _ _ (?_ : Y 188 [(4, 0, true, x4), (5, 0, true, x5), (6, 0, true, x6)] [(0, true, x5)] (sM s m))
    refine hY _ _ _ _ ?_
    exact hQ x5 m h
  · have h := h.2 hc
    refine hY _ _ _ _ (hY _ _ _ _ (hY _ _ _ _ (?_ : Y 174 [(4, 0, true, x4), (5, 0, true, x5), (6, 0, true, x6)] [(0, true, x6), (0, true, x4), (0, true, x5)] (sM s m))))
    refine hY _ _ _ _ (?_ : Y 175 [(4, 0, true, x4), (5, 0, true, x5), (6, 0, true, x6)] [(0, true, iSr x4 x6), (0, true, x5)] (sM s m))
    refine hY _ _ _ _ (?_ : Y 176 [(4, 0, true, x4), (5, 0, true, x5), (6, 0, true, x6)] [(2, true, 1), (0, true, iSr x4 x6), (0, true, x5)] (sM s m))
    refine hY _ _ _ _ (?_ : Y 177 [(4, 0, true, x4), (5, 0, true, x5), (6, 0, true, x6)] [(0, true, iA (iSr x4 x6) 1), (0, true, x5)] (sM s m))
    refine hY _ _ _ _ (hY _ _ _ _ (hY _ _ _ _ (?_ : Y 183 [(6, 0, false, x6 + 1), (5, 0, false, x5 + (iA (iSr x4 x6) 1)), (4, 0, true, x4)] [] (sM s m))))
    refine hY _ _ _ _ (?_ : Y 161 [(6, 0, false, x6 + 1), (5, 0, false, x5 + (iA (iSr x4 x6) 1)), (4, 0, true, x4)] [] (sM s m))
    refine l161 _ _ ?_
    refine And.intro h.1 ?_
    refine And.intro h.2.1 ?_
    exact (Exists.intro m (And.intro rfl (And.intro rfl h.2.2)))
theorem wk_278_161 (Q : sQ) (R : Int → hy_m → Prop) (s : sS) (x4 : Int) (x5 : Int) (x6 : Int) (hQ : ∀ x m', R x m' → Q x (sM s m')) (hr : sRg [(4, 0, 0), (5, 0, 0), (6, 0, 0)] [x4, x5, x6]) (h : wq_278_161 x4 x5 x6 s.2.2.2 R) : kX dM 0 im_m278 0 161 (sCan [(4, 0, 0), (5, 0, 0), (6, 0, 0)] [x4, x5, x6]) [] s Q :=
  h (fun x5 x6 m => sRg [(4, 0, 0), (5, 0, 0), (6, 0, 0)] [x4, x5, x6] → kX dM 0 im_m278 0 161 (sCan [(4, 0, 0), (5, 0, 0), (6, 0, 0)] [x4, x5, x6]) [] (sM s m) Q) (fun x5 x6 m h hr => wj_278_161 Q R s (fun x5 x6 m => sRg [(4, 0, 0), (5, 0, 0), (6, 0, 0)] [x4, x5, x6] → kX dM 0 im_m278 0 161 (sCan [(4, 0, 0), (5, 0, 0), (6, 0, 0)] [x4, x5, x6]) [] (sM s m) Q) x4 x5 x6 m  (fun _ _ _ hp hr => hp hr) hQ hr h) hr
def lb_278_65 (s : sS) (Q : sQ) (P65 : Int → Int → hy_m → Prop) (R : Int → hy_m → Prop) (x3 : Int) (x4 : Int) : Nat → Option (sL → sS → Prop) := sLb [(113, fun lv t => sG [(0, 5, 74), (3, 0, 0), (4, 0, 0), (5, 0, 0), (6, 0, 0)] lv (ap4 (fun w3 w4 w5 w6 => ∃ m', t = sM s m' ∧ wq_278_113 P65 w3 w4 w5 w6 m' R))), (161, fun lv t => sG [(4, 0, 0), (5, 0, 0), (6, 0, 0)] lv (ap3 (fun w4 w5 w6 => ∃ m', t = sM s m' ∧ wq_278_161 w4 w5 w6 m' R))), (65, fun lv t => sG [(0, 5, 74), (3, 0, 0), (4, 0, 0)] lv (ap2 (fun w3 w4 => ∃ m', t = sM s m' ∧ P65 w3 w4 m')))]
set_option maxRecDepth 30000 in
set_option maxHeartbeats 1000000 in
theorem wj_278_65 (Q : sQ) (R : Int → hy_m → Prop) (s : sS) (P65 : Int → Int → hy_m → Prop) (x3 : Int) (x4 : Int) (m : hy_m) (hP65 : ∀ (z3 z4 : Int) (m : hy_m), P65 z3 z4 m → sRg [(0, 5, 74), (3, 0, 0), (4, 0, 0)] [z3, z4] → kX dM 0 im_m278 0 65 (sCan [(0, 5, 74), (3, 0, 0), (4, 0, 0)] [z3, z4]) [] (sM s m) Q) (hQ : ∀ x m', R x m' → Q x (sM s m')) (hr : sRg [(0, 5, 74), (3, 0, 0), (4, 0, 0)] [x3, x4]) (h : wf_278_65 R P65 x3 x4 m) : kX dM 0 im_m278 0 65 (sCan [(0, 5, 74), (3, 0, 0), (4, 0, 0)] [x3, x4]) [] (sM s m) Q := by
  unfold wf_278_65 at h
  refine wz2_ok (cs := cs_278) (wr := []) (lb := lb_278_65 s Q P65 R x3 x4) cs_278_ok (kLb_c (kLab (Bd := fun xs t => ap4 (fun w3 w4 w5 w6 => ∃ m', t = sM s m' ∧ wq_278_113 P65 w3 w4 w5 w6 m' R) xs) rfl (fun xs t r1 r2 hb => by obtain ⟨w3, w4, w5, w6, rfl, hb⟩ := ap4_ok hb; obtain ⟨m', rfl, hx⟩ := hb; exact wk_278_113 Q R (sM s m') P65 _ _ _ _ hP65 (fun x m'' hy => hQ x m'' hy) r1 hx)) (kLb_c (kLab (Bd := fun xs t => ap3 (fun w4 w5 w6 => ∃ m', t = sM s m' ∧ wq_278_161 w4 w5 w6 m' R) xs) rfl (fun xs t r1 r2 hb => by obtain ⟨w4, w5, w6, rfl, hb⟩ := ap3_ok hb; obtain ⟨m', rfl, hx⟩ := hb; exact wk_278_161 Q R (sM s m') _ _ _ (fun x m'' hy => hQ x m'' hy) r1 hx)) (kLb_c (kLab (Bd := fun xs t => ap2 (fun w3 w4 => ∃ m', t = sM s m' ∧ P65 w3 w4 m') xs) rfl (fun xs t r1 r2 hb => by obtain ⟨w3, w4, rfl, hb⟩ := ap2_ok hb; obtain ⟨m', rfl, hx⟩ := hb; exact hP65 _ _ m' hx r1)) kLb_n))) (okL_can rfl hr) (fun Y hY hl => ?_)
  have l113 := hl 113 _ rfl
  have l161 := hl 161 _ rfl
  have l65 := hl 65 _ rfl
  refine hY _ _ _ _ (?_ : Y 66 [(0, 5, true, 74), (3, 0, true, x3), (4, 0, true, x4)] [(0, true, x3)] (sM s m))
  refine hY _ _ _ _ ?_
  refine And.intro (fun hc => ?_) (fun hc => ?_)
  · have h := h.1 hc
    refine hY _ _ _ _ (hY _ _ _ _ (hY _ _ _ _ (?_ : Y 159 [(5, 2, true, 0), (0, 5, true, 74), (3, 0, true, x3), (4, 0, true, x4)] [(2, true, 0)] (sM s m))))
    refine hY _ _ _ _ (?_ : Y 161 [(6, 2, true, 0), (5, 2, true, 0), (0, 5, true, 74), (3, 0, true, x3), (4, 0, true, x4)] [] (sM s m))
    refine l161 _ _ ?_
    exact (Exists.intro m (And.intro rfl h))
  · have h := h.2 hc
    refine hY _ _ _ _ (hY _ _ _ _ (hY _ _ _ _ (?_ : Y 76 [(3, 0, false, x3 + (-1)), (0, 5, true, 74), (4, 0, true, x4)] [(5, true, 93)] (sM s m))))
    refine hY _ _ _ _ (?_ : Y 77 [(3, 0, false, x3 + (-1)), (0, 5, true, 74), (4, 0, true, x4)] [(0, false, x3 + (-1)), (5, true, 93)] (sM s m))
    refine hY _ _ _ _ ?_
    refine (And.intro h.1 (And.intro h.2.1 ?_))
    refine hY _ _ _ _ (hY _ _ _ _ (hY _ _ _ _ (?_ : Y 83 [(5, 0, true, m 93 (x3 + (-1))), (3, 0, false, x3 + (-1)), (0, 5, true, 74), (4, 0, true, x4)] [(5, true, 74), (0, true, x4)] (sM s m))))
    refine hY _ _ _ _ (hY _ _ _ _ (?_ : Y 88 [(5, 0, true, m 93 (x3 + (-1))), (3, 0, false, x3 + (-1)), (0, 5, true, 74), (4, 0, true, x4)] [(0, true, m 93 (x3 + (-1))), (5, true, 76), (0, true, x4)] (sM s m)))
    refine hY _ _ _ _ ?_
    refine (And.intro h.2.2.1 (And.intro h.2.2.2.1 ?_))
    refine hY _ _ _ _ (?_ : Y 90 [(5, 0, true, m 93 (x3 + (-1))), (3, 0, false, x3 + (-1)), (0, 5, true, 74), (4, 0, true, x4)] [(2, true, 1), (0, true, m 76 (m 93 (x3 + (-1)))), (0, true, x4)] (sM s m))
    refine hY _ _ _ _ ?_
    refine And.intro (fun hc => ?_) (fun hc => ?_)
    · have h := h.2.2.2.2.1 hc
      refine hY _ _ _ _ (?_ : Y 107 [(5, 0, true, m 93 (x3 + (-1))), (3, 0, false, x3 + (-1)), (0, 5, true, 74), (4, 0, true, x4)] [(2, true, 0), (0, true, x4)] (sM s m))
      refine hY _ _ _ _ (?_ : Y 108 [(5, 0, true, m 93 (x3 + (-1))), (3, 0, false, x3 + (-1)), (0, 5, true, 74), (4, 0, true, x4)] [(0, true, iO x4 0)] (sM s m))
      refine hY _ _ _ _ (hY _ _ _ _ (hY _ _ _ _ (?_ : Y 113 [(6, 2, true, 0), (4, 0, true, iO x4 0), (5, 0, true, m 93 (x3 + (-1))), (3, 0, false, x3 + (-1)), (0, 5, true, 74)] [] (sM s m))))
      refine l113 _ _ ?_
      refine And.intro h.1 ?_
      exact (Exists.intro m (And.intro rfl h.2))
    · have h := h.2.2.2.2.2 hc
      refine hY _ _ _ _ (hY _ _ _ _ (hY _ _ _ _ (?_ : Y 98 [(5, 0, true, m 93 (x3 + (-1))), (3, 0, false, x3 + (-1)), (0, 5, true, 74), (4, 0, true, x4)] [(5, true, 77), (2, true, 1), (0, true, x4)] (sM s m))))
      refine hY _ _ _ _ (?_ : Y 100 [(5, 0, true, m 93 (x3 + (-1))), (3, 0, false, x3 + (-1)), (0, 5, true, 74), (4, 0, true, x4)] [(0, true, m 93 (x3 + (-1))), (5, true, 77), (2, true, 1), (0, true, x4)] (sM s m))
      refine hY _ _ _ _ ?_
      refine (And.intro h.1 (And.intro h.2.1 ?_))
      refine hY _ _ _ _ (?_ : Y 102 [(5, 0, true, m 93 (x3 + (-1))), (3, 0, false, x3 + (-1)), (0, 5, true, 74), (4, 0, true, x4)] [(0, false, m 77 (m 93 (x3 + (-1)))), (2, true, 1), (0, true, x4)] (sM s m))
      refine hY _ _ _ _ (?_ : Y 103 [(5, 0, true, m 93 (x3 + (-1))), (3, 0, false, x3 + (-1)), (0, 5, true, 74), (4, 0, true, x4)] [(0, true, iSl 1 (m 77 (m 93 (x3 + (-1))))), (0, true, x4)] (sM s m))
      refine hY _ _ _ _ (?_ : Y 107 [(5, 0, true, m 93 (x3 + (-1))), (3, 0, false, x3 + (-1)), (0, 5, true, 74), (4, 0, true, x4)] [(0, true, iSl 1 (m 77 (m 93 (x3 + (-1))))), (0, true, x4)] (sM s m))
      refine hY _ _ _ _ (?_ : Y 108 [(5, 0, true, m 93 (x3 + (-1))), (3, 0, false, x3 + (-1)), (0, 5, true, 74), (4, 0, true, x4)] [(0, true, iO x4 (iSl 1 (m 77 (m 93 (x3 + (-1))))))] (sM s m))
      refine hY _ _ _ _ (hY _ _ _ _ (hY _ _ _ _ (?_ : Y 113 [(6, 2, true, 0), (4, 0, true, iO x4 (iSl 1 (m 77 (m 93 (x3 + (-1)))))), (5, 0, true, m 93 (x3 + (-1))), (3, 0, false, x3 + (-1)), (0, 5, true, 74)] [] (sM s m))))
      refine l113 _ _ ?_
      refine And.intro h.2.2.1 ?_
      exact (Exists.intro m (And.intro rfl h.2.2.2))
theorem wk_278_65 (Q : sQ) (R : Int → hy_m → Prop) (s : sS) (x3 : Int) (x4 : Int) (hQ : ∀ x m', R x m' → Q x (sM s m')) (hr : sRg [(0, 5, 74), (3, 0, 0), (4, 0, 0)] [x3, x4]) (h : wq_278_65 x3 x4 s.2.2.2 R) : kX dM 0 im_m278 0 65 (sCan [(0, 5, 74), (3, 0, 0), (4, 0, 0)] [x3, x4]) [] s Q :=
  h (fun x3 x4 m => sRg [(0, 5, 74), (3, 0, 0), (4, 0, 0)] [x3, x4] → kX dM 0 im_m278 0 65 (sCan [(0, 5, 74), (3, 0, 0), (4, 0, 0)] [x3, x4]) [] (sM s m) Q) (fun x3 x4 m h hr => wj_278_65 Q R s (fun x3 x4 m => sRg [(0, 5, 74), (3, 0, 0), (4, 0, 0)] [x3, x4] → kX dM 0 im_m278 0 65 (sCan [(0, 5, 74), (3, 0, 0), (4, 0, 0)] [x3, x4]) [] (sM s m) Q) x3 x4 m  (fun _ _ _ hp hr => hp hr) hQ hr h) hr
def lb_278_25 (s : sS) (Q : sQ) (P25 : Int → Int → hy_m → Prop) (R : Int → hy_m → Prop) (x2 : Int) (x3 : Int) (x4 : Int) : Nat → Option (sL → sS → Prop) := sLb [(65, fun lv t => sG [(0, 5, 74), (3, 0, 0), (4, 0, 0)] lv (ap2 (fun w3 w4 => ∃ m', t = sM s m' ∧ wq_278_65 w3 w4 m' R))), (25, fun lv t => sG [(0, 5, 74), (2, 0, 0), (3, 0, 0), (4, 0, 0)] lv (ap3 (fun w2 w3 w4 => ∃ m', t = sM s m' ∧ w2 = x2 ∧ P25 w3 w4 m')))]
set_option maxRecDepth 30000 in
set_option maxHeartbeats 1000000 in
theorem wj_278_25 (Q : sQ) (R : Int → hy_m → Prop) (s : sS) (P25 : Int → Int → hy_m → Prop) (x2 : Int) (x3 : Int) (x4 : Int) (m : hy_m) (hP25 : ∀ (z3 z4 : Int) (m : hy_m), P25 z3 z4 m → sRg [(0, 5, 74), (2, 0, 0), (3, 0, 0), (4, 0, 0)] [x2, z3, z4] → kX dM 0 im_m278 0 25 (sCan [(0, 5, 74), (2, 0, 0), (3, 0, 0), (4, 0, 0)] [x2, z3, z4]) [] (sM s m) Q) (hQ : ∀ x m', R x m' → Q x (sM s m')) (hr : sRg [(0, 5, 74), (2, 0, 0), (3, 0, 0), (4, 0, 0)] [x2, x3, x4]) (h : wf_278_25 x2 R P25 x3 x4 m) : kX dM 0 im_m278 0 25 (sCan [(0, 5, 74), (2, 0, 0), (3, 0, 0), (4, 0, 0)] [x2, x3, x4]) [] (sM s m) Q := by
  unfold wf_278_25 at h
  refine wz2_ok (cs := cs_278) (wr := []) (lb := lb_278_25 s Q P25 R x2 x3 x4) cs_278_ok (kLb_c (kLab (Bd := fun xs t => ap2 (fun w3 w4 => ∃ m', t = sM s m' ∧ wq_278_65 w3 w4 m' R) xs) rfl (fun xs t r1 r2 hb => by obtain ⟨w3, w4, rfl, hb⟩ := ap2_ok hb; obtain ⟨m', rfl, hx⟩ := hb; exact wk_278_65 Q R (sM s m') _ _ (fun x m'' hy => hQ x m'' hy) r1 hx)) (kLb_c (kLab (Bd := fun xs t => ap3 (fun w2 w3 w4 => ∃ m', t = sM s m' ∧ w2 = x2 ∧ P25 w3 w4 m') xs) rfl (fun xs t r1 r2 hb => by obtain ⟨w2, w3, w4, rfl, hb⟩ := ap3_ok hb; obtain ⟨m', rfl, rfl, hx⟩ := hb; exact hP25 _ _ m' hx r1)) kLb_n)) (okL_can rfl hr) (fun Y hY hl => ?_)
  have l65 := hl 65 _ rfl
  have l25 := hl 25 _ rfl
  refine hY _ _ _ _ (hY _ _ _ _ (hY _ _ _ _ (?_ : Y 31 [(0, 5, true, 74), (2, 0, true, x2), (3, 0, true, x3), (4, 0, true, x4)] [(5, true, 82), (0, true, x4)] (sM s m))))
  refine hY _ _ _ _ (?_ : Y 32 [(0, 5, true, 74), (2, 0, true, x2), (3, 0, true, x3), (4, 0, true, x4)] [(0, true, x2), (5, true, 82), (0, true, x4)] (sM s m))
  refine hY _ _ _ _ ?_
  refine (And.intro h.1 (And.intro h.2.1 ?_))
  show Y 33 [(0, 5, true, 74), (2, 0, true, x2), (3, 0, true, x3), (4, 0, true, x4)] [(0, true, m 82 x2), (0, true, x4)] (sM s m)
  refine hY _ _ _ _ ?_
  refine And.intro (fun hc => ?_) (fun hc => ?_)
  · have h := h.2.2.1 hc
    refine hY _ _ _ _ (hY _ _ _ _ (?_ : Y 65 [(4, 2, true, 0), (0, 5, true, 74), (2, 0, true, x2), (3, 0, true, x3)] [] (sM s m)))
    refine l65 _ _ ?_
    exact (Exists.intro m (And.intro rfl h))
  · have h := h.2.2.2 hc
    refine hY _ _ _ _ (hY _ _ _ _ (hY _ _ _ _ (?_ : Y 41 [(0, 5, true, 74), (2, 0, true, x2), (3, 0, true, x3), (4, 0, true, x4)] [(0, true, x3), (5, true, 93)] (sM s m))))
    refine hY _ _ _ _ (hY _ _ _ _ (hY _ _ _ _ (?_ : Y 46 [(0, 5, true, 74), (2, 0, true, x2), (3, 0, true, x3), (4, 0, true, x4)] [(0, true, 5), (5, true, 83), (0, true, x3), (5, true, 93)] (sM s m))))
    refine hY _ _ _ _ (hY _ _ _ _ (hY _ _ _ _ (?_ : Y 50 [(0, 5, true, 74), (2, 0, true, x2), (3, 0, true, x3), (4, 0, true, x4)] [(0, true, x4), (0, false, 5 * x2), (5, true, 83), (0, true, x3), (5, true, 93)] (sM s m))))
    refine hY _ _ _ _ (?_ : Y 51 [(0, 5, true, 74), (2, 0, true, x2), (3, 0, true, x3), (4, 0, true, x4)] [(0, false, (5 * x2) + x4), (5, true, 83), (0, true, x3), (5, true, 93)] (sM s m))
    refine hY _ _ _ _ ?_
    refine (And.intro h.1 (And.intro h.2.1 ?_))
    show Y 52 [(0, 5, true, 74), (2, 0, true, x2), (3, 0, true, x3), (4, 0, true, x4)] [(0, true, m 83 ((5 * x2) + x4)), (0, true, x3), (5, true, 93)] (sM s m)
    refine hY _ _ _ _ ?_
    refine (And.intro h.2.2.1 (And.intro h.2.2.2.1 ?_))
    refine hY _ _ _ _ (hY _ _ _ _ (hY _ _ _ _ (?_ : Y 25 [(4, 0, false, x4 + 1), (3, 0, false, x3 + 1), (0, 5, true, 74), (2, 0, true, x2)] [] (sM s (hy_u m 93 x3 (m 83 ((5 * x2) + x4)))))))
    refine l25 _ _ ?_
    refine And.intro h.2.2.2.2.1 ?_
    refine And.intro h.2.2.2.2.2.1 ?_
    exact (Exists.intro (hy_u m 93 x3 (m 83 ((5 * x2) + x4))) (And.intro rfl (And.intro rfl h.2.2.2.2.2.2)))
theorem wk_278_25 (Q : sQ) (R : Int → hy_m → Prop) (s : sS) (x2 : Int) (x3 : Int) (x4 : Int) (hQ : ∀ x m', R x m' → Q x (sM s m')) (hr : sRg [(0, 5, 74), (2, 0, 0), (3, 0, 0), (4, 0, 0)] [x2, x3, x4]) (h : wq_278_25 x2 x3 x4 s.2.2.2 R) : kX dM 0 im_m278 0 25 (sCan [(0, 5, 74), (2, 0, 0), (3, 0, 0), (4, 0, 0)] [x2, x3, x4]) [] s Q :=
  h (fun x3 x4 m => sRg [(0, 5, 74), (2, 0, 0), (3, 0, 0), (4, 0, 0)] [x2, x3, x4] → kX dM 0 im_m278 0 25 (sCan [(0, 5, 74), (2, 0, 0), (3, 0, 0), (4, 0, 0)] [x2, x3, x4]) [] (sM s m) Q) (fun x3 x4 m h hr => wj_278_25 Q R s (fun x3 x4 m => sRg [(0, 5, 74), (2, 0, 0), (3, 0, 0), (4, 0, 0)] [x2, x3, x4] → kX dM 0 im_m278 0 25 (sCan [(0, 5, 74), (2, 0, 0), (3, 0, 0), (4, 0, 0)] [x2, x3, x4]) [] (sM s m) Q) x2 x3 x4 m  (fun _ _ _ hp hr => hp hr) hQ hr h) hr
def lb_278_0 (s : sS) (Q : sQ) (R : Int → hy_m → Prop) (x1 : Int) : Nat → Option (sL → sS → Prop) := sLb [(25, fun lv t => sG [(0, 5, 74), (2, 0, 0), (3, 0, 0), (4, 0, 0)] lv (ap3 (fun w2 w3 w4 => ∃ m', t = sM s m' ∧ wq_278_25 w2 w3 w4 m' R)))]
set_option maxRecDepth 30000 in
set_option maxHeartbeats 1000000 in
theorem wk_278_0 (Q : sQ) (R : Int → hy_m → Prop) (s : sS) (x1 : Int) (hQ : ∀ x m', R x m' → Q x (sM s m')) (hr : sRg [(0, 5, 74), (1, 0, 0)] [x1]) (h : wq_278 x1 s.2.2.2 R) : kX dM 0 im_m278 0 0 (sCan [(0, 5, 74), (1, 0, 0)] [x1]) [] s Q := by
  unfold wq_278 at h
  refine wz2_ok (cs := cs_278) (wr := []) (lb := lb_278_0 s Q R x1) cs_278_ok (kLb_c (kLab (Bd := fun xs t => ap3 (fun w2 w3 w4 => ∃ m', t = sM s m' ∧ wq_278_25 w2 w3 w4 m' R) xs) rfl (fun xs t r1 r2 hb => by obtain ⟨w2, w3, w4, rfl, hb⟩ := ap3_ok hb; obtain ⟨m', rfl, hx⟩ := hb; exact wk_278_25 Q R (sM s m') _ _ _ (fun x m'' hy => hQ x m'' hy) r1 hx)) kLb_n) (okL_can rfl hr) (fun Y hY hl => ?_)
  have l25 := hl 25 _ rfl
  refine hY _ _ _ _ (hY _ _ _ _ (hY _ _ _ _ (?_ : Y 5 [(0, 5, true, 74), (1, 0, true, x1)] [(0, true, x1), (5, true, 99)] s)))
  refine hY _ _ _ _ ?_
  refine (And.intro h.1 (And.intro h.2.1 ?_))
  refine hY _ _ _ _ (hY _ _ _ _ (hY _ _ _ _ (?_ : Y 10 [(2, 0, true, s.2.2.2 99 x1), (0, 5, true, 74), (1, 0, true, x1)] [(0, true, (-9)), (0, true, s.2.2.2 99 x1)] s)))
  refine hY _ _ _ _ ?_
  refine And.intro (fun hc => ?_) (fun hc => ?_)
  · have h := h.2.2.1 hc
    refine hY _ _ _ _ (hY _ _ _ _ (hY _ _ _ _ (?_ : Y 18 [(3, 2, true, 0), (2, 0, true, s.2.2.2 99 x1), (0, 5, true, 74), (1, 0, true, x1)] [(5, true, 74)] s)))
    refine hY _ _ _ _ (hY _ _ _ _ (?_ : Y 22 [(3, 2, true, 0), (2, 0, true, s.2.2.2 99 x1), (0, 5, true, 74), (1, 0, true, x1)] [(0, true, x1), (5, true, 100)] s))
    refine hY _ _ _ _ ?_
    refine (And.intro h.1 (And.intro h.2.1 ?_))
    refine hY _ _ _ _ (?_ : Y 25 [(4, 0, true, s.2.2.2 100 x1), (3, 2, true, 0), (2, 0, true, s.2.2.2 99 x1), (0, 5, true, 74), (1, 0, true, x1)] [] s)
    refine l25 _ _ ?_
    exact (Exists.intro s.2.2.2 (And.intro rfl h.2.2))
  · have h := h.2.2.2 hc
    refine hY _ _ _ _ (?_ : Y 14 [(2, 0, true, s.2.2.2 99 x1), (0, 5, true, 74), (1, 0, true, x1)] [(2, true, 0)] s)
    refine hY _ _ _ _ ?_
    exact hQ 0 s.2.2.2 h
def we_278 : sFf := sEf 7 [(0, 5, 74), (1, 0, 0)] (fun xs s Q => ap1 (fun x1 => wq_278 x1 s.2.2.2 Q) xs)
theorem we_278_ok : kS dM 1 278 0 (.inl we_278) := sEf_ok (mi := im_m278) rfl rfl rfl (fun R xs s r1 hb => by obtain ⟨x1, rfl, hb⟩ := ap1_ok hb; exact wk_278_0 _ R s x1 (fun x m' hx => ⟨m', rfl, hx⟩) r1 hb)
/-- LMModel.goalsLeft(I)I -/
def wq_279 (x1 : Int) (m : hy_m) (Q : Int → hy_m → Prop) : Prop := 0 ≤ x1 ∧ x1 < 1300 ∧ (((m 99 x1) ≠ (-9) → (0 ≤ x1 ∧ x1 < 1300 ∧ (0 ≤ (m 99 x1) ∧ (m 99 x1) < 28 ∧ (0 ≤ x1 ∧ x1 < 1300 ∧ (hy_r 0 ((m 82 (m 99 x1)) - (m 100 x1)) ∧ (Q ((m 82 (m 99 x1)) - (m 100 x1)) m)))))) ∧ ((m 99 x1) = (-9) → (0 ≤ x1 ∧ x1 < 1300 ∧ (hy_r 0 (2 - (m 100 x1)) ∧ (Q (2 - (m 100 x1)) m)))))
def cs_279 : List (Nat × Nat × sFS) := []
theorem cs_279_ok : kCs dM 0 cs_279 := kCs_n
def lb_279_0 (s : sS) (Q : sQ) (R : Int → hy_m → Prop) (x1 : Int) : Nat → Option (sL → sS → Prop) := sLb []
set_option maxRecDepth 30000 in
set_option maxHeartbeats 1000000 in
theorem wk_279_0 (Q : sQ) (R : Int → hy_m → Prop) (s : sS) (x1 : Int) (hQ : ∀ x m', R x m' → Q x (sM s m')) (hr : sRg [(0, 5, 74), (1, 0, 0)] [x1]) (h : wq_279 x1 s.2.2.2 R) : kX dM 0 im_m279 0 0 (sCan [(0, 5, 74), (1, 0, 0)] [x1]) [] s Q := by
  unfold wq_279 at h
  refine wz2_ok (cs := cs_279) (wr := []) (lb := lb_279_0 s Q R x1) cs_279_ok kLb_n (okL_can rfl hr) (fun Y hY hl => ?_)
  refine hY _ _ _ _ (hY _ _ _ _ (hY _ _ _ _ (?_ : Y 5 [(0, 5, true, 74), (1, 0, true, x1)] [(0, true, x1), (5, true, 99)] s)))
  refine hY _ _ _ _ ?_
  refine (And.intro h.1 (And.intro h.2.1 ?_))
  refine hY _ _ _ _ (?_ : Y 8 [(0, 5, true, 74), (1, 0, true, x1)] [(0, true, (-9)), (0, true, s.2.2.2 99 x1)] s)
  refine hY _ _ _ _ ?_
  refine And.intro (fun hc => ?_) (fun hc => ?_)
  · have h := h.2.2.1 hc
    refine hY _ _ _ _ (hY _ _ _ _ (hY _ _ _ _ (?_ : Y 20 [(0, 5, true, 74), (1, 0, true, x1)] [(5, true, 74), (5, true, 82)] s)))
    refine hY _ _ _ _ (hY _ _ _ _ (?_ : Y 24 [(0, 5, true, 74), (1, 0, true, x1)] [(0, true, x1), (5, true, 99), (5, true, 82)] s))
    refine hY _ _ _ _ ?_
    refine (And.intro h.1 (And.intro h.2.1 ?_))
    show Y 25 [(0, 5, true, 74), (1, 0, true, x1)] [(0, true, s.2.2.2 99 x1), (5, true, 82)] s
    refine hY _ _ _ _ ?_
    refine (And.intro h.2.2.1 (And.intro h.2.2.2.1 ?_))
    refine hY _ _ _ _ (hY _ _ _ _ (hY _ _ _ _ (?_ : Y 31 [(0, 5, true, 74), (1, 0, true, x1)] [(0, true, x1), (5, true, 100), (0, true, s.2.2.2 82 (s.2.2.2 99 x1))] s)))
    refine hY _ _ _ _ ?_
    refine (And.intro h.2.2.2.2.1 (And.intro h.2.2.2.2.2.1 ?_))
    refine hY _ _ _ _ (?_ : Y 33 [(0, 5, true, 74), (1, 0, true, x1)] [(0, false, (s.2.2.2 82 (s.2.2.2 99 x1)) - (s.2.2.2 100 x1))] s)
    refine hY _ _ _ _ ?_
    refine And.intro h.2.2.2.2.2.2.1 ?_
    exact hQ ((s.2.2.2 82 (s.2.2.2 99 x1)) - (s.2.2.2 100 x1)) s.2.2.2 h.2.2.2.2.2.2.2
  · have h := h.2.2.2 hc
    refine hY _ _ _ _ (hY _ _ _ _ (hY _ _ _ _ (?_ : Y 27 [(0, 5, true, 74), (1, 0, true, x1)] [(5, true, 74), (0, true, 2)] s)))
    refine hY _ _ _ _ (hY _ _ _ _ (?_ : Y 31 [(0, 5, true, 74), (1, 0, true, x1)] [(0, true, x1), (5, true, 100), (0, true, 2)] s))
    refine hY _ _ _ _ ?_
    refine (And.intro h.1 (And.intro h.2.1 ?_))
    refine hY _ _ _ _ (?_ : Y 33 [(0, 5, true, 74), (1, 0, true, x1)] [(0, false, 2 - (s.2.2.2 100 x1))] s)
    refine hY _ _ _ _ ?_
    refine And.intro h.2.2.1 ?_
    exact hQ (2 - (s.2.2.2 100 x1)) s.2.2.2 h.2.2.2
def we_279 : sFf := sEf 2 [(0, 5, 74), (1, 0, 0)] (fun xs s Q => ap1 (fun x1 => wq_279 x1 s.2.2.2 Q) xs)
theorem we_279_ok : kS dM 1 279 0 (.inl we_279) := sEf_ok (mi := im_m279) rfl rfl rfl (fun R xs s r1 hb => by obtain ⟨x1, rfl, hb⟩ := ap1_ok hb; exact wk_279_0 _ R s x1 (fun x m' hx => ⟨m', rfl, hx⟩) r1 hb)
/-- LMModel.sumOfFrames(I)I -/
def wf_280_7 (x1 : Int) (Q : Int → hy_m → Prop) (P7 : Int → Int → hy_m → Prop) (x2 : Int) (x3 : Int) (m : hy_m) : Prop := (x3 = (-9) → (Q x2 m)) ∧ (x3 ≠ (-9) → ((x1 ≠ 4 → (wq_278 x3 m (fun r1 m1 => 0 ≤ x3 ∧ x3 < 1300 ∧ (hy_r 0 (x2 + r1) ∧ (P7 (x2 + r1) (m1 102 x3) m1))))) ∧ (x1 = 4 → (wq_279 x3 m (fun r2 m2 => 0 ≤ x3 ∧ x3 < 1300 ∧ (hy_r 0 (x2 + r2) ∧ (P7 (x2 + r2) (m2 102 x3) m2)))))))
def wq_280_7 (x1 : Int) (x2 : Int) (x3 : Int) (m : hy_m) (Q : Int → hy_m → Prop) : Prop := wL2 hy_m (wf_280_7 x1 Q) x2 x3 m
def wq_280 (x1 : Int) (m : hy_m) (Q : Int → hy_m → Prop) : Prop := wq_280_7 x1 0 (m 74 52) m Q
theorem wc_278_r74_0t (x1 : Int) (s : sS) (R : Int → hy_m → Prop) (h : wq_278 x1 s.2.2.2 R) : we_278 [(5, true, 74), (0, true, x1)] s R := h
theorem wc_279_r74_0t (x1 : Int) (s : sS) (R : Int → hy_m → Prop) (h : wq_279 x1 s.2.2.2 R) : we_279 [(5, true, 74), (0, true, x1)] s R := h
def cs_280 : List (Nat × Nat × sFS) := [(278, 0, .inl we_278), (279, 0, .inl we_279)]
theorem cs_280_ok : kCs dM 1 cs_280 := (kCs_c (Or.inl rfl) (we_278_ok.deep (by decide)) (kCs_c (Or.inl rfl) (we_279_ok.deep (by decide)) kCs_n))
def lb_280_7 (s : sS) (Q : sQ) (P7 : Int → Int → hy_m → Prop) (R : Int → hy_m → Prop) (x1 : Int) (x2 : Int) (x3 : Int) : Nat → Option (sL → sS → Prop) := sLb [(7, fun lv t => sG [(0, 5, 74), (1, 0, 0), (2, 0, 0), (3, 0, 0)] lv (ap3 (fun w1 w2 w3 => ∃ m', t = sM s m' ∧ w1 = x1 ∧ P7 w2 w3 m')))]
set_option maxRecDepth 30000 in
set_option maxHeartbeats 1000000 in
theorem wj_280_7 (Q : sQ) (R : Int → hy_m → Prop) (s : sS) (P7 : Int → Int → hy_m → Prop) (x1 : Int) (x2 : Int) (x3 : Int) (m : hy_m) (hP7 : ∀ (z2 z3 : Int) (m : hy_m), P7 z2 z3 m → sRg [(0, 5, 74), (1, 0, 0), (2, 0, 0), (3, 0, 0)] [x1, z2, z3] → kX dM 1 im_m280 0 7 (sCan [(0, 5, 74), (1, 0, 0), (2, 0, 0), (3, 0, 0)] [x1, z2, z3]) [] (sM s m) Q) (hQ : ∀ x m', R x m' → Q x (sM s m')) (hr : sRg [(0, 5, 74), (1, 0, 0), (2, 0, 0), (3, 0, 0)] [x1, x2, x3]) (h : wf_280_7 x1 R P7 x2 x3 m) : kX dM 1 im_m280 0 7 (sCan [(0, 5, 74), (1, 0, 0), (2, 0, 0), (3, 0, 0)] [x1, x2, x3]) [] (sM s m) Q := by
  unfold wf_280_7 at h
  refine wz2_ok (cs := cs_280) (wr := []) (lb := lb_280_7 s Q P7 R x1 x2 x3) cs_280_ok (kLb_c (kLab (Bd := fun xs t => ap3 (fun w1 w2 w3 => ∃ m', t = sM s m' ∧ w1 = x1 ∧ P7 w2 w3 m') xs) rfl (fun xs t r1 r2 hb => by obtain ⟨w1, w2, w3, rfl, hb⟩ := ap3_ok hb; obtain ⟨m', rfl, rfl, hx⟩ := hb; exact hP7 _ _ m' hx r1)) kLb_n) (okL_can rfl hr) (fun Y hY hl => ?_)
  have l7 := hl 7 _ rfl
  refine hY _ _ _ _ (hY _ _ _ _ (?_ : Y 10 [(0, 5, true, 74), (1, 0, true, x1), (2, 0, true, x2), (3, 0, true, x3)] [(0, true, (-9)), (0, true, x3)] (sM s m)))
  refine hY _ _ _ _ ?_
  refine And.intro (fun hc => ?_) (fun hc => ?_)
  · have h := h.1 hc
    refine hY _ _ _ _ (?_ : Y 45 [(0, 5, true, 74), (1, 0, true, x1), (2, 0, true, x2), (3, 0, true, x3)] [(0, true, x2)] (sM s m))
    refine hY _ _ _ _ ?_
    exact hQ x2 m h
  · have h := h.2 hc
    refine hY _ _ _ _ (hY _ _ _ _ (hY _ _ _ _ (?_ : Y 16 [(0, 5, true, 74), (1, 0, true, x1), (2, 0, true, x2), (3, 0, true, x3)] [(0, true, 4), (0, true, x1), (0, true, x2)] (sM s m))))
    refine hY _ _ _ _ ?_
    refine And.intro (fun hc => ?_) (fun hc => ?_)
    · have h := h.1 hc
      refine hY _ _ _ _ (hY _ _ _ _ (?_ : Y 29 [(0, 5, true, 74), (1, 0, true, x1), (2, 0, true, x2), (3, 0, true, x3)] [(0, true, x3), (5, true, 74), (0, true, x2)] (sM s m)))
      refine hY _ _ _ _ ?_
      refine Exists.intro _ (And.intro (wc_278_r74_0t x3 _ _ h) (fun r1 m1 h => ?_))
      refine hY _ _ _ _ (hY _ _ _ _ (hY _ _ _ _ (?_ : Y 35 [(2, 0, false, x2 + r1), (0, 5, true, 74), (1, 0, true, x1), (3, 0, true, x3)] [(5, true, 74)] (sM s m1))))
      refine hY _ _ _ _ (hY _ _ _ _ (?_ : Y 39 [(2, 0, false, x2 + r1), (0, 5, true, 74), (1, 0, true, x1), (3, 0, true, x3)] [(0, true, x3), (5, true, 102)] (sM s m1)))
      refine hY _ _ _ _ ?_
      refine (And.intro h.1 (And.intro h.2.1 ?_))
      refine hY _ _ _ _ (hY _ _ _ _ (?_ : Y 7 [(3, 0, true, m1 102 x3), (2, 0, false, x2 + r1), (0, 5, true, 74), (1, 0, true, x1)] [] (sM s m1)))
      refine l7 _ _ ?_
      refine And.intro h.2.2.1 ?_
      exact (Exists.intro m1 (And.intro rfl (And.intro rfl h.2.2.2)))
    · have h := h.2 hc
      refine hY _ _ _ _ (hY _ _ _ _ (?_ : Y 21 [(0, 5, true, 74), (1, 0, true, x1), (2, 0, true, x2), (3, 0, true, x3)] [(0, true, x3), (5, true, 74), (0, true, x2)] (sM s m)))
      refine hY _ _ _ _ ?_
      refine Exists.intro _ (And.intro (wc_279_r74_0t x3 _ _ h) (fun r2 m2 h => ?_))
      refine hY _ _ _ _ (hY _ _ _ _ (hY _ _ _ _ (?_ : Y 34 [(2, 0, false, x2 + r2), (0, 5, true, 74), (1, 0, true, x1), (3, 0, true, x3)] [] (sM s m2))))
      refine hY _ _ _ _ (hY _ _ _ _ (hY _ _ _ _ (?_ : Y 39 [(2, 0, false, x2 + r2), (0, 5, true, 74), (1, 0, true, x1), (3, 0, true, x3)] [(0, true, x3), (5, true, 102)] (sM s m2))))
      refine hY _ _ _ _ ?_
      refine (And.intro h.1 (And.intro h.2.1 ?_))
      refine hY _ _ _ _ (hY _ _ _ _ (?_ : Y 7 [(3, 0, true, m2 102 x3), (2, 0, false, x2 + r2), (0, 5, true, 74), (1, 0, true, x1)] [] (sM s m2)))
      refine l7 _ _ ?_
      refine And.intro h.2.2.1 ?_
      exact (Exists.intro m2 (And.intro rfl (And.intro rfl h.2.2.2)))
theorem wk_280_7 (Q : sQ) (R : Int → hy_m → Prop) (s : sS) (x1 : Int) (x2 : Int) (x3 : Int) (hQ : ∀ x m', R x m' → Q x (sM s m')) (hr : sRg [(0, 5, 74), (1, 0, 0), (2, 0, 0), (3, 0, 0)] [x1, x2, x3]) (h : wq_280_7 x1 x2 x3 s.2.2.2 R) : kX dM 1 im_m280 0 7 (sCan [(0, 5, 74), (1, 0, 0), (2, 0, 0), (3, 0, 0)] [x1, x2, x3]) [] s Q :=
  h (fun x2 x3 m => sRg [(0, 5, 74), (1, 0, 0), (2, 0, 0), (3, 0, 0)] [x1, x2, x3] → kX dM 1 im_m280 0 7 (sCan [(0, 5, 74), (1, 0, 0), (2, 0, 0), (3, 0, 0)] [x1, x2, x3]) [] (sM s m) Q) (fun x2 x3 m h hr => wj_280_7 Q R s (fun x2 x3 m => sRg [(0, 5, 74), (1, 0, 0), (2, 0, 0), (3, 0, 0)] [x1, x2, x3] → kX dM 1 im_m280 0 7 (sCan [(0, 5, 74), (1, 0, 0), (2, 0, 0), (3, 0, 0)] [x1, x2, x3]) [] (sM s m) Q) x1 x2 x3 m  (fun _ _ _ hp hr => hp hr) hQ hr h) hr
def lb_280_0 (s : sS) (Q : sQ) (R : Int → hy_m → Prop) (x1 : Int) : Nat → Option (sL → sS → Prop) := sLb [(7, fun lv t => sG [(0, 5, 74), (1, 0, 0), (2, 0, 0), (3, 0, 0)] lv (ap3 (fun w1 w2 w3 => ∃ m', t = sM s m' ∧ wq_280_7 w1 w2 w3 m' R)))]
set_option maxRecDepth 30000 in
set_option maxHeartbeats 1000000 in
theorem wk_280_0 (Q : sQ) (R : Int → hy_m → Prop) (s : sS) (x1 : Int) (hQ : ∀ x m', R x m' → Q x (sM s m')) (hr : sRg [(0, 5, 74), (1, 0, 0)] [x1]) (h : wq_280 x1 s.2.2.2 R) : kX dM 1 im_m280 0 0 (sCan [(0, 5, 74), (1, 0, 0)] [x1]) [] s Q := by
  unfold wq_280 at h
  refine wz2_ok (cs := cs_280) (wr := []) (lb := lb_280_0 s Q R x1) cs_280_ok (kLb_c (kLab (Bd := fun xs t => ap3 (fun w1 w2 w3 => ∃ m', t = sM s m' ∧ wq_280_7 w1 w2 w3 m' R) xs) rfl (fun xs t r1 r2 hb => by obtain ⟨w1, w2, w3, rfl, hb⟩ := ap3_ok hb; obtain ⟨m', rfl, hx⟩ := hb; exact wk_280_7 Q R (sM s m') _ _ _ (fun x m'' hy => hQ x m'' hy) r1 hx)) kLb_n) (okL_can rfl hr) (fun Y hY hl => ?_)
  have l7 := hl 7 _ rfl
  refine hY _ _ _ _ (hY _ _ _ _ (hY _ _ _ _ (?_ : Y 3 [(2, 2, true, 0), (0, 5, true, 74), (1, 0, true, x1)] [(5, true, 74)] s)))
  refine hY _ _ _ _ (hY _ _ _ _ (?_ : Y 7 [(3, 0, true, s.2.2.2 74 52), (2, 2, true, 0), (0, 5, true, 74), (1, 0, true, x1)] [] s))
  refine l7 _ _ ?_
  exact (Exists.intro s.2.2.2 (And.intro rfl h))
def we_280 : sFf := sEf 4 [(0, 5, 74), (1, 0, 0)] (fun xs s Q => ap1 (fun x1 => wq_280 x1 s.2.2.2 Q) xs)
theorem we_280_ok : kS dM 2 280 0 (.inl we_280) := sEf_ok (mi := im_m280) rfl rfl rfl (fun R xs s r1 hb => by obtain ⟨x1, rfl, hb⟩ := ap1_ok hb; exact wk_280_0 _ R s x1 (fun x m' hx => ⟨m', rfl, hx⟩) r1 hb)
/-- LMModel.barriers()I -/
def wf_281_4 (Q : Int → hy_m → Prop) (P4 : Int → Int → hy_m → Prop) (x1 : Int) (x2 : Int) (m : hy_m) : Prop := ((m 74 59) ≤ x2 → (Q x1 m)) ∧ (x2 < (m 74 59) → (0 ≤ x2 ∧ x2 < 700 ∧ (((m 106 x2) ≠ (-9) → (hy_r 0 (x1 + 0) ∧ (hy_r 0 (x2 + 1) ∧ (P4 (x1 + 0) (x2 + 1) m)))) ∧ ((m 106 x2) = (-9) → (hy_r 0 (x1 + 1) ∧ (hy_r 0 (x2 + 1) ∧ (P4 (x1 + 1) (x2 + 1) m)))))))
def wq_281_4 (x1 : Int) (x2 : Int) (m : hy_m) (Q : Int → hy_m → Prop) : Prop := wL2 hy_m (wf_281_4 Q) x1 x2 m
def wq_281 (m : hy_m) (Q : Int → hy_m → Prop) : Prop := wq_281_4 0 0 m Q
def cs_281 : List (Nat × Nat × sFS) := []
theorem cs_281_ok : kCs dM 0 cs_281 := kCs_n
def lb_281_4 (s : sS) (Q : sQ) (P4 : Int → Int → hy_m → Prop) (R : Int → hy_m → Prop) (x1 : Int) (x2 : Int) : Nat → Option (sL → sS → Prop) := sLb [(4, fun lv t => sG [(0, 5, 74), (1, 0, 0), (2, 0, 0)] lv (ap2 (fun w1 w2 => ∃ m', t = sM s m' ∧ P4 w1 w2 m')))]
set_option maxRecDepth 30000 in
set_option maxHeartbeats 1000000 in
theorem wj_281_4 (Q : sQ) (R : Int → hy_m → Prop) (s : sS) (P4 : Int → Int → hy_m → Prop) (x1 : Int) (x2 : Int) (m : hy_m) (hP4 : ∀ (z1 z2 : Int) (m : hy_m), P4 z1 z2 m → sRg [(0, 5, 74), (1, 0, 0), (2, 0, 0)] [z1, z2] → kX dM 0 im_m281 0 4 (sCan [(0, 5, 74), (1, 0, 0), (2, 0, 0)] [z1, z2]) [] (sM s m) Q) (hQ : ∀ x m', R x m' → Q x (sM s m')) (hr : sRg [(0, 5, 74), (1, 0, 0), (2, 0, 0)] [x1, x2]) (h : wf_281_4 R P4 x1 x2 m) : kX dM 0 im_m281 0 4 (sCan [(0, 5, 74), (1, 0, 0), (2, 0, 0)] [x1, x2]) [] (sM s m) Q := by
  unfold wf_281_4 at h
  refine wz2_ok (cs := cs_281) (wr := []) (lb := lb_281_4 s Q P4 R x1 x2) cs_281_ok (kLb_c (kLab (Bd := fun xs t => ap2 (fun w1 w2 => ∃ m', t = sM s m' ∧ P4 w1 w2 m') xs) rfl (fun xs t r1 r2 hb => by obtain ⟨w1, w2, rfl, hb⟩ := ap2_ok hb; obtain ⟨m', rfl, hx⟩ := hb; exact hP4 _ _ m' hx r1)) kLb_n) (okL_can rfl hr) (fun Y hY hl => ?_)
  have l4 := hl 4 _ rfl
  refine hY _ _ _ _ (hY _ _ _ _ (hY _ _ _ _ (?_ : Y 9 [(0, 5, true, 74), (1, 0, true, x1), (2, 0, true, x2)] [(0, true, m 74 59), (0, true, x2)] (sM s m))))
  refine hY _ _ _ _ ?_
  refine And.intro (fun hc => ?_) (fun hc => ?_)
  · have h := h.1 hc
    refine hY _ _ _ _ (?_ : Y 38 [(0, 5, true, 74), (1, 0, true, x1), (2, 0, true, x2)] [(0, true, x1)] (sM s m))
    refine hY _ _ _ _ ?_
    exact hQ x1 m h
  · have h := h.2 hc
    refine hY _ _ _ _ (hY _ _ _ _ (hY _ _ _ _ (?_ : Y 17 [(0, 5, true, 74), (1, 0, true, x1), (2, 0, true, x2)] [(5, true, 106), (0, true, x1)] (sM s m))))
    refine hY _ _ _ _ (?_ : Y 18 [(0, 5, true, 74), (1, 0, true, x1), (2, 0, true, x2)] [(0, true, x2), (5, true, 106), (0, true, x1)] (sM s m))
    refine hY _ _ _ _ ?_
    refine (And.intro h.1 (And.intro h.2.1 ?_))
    refine hY _ _ _ _ (?_ : Y 21 [(0, 5, true, 74), (1, 0, true, x1), (2, 0, true, x2)] [(0, true, (-9)), (0, true, m 106 x2), (0, true, x1)] (sM s m))
    refine hY _ _ _ _ ?_
    refine And.intro (fun hc => ?_) (fun hc => ?_)
    · have h := h.2.2.1 hc
      refine hY _ _ _ _ (hY _ _ _ _ (hY _ _ _ _ (?_ : Y 31 [(1, 0, false, x1 + 0), (0, 5, true, 74), (2, 0, true, x2)] [] (sM s m))))
      refine hY _ _ _ _ (hY _ _ _ _ (?_ : Y 4 [(2, 0, false, x2 + 1), (1, 0, false, x1 + 0), (0, 5, true, 74)] [] (sM s m)))
      refine l4 _ _ ?_
      refine And.intro h.1 ?_
      refine And.intro h.2.1 ?_
      exact (Exists.intro m (And.intro rfl h.2.2))
    · have h := h.2.2.2 hc
      refine hY _ _ _ _ (hY _ _ _ _ (hY _ _ _ _ (?_ : Y 30 [(0, 5, true, 74), (1, 0, true, x1), (2, 0, true, x2)] [(0, false, x1 + 1)] (sM s m))))
      refine hY _ _ _ _ (hY _ _ _ _ (hY _ _ _ _ (?_ : Y 4 [(2, 0, false, x2 + 1), (1, 0, false, x1 + 1), (0, 5, true, 74)] [] (sM s m))))
      refine l4 _ _ ?_
      refine And.intro h.1 ?_
      refine And.intro h.2.1 ?_
      exact (Exists.intro m (And.intro rfl h.2.2))
theorem wk_281_4 (Q : sQ) (R : Int → hy_m → Prop) (s : sS) (x1 : Int) (x2 : Int) (hQ : ∀ x m', R x m' → Q x (sM s m')) (hr : sRg [(0, 5, 74), (1, 0, 0), (2, 0, 0)] [x1, x2]) (h : wq_281_4 x1 x2 s.2.2.2 R) : kX dM 0 im_m281 0 4 (sCan [(0, 5, 74), (1, 0, 0), (2, 0, 0)] [x1, x2]) [] s Q :=
  h (fun x1 x2 m => sRg [(0, 5, 74), (1, 0, 0), (2, 0, 0)] [x1, x2] → kX dM 0 im_m281 0 4 (sCan [(0, 5, 74), (1, 0, 0), (2, 0, 0)] [x1, x2]) [] (sM s m) Q) (fun x1 x2 m h hr => wj_281_4 Q R s (fun x1 x2 m => sRg [(0, 5, 74), (1, 0, 0), (2, 0, 0)] [x1, x2] → kX dM 0 im_m281 0 4 (sCan [(0, 5, 74), (1, 0, 0), (2, 0, 0)] [x1, x2]) [] (sM s m) Q) x1 x2 m  (fun _ _ _ hp hr => hp hr) hQ hr h) hr
def lb_281_0 (s : sS) (Q : sQ) (R : Int → hy_m → Prop) : Nat → Option (sL → sS → Prop) := sLb [(4, fun lv t => sG [(0, 5, 74), (1, 0, 0), (2, 0, 0)] lv (ap2 (fun w1 w2 => ∃ m', t = sM s m' ∧ wq_281_4 w1 w2 m' R)))]
set_option maxRecDepth 30000 in
set_option maxHeartbeats 1000000 in
theorem wk_281_0 (Q : sQ) (R : Int → hy_m → Prop) (s : sS) (hQ : ∀ x m', R x m' → Q x (sM s m')) (hr : sRg [(0, 5, 74)] []) (h : wq_281 s.2.2.2 R) : kX dM 0 im_m281 0 0 (sCan [(0, 5, 74)] []) [] s Q := by
  unfold wq_281 at h
  refine wz2_ok (cs := cs_281) (wr := []) (lb := lb_281_0 s Q R) cs_281_ok (kLb_c (kLab (Bd := fun xs t => ap2 (fun w1 w2 => ∃ m', t = sM s m' ∧ wq_281_4 w1 w2 m' R) xs) rfl (fun xs t r1 r2 hb => by obtain ⟨w1, w2, rfl, hb⟩ := ap2_ok hb; obtain ⟨m', rfl, hx⟩ := hb; exact wk_281_4 Q R (sM s m') _ _ (fun x m'' hy => hQ x m'' hy) r1 hx)) kLb_n) (okL_can rfl hr) (fun Y hY hl => ?_)
  have l4 := hl 4 _ rfl
  refine hY _ _ _ _ (hY _ _ _ _ (hY _ _ _ _ (?_ : Y 3 [(1, 2, true, 0), (0, 5, true, 74)] [(2, true, 0)] s)))
  refine hY _ _ _ _ (?_ : Y 4 [(2, 2, true, 0), (1, 2, true, 0), (0, 5, true, 74)] [] s)
  refine l4 _ _ ?_
  exact (Exists.intro s.2.2.2 (And.intro rfl h))
def we_281 : sFf := sEf 3 [(0, 5, 74)] (fun xs s Q => ap0 (wq_281 s.2.2.2 Q) xs)
theorem we_281_ok : kS dM 1 281 0 (.inl we_281) := sEf_ok (mi := im_m281) rfl rfl rfl (fun R xs s r1 hb => by obtain ⟨rfl, hb⟩ := ap0_ok hb; exact wk_281_0 _ R s (fun x m' hx => ⟨m', rfl, hx⟩) r1 hb)
/-- LMModel.state(I)I -/
def wq_282 (x1 : Int) (m : hy_m) (Q : Int → hy_m → Prop) : Prop := ((x1 = 0 + 0 → (Q (m 74 32) m)) ∧ ((x1 = 0 + 1 → (Q (m 74 34) m)) ∧ ((x1 = 0 + 2 → (Q (m 74 35) m)) ∧ ((x1 = 0 + 3 → (wq_268 (m 74 52) m (fun r1 m1 => Q r1 m1))) ∧ ((x1 = 0 + 4 → (wq_280 x1 m (fun r2 m2 => Q r2 m2))) ∧ ((x1 = 0 + 5 → (wq_280 x1 m (fun r3 m3 => Q r3 m3))) ∧ ((x1 = 0 + 6 → (Q (m 74 59) m)) ∧ ((x1 = 0 + 7 → (wq_281 m (fun r4 m4 => Q r4 m4))) ∧ ((x1 = 0 + 8 → (Q (m 74 44) m)) ∧ ((x1 = 0 + 9 → (Q (m 74 36) m)) ∧ ((x1 = 0 + 10 → (Q (m 74 33) m)) ∧ ((x1 = 0 + 11 → (Q (m 74 37) m)) ∧ ((x1 = 0 + 12 → (Q (m 74 38) m)) ∧ (True)))))))))))))) ∧ (x1 < 0 ∨ 12 < x1 → (Q (-1) m))
theorem wc_280_r74_0t (x1 : Int) (s : sS) (R : Int → hy_m → Prop) (h : wq_280 x1 s.2.2.2 R) : we_280 [(5, true, 74), (0, true, x1)] s R := h
theorem wc_281_r74 (s : sS) (R : Int → hy_m → Prop) (h : wq_281 s.2.2.2 R) : we_281 [(5, true, 74)] s R := h
def cs_282 : List (Nat × Nat × sFS) := [(268, 0, .inl we_268), (280, 0, .inl we_280), (281, 0, .inl we_281)]
theorem cs_282_ok : kCs dM 2 cs_282 := (kCs_c (Or.inl rfl) (we_268_ok.deep (by decide)) (kCs_c (Or.inl rfl) (we_280_ok.deep (by decide)) (kCs_c (Or.inl rfl) (we_281_ok.deep (by decide)) kCs_n)))
def lb_282_0 (s : sS) (Q : sQ) (R : Int → hy_m → Prop) (x1 : Int) : Nat → Option (sL → sS → Prop) := sLb []
set_option maxRecDepth 30000 in
set_option maxHeartbeats 1000000 in
theorem wk_282_0 (Q : sQ) (R : Int → hy_m → Prop) (s : sS) (x1 : Int) (hQ : ∀ x m', R x m' → Q x (sM s m')) (hr : sRg [(0, 5, 74), (1, 0, 0)] [x1]) (h : wq_282 x1 s.2.2.2 R) : kX dM 2 im_m282 0 0 (sCan [(0, 5, 74), (1, 0, 0)] [x1]) [] s Q := by
  unfold wq_282 at h
  refine wz2_ok (cs := cs_282) (wr := []) (lb := lb_282_0 s Q R x1) cs_282_ok kLb_n (okL_can rfl hr) (fun Y hY hl => ?_)
  refine hY _ _ _ _ (?_ : Y 1 [(0, 5, true, 74), (1, 0, true, x1)] [(0, true, x1)] s)
  refine hY _ _ _ _ ?_
  refine And.intro (And.intro (fun hc => ?_) (And.intro (fun hc => ?_) (And.intro (fun hc => ?_) (And.intro (fun hc => ?_) (And.intro (fun hc => ?_) (And.intro (fun hc => ?_) (And.intro (fun hc => ?_) (And.intro (fun hc => ?_) (And.intro (fun hc => ?_) (And.intro (fun hc => ?_) (And.intro (fun hc => ?_) (And.intro (fun hc => ?_) (And.intro (fun hc => ?_) trivial))))))))))))) (fun hc => ?_)
  · have h := h.1.1 hc
    refine hY _ _ _ _ (hY _ _ _ _ (?_ : Y 72 [(0, 5, true, 74), (1, 0, true, x1)] [(0, true, s.2.2.2 74 32)] s))
    refine hY _ _ _ _ ?_
    exact hQ (s.2.2.2 74 32) s.2.2.2 h
  · have h := h.1.2.1 hc
    refine hY _ _ _ _ (hY _ _ _ _ (?_ : Y 77 [(0, 5, true, 74), (1, 0, true, x1)] [(0, true, s.2.2.2 74 34)] s))
    refine hY _ _ _ _ ?_
    exact hQ (s.2.2.2 74 34) s.2.2.2 h
  · have h := h.1.2.2.1 hc
    refine hY _ _ _ _ (hY _ _ _ _ (?_ : Y 82 [(0, 5, true, 74), (1, 0, true, x1)] [(0, true, s.2.2.2 74 35)] s))
    refine hY _ _ _ _ ?_
    exact hQ (s.2.2.2 74 35) s.2.2.2 h
  · have h := h.1.2.2.2.1 hc
    refine hY _ _ _ _ (hY _ _ _ _ (hY _ _ _ _ (?_ : Y 88 [(0, 5, true, 74), (1, 0, true, x1)] [(0, true, s.2.2.2 74 52), (5, true, 74)] s)))
    refine hY _ _ _ _ ?_
    refine Exists.intro _ (And.intro (wc_268_r74_0t (s.2.2.2 74 52) _ _ h) (fun r1 m1 h => ?_))
    show Y 91 [(0, 5, true, 74), (1, 0, true, x1)] [(0, true, r1)] (sM s m1)
    refine hY _ _ _ _ ?_
    exact hQ r1 m1 h
  · have h := h.1.2.2.2.2.1 hc
    refine hY _ _ _ _ (hY _ _ _ _ (?_ : Y 94 [(0, 5, true, 74), (1, 0, true, x1)] [(0, true, x1), (5, true, 74)] s))
    refine hY _ _ _ _ ?_
    refine Exists.intro _ (And.intro (wc_280_r74_0t x1 _ _ h) (fun r2 m2 h => ?_))
    show Y 97 [(0, 5, true, 74), (1, 0, true, x1)] [(0, true, r2)] (sM s m2)
    refine hY _ _ _ _ ?_
    exact hQ r2 m2 h
  · have h := h.1.2.2.2.2.2.1 hc
    refine hY _ _ _ _ (hY _ _ _ _ (?_ : Y 94 [(0, 5, true, 74), (1, 0, true, x1)] [(0, true, x1), (5, true, 74)] s))
    refine hY _ _ _ _ ?_
    refine Exists.intro _ (And.intro (wc_280_r74_0t x1 _ _ h) (fun r3 m3 h => ?_))
    show Y 97 [(0, 5, true, 74), (1, 0, true, x1)] [(0, true, r3)] (sM s m3)
    refine hY _ _ _ _ ?_
    exact hQ r3 m3 h
  · have h := h.1.2.2.2.2.2.2.1 hc
    refine hY _ _ _ _ (hY _ _ _ _ (?_ : Y 102 [(0, 5, true, 74), (1, 0, true, x1)] [(0, true, s.2.2.2 74 59)] s))
    refine hY _ _ _ _ ?_
    exact hQ (s.2.2.2 74 59) s.2.2.2 h
  · have h := h.1.2.2.2.2.2.2.2.1 hc
    refine hY _ _ _ _ (?_ : Y 104 [(0, 5, true, 74), (1, 0, true, x1)] [(5, true, 74)] s)
    refine hY _ _ _ _ ?_
    refine Exists.intro _ (And.intro (wc_281_r74 _ _ h) (fun r4 m4 h => ?_))
    show Y 107 [(0, 5, true, 74), (1, 0, true, x1)] [(0, true, r4)] (sM s m4)
    refine hY _ _ _ _ ?_
    exact hQ r4 m4 h
  · have h := h.1.2.2.2.2.2.2.2.2.1 hc
    refine hY _ _ _ _ (hY _ _ _ _ (?_ : Y 112 [(0, 5, true, 74), (1, 0, true, x1)] [(0, true, s.2.2.2 74 44)] s))
    refine hY _ _ _ _ ?_
    exact hQ (s.2.2.2 74 44) s.2.2.2 h
  · have h := h.1.2.2.2.2.2.2.2.2.2.1 hc
    refine hY _ _ _ _ (hY _ _ _ _ (?_ : Y 117 [(0, 5, true, 74), (1, 0, true, x1)] [(0, true, s.2.2.2 74 36)] s))
    refine hY _ _ _ _ ?_
    exact hQ (s.2.2.2 74 36) s.2.2.2 h
  · have h := h.1.2.2.2.2.2.2.2.2.2.2.1 hc
    refine hY _ _ _ _ (hY _ _ _ _ (?_ : Y 122 [(0, 5, true, 74), (1, 0, true, x1)] [(0, true, s.2.2.2 74 33)] s))
    refine hY _ _ _ _ ?_
    exact hQ (s.2.2.2 74 33) s.2.2.2 h
  · have h := h.1.2.2.2.2.2.2.2.2.2.2.2.1 hc
    refine hY _ _ _ _ (hY _ _ _ _ (?_ : Y 127 [(0, 5, true, 74), (1, 0, true, x1)] [(0, true, s.2.2.2 74 37)] s))
    refine hY _ _ _ _ ?_
    exact hQ (s.2.2.2 74 37) s.2.2.2 h
  · have h := h.1.2.2.2.2.2.2.2.2.2.2.2.2.1 hc
    refine hY _ _ _ _ (hY _ _ _ _ (?_ : Y 132 [(0, 5, true, 74), (1, 0, true, x1)] [(0, true, s.2.2.2 74 38)] s))
    refine hY _ _ _ _ ?_
    exact hQ (s.2.2.2 74 38) s.2.2.2 h
  · have h := h.2 hc
    refine hY _ _ _ _ (?_ : Y 134 [(0, 5, true, 74), (1, 0, true, x1)] [(0, true, (-1))] s)
    refine hY _ _ _ _ ?_
    exact hQ (-1) s.2.2.2 h
def we_282 : sFf := sEf 2 [(0, 5, 74), (1, 0, 0)] (fun xs s Q => ap1 (fun x1 => wq_282 x1 s.2.2.2 Q) xs)
theorem we_282_ok : kS dM 3 282 0 (.inl we_282) := sEf_ok (mi := im_m282) rfl rfl rfl (fun R xs s r1 hb => by obtain ⟨x1, rfl, hb⟩ := ap1_ok hb; exact wk_282_0 _ R s x1 (fun x m' hx => ⟨m', rfl, hx⟩) r1 hb)
/-- LMModel.isVariable(I)Z -/
def wq_283 (x1 : Int) (m : hy_m) (Q : Int → hy_m → Prop) : Prop := ((m 74 32) = 0 → (Q 0 m)) ∧ ((m 74 32) ≠ 0 → (0 ≤ (26 : Int) ∧ (26 : Int) < 28 ∧ (hy_r 0 ((m 84 26) - 1) ∧ (wq_170 x1 0 ((m 84 26) - 1) m (fun r1 m1 => (r1 = 0 → (Q 0 m1)) ∧ (r1 ≠ 0 → (Q 1 m1)))))))
def cs_283 : List (Nat × Nat × sFS) := [(170, 2, .inl we_170)]
theorem cs_283_ok : kCs dM 1 cs_283 := (kCs_c (Or.inr (Or.inr (Or.inl rfl))) (we_170_ok.deep (by decide)) kCs_n)
def lb_283_0 (s : sS) (Q : sQ) (R : Int → hy_m → Prop) (x1 : Int) : Nat → Option (sL → sS → Prop) := sLb []
set_option maxRecDepth 30000 in
set_option maxHeartbeats 1000000 in
theorem wk_283_0 (Q : sQ) (R : Int → hy_m → Prop) (s : sS) (x1 : Int) (hQ : ∀ x m', R x m' → Q x (sM s m')) (hr : sRg [(0, 5, 74), (1, 0, 0)] [x1]) (h : wq_283 x1 s.2.2.2 R) : kX dM 1 im_m283 2 0 (sCan [(0, 5, 74), (1, 0, 0)] [x1]) [] s Q := by
  unfold wq_283 at h
  refine wz2_ok (cs := cs_283) (wr := []) (lb := lb_283_0 s Q R x1) cs_283_ok kLb_n (okL_can rfl hr) (fun Y hY hl => ?_)
  refine hY _ _ _ _ (hY _ _ _ _ (?_ : Y 4 [(0, 5, true, 74), (1, 0, true, x1)] [(0, true, s.2.2.2 74 32)] s))
  refine hY _ _ _ _ ?_
  refine And.intro (fun hc => ?_) (fun hc => ?_)
  · have h := h.1 hc
    refine hY _ _ _ _ (?_ : Y 29 [(0, 5, true, 74), (1, 0, true, x1)] [(2, true, 0)] s)
    refine hY _ _ _ _ ?_
    exact hQ 0 s.2.2.2 h
  · have h := h.2 hc
    refine hY _ _ _ _ (hY _ _ _ _ (hY _ _ _ _ (?_ : Y 10 [(0, 5, true, 74), (1, 0, true, x1)] [(5, true, 74), (2, true, 0), (0, true, x1)] s)))
    refine hY _ _ _ _ (hY _ _ _ _ (?_ : Y 15 [(0, 5, true, 74), (1, 0, true, x1)] [(0, true, 26), (5, true, 84), (2, true, 0), (0, true, x1)] s))
    refine hY _ _ _ _ ?_
    refine (And.intro h.1 (And.intro h.2.1 ?_))
    refine hY _ _ _ _ (hY _ _ _ _ (?_ : Y 18 [(0, 5, true, 74), (1, 0, true, x1)] [(0, false, (s.2.2.2 84 26) - 1), (2, true, 0), (0, true, x1)] s))
    refine hY _ _ _ _ ?_
    refine Exists.intro _ (And.intro (wc_170_0t_2t_0f x1 0 ((s.2.2.2 84 26) - 1) _ _ h.2.2) (fun r1 m1 h => ?_))
    show Y 21 [(0, 5, true, 74), (1, 0, true, x1)] [(2, true, r1)] (sM s m1)
    refine hY _ _ _ _ ?_
    refine And.intro (fun hc => ?_) (fun hc => ?_)
    · have h := h.1 hc
      refine hY _ _ _ _ (?_ : Y 29 [(0, 5, true, 74), (1, 0, true, x1)] [(2, true, 0)] (sM s m1))
      refine hY _ _ _ _ ?_
      exact hQ 0 m1 h
    · have h := h.2 hc
      refine hY _ _ _ _ (hY _ _ _ _ (?_ : Y 29 [(0, 5, true, 74), (1, 0, true, x1)] [(2, true, 1)] (sM s m1)))
      refine hY _ _ _ _ ?_
      exact hQ 1 m1 h
def we_283 : sFf := sEf 2 [(0, 5, 74), (1, 0, 0)] (fun xs s Q => ap1 (fun x1 => wq_283 x1 s.2.2.2 Q) xs)
theorem we_283_ok : kS dM 2 283 2 (.inl we_283) := sEf_ok (mi := im_m283) rfl rfl rfl (fun R xs s r1 hb => by obtain ⟨x1, rfl, hb⟩ := ap1_ok hb; exact wk_283_0 _ R s x1 (fun x m' hx => ⟨m', rfl, hx⟩) r1 hb)
/-- LMModel.sameAs(J)I -/
def wf_284_2 (x1 : Int) (Q : Int → hy_m → Prop) (P2 : Int → hy_m → Prop) (x3 : Int) (m : hy_m) : Prop := wq_237 (jO 2305843009213693952 x3) m (fun r1 m1 => (r1 = x1 → (Q x3 m1)) ∧ (r1 ≠ x1 → (hy_r 0 (x3 + 1) ∧ (P2 (x3 + 1) m1))))
def wq_284_2 (x1 : Int) (x3 : Int) (m : hy_m) (Q : Int → hy_m → Prop) : Prop := wL1 hy_m (wf_284_2 x1 Q) x3 m
def wq_284 (x1 : Int) (m : hy_m) (Q : Int → hy_m → Prop) : Prop := wq_284_2 x1 0 m Q
def cs_284 : List (Nat × Nat × sFS) := [(237, 1, .inl we_237)]
theorem cs_284_ok : kCs dM 2 cs_284 := (kCs_c (Or.inr (Or.inl rfl)) (we_237_ok.deep (by decide)) kCs_n)
def lb_284_2 (s : sS) (Q : sQ) (P2 : Int → hy_m → Prop) (R : Int → hy_m → Prop) (x1 : Int) (x3 : Int) : Nat → Option (sL → sS → Prop) := sLb [(2, fun lv t => sG [(0, 5, 74), (1, 1, 0), (3, 0, 0)] lv (ap2 (fun w1 w3 => ∃ m', t = sM s m' ∧ w1 = x1 ∧ P2 w3 m')))]
set_option maxRecDepth 30000 in
set_option maxHeartbeats 1000000 in
theorem wj_284_2 (Q : sQ) (R : Int → hy_m → Prop) (s : sS) (P2 : Int → hy_m → Prop) (x1 : Int) (x3 : Int) (m : hy_m) (hP2 : ∀ (z3 : Int) (m : hy_m), P2 z3 m → sRg [(0, 5, 74), (1, 1, 0), (3, 0, 0)] [x1, z3] → kX dM 2 im_m284 0 2 (sCan [(0, 5, 74), (1, 1, 0), (3, 0, 0)] [x1, z3]) [] (sM s m) Q) (hQ : ∀ x m', R x m' → Q x (sM s m')) (hr : sRg [(0, 5, 74), (1, 1, 0), (3, 0, 0)] [x1, x3]) (h : wf_284_2 x1 R P2 x3 m) : kX dM 2 im_m284 0 2 (sCan [(0, 5, 74), (1, 1, 0), (3, 0, 0)] [x1, x3]) [] (sM s m) Q := by
  unfold wf_284_2 at h
  refine wz2_ok (cs := cs_284) (wr := []) (lb := lb_284_2 s Q P2 R x1 x3) cs_284_ok (kLb_c (kLab (Bd := fun xs t => ap2 (fun w1 w3 => ∃ m', t = sM s m' ∧ w1 = x1 ∧ P2 w3 m') xs) rfl (fun xs t r1 r2 hb => by obtain ⟨w1, w3, rfl, hb⟩ := ap2_ok hb; obtain ⟨m', rfl, rfl, hx⟩ := hb; exact hP2 _ m' hx r1)) kLb_n) (okL_can rfl hr) (fun Y hY hl => ?_)
  have l2 := hl 2 _ rfl
  refine hY _ _ _ _ (hY _ _ _ _ (hY _ _ _ _ (?_ : Y 7 [(0, 5, true, 74), (1, 1, true, x1), (3, 0, true, x3)] [(0, true, x3), (1, true, 2305843009213693952), (5, true, 74)] (sM s m))))
  refine hY _ _ _ _ ?_
  show Y 8 [(0, 5, true, 74), (1, 1, true, x1), (3, 0, true, x3)] [(1, true, x3), (1, true, 2305843009213693952), (5, true, 74)] (sM s m)
  refine hY _ _ _ _ (?_ : Y 9 [(0, 5, true, 74), (1, 1, true, x1), (3, 0, true, x3)] [(1, true, jO 2305843009213693952 x3), (5, true, 74)] (sM s m))
  refine hY _ _ _ _ ?_
  refine Exists.intro _ (And.intro (wc_237_r74_1t (jO 2305843009213693952 x3) _ _ h) (fun r1 m1 h => ?_))
  refine hY _ _ _ _ (?_ : Y 13 [(0, 5, true, 74), (1, 1, true, x1), (3, 0, true, x3)] [(1, true, x1), (1, true, r1)] (sM s m1))
  refine hY _ _ _ _ ?_
  refine And.intro (fun hc => ?_) (fun hc => ?_)
  · have h := h.1 hc
    refine hY _ _ _ _ (?_ : Y 24 [(0, 5, true, 74), (1, 1, true, x1), (3, 0, true, x3)] [(0, true, x3)] (sM s m1))
    refine hY _ _ _ _ ?_
    exact hQ x3 m1 h
  · have h := h.2 hc
    refine hY _ _ _ _ (hY _ _ _ _ (?_ : Y 2 [(3, 0, false, x3 + 1), (0, 5, true, 74), (1, 1, true, x1)] [] (sM s m1)))
    refine l2 _ _ ?_
    refine And.intro h.1 ?_
    exact (Exists.intro m1 (And.intro rfl (And.intro rfl h.2)))
theorem wk_284_2 (Q : sQ) (R : Int → hy_m → Prop) (s : sS) (x1 : Int) (x3 : Int) (hQ : ∀ x m', R x m' → Q x (sM s m')) (hr : sRg [(0, 5, 74), (1, 1, 0), (3, 0, 0)] [x1, x3]) (h : wq_284_2 x1 x3 s.2.2.2 R) : kX dM 2 im_m284 0 2 (sCan [(0, 5, 74), (1, 1, 0), (3, 0, 0)] [x1, x3]) [] s Q :=
  h (fun x3 m => sRg [(0, 5, 74), (1, 1, 0), (3, 0, 0)] [x1, x3] → kX dM 2 im_m284 0 2 (sCan [(0, 5, 74), (1, 1, 0), (3, 0, 0)] [x1, x3]) [] (sM s m) Q) (fun x3 m h hr => wj_284_2 Q R s (fun x3 m => sRg [(0, 5, 74), (1, 1, 0), (3, 0, 0)] [x1, x3] → kX dM 2 im_m284 0 2 (sCan [(0, 5, 74), (1, 1, 0), (3, 0, 0)] [x1, x3]) [] (sM s m) Q) x1 x3 m  (fun _ _ hp hr => hp hr) hQ hr h) hr
def lb_284_0 (s : sS) (Q : sQ) (R : Int → hy_m → Prop) (x1 : Int) : Nat → Option (sL → sS → Prop) := sLb [(2, fun lv t => sG [(0, 5, 74), (1, 1, 0), (3, 0, 0)] lv (ap2 (fun w1 w3 => ∃ m', t = sM s m' ∧ wq_284_2 w1 w3 m' R)))]
set_option maxRecDepth 30000 in
set_option maxHeartbeats 1000000 in
theorem wk_284_0 (Q : sQ) (R : Int → hy_m → Prop) (s : sS) (x1 : Int) (hQ : ∀ x m', R x m' → Q x (sM s m')) (hr : sRg [(0, 5, 74), (1, 1, 0)] [x1]) (h : wq_284 x1 s.2.2.2 R) : kX dM 2 im_m284 0 0 (sCan [(0, 5, 74), (1, 1, 0)] [x1]) [] s Q := by
  unfold wq_284 at h
  refine wz2_ok (cs := cs_284) (wr := []) (lb := lb_284_0 s Q R x1) cs_284_ok (kLb_c (kLab (Bd := fun xs t => ap2 (fun w1 w3 => ∃ m', t = sM s m' ∧ wq_284_2 w1 w3 m' R) xs) rfl (fun xs t r1 r2 hb => by obtain ⟨w1, w3, rfl, hb⟩ := ap2_ok hb; obtain ⟨m', rfl, hx⟩ := hb; exact wk_284_2 Q R (sM s m') _ _ (fun x m'' hy => hQ x m'' hy) r1 hx)) kLb_n) (okL_can rfl hr) (fun Y hY hl => ?_)
  have l2 := hl 2 _ rfl
  refine hY _ _ _ _ (hY _ _ _ _ (?_ : Y 2 [(3, 2, true, 0), (0, 5, true, 74), (1, 1, true, x1)] [] s))
  refine l2 _ _ ?_
  exact (Exists.intro s.2.2.2 (And.intro rfl h))
def we_284 : sFf := sEf 4 [(0, 5, 74), (1, 1, 0)] (fun xs s Q => ap1 (fun x1 => wq_284 x1 s.2.2.2 Q) xs)
theorem we_284_ok : kS dM 3 284 0 (.inl we_284) := sEf_ok (mi := im_m284) rfl rfl rfl (fun R xs s r1 hb => by obtain ⟨x1, rfl, hb⟩ := ap1_ok hb; exact wk_284_0 _ R s x1 (fun x m' hx => ⟨m', rfl, hx⟩) r1 hb)
/-- LMModel.variable(II)I -/
def wq_285 (x1 : Int) (x2 : Int) (m : hy_m) (Q : Int → hy_m → Prop) : Prop := wq_283 x1 m (fun r1 m1 => (r1 ≠ 0 → (wq_237 (jO 2305843009213693952 x1) m1 (fun r2 m2 => ((x2 = 0 + 0 → (wq_230 r2 m2 (fun r3 m3 => (r3 = 0 → (Q 1 m3)) ∧ (r3 ≠ 0 → (Q 0 m3))))) ∧ ((x2 = 0 + 1 → (wq_238 r2 m2 (fun r4 m4 => Q r4 m4))) ∧ ((x2 = 0 + 2 → (wq_238 r2 m2 (fun r5 m5 => (r5 ≠ 2 → (Q (-9) m5)) ∧ (r5 = 2 → (wq_239 r2 m5 (fun r6 m6 => Q r6 m6)))))) ∧ ((x2 = 0 + 3 → (wq_230 r2 m2 (fun r7 m7 => (r7 = 0 → (Q (-9) m7)) ∧ (r7 ≠ 0 → (wq_284 r2 m7 (fun r8 m8 => Q r8 m8)))))) ∧ (True))))) ∧ (x2 < 0 ∨ 3 < x2 → (Q (-1) m2))))) ∧ (r1 = 0 → (Q (-1) m1)))
theorem wc_283_r74_0t (x1 : Int) (s : sS) (R : Int → hy_m → Prop) (h : wq_283 x1 s.2.2.2 R) : we_283 [(5, true, 74), (0, true, x1)] s R := h
theorem wc_284_r74_1t (x1 : Int) (s : sS) (R : Int → hy_m → Prop) (h : wq_284 x1 s.2.2.2 R) : we_284 [(5, true, 74), (1, true, x1)] s R := h
def cs_285 : List (Nat × Nat × sFS) := [(230, 2, .inl we_230), (237, 1, .inl we_237), (238, 0, .inl we_238), (239, 0, .inl we_239), (283, 2, .inl we_283), (284, 0, .inl we_284)]
theorem cs_285_ok : kCs dM 3 cs_285 := (kCs_c (Or.inr (Or.inr (Or.inl rfl))) (we_230_ok.deep (by decide)) (kCs_c (Or.inr (Or.inl rfl)) (we_237_ok.deep (by decide)) (kCs_c (Or.inl rfl) (we_238_ok.deep (by decide)) (kCs_c (Or.inl rfl) (we_239_ok.deep (by decide)) (kCs_c (Or.inr (Or.inr (Or.inl rfl))) (we_283_ok.deep (by decide)) (kCs_c (Or.inl rfl) (we_284_ok.deep (by decide)) kCs_n))))))
def lb_285_0 (s : sS) (Q : sQ) (R : Int → hy_m → Prop) (x1 : Int) (x2 : Int) : Nat → Option (sL → sS → Prop) := sLb []
set_option maxRecDepth 30000 in
set_option maxHeartbeats 1000000 in
theorem wk_285_0 (Q : sQ) (R : Int → hy_m → Prop) (s : sS) (x1 : Int) (x2 : Int) (hQ : ∀ x m', R x m' → Q x (sM s m')) (hr : sRg [(0, 5, 74), (1, 0, 0), (2, 0, 0)] [x1, x2]) (h : wq_285 x1 x2 s.2.2.2 R) : kX dM 3 im_m285 0 0 (sCan [(0, 5, 74), (1, 0, 0), (2, 0, 0)] [x1, x2]) [] s Q := by
  unfold wq_285 at h
  refine wz2_ok (cs := cs_285) (wr := []) (lb := lb_285_0 s Q R x1 x2) cs_285_ok kLb_n (okL_can rfl hr) (fun Y hY hl => ?_)
  refine hY _ _ _ _ (hY _ _ _ _ (?_ : Y 2 [(0, 5, true, 74), (1, 0, true, x1), (2, 0, true, x2)] [(0, true, x1), (5, true, 74)] s))
  refine hY _ _ _ _ ?_
  refine Exists.intro _ (And.intro (wc_283_r74_0t x1 _ _ h) (fun r1 m1 h => ?_))
  show Y 5 [(0, 5, true, 74), (1, 0, true, x1), (2, 0, true, x2)] [(2, true, r1)] (sM s m1)
  refine hY _ _ _ _ ?_
  refine And.intro (fun hc => ?_) (fun hc => ?_)
  · have h := h.1 hc
    refine hY _ _ _ _ (hY _ _ _ _ (hY _ _ _ _ (?_ : Y 15 [(0, 5, true, 74), (1, 0, true, x1), (2, 0, true, x2)] [(0, true, x1), (1, true, 2305843009213693952), (5, true, 74)] (sM s m1))))
    refine hY _ _ _ _ ?_
    show Y 16 [(0, 5, true, 74), (1, 0, true, x1), (2, 0, true, x2)] [(1, true, x1), (1, true, 2305843009213693952), (5, true, 74)] (sM s m1)
    refine hY _ _ _ _ (?_ : Y 17 [(0, 5, true, 74), (1, 0, true, x1), (2, 0, true, x2)] [(1, true, jO 2305843009213693952 x1), (5, true, 74)] (sM s m1))
    refine hY _ _ _ _ ?_
    refine Exists.intro _ (And.intro (wc_237_r74_1t (jO 2305843009213693952 x1) _ _ h) (fun r2 m2 h => ?_))
    refine hY _ _ _ _ (hY _ _ _ _ (?_ : Y 22 [(3, 1, true, r2), (0, 5, true, 74), (1, 0, true, x1), (2, 0, true, x2)] [(0, true, x2)] (sM s m2)))
    refine hY _ _ _ _ ?_
    refine And.intro (And.intro (fun hc => ?_) (And.intro (fun hc => ?_) (And.intro (fun hc => ?_) (And.intro (fun hc => ?_) trivial)))) (fun hc => ?_)
    · have h := h.1.1 hc
      refine hY _ _ _ _ (?_ : Y 53 [(3, 1, true, r2), (0, 5, true, 74), (1, 0, true, x1), (2, 0, true, x2)] [(1, true, r2)] (sM s m2))
      refine hY _ _ _ _ ?_
      refine Exists.intro _ (And.intro (wc_230_1t r2 _ _ h) (fun r3 m3 h => ?_))
      show Y 56 [(3, 1, true, r2), (0, 5, true, 74), (1, 0, true, x1), (2, 0, true, x2)] [(2, true, r3)] (sM s m3)
      refine hY _ _ _ _ ?_
      refine And.intro (fun hc => ?_) (fun hc => ?_)
      · have h := h.1 hc
        refine hY _ _ _ _ (?_ : Y 64 [(3, 1, true, r2), (0, 5, true, 74), (1, 0, true, x1), (2, 0, true, x2)] [(2, true, 1)] (sM s m3))
        refine hY _ _ _ _ ?_
        exact hQ 1 m3 h
      · have h := h.2 hc
        refine hY _ _ _ _ (hY _ _ _ _ (?_ : Y 64 [(3, 1, true, r2), (0, 5, true, 74), (1, 0, true, x1), (2, 0, true, x2)] [(2, true, 0)] (sM s m3)))
        refine hY _ _ _ _ ?_
        exact hQ 0 m3 h
    · have h := h.1.2.1 hc
      refine hY _ _ _ _ (hY _ _ _ _ (?_ : Y 67 [(3, 1, true, r2), (0, 5, true, 74), (1, 0, true, x1), (2, 0, true, x2)] [(1, true, r2), (5, true, 74)] (sM s m2)))
      refine hY _ _ _ _ ?_
      refine Exists.intro _ (And.intro (wc_238_r74_1t r2 _ _ h) (fun r4 m4 h => ?_))
      show Y 70 [(3, 1, true, r2), (0, 5, true, 74), (1, 0, true, x1), (2, 0, true, x2)] [(0, true, r4)] (sM s m4)
      refine hY _ _ _ _ ?_
      exact hQ r4 m4 h
    · have h := h.1.2.2.1 hc
      refine hY _ _ _ _ (hY _ _ _ _ (?_ : Y 73 [(3, 1, true, r2), (0, 5, true, 74), (1, 0, true, x1), (2, 0, true, x2)] [(1, true, r2), (5, true, 74)] (sM s m2)))
      refine hY _ _ _ _ ?_
      refine Exists.intro _ (And.intro (wc_238_r74_1t r2 _ _ h) (fun r5 m5 h => ?_))
      refine hY _ _ _ _ (?_ : Y 77 [(3, 1, true, r2), (0, 5, true, 74), (1, 0, true, x1), (2, 0, true, x2)] [(0, true, 2), (0, true, r5)] (sM s m5))
      refine hY _ _ _ _ ?_
      refine And.intro (fun hc => ?_) (fun hc => ?_)
      · have h := h.1 hc
        refine hY _ _ _ _ (?_ : Y 90 [(3, 1, true, r2), (0, 5, true, 74), (1, 0, true, x1), (2, 0, true, x2)] [(0, true, (-9))] (sM s m5))
        refine hY _ _ _ _ ?_
        exact hQ (-9) m5 h
      · have h := h.2 hc
        refine hY _ _ _ _ (hY _ _ _ _ (?_ : Y 82 [(3, 1, true, r2), (0, 5, true, 74), (1, 0, true, x1), (2, 0, true, x2)] [(1, true, r2), (5, true, 74)] (sM s m5)))
        refine hY _ _ _ _ ?_
        refine Exists.intro _ (And.intro (wc_239_r74_1t r2 _ _ h) (fun r6 m6 h => ?_))
        refine hY _ _ _ _ (?_ : Y 90 [(3, 1, true, r2), (0, 5, true, 74), (1, 0, true, x1), (2, 0, true, x2)] [(0, true, r6)] (sM s m6))
        refine hY _ _ _ _ ?_
        exact hQ r6 m6 h
    · have h := h.1.2.2.2.1 hc
      refine hY _ _ _ _ (?_ : Y 92 [(3, 1, true, r2), (0, 5, true, 74), (1, 0, true, x1), (2, 0, true, x2)] [(1, true, r2)] (sM s m2))
      refine hY _ _ _ _ ?_
      refine Exists.intro _ (And.intro (wc_230_1t r2 _ _ h) (fun r7 m7 h => ?_))
      show Y 95 [(3, 1, true, r2), (0, 5, true, 74), (1, 0, true, x1), (2, 0, true, x2)] [(2, true, r7)] (sM s m7)
      refine hY _ _ _ _ ?_
      refine And.intro (fun hc => ?_) (fun hc => ?_)
      · have h := h.1 hc
        refine hY _ _ _ _ (?_ : Y 108 [(3, 1, true, r2), (0, 5, true, 74), (1, 0, true, x1), (2, 0, true, x2)] [(0, true, (-9))] (sM s m7))
        refine hY _ _ _ _ ?_
        exact hQ (-9) m7 h
      · have h := h.2 hc
        refine hY _ _ _ _ (hY _ _ _ _ (?_ : Y 100 [(3, 1, true, r2), (0, 5, true, 74), (1, 0, true, x1), (2, 0, true, x2)] [(1, true, r2), (5, true, 74)] (sM s m7)))
        refine hY _ _ _ _ ?_
        refine Exists.intro _ (And.intro (wc_284_r74_1t r2 _ _ h) (fun r8 m8 h => ?_))
        refine hY _ _ _ _ (?_ : Y 108 [(3, 1, true, r2), (0, 5, true, 74), (1, 0, true, x1), (2, 0, true, x2)] [(0, true, r8)] (sM s m8))
        refine hY _ _ _ _ ?_
        exact hQ r8 m8 h
    · have h := h.2 hc
      refine hY _ _ _ _ (?_ : Y 110 [(3, 1, true, r2), (0, 5, true, 74), (1, 0, true, x1), (2, 0, true, x2)] [(0, true, (-1))] (sM s m2))
      refine hY _ _ _ _ ?_
      exact hQ (-1) m2 h
  · have h := h.2 hc
    refine hY _ _ _ _ (?_ : Y 9 [(0, 5, true, 74), (1, 0, true, x1), (2, 0, true, x2)] [(0, true, (-1))] (sM s m1))
    refine hY _ _ _ _ ?_
    exact hQ (-1) m1 h
def we_285 : sFf := sEf 5 [(0, 5, 74), (1, 0, 0), (2, 0, 0)] (fun xs s Q => ap2 (fun x1 x2 => wq_285 x1 x2 s.2.2.2 Q) xs)
theorem we_285_ok : kS dM 4 285 0 (.inl we_285) := sEf_ok (mi := im_m285) rfl rfl rfl (fun R xs s r1 hb => by obtain ⟨x1, x2, rfl, hb⟩ := ap2_ok hb; exact wk_285_0 _ R s x1 x2 (fun x m' hx => ⟨m', rfl, hx⟩) r1 hb)
/-- LMModel.puts(I)V -/
def wq_286 (x1 : Int) (m : hy_m) (Q : Int → hy_m → Prop) : Prop := (120 ≤ (m 74 70) → (Q 0 m)) ∧ ((m 74 70) < 120 → (0 ≤ (m 74 70) ∧ (m 74 70) < 120 ∧ (hy_r 0 ((m 74 70) + 1) ∧ (Q 0 (hy_u (hy_u m 117 (m 74 70) x1) 74 70 ((m 74 70) + 1))))))
def cs_286 : List (Nat × Nat × sFS) := []
theorem cs_286_ok : kCs dM 0 cs_286 := kCs_n
def lb_286_0 (s : sS) (Q : sQ) (R : Int → hy_m → Prop) (x1 : Int) : Nat → Option (sL → sS → Prop) := sLb []
set_option maxRecDepth 30000 in
set_option maxHeartbeats 1000000 in
theorem wk_286_0 (Q : sQ) (R : Int → hy_m → Prop) (s : sS) (x1 : Int) (hQ : ∀ x m', R x m' → Q x (sM s m')) (hr : sRg [(0, 5, 74), (1, 0, 0)] [x1]) (h : wq_286 x1 s.2.2.2 R) : kX dM 0 im_m286 9 0 (sCan [(0, 5, 74), (1, 0, 0)] [x1]) [] s Q := by
  unfold wq_286 at h
  refine wz2_ok (cs := cs_286) (wr := []) (lb := lb_286_0 s Q R x1) cs_286_ok kLb_n (okL_can rfl hr) (fun Y hY hl => ?_)
  refine hY _ _ _ _ (hY _ _ _ _ (hY _ _ _ _ (?_ : Y 6 [(0, 5, true, 74), (1, 0, true, x1)] [(0, true, 120), (0, true, s.2.2.2 74 70)] s)))
  refine hY _ _ _ _ ?_
  refine And.intro (fun hc => ?_) (fun hc => ?_)
  · have h := h.1 hc
    show Y 29 [(0, 5, true, 74), (1, 0, true, x1)] [] s
    refine hY _ _ _ _ ?_
    exact hQ 0 s.2.2.2 h
  · have h := h.2 hc
    refine hY _ _ _ _ (hY _ _ _ _ (hY _ _ _ _ (?_ : Y 14 [(0, 5, true, 74), (1, 0, true, x1)] [(5, true, 74), (5, true, 117)] s)))
    refine hY _ _ _ _ (hY _ _ _ _ (?_ : Y 18 [(0, 5, true, 74), (1, 0, true, x1)] [(0, true, x1), (0, true, s.2.2.2 74 70), (5, true, 117)] s))
    refine hY _ _ _ _ ?_
    refine (And.intro h.1 (And.intro h.2.1 ?_))
    refine hY _ _ _ _ (hY _ _ _ _ (hY _ _ _ _ (?_ : Y 24 [(0, 5, true, 74), (1, 0, true, x1)] [(0, true, s.2.2.2 74 70), (5, true, 74)] (sM s (hy_u s.2.2.2 117 (s.2.2.2 74 70) x1)))))
    refine hY _ _ _ _ (hY _ _ _ _ (?_ : Y 26 [(0, 5, true, 74), (1, 0, true, x1)] [(0, false, (s.2.2.2 74 70) + 1), (5, true, 74)] (sM s (hy_u s.2.2.2 117 (s.2.2.2 74 70) x1))))
    refine hY _ _ _ _ ?_
    refine And.intro h.2.2.1 ?_
    show Y 29 [(0, 5, true, 74), (1, 0, true, x1)] [] (sM s (hy_u (hy_u s.2.2.2 117 (s.2.2.2 74 70) x1) 74 70 ((s.2.2.2 74 70) + 1)))
    refine hY _ _ _ _ ?_
    exact hQ 0 (hy_u (hy_u s.2.2.2 117 (s.2.2.2 74 70) x1) 74 70 ((s.2.2.2 74 70) + 1)) h.2.2.2
def we_286 : sFf := sEf 2 [(0, 5, 74), (1, 0, 0)] (fun xs s Q => ap1 (fun x1 => wq_286 x1 s.2.2.2 Q) xs)
theorem we_286_ok : kS dM 1 286 9 (.inl we_286) := sEf_ok (mi := im_m286) rfl rfl rfl (fun R xs s r1 hb => by obtain ⟨x1, rfl, hb⟩ := ap1_ok hb; exact wk_286_0 _ R s x1 (fun x m' hx => ⟨m', rfl, hx⟩) r1 hb)
/-- LMModel.putNumber(J)V -/
def wf_287_50 (x3 : Int) (Q : Int → hy_m → Prop) (P50 : Int → hy_m → Prop) (x5 : Int) (m : hy_m) : Prop := (x5 ≤ 0 → (Q 0 m)) ∧ (0 < x5 → (0 ≤ x3 ∧ 0 < x5 ∧ (0 ≤ (x3 / x5) ∧ 0 < (10 : Int) ∧ (hy_r 0 (48 + ((x3 / x5) % 10)) ∧ (wq_286 (48 + ((x3 / x5) % 10)) m (fun _ m1 => 0 ≤ x5 ∧ 0 < (10 : Int) ∧ (P50 (x5 / 10) m1)))))))
def wq_287_50 (x3 : Int) (x5 : Int) (m : hy_m) (Q : Int → hy_m → Prop) : Prop := wL1 hy_m (wf_287_50 x3 Q) x5 m
def wf_287_16 (x1 : Int) (x3 : Int) (Q : Int → hy_m → Prop) (P16 : Int → hy_m → Prop) (x5 : Int) (m : hy_m) : Prop := 0 ≤ x3 ∧ 0 < x5 ∧ (((x3 / x5) < 10 → ((0 ≤ x1 → (wq_287_50 x3 x5 m Q)) ∧ (x1 < 0 → (wq_286 45 m (fun _ m1 => wq_287_50 x3 x5 m1 Q))))) ∧ (10 ≤ (x3 / x5) → (hy_r 1 (10 * x5) ∧ (P16 (10 * x5) m))))
def wq_287_16 (x1 : Int) (x3 : Int) (x5 : Int) (m : hy_m) (Q : Int → hy_m → Prop) : Prop := wL1 hy_m (wf_287_16 x1 x3 Q) x5 m
def wq_287 (x1 : Int) (m : hy_m) (Q : Int → hy_m → Prop) : Prop := (0 ≤ x1 → (wq_287_16 x1 x1 1 m Q)) ∧ (x1 < 0 → (hy_r 1 (-x1) ∧ (wq_287_16 x1 (-x1) 1 m Q)))
theorem wc_286_r74_0f (x1 : Int) (s : sS) (R : Int → hy_m → Prop) (h : hy_r 0 x1 ∧ wq_286 x1 s.2.2.2 R) : we_286 [(5, true, 74), (0, false, x1)] s R := h
theorem wc_286_r74_0t (x1 : Int) (s : sS) (R : Int → hy_m → Prop) (h : wq_286 x1 s.2.2.2 R) : we_286 [(5, true, 74), (0, true, x1)] s R := h
def cs_287 : List (Nat × Nat × sFS) := [(286, 9, .inl we_286)]
theorem cs_287_ok : kCs dM 1 cs_287 := (kCs_c (Or.inr (Or.inr (Or.inr (Or.inr rfl)))) (we_286_ok.deep (by decide)) kCs_n)
def lb_287_50 (s : sS) (Q : sQ) (P50 : Int → hy_m → Prop) (R : Int → hy_m → Prop) (x3 : Int) (x5 : Int) : Nat → Option (sL → sS → Prop) := sLb [(50, fun lv t => sG [(0, 5, 74), (3, 1, 0), (5, 1, 0)] lv (ap2 (fun w3 w5 => ∃ m', t = sM s m' ∧ w3 = x3 ∧ P50 w5 m')))]
set_option maxRecDepth 30000 in
set_option maxHeartbeats 1000000 in
theorem wj_287_50 (Q : sQ) (R : Int → hy_m → Prop) (s : sS) (P50 : Int → hy_m → Prop) (x3 : Int) (x5 : Int) (m : hy_m) (hP50 : ∀ (z5 : Int) (m : hy_m), P50 z5 m → sRg [(0, 5, 74), (3, 1, 0), (5, 1, 0)] [x3, z5] → kX dM 1 im_m287 9 50 (sCan [(0, 5, 74), (3, 1, 0), (5, 1, 0)] [x3, z5]) [] (sM s m) Q) (hQ : ∀ x m', R x m' → Q x (sM s m')) (hr : sRg [(0, 5, 74), (3, 1, 0), (5, 1, 0)] [x3, x5]) (h : wf_287_50 x3 R P50 x5 m) : kX dM 1 im_m287 9 50 (sCan [(0, 5, 74), (3, 1, 0), (5, 1, 0)] [x3, x5]) [] (sM s m) Q := by
  unfold wf_287_50 at h
  refine wz2_ok (cs := cs_287) (wr := []) (lb := lb_287_50 s Q P50 R x3 x5) cs_287_ok (kLb_c (kLab (Bd := fun xs t => ap2 (fun w3 w5 => ∃ m', t = sM s m' ∧ w3 = x3 ∧ P50 w5 m') xs) rfl (fun xs t r1 r2 hb => by obtain ⟨w3, w5, rfl, hb⟩ := ap2_ok hb; obtain ⟨m', rfl, rfl, hx⟩ := hb; exact hP50 _ m' hx r1)) kLb_n) (okL_can rfl hr) (fun Y hY hl => ?_)
  have l50 := hl 50 _ rfl
  refine hY _ _ _ _ (hY _ _ _ _ (?_ : Y 53 [(0, 5, true, 74), (3, 1, true, x3), (5, 1, true, x5)] [(1, true, 0), (1, true, x5)] (sM s m)))
  refine hY _ _ _ _ ?_
  refine And.intro (fun hc => ?_) (fun hc => ?_)
  · have h := h.1 hc
    show Y 85 [(0, 5, true, 74), (3, 1, true, x3), (5, 1, true, x5)] [] (sM s m)
    refine hY _ _ _ _ ?_
    exact hQ 0 m h
  · have h := h.2 hc
    refine hY _ _ _ _ (hY _ _ _ _ (hY _ _ _ _ (?_ : Y 62 [(0, 5, true, 74), (3, 1, true, x3), (5, 1, true, x5)] [(1, true, x3), (1, true, 48), (5, true, 74)] (sM s m))))
    refine hY _ _ _ _ (?_ : Y 64 [(0, 5, true, 74), (3, 1, true, x3), (5, 1, true, x5)] [(1, true, x5), (1, true, x3), (1, true, 48), (5, true, 74)] (sM s m))
    refine hY _ _ _ _ ?_
    refine (And.intro h.1 (And.intro h.2.1 ?_))
    refine hY _ _ _ _ (?_ : Y 68 [(0, 5, true, 74), (3, 1, true, x3), (5, 1, true, x5)] [(1, true, 10), (1, true, x3 / x5), (1, true, 48), (5, true, 74)] (sM s m))
    refine hY _ _ _ _ ?_
    refine (And.intro h.2.2.1 (And.intro h.2.2.2.1 ?_))
    refine hY _ _ _ _ (hY _ _ _ _ (?_ : Y 71 [(0, 5, true, 74), (3, 1, true, x3), (5, 1, true, x5)] [(0, false, 48 + ((x3 / x5) % 10)), (5, true, 74)] (sM s m)))
    refine hY _ _ _ _ ?_
    refine Exists.intro _ (And.intro (wc_286_r74_0f (48 + ((x3 / x5) % 10)) _ _ h.2.2.2.2) (fun r1 m1 h => ?_))
    refine hY _ _ _ _ (hY _ _ _ _ (?_ : Y 79 [(0, 5, true, 74), (3, 1, true, x3), (5, 1, true, x5)] [(1, true, 10), (1, true, x5)] (sM s m1)))
    refine hY _ _ _ _ ?_
    refine (And.intro h.1 (And.intro h.2.1 ?_))
    refine hY _ _ _ _ (hY _ _ _ _ (?_ : Y 50 [(5, 1, true, x5 / 10), (0, 5, true, 74), (3, 1, true, x3)] [] (sM s m1)))
    refine l50 _ _ ?_
    exact (Exists.intro m1 (And.intro rfl (And.intro rfl h.2.2)))
theorem wk_287_50 (Q : sQ) (R : Int → hy_m → Prop) (s : sS) (x3 : Int) (x5 : Int) (hQ : ∀ x m', R x m' → Q x (sM s m')) (hr : sRg [(0, 5, 74), (3, 1, 0), (5, 1, 0)] [x3, x5]) (h : wq_287_50 x3 x5 s.2.2.2 R) : kX dM 1 im_m287 9 50 (sCan [(0, 5, 74), (3, 1, 0), (5, 1, 0)] [x3, x5]) [] s Q :=
  h (fun x5 m => sRg [(0, 5, 74), (3, 1, 0), (5, 1, 0)] [x3, x5] → kX dM 1 im_m287 9 50 (sCan [(0, 5, 74), (3, 1, 0), (5, 1, 0)] [x3, x5]) [] (sM s m) Q) (fun x5 m h hr => wj_287_50 Q R s (fun x5 m => sRg [(0, 5, 74), (3, 1, 0), (5, 1, 0)] [x3, x5] → kX dM 1 im_m287 9 50 (sCan [(0, 5, 74), (3, 1, 0), (5, 1, 0)] [x3, x5]) [] (sM s m) Q) x3 x5 m  (fun _ _ hp hr => hp hr) hQ hr h) hr
def lb_287_16 (s : sS) (Q : sQ) (P16 : Int → hy_m → Prop) (R : Int → hy_m → Prop) (x1 : Int) (x3 : Int) (x5 : Int) : Nat → Option (sL → sS → Prop) := sLb [(50, fun lv t => sG [(0, 5, 74), (3, 1, 0), (5, 1, 0)] lv (ap2 (fun w3 w5 => ∃ m', t = sM s m' ∧ wq_287_50 w3 w5 m' R))), (16, fun lv t => sG [(0, 5, 74), (1, 1, 0), (3, 1, 0), (5, 1, 0)] lv (ap3 (fun w1 w3 w5 => ∃ m', t = sM s m' ∧ w1 = x1 ∧ w3 = x3 ∧ P16 w5 m')))]
set_option maxRecDepth 30000 in
set_option maxHeartbeats 1000000 in
theorem wj_287_16 (Q : sQ) (R : Int → hy_m → Prop) (s : sS) (P16 : Int → hy_m → Prop) (x1 : Int) (x3 : Int) (x5 : Int) (m : hy_m) (hP16 : ∀ (z5 : Int) (m : hy_m), P16 z5 m → sRg [(0, 5, 74), (1, 1, 0), (3, 1, 0), (5, 1, 0)] [x1, x3, z5] → kX dM 1 im_m287 9 16 (sCan [(0, 5, 74), (1, 1, 0), (3, 1, 0), (5, 1, 0)] [x1, x3, z5]) [] (sM s m) Q) (hQ : ∀ x m', R x m' → Q x (sM s m')) (hr : sRg [(0, 5, 74), (1, 1, 0), (3, 1, 0), (5, 1, 0)] [x1, x3, x5]) (h : wf_287_16 x1 x3 R P16 x5 m) : kX dM 1 im_m287 9 16 (sCan [(0, 5, 74), (1, 1, 0), (3, 1, 0), (5, 1, 0)] [x1, x3, x5]) [] (sM s m) Q := by
  unfold wf_287_16 at h
  refine wz2_ok (cs := cs_287) (wr := []) (lb := lb_287_16 s Q P16 R x1 x3 x5) cs_287_ok (kLb_c (kLab (Bd := fun xs t => ap2 (fun w3 w5 => ∃ m', t = sM s m' ∧ wq_287_50 w3 w5 m' R) xs) rfl (fun xs t r1 r2 hb => by obtain ⟨w3, w5, rfl, hb⟩ := ap2_ok hb; obtain ⟨m', rfl, hx⟩ := hb; exact wk_287_50 Q R (sM s m') _ _ (fun x m'' hy => hQ x m'' hy) r1 hx)) (kLb_c (kLab (Bd := fun xs t => ap3 (fun w1 w3 w5 => ∃ m', t = sM s m' ∧ w1 = x1 ∧ w3 = x3 ∧ P16 w5 m') xs) rfl (fun xs t r1 r2 hb => by obtain ⟨w1, w3, w5, rfl, hb⟩ := ap3_ok hb; obtain ⟨m', rfl, rfl, rfl, hx⟩ := hb; exact hP16 _ m' hx r1)) kLb_n)) (okL_can rfl hr) (fun Y hY hl => ?_)
  have l50 := hl 50 _ rfl
  have l16 := hl 16 _ rfl
  refine hY _ _ _ _ (hY _ _ _ _ (?_ : Y 19 [(0, 5, true, 74), (1, 1, true, x1), (3, 1, true, x3), (5, 1, true, x5)] [(1, true, x5), (1, true, x3)] (sM s m)))
  refine hY _ _ _ _ ?_
  refine (And.intro h.1 (And.intro h.2.1 ?_))
  refine hY _ _ _ _ (?_ : Y 23 [(0, 5, true, 74), (1, 1, true, x1), (3, 1, true, x3), (5, 1, true, x5)] [(1, true, 10), (1, true, x3 / x5)] (sM s m))
  refine hY _ _ _ _ ?_
  refine And.intro (fun hc => ?_) (fun hc => ?_)
  · have h := h.2.2.1 hc
    refine hY _ _ _ _ (hY _ _ _ _ (?_ : Y 40 [(0, 5, true, 74), (1, 1, true, x1), (3, 1, true, x3), (5, 1, true, x5)] [(1, true, 0), (1, true, x1)] (sM s m)))
    refine hY _ _ _ _ ?_
    refine And.intro (fun hc => ?_) (fun hc => ?_)
    · have h := h.1 hc
      show Y 50 [(0, 5, true, 74), (1, 1, true, x1), (3, 1, true, x3), (5, 1, true, x5)] [] (sM s m)
      refine l50 _ _ ?_
      exact (Exists.intro m (And.intro rfl h))
    · have h := h.2 hc
      refine hY _ _ _ _ (hY _ _ _ _ (?_ : Y 47 [(0, 5, true, 74), (1, 1, true, x1), (3, 1, true, x3), (5, 1, true, x5)] [(0, true, 45), (5, true, 74)] (sM s m)))
      refine hY _ _ _ _ ?_
      refine Exists.intro _ (And.intro (wc_286_r74_0t 45 _ _ h) (fun r1 m1 h => ?_))
      show Y 50 [(0, 5, true, 74), (1, 1, true, x1), (3, 1, true, x3), (5, 1, true, x5)] [] (sM s m1)
      refine l50 _ _ ?_
      exact (Exists.intro m1 (And.intro rfl h))
  · have h := h.2.2.2 hc
    refine hY _ _ _ _ (hY _ _ _ _ (hY _ _ _ _ (?_ : Y 33 [(0, 5, true, 74), (1, 1, true, x1), (3, 1, true, x3), (5, 1, true, x5)] [(1, false, 10 * x5)] (sM s m))))
    refine hY _ _ _ _ (hY _ _ _ _ (?_ : Y 16 [(5, 1, false, 10 * x5), (0, 5, true, 74), (1, 1, true, x1), (3, 1, true, x3)] [] (sM s m)))
    refine l16 _ _ ?_
    refine And.intro h.1 ?_
    exact (Exists.intro m (And.intro rfl (And.intro rfl (And.intro rfl h.2))))
theorem wk_287_16 (Q : sQ) (R : Int → hy_m → Prop) (s : sS) (x1 : Int) (x3 : Int) (x5 : Int) (hQ : ∀ x m', R x m' → Q x (sM s m')) (hr : sRg [(0, 5, 74), (1, 1, 0), (3, 1, 0), (5, 1, 0)] [x1, x3, x5]) (h : wq_287_16 x1 x3 x5 s.2.2.2 R) : kX dM 1 im_m287 9 16 (sCan [(0, 5, 74), (1, 1, 0), (3, 1, 0), (5, 1, 0)] [x1, x3, x5]) [] s Q :=
  h (fun x5 m => sRg [(0, 5, 74), (1, 1, 0), (3, 1, 0), (5, 1, 0)] [x1, x3, x5] → kX dM 1 im_m287 9 16 (sCan [(0, 5, 74), (1, 1, 0), (3, 1, 0), (5, 1, 0)] [x1, x3, x5]) [] (sM s m) Q) (fun x5 m h hr => wj_287_16 Q R s (fun x5 m => sRg [(0, 5, 74), (1, 1, 0), (3, 1, 0), (5, 1, 0)] [x1, x3, x5] → kX dM 1 im_m287 9 16 (sCan [(0, 5, 74), (1, 1, 0), (3, 1, 0), (5, 1, 0)] [x1, x3, x5]) [] (sM s m) Q) x1 x3 x5 m  (fun _ _ hp hr => hp hr) hQ hr h) hr
def lb_287_0 (s : sS) (Q : sQ) (R : Int → hy_m → Prop) (x1 : Int) : Nat → Option (sL → sS → Prop) := sLb [(16, fun lv t => sG [(0, 5, 74), (1, 1, 0), (3, 1, 0), (5, 1, 0)] lv (ap3 (fun w1 w3 w5 => ∃ m', t = sM s m' ∧ wq_287_16 w1 w3 w5 m' R)))]
set_option maxRecDepth 30000 in
set_option maxHeartbeats 1000000 in
theorem wk_287_0 (Q : sQ) (R : Int → hy_m → Prop) (s : sS) (x1 : Int) (hQ : ∀ x m', R x m' → Q x (sM s m')) (hr : sRg [(0, 5, 74), (1, 1, 0)] [x1]) (h : wq_287 x1 s.2.2.2 R) : kX dM 1 im_m287 9 0 (sCan [(0, 5, 74), (1, 1, 0)] [x1]) [] s Q := by
  unfold wq_287 at h
  refine wz2_ok (cs := cs_287) (wr := []) (lb := lb_287_0 s Q R x1) cs_287_ok (kLb_c (kLab (Bd := fun xs t => ap3 (fun w1 w3 w5 => ∃ m', t = sM s m' ∧ wq_287_16 w1 w3 w5 m' R) xs) rfl (fun xs t r1 r2 hb => by obtain ⟨w1, w3, w5, rfl, hb⟩ := ap3_ok hb; obtain ⟨m', rfl, hx⟩ := hb; exact wk_287_16 Q R (sM s m') _ _ _ (fun x m'' hy => hQ x m'' hy) r1 hx)) kLb_n) (okL_can rfl hr) (fun Y hY hl => ?_)
  have l16 := hl 16 _ rfl
  refine hY _ _ _ _ (hY _ _ _ _ (?_ : Y 2 [(0, 5, true, 74), (1, 1, true, x1)] [(1, true, 0), (1, true, x1)] s))
  refine hY _ _ _ _ ?_
  refine And.intro (fun hc => ?_) (fun hc => ?_)
  · have h := h.1 hc
    refine hY _ _ _ _ (hY _ _ _ _ (hY _ _ _ _ (?_ : Y 14 [(3, 1, true, x1), (0, 5, true, 74), (1, 1, true, x1)] [(1, true, 1)] s)))
    refine hY _ _ _ _ (?_ : Y 16 [(5, 1, true, 1), (3, 1, true, x1), (0, 5, true, 74), (1, 1, true, x1)] [] s)
    refine l16 _ _ ?_
    exact (Exists.intro s.2.2.2 (And.intro rfl h))
  · have h := h.2 hc
    refine hY _ _ _ _ (hY _ _ _ _ (hY _ _ _ _ (?_ : Y 12 [(0, 5, true, 74), (1, 1, true, x1)] [(1, false, -x1)] s)))
    refine hY _ _ _ _ (hY _ _ _ _ (hY _ _ _ _ (?_ : Y 16 [(5, 1, true, 1), (3, 1, false, -x1), (0, 5, true, 74), (1, 1, true, x1)] [] s)))
    refine l16 _ _ ?_
    refine And.intro h.1 ?_
    exact (Exists.intro s.2.2.2 (And.intro rfl h.2))
def we_287 : sFf := sEf 7 [(0, 5, 74), (1, 1, 0)] (fun xs s Q => ap1 (fun x1 => wq_287 x1 s.2.2.2 Q) xs)
theorem we_287_ok : kS dM 2 287 9 (.inl we_287) := sEf_ok (mi := im_m287) rfl rfl rfl (fun R xs s r1 hb => by obtain ⟨x1, rfl, hb⟩ := ap1_ok hb; exact wk_287_0 _ R s x1 (fun x m' hx => ⟨m', rfl, hx⟩) r1 hb)
/-- LMModel.putName(J)V -/
def wf_288_40 (x1 : Int) (Q : Int → hy_m → Prop) (P40 : Int → hy_m → Prop) (x3 : Int) (m : hy_m) : Prop := (x3 ≤ 0 → (Q 0 m)) ∧ (0 < x3 → (0 ≤ x1 ∧ 0 < x3 ∧ (0 ≤ (x1 / x3) ∧ 0 < (128 : Int) ∧ (hy_r 0 ((x1 / x3) % 128) ∧ (wq_286 ((x1 / x3) % 128) m (fun _ m1 => 0 ≤ x3 ∧ 0 < (128 : Int) ∧ (P40 (x3 / 128) m1)))))))
def wq_288_40 (x1 : Int) (x3 : Int) (m : hy_m) (Q : Int → hy_m → Prop) : Prop := wL1 hy_m (wf_288_40 x1 Q) x3 m
def wf_288_21 (x1 : Int) (Q : Int → hy_m → Prop) (P21 : Int → hy_m → Prop) (x3 : Int) (m : hy_m) : Prop := 0 ≤ x1 ∧ 0 < x3 ∧ (((x1 / x3) < 128 → (wq_288_40 x1 x3 m Q)) ∧ (128 ≤ (x1 / x3) → (hy_r 1 (128 * x3) ∧ (P21 (128 * x3) m))))
def wq_288_21 (x1 : Int) (x3 : Int) (m : hy_m) (Q : Int → hy_m → Prop) : Prop := wL1 hy_m (wf_288_21 x1 Q) x3 m
def wq_288 (x1 : Int) (m : hy_m) (Q : Int → hy_m → Prop) : Prop := (x1 ≠ 1 → (wq_288_21 x1 1 m Q)) ∧ (x1 = 1 → (wq_286 91 m (fun _ m1 => wq_286 93 m1 (fun _ m2 => Q 0 m2))))
def cs_288 : List (Nat × Nat × sFS) := [(286, 9, .inl we_286)]
theorem cs_288_ok : kCs dM 1 cs_288 := (kCs_c (Or.inr (Or.inr (Or.inr (Or.inr rfl)))) (we_286_ok.deep (by decide)) kCs_n)
def lb_288_40 (s : sS) (Q : sQ) (P40 : Int → hy_m → Prop) (R : Int → hy_m → Prop) (x1 : Int) (x3 : Int) : Nat → Option (sL → sS → Prop) := sLb [(40, fun lv t => sG [(0, 5, 74), (1, 1, 0), (3, 1, 0)] lv (ap2 (fun w1 w3 => ∃ m', t = sM s m' ∧ w1 = x1 ∧ P40 w3 m')))]
set_option maxRecDepth 30000 in
set_option maxHeartbeats 1000000 in
theorem wj_288_40 (Q : sQ) (R : Int → hy_m → Prop) (s : sS) (P40 : Int → hy_m → Prop) (x1 : Int) (x3 : Int) (m : hy_m) (hP40 : ∀ (z3 : Int) (m : hy_m), P40 z3 m → sRg [(0, 5, 74), (1, 1, 0), (3, 1, 0)] [x1, z3] → kX dM 1 im_m288 9 40 (sCan [(0, 5, 74), (1, 1, 0), (3, 1, 0)] [x1, z3]) [] (sM s m) Q) (hQ : ∀ x m', R x m' → Q x (sM s m')) (hr : sRg [(0, 5, 74), (1, 1, 0), (3, 1, 0)] [x1, x3]) (h : wf_288_40 x1 R P40 x3 m) : kX dM 1 im_m288 9 40 (sCan [(0, 5, 74), (1, 1, 0), (3, 1, 0)] [x1, x3]) [] (sM s m) Q := by
  unfold wf_288_40 at h
  refine wz2_ok (cs := cs_288) (wr := []) (lb := lb_288_40 s Q P40 R x1 x3) cs_288_ok (kLb_c (kLab (Bd := fun xs t => ap2 (fun w1 w3 => ∃ m', t = sM s m' ∧ w1 = x1 ∧ P40 w3 m') xs) rfl (fun xs t r1 r2 hb => by obtain ⟨w1, w3, rfl, hb⟩ := ap2_ok hb; obtain ⟨m', rfl, rfl, hx⟩ := hb; exact hP40 _ m' hx r1)) kLb_n) (okL_can rfl hr) (fun Y hY hl => ?_)
  have l40 := hl 40 _ rfl
  refine hY _ _ _ _ (hY _ _ _ _ (?_ : Y 42 [(0, 5, true, 74), (1, 1, true, x1), (3, 1, true, x3)] [(1, true, 0), (1, true, x3)] (sM s m)))
  refine hY _ _ _ _ ?_
  refine And.intro (fun hc => ?_) (fun hc => ?_)
  · have h := h.1 hc
    show Y 67 [(0, 5, true, 74), (1, 1, true, x1), (3, 1, true, x3)] [] (sM s m)
    refine hY _ _ _ _ ?_
    exact hQ 0 m h
  · have h := h.2 hc
    refine hY _ _ _ _ (hY _ _ _ _ (hY _ _ _ _ (?_ : Y 49 [(0, 5, true, 74), (1, 1, true, x1), (3, 1, true, x3)] [(1, true, x3), (1, true, x1), (5, true, 74)] (sM s m))))
    refine hY _ _ _ _ ?_
    refine (And.intro h.1 (And.intro h.2.1 ?_))
    refine hY _ _ _ _ (?_ : Y 53 [(0, 5, true, 74), (1, 1, true, x1), (3, 1, true, x3)] [(1, true, 128), (1, true, x1 / x3), (5, true, 74)] (sM s m))
    refine hY _ _ _ _ ?_
    refine (And.intro h.2.2.1 (And.intro h.2.2.2.1 ?_))
    refine hY _ _ _ _ (?_ : Y 55 [(0, 5, true, 74), (1, 1, true, x1), (3, 1, true, x3)] [(0, false, (x1 / x3) % 128), (5, true, 74)] (sM s m))
    refine hY _ _ _ _ ?_
    refine Exists.intro _ (And.intro (wc_286_r74_0f ((x1 / x3) % 128) _ _ h.2.2.2.2) (fun r1 m1 h => ?_))
    refine hY _ _ _ _ (hY _ _ _ _ (?_ : Y 62 [(0, 5, true, 74), (1, 1, true, x1), (3, 1, true, x3)] [(1, true, 128), (1, true, x3)] (sM s m1)))
    refine hY _ _ _ _ ?_
    refine (And.intro h.1 (And.intro h.2.1 ?_))
    refine hY _ _ _ _ (hY _ _ _ _ (?_ : Y 40 [(3, 1, true, x3 / 128), (0, 5, true, 74), (1, 1, true, x1)] [] (sM s m1)))
    refine l40 _ _ ?_
    exact (Exists.intro m1 (And.intro rfl (And.intro rfl h.2.2)))
theorem wk_288_40 (Q : sQ) (R : Int → hy_m → Prop) (s : sS) (x1 : Int) (x3 : Int) (hQ : ∀ x m', R x m' → Q x (sM s m')) (hr : sRg [(0, 5, 74), (1, 1, 0), (3, 1, 0)] [x1, x3]) (h : wq_288_40 x1 x3 s.2.2.2 R) : kX dM 1 im_m288 9 40 (sCan [(0, 5, 74), (1, 1, 0), (3, 1, 0)] [x1, x3]) [] s Q :=
  h (fun x3 m => sRg [(0, 5, 74), (1, 1, 0), (3, 1, 0)] [x1, x3] → kX dM 1 im_m288 9 40 (sCan [(0, 5, 74), (1, 1, 0), (3, 1, 0)] [x1, x3]) [] (sM s m) Q) (fun x3 m h hr => wj_288_40 Q R s (fun x3 m => sRg [(0, 5, 74), (1, 1, 0), (3, 1, 0)] [x1, x3] → kX dM 1 im_m288 9 40 (sCan [(0, 5, 74), (1, 1, 0), (3, 1, 0)] [x1, x3]) [] (sM s m) Q) x1 x3 m  (fun _ _ hp hr => hp hr) hQ hr h) hr
def lb_288_21 (s : sS) (Q : sQ) (P21 : Int → hy_m → Prop) (R : Int → hy_m → Prop) (x1 : Int) (x3 : Int) : Nat → Option (sL → sS → Prop) := sLb [(40, fun lv t => sG [(0, 5, 74), (1, 1, 0), (3, 1, 0)] lv (ap2 (fun w1 w3 => ∃ m', t = sM s m' ∧ wq_288_40 w1 w3 m' R))), (21, fun lv t => sG [(0, 5, 74), (1, 1, 0), (3, 1, 0)] lv (ap2 (fun w1 w3 => ∃ m', t = sM s m' ∧ w1 = x1 ∧ P21 w3 m')))]
set_option maxRecDepth 30000 in
set_option maxHeartbeats 1000000 in
theorem wj_288_21 (Q : sQ) (R : Int → hy_m → Prop) (s : sS) (P21 : Int → hy_m → Prop) (x1 : Int) (x3 : Int) (m : hy_m) (hP21 : ∀ (z3 : Int) (m : hy_m), P21 z3 m → sRg [(0, 5, 74), (1, 1, 0), (3, 1, 0)] [x1, z3] → kX dM 1 im_m288 9 21 (sCan [(0, 5, 74), (1, 1, 0), (3, 1, 0)] [x1, z3]) [] (sM s m) Q) (hQ : ∀ x m', R x m' → Q x (sM s m')) (hr : sRg [(0, 5, 74), (1, 1, 0), (3, 1, 0)] [x1, x3]) (h : wf_288_21 x1 R P21 x3 m) : kX dM 1 im_m288 9 21 (sCan [(0, 5, 74), (1, 1, 0), (3, 1, 0)] [x1, x3]) [] (sM s m) Q := by
  unfold wf_288_21 at h
  refine wz2_ok (cs := cs_288) (wr := []) (lb := lb_288_21 s Q P21 R x1 x3) cs_288_ok (kLb_c (kLab (Bd := fun xs t => ap2 (fun w1 w3 => ∃ m', t = sM s m' ∧ wq_288_40 w1 w3 m' R) xs) rfl (fun xs t r1 r2 hb => by obtain ⟨w1, w3, rfl, hb⟩ := ap2_ok hb; obtain ⟨m', rfl, hx⟩ := hb; exact wk_288_40 Q R (sM s m') _ _ (fun x m'' hy => hQ x m'' hy) r1 hx)) (kLb_c (kLab (Bd := fun xs t => ap2 (fun w1 w3 => ∃ m', t = sM s m' ∧ w1 = x1 ∧ P21 w3 m') xs) rfl (fun xs t r1 r2 hb => by obtain ⟨w1, w3, rfl, hb⟩ := ap2_ok hb; obtain ⟨m', rfl, rfl, hx⟩ := hb; exact hP21 _ m' hx r1)) kLb_n)) (okL_can rfl hr) (fun Y hY hl => ?_)
  have l40 := hl 40 _ rfl
  have l21 := hl 21 _ rfl
  refine hY _ _ _ _ (hY _ _ _ _ (?_ : Y 23 [(0, 5, true, 74), (1, 1, true, x1), (3, 1, true, x3)] [(1, true, x3), (1, true, x1)] (sM s m)))
  refine hY _ _ _ _ ?_
  refine (And.intro h.1 (And.intro h.2.1 ?_))
  refine hY _ _ _ _ (?_ : Y 27 [(0, 5, true, 74), (1, 1, true, x1), (3, 1, true, x3)] [(1, true, 128), (1, true, x1 / x3)] (sM s m))
  refine hY _ _ _ _ ?_
  refine And.intro (fun hc => ?_) (fun hc => ?_)
  · have h := h.2.2.1 hc
    show Y 40 [(0, 5, true, 74), (1, 1, true, x1), (3, 1, true, x3)] [] (sM s m)
    refine l40 _ _ ?_
    exact (Exists.intro m (And.intro rfl h))
  · have h := h.2.2.2 hc
    refine hY _ _ _ _ (hY _ _ _ _ (hY _ _ _ _ (?_ : Y 36 [(0, 5, true, 74), (1, 1, true, x1), (3, 1, true, x3)] [(1, false, 128 * x3)] (sM s m))))
    refine hY _ _ _ _ (hY _ _ _ _ (?_ : Y 21 [(3, 1, false, 128 * x3), (0, 5, true, 74), (1, 1, true, x1)] [] (sM s m)))
    refine l21 _ _ ?_
    refine And.intro h.1 ?_
    exact (Exists.intro m (And.intro rfl (And.intro rfl h.2)))
theorem wk_288_21 (Q : sQ) (R : Int → hy_m → Prop) (s : sS) (x1 : Int) (x3 : Int) (hQ : ∀ x m', R x m' → Q x (sM s m')) (hr : sRg [(0, 5, 74), (1, 1, 0), (3, 1, 0)] [x1, x3]) (h : wq_288_21 x1 x3 s.2.2.2 R) : kX dM 1 im_m288 9 21 (sCan [(0, 5, 74), (1, 1, 0), (3, 1, 0)] [x1, x3]) [] s Q :=
  h (fun x3 m => sRg [(0, 5, 74), (1, 1, 0), (3, 1, 0)] [x1, x3] → kX dM 1 im_m288 9 21 (sCan [(0, 5, 74), (1, 1, 0), (3, 1, 0)] [x1, x3]) [] (sM s m) Q) (fun x3 m h hr => wj_288_21 Q R s (fun x3 m => sRg [(0, 5, 74), (1, 1, 0), (3, 1, 0)] [x1, x3] → kX dM 1 im_m288 9 21 (sCan [(0, 5, 74), (1, 1, 0), (3, 1, 0)] [x1, x3]) [] (sM s m) Q) x1 x3 m  (fun _ _ hp hr => hp hr) hQ hr h) hr
def lb_288_0 (s : sS) (Q : sQ) (R : Int → hy_m → Prop) (x1 : Int) : Nat → Option (sL → sS → Prop) := sLb [(21, fun lv t => sG [(0, 5, 74), (1, 1, 0), (3, 1, 0)] lv (ap2 (fun w1 w3 => ∃ m', t = sM s m' ∧ wq_288_21 w1 w3 m' R)))]
set_option maxRecDepth 30000 in
set_option maxHeartbeats 1000000 in
theorem wk_288_0 (Q : sQ) (R : Int → hy_m → Prop) (s : sS) (x1 : Int) (hQ : ∀ x m', R x m' → Q x (sM s m')) (hr : sRg [(0, 5, 74), (1, 1, 0)] [x1]) (h : wq_288 x1 s.2.2.2 R) : kX dM 1 im_m288 9 0 (sCan [(0, 5, 74), (1, 1, 0)] [x1]) [] s Q := by
  unfold wq_288 at h
  refine wz2_ok (cs := cs_288) (wr := []) (lb := lb_288_0 s Q R x1) cs_288_ok (kLb_c (kLab (Bd := fun xs t => ap2 (fun w1 w3 => ∃ m', t = sM s m' ∧ wq_288_21 w1 w3 m' R) xs) rfl (fun xs t r1 r2 hb => by obtain ⟨w1, w3, rfl, hb⟩ := ap2_ok hb; obtain ⟨m', rfl, hx⟩ := hb; exact wk_288_21 Q R (sM s m') _ _ (fun x m'' hy => hQ x m'' hy) r1 hx)) kLb_n) (okL_can rfl hr) (fun Y hY hl => ?_)
  have l21 := hl 21 _ rfl
  refine hY _ _ _ _ (hY _ _ _ _ (?_ : Y 2 [(0, 5, true, 74), (1, 1, true, x1)] [(1, true, 1), (1, true, x1)] s))
  refine hY _ _ _ _ ?_
  refine And.intro (fun hc => ?_) (fun hc => ?_)
  · have h := h.1 hc
    refine hY _ _ _ _ (hY _ _ _ _ (?_ : Y 21 [(3, 1, true, 1), (0, 5, true, 74), (1, 1, true, x1)] [] s))
    refine l21 _ _ ?_
    exact (Exists.intro s.2.2.2 (And.intro rfl h))
  · have h := h.2 hc
    refine hY _ _ _ _ (hY _ _ _ _ (?_ : Y 9 [(0, 5, true, 74), (1, 1, true, x1)] [(0, true, 91), (5, true, 74)] s))
    refine hY _ _ _ _ ?_
    refine Exists.intro _ (And.intro (wc_286_r74_0t 91 _ _ h) (fun r1 m1 h => ?_))
    refine hY _ _ _ _ (hY _ _ _ _ (?_ : Y 15 [(0, 5, true, 74), (1, 1, true, x1)] [(0, true, 93), (5, true, 74)] (sM s m1)))
    refine hY _ _ _ _ ?_
    refine Exists.intro _ (And.intro (wc_286_r74_0t 93 _ _ h) (fun r2 m2 h => ?_))
    show Y 18 [(0, 5, true, 74), (1, 1, true, x1)] [] (sM s m2)
    refine hY _ _ _ _ ?_
    exact hQ 0 m2 h
def we_288 : sFf := sEf 5 [(0, 5, 74), (1, 1, 0)] (fun xs s Q => ap1 (fun x1 => wq_288 x1 s.2.2.2 Q) xs)
theorem we_288_ok : kS dM 2 288 9 (.inl we_288) := sEf_ok (mi := im_m288) rfl rfl rfl (fun R xs s r1 hb => by obtain ⟨x1, rfl, hb⟩ := ap1_ok hb; exact wk_288_0 _ R s x1 (fun x m' hx => ⟨m', rfl, hx⟩) r1 hb)
/-- LMModel.putFree(J)V -/
def wq_289_52 (x3 : Int) (m : hy_m) (Q : Int → hy_m → Prop) : Prop := wq_286 95 m (fun _ m1 => wq_287 x3 m1 (fun _ m2 => Q 0 m2))
def wq_289_27 (x1 : Int) (x3 : Int) (m : hy_m) (Q : Int → hy_m → Prop) : Prop := (x3 ≠ (m 74 72) → (wq_289_52 x3 m Q)) ∧ (x3 = (m 74 72) → (0 ≤ x3 ∧ x3 < 130 ∧ (hy_r 0 ((m 74 72) + 1) ∧ (wq_289_52 x3 (hy_u (hy_u m 118 x3 x1) 74 72 ((m 74 72) + 1)) Q))))
def wf_289_2 (x1 : Int) (Q : Int → hy_m → Prop) (P2 : Int → hy_m → Prop) (x3 : Int) (m : hy_m) : Prop := ((m 74 72) ≤ x3 → (wq_289_27 x1 x3 m Q)) ∧ (x3 < (m 74 72) → (0 ≤ x3 ∧ x3 < 130 ∧ (((m 118 x3) = x1 → (wq_289_27 x1 x3 m Q)) ∧ ((m 118 x3) ≠ x1 → (hy_r 0 (x3 + 1) ∧ (P2 (x3 + 1) m))))))
def wq_289_2 (x1 : Int) (x3 : Int) (m : hy_m) (Q : Int → hy_m → Prop) : Prop := wL1 hy_m (wf_289_2 x1 Q) x3 m
def wq_289 (x1 : Int) (m : hy_m) (Q : Int → hy_m → Prop) : Prop := wq_289_2 x1 0 m Q
theorem wc_287_r74_1t (x1 : Int) (s : sS) (R : Int → hy_m → Prop) (h : wq_287 x1 s.2.2.2 R) : we_287 [(5, true, 74), (1, true, x1)] s R := h
def cs_289 : List (Nat × Nat × sFS) := [(286, 9, .inl we_286), (287, 9, .inl we_287)]
theorem cs_289_ok : kCs dM 2 cs_289 := (kCs_c (Or.inr (Or.inr (Or.inr (Or.inr rfl)))) (we_286_ok.deep (by decide)) (kCs_c (Or.inr (Or.inr (Or.inr (Or.inr rfl)))) (we_287_ok.deep (by decide)) kCs_n))
def lb_289_52 (s : sS) (Q : sQ) (R : Int → hy_m → Prop) (x3 : Int) : Nat → Option (sL → sS → Prop) := sLb []
set_option maxRecDepth 30000 in
set_option maxHeartbeats 1000000 in
theorem wk_289_52 (Q : sQ) (R : Int → hy_m → Prop) (s : sS) (x3 : Int) (hQ : ∀ x m', R x m' → Q x (sM s m')) (hr : sRg [(0, 5, 74), (3, 0, 0)] [x3]) (h : wq_289_52 x3 s.2.2.2 R) : kX dM 2 im_m289 9 52 (sCan [(0, 5, 74), (3, 0, 0)] [x3]) [] s Q := by
  unfold wq_289_52 at h
  refine wz2_ok (cs := cs_289) (wr := []) (lb := lb_289_52 s Q R x3) cs_289_ok kLb_n (okL_can rfl hr) (fun Y hY hl => ?_)
  refine hY _ _ _ _ (hY _ _ _ _ (?_ : Y 55 [(0, 5, true, 74), (3, 0, true, x3)] [(0, true, 95), (5, true, 74)] s))
  refine hY _ _ _ _ ?_
  refine Exists.intro _ (And.intro (wc_286_r74_0t 95 _ _ h) (fun r1 m1 h => ?_))
  refine hY _ _ _ _ (hY _ _ _ _ (?_ : Y 60 [(0, 5, true, 74), (3, 0, true, x3)] [(0, true, x3), (5, true, 74)] (sM s m1)))
  refine hY _ _ _ _ ?_
  show Y 61 [(0, 5, true, 74), (3, 0, true, x3)] [(1, true, x3), (5, true, 74)] (sM s m1)
  refine hY _ _ _ _ ?_
  refine Exists.intro _ (And.intro (wc_287_r74_1t x3 _ _ h) (fun r2 m2 h => ?_))
  show Y 64 [(0, 5, true, 74), (3, 0, true, x3)] [] (sM s m2)
  refine hY _ _ _ _ ?_
  exact hQ 0 m2 h
def lb_289_27 (s : sS) (Q : sQ) (R : Int → hy_m → Prop) (x1 : Int) (x3 : Int) : Nat → Option (sL → sS → Prop) := sLb [(52, fun lv t => sG [(0, 5, 74), (3, 0, 0)] lv (ap1 (fun w3 => ∃ m', t = sM s m' ∧ wq_289_52 w3 m' R)))]
set_option maxRecDepth 30000 in
set_option maxHeartbeats 1000000 in
theorem wk_289_27 (Q : sQ) (R : Int → hy_m → Prop) (s : sS) (x1 : Int) (x3 : Int) (hQ : ∀ x m', R x m' → Q x (sM s m')) (hr : sRg [(0, 5, 74), (1, 1, 0), (3, 0, 0)] [x1, x3]) (h : wq_289_27 x1 x3 s.2.2.2 R) : kX dM 2 im_m289 9 27 (sCan [(0, 5, 74), (1, 1, 0), (3, 0, 0)] [x1, x3]) [] s Q := by
  unfold wq_289_27 at h
  refine wz2_ok (cs := cs_289) (wr := []) (lb := lb_289_27 s Q R x1 x3) cs_289_ok (kLb_c (kLab (Bd := fun xs t => ap1 (fun w3 => ∃ m', t = sM s m' ∧ wq_289_52 w3 m' R) xs) rfl (fun xs t r1 r2 hb => by obtain ⟨w3, rfl, hb⟩ := ap1_ok hb; obtain ⟨m', rfl, hx⟩ := hb; exact wk_289_52 Q R (sM s m') _ (fun x m'' hy => hQ x m'' hy) r1 hx)) kLb_n) (okL_can rfl hr) (fun Y hY hl => ?_)
  have l52 := hl 52 _ rfl
  refine hY _ _ _ _ (hY _ _ _ _ (hY _ _ _ _ (?_ : Y 32 [(0, 5, true, 74), (1, 1, true, x1), (3, 0, true, x3)] [(0, true, s.2.2.2 74 72), (0, true, x3)] s)))
  refine hY _ _ _ _ ?_
  refine And.intro (fun hc => ?_) (fun hc => ?_)
  · have h := h.1 hc
    show Y 52 [(0, 5, true, 74), (1, 1, true, x1), (3, 0, true, x3)] [] s
    refine l52 _ _ ?_
    exact (Exists.intro s.2.2.2 (And.intro rfl h))
  · have h := h.2 hc
    refine hY _ _ _ _ (hY _ _ _ _ (hY _ _ _ _ (?_ : Y 40 [(0, 5, true, 74), (1, 1, true, x1), (3, 0, true, x3)] [(0, true, x3), (5, true, 118)] s)))
    refine hY _ _ _ _ (?_ : Y 41 [(0, 5, true, 74), (1, 1, true, x1), (3, 0, true, x3)] [(1, true, x1), (0, true, x3), (5, true, 118)] s)
    refine hY _ _ _ _ ?_
    refine (And.intro h.1 (And.intro h.2.1 ?_))
    refine hY _ _ _ _ (hY _ _ _ _ (hY _ _ _ _ (?_ : Y 47 [(0, 5, true, 74), (1, 1, true, x1), (3, 0, true, x3)] [(0, true, s.2.2.2 74 72), (5, true, 74)] (sM s (hy_u s.2.2.2 118 x3 x1)))))
    refine hY _ _ _ _ (hY _ _ _ _ (?_ : Y 49 [(0, 5, true, 74), (1, 1, true, x1), (3, 0, true, x3)] [(0, false, (s.2.2.2 74 72) + 1), (5, true, 74)] (sM s (hy_u s.2.2.2 118 x3 x1))))
    refine hY _ _ _ _ ?_
    refine And.intro h.2.2.1 ?_
    show Y 52 [(0, 5, true, 74), (1, 1, true, x1), (3, 0, true, x3)] [] (sM s (hy_u (hy_u s.2.2.2 118 x3 x1) 74 72 ((s.2.2.2 74 72) + 1)))
    refine l52 _ _ ?_
    exact (Exists.intro (hy_u (hy_u s.2.2.2 118 x3 x1) 74 72 ((s.2.2.2 74 72) + 1)) (And.intro rfl h.2.2.2))
def lb_289_2 (s : sS) (Q : sQ) (P2 : Int → hy_m → Prop) (R : Int → hy_m → Prop) (x1 : Int) (x3 : Int) : Nat → Option (sL → sS → Prop) := sLb [(27, fun lv t => sG [(0, 5, 74), (1, 1, 0), (3, 0, 0)] lv (ap2 (fun w1 w3 => ∃ m', t = sM s m' ∧ wq_289_27 w1 w3 m' R))), (2, fun lv t => sG [(0, 5, 74), (1, 1, 0), (3, 0, 0)] lv (ap2 (fun w1 w3 => ∃ m', t = sM s m' ∧ w1 = x1 ∧ P2 w3 m')))]
set_option maxRecDepth 30000 in
set_option maxHeartbeats 1000000 in
theorem wj_289_2 (Q : sQ) (R : Int → hy_m → Prop) (s : sS) (P2 : Int → hy_m → Prop) (x1 : Int) (x3 : Int) (m : hy_m) (hP2 : ∀ (z3 : Int) (m : hy_m), P2 z3 m → sRg [(0, 5, 74), (1, 1, 0), (3, 0, 0)] [x1, z3] → kX dM 2 im_m289 9 2 (sCan [(0, 5, 74), (1, 1, 0), (3, 0, 0)] [x1, z3]) [] (sM s m) Q) (hQ : ∀ x m', R x m' → Q x (sM s m')) (hr : sRg [(0, 5, 74), (1, 1, 0), (3, 0, 0)] [x1, x3]) (h : wf_289_2 x1 R P2 x3 m) : kX dM 2 im_m289 9 2 (sCan [(0, 5, 74), (1, 1, 0), (3, 0, 0)] [x1, x3]) [] (sM s m) Q := by
  unfold wf_289_2 at h
  refine wz2_ok (cs := cs_289) (wr := []) (lb := lb_289_2 s Q P2 R x1 x3) cs_289_ok (kLb_c (kLab (Bd := fun xs t => ap2 (fun w1 w3 => ∃ m', t = sM s m' ∧ wq_289_27 w1 w3 m' R) xs) rfl (fun xs t r1 r2 hb => by obtain ⟨w1, w3, rfl, hb⟩ := ap2_ok hb; obtain ⟨m', rfl, hx⟩ := hb; exact wk_289_27 Q R (sM s m') _ _ (fun x m'' hy => hQ x m'' hy) r1 hx)) (kLb_c (kLab (Bd := fun xs t => ap2 (fun w1 w3 => ∃ m', t = sM s m' ∧ w1 = x1 ∧ P2 w3 m') xs) rfl (fun xs t r1 r2 hb => by obtain ⟨w1, w3, rfl, hb⟩ := ap2_ok hb; obtain ⟨m', rfl, rfl, hx⟩ := hb; exact hP2 _ m' hx r1)) kLb_n)) (okL_can rfl hr) (fun Y hY hl => ?_)
  have l27 := hl 27 _ rfl
  have l2 := hl 2 _ rfl
  refine hY _ _ _ _ (hY _ _ _ _ (hY _ _ _ _ (?_ : Y 7 [(0, 5, true, 74), (1, 1, true, x1), (3, 0, true, x3)] [(0, true, m 74 72), (0, true, x3)] (sM s m))))
  refine hY _ _ _ _ ?_
  refine And.intro (fun hc => ?_) (fun hc => ?_)
  · have h := h.1 hc
    show Y 27 [(0, 5, true, 74), (1, 1, true, x1), (3, 0, true, x3)] [] (sM s m)
    refine l27 _ _ ?_
    exact (Exists.intro m (And.intro rfl h))
  · have h := h.2 hc
    refine hY _ _ _ _ (hY _ _ _ _ (hY _ _ _ _ (?_ : Y 15 [(0, 5, true, 74), (1, 1, true, x1), (3, 0, true, x3)] [(0, true, x3), (5, true, 118)] (sM s m))))
    refine hY _ _ _ _ ?_
    refine (And.intro h.1 (And.intro h.2.1 ?_))
    refine hY _ _ _ _ (?_ : Y 17 [(0, 5, true, 74), (1, 1, true, x1), (3, 0, true, x3)] [(1, true, x1), (1, true, m 118 x3)] (sM s m))
    refine hY _ _ _ _ ?_
    refine And.intro (fun hc => ?_) (fun hc => ?_)
    · have h := h.2.2.1 hc
      show Y 27 [(0, 5, true, 74), (1, 1, true, x1), (3, 0, true, x3)] [] (sM s m)
      refine l27 _ _ ?_
      exact (Exists.intro m (And.intro rfl h))
    · have h := h.2.2.2 hc
      refine hY _ _ _ _ (hY _ _ _ _ (?_ : Y 2 [(3, 0, false, x3 + 1), (0, 5, true, 74), (1, 1, true, x1)] [] (sM s m)))
      refine l2 _ _ ?_
      refine And.intro h.1 ?_
      exact (Exists.intro m (And.intro rfl (And.intro rfl h.2)))
theorem wk_289_2 (Q : sQ) (R : Int → hy_m → Prop) (s : sS) (x1 : Int) (x3 : Int) (hQ : ∀ x m', R x m' → Q x (sM s m')) (hr : sRg [(0, 5, 74), (1, 1, 0), (3, 0, 0)] [x1, x3]) (h : wq_289_2 x1 x3 s.2.2.2 R) : kX dM 2 im_m289 9 2 (sCan [(0, 5, 74), (1, 1, 0), (3, 0, 0)] [x1, x3]) [] s Q :=
  h (fun x3 m => sRg [(0, 5, 74), (1, 1, 0), (3, 0, 0)] [x1, x3] → kX dM 2 im_m289 9 2 (sCan [(0, 5, 74), (1, 1, 0), (3, 0, 0)] [x1, x3]) [] (sM s m) Q) (fun x3 m h hr => wj_289_2 Q R s (fun x3 m => sRg [(0, 5, 74), (1, 1, 0), (3, 0, 0)] [x1, x3] → kX dM 2 im_m289 9 2 (sCan [(0, 5, 74), (1, 1, 0), (3, 0, 0)] [x1, x3]) [] (sM s m) Q) x1 x3 m  (fun _ _ hp hr => hp hr) hQ hr h) hr
def lb_289_0 (s : sS) (Q : sQ) (R : Int → hy_m → Prop) (x1 : Int) : Nat → Option (sL → sS → Prop) := sLb [(2, fun lv t => sG [(0, 5, 74), (1, 1, 0), (3, 0, 0)] lv (ap2 (fun w1 w3 => ∃ m', t = sM s m' ∧ wq_289_2 w1 w3 m' R)))]
set_option maxRecDepth 30000 in
set_option maxHeartbeats 1000000 in
theorem wk_289_0 (Q : sQ) (R : Int → hy_m → Prop) (s : sS) (x1 : Int) (hQ : ∀ x m', R x m' → Q x (sM s m')) (hr : sRg [(0, 5, 74), (1, 1, 0)] [x1]) (h : wq_289 x1 s.2.2.2 R) : kX dM 2 im_m289 9 0 (sCan [(0, 5, 74), (1, 1, 0)] [x1]) [] s Q := by
  unfold wq_289 at h
  refine wz2_ok (cs := cs_289) (wr := []) (lb := lb_289_0 s Q R x1) cs_289_ok (kLb_c (kLab (Bd := fun xs t => ap2 (fun w1 w3 => ∃ m', t = sM s m' ∧ wq_289_2 w1 w3 m' R) xs) rfl (fun xs t r1 r2 hb => by obtain ⟨w1, w3, rfl, hb⟩ := ap2_ok hb; obtain ⟨m', rfl, hx⟩ := hb; exact wk_289_2 Q R (sM s m') _ _ (fun x m'' hy => hQ x m'' hy) r1 hx)) kLb_n) (okL_can rfl hr) (fun Y hY hl => ?_)
  have l2 := hl 2 _ rfl
  refine hY _ _ _ _ (hY _ _ _ _ (?_ : Y 2 [(3, 2, true, 0), (0, 5, true, 74), (1, 1, true, x1)] [] s))
  refine l2 _ _ ?_
  exact (Exists.intro s.2.2.2 (And.intro rfl h))
def we_289 : sFf := sEf 4 [(0, 5, 74), (1, 1, 0)] (fun xs s Q => ap1 (fun x1 => wq_289 x1 s.2.2.2 Q) xs)
theorem we_289_ok : kS dM 3 289 9 (.inl we_289) := sEf_ok (mi := im_m289) rfl rfl rfl (fun R xs s r1 hb => by obtain ⟨x1, rfl, hb⟩ := ap1_ok hb; exact wk_289_0 _ R s x1 (fun x m' hx => ⟨m', rfl, hx⟩) r1 hb)
/-- LMModel.later(J)V -/
def wq_290 (x1 : Int) (m : hy_m) (Q : Int → hy_m → Prop) : Prop := 0 ≤ (m 74 73) ∧ (m 74 73) < 30000 ∧ (hy_r 0 ((m 74 73) + 1) ∧ (Q 0 (hy_u (hy_u m 112 (m 74 73) x1) 74 73 ((m 74 73) + 1))))
def cs_290 : List (Nat × Nat × sFS) := []
theorem cs_290_ok : kCs dM 0 cs_290 := kCs_n
def lb_290_0 (s : sS) (Q : sQ) (R : Int → hy_m → Prop) (x1 : Int) : Nat → Option (sL → sS → Prop) := sLb []
set_option maxRecDepth 30000 in
set_option maxHeartbeats 1000000 in
theorem wk_290_0 (Q : sQ) (R : Int → hy_m → Prop) (s : sS) (x1 : Int) (hQ : ∀ x m', R x m' → Q x (sM s m')) (hr : sRg [(0, 5, 74), (1, 1, 0)] [x1]) (h : wq_290 x1 s.2.2.2 R) : kX dM 0 im_m290 9 0 (sCan [(0, 5, 74), (1, 1, 0)] [x1]) [] s Q := by
  unfold wq_290 at h
  refine wz2_ok (cs := cs_290) (wr := []) (lb := lb_290_0 s Q R x1) cs_290_ok kLb_n (okL_can rfl hr) (fun Y hY hl => ?_)
  refine hY _ _ _ _ (hY _ _ _ _ (hY _ _ _ _ (?_ : Y 5 [(0, 5, true, 74), (1, 1, true, x1)] [(5, true, 74), (5, true, 112)] s)))
  refine hY _ _ _ _ (hY _ _ _ _ (?_ : Y 9 [(0, 5, true, 74), (1, 1, true, x1)] [(1, true, x1), (0, true, s.2.2.2 74 73), (5, true, 112)] s))
  refine hY _ _ _ _ ?_
  refine (And.intro h.1 (And.intro h.2.1 ?_))
  refine hY _ _ _ _ (hY _ _ _ _ (hY _ _ _ _ (?_ : Y 15 [(0, 5, true, 74), (1, 1, true, x1)] [(0, true, s.2.2.2 74 73), (5, true, 74)] (sM s (hy_u s.2.2.2 112 (s.2.2.2 74 73) x1)))))
  refine hY _ _ _ _ (hY _ _ _ _ (?_ : Y 17 [(0, 5, true, 74), (1, 1, true, x1)] [(0, false, (s.2.2.2 74 73) + 1), (5, true, 74)] (sM s (hy_u s.2.2.2 112 (s.2.2.2 74 73) x1))))
  refine hY _ _ _ _ ?_
  refine And.intro h.2.2.1 ?_
  show Y 20 [(0, 5, true, 74), (1, 1, true, x1)] [] (sM s (hy_u (hy_u s.2.2.2 112 (s.2.2.2 74 73) x1) 74 73 ((s.2.2.2 74 73) + 1)))
  refine hY _ _ _ _ ?_
  exact hQ 0 (hy_u (hy_u s.2.2.2 112 (s.2.2.2 74 73) x1) 74 73 ((s.2.2.2 74 73) + 1)) h.2.2.2
def we_290 : sFf := sEf 3 [(0, 5, 74), (1, 1, 0)] (fun xs s Q => ap1 (fun x1 => wq_290 x1 s.2.2.2 Q) xs)
theorem we_290_ok : kS dM 1 290 9 (.inl we_290) := sEf_ok (mi := im_m290) rfl rfl rfl (fun R xs s r1 hb => by obtain ⟨x1, rfl, hb⟩ := ap1_ok hb; exact wk_290_0 _ R s x1 (fun x m' hx => ⟨m', rfl, hx⟩) r1 hb)
