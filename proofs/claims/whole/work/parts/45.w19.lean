/-- LM$Search.callUser(I)V -/
def wq_97_62 (x1 : Int) (x2 : Int) (x4 : Int) (x5 : Int) (s : sS) (Q : sQ) : Prop := wq_60 21 x2 x4 x5 s.1 s.2.2.2 (fun r1 m1 => (r1 = 0 → (Q 0 (s.1, s.2.1, s.2.2.1, m1))) ∧ (r1 ≠ 0 → (wq_98 x1 r1 (s.1, s.2.1, s.2.2.1, m1) (fun _ s2 => Q 0 s2))))
def wq_97 (x1 : Int) (s : sS) (Q : sQ) : Prop := wq_130 x1 s.1 s.2.2.2 (fun r1 m1 => wq_26 r1 m1 (fun r2 m2 => (r2 ≤ 0 → (wq_97_62 x1 r1 0 0 (s.1, s.2.1, s.2.2.1, m2) Q)) ∧ (0 < r2 → (wq_132 x1 0 s.1 m2 (fun r3 m3 => wq_124 r3 s.1 m3 (fun r4 m4 => wq_129 r4 s.1 m4 (fun r5 m5 => wq_130 r4 s.1 m5 (fun r6 m6 => wq_97_62 x1 r1 r5 r6 (s.1, s.2.1, s.2.2.1, m6) Q))))))))
theorem wc_60_r21_1t_0t_1t (x1 : Int) (x2 : Int) (x3 : Int) (s : sS) (R : Int → hy_m → Prop) (h : wq_60 21 x1 x2 x3 s.1 s.2.2.2 R) : we_60 [(5, true, 21), (1, true, x1), (0, true, x2), (1, true, x3)] s R := h
theorem wc_98_r36_0t_0t (x1 : Int) (x2 : Int) (s : sS) (R : Int → sS → Prop) (h : wq_98 x1 x2 s R) : we_98 [(5, true, 36), (0, true, x1), (0, true, x2)] s R := h
def cs_97 : List (Nat × Nat × sFS) := [(26, 0, .inl we_26), (60, 0, .inl we_60), (98, 9, .inr we_98), (124, 0, .inl we_124), (129, 0, .inl we_129), (130, 1, .inl we_130), (132, 0, .inl we_132)]
theorem cs_97_ok : kCs dC 4 cs_97 := (kCs_c (Or.inl rfl) (we_26_ok.deep (by decide)) (kCs_c (Or.inl rfl) (we_60_ok.deep (by decide)) (kCs_c (Or.inr (Or.inr (Or.inr (Or.inr rfl)))) (we_98_ok.deep (by decide)) (kCs_c (Or.inl rfl) (we_124_ok.deep (by decide)) (kCs_c (Or.inl rfl) (we_129_ok.deep (by decide)) (kCs_c (Or.inr (Or.inl rfl)) (we_130_ok.deep (by decide)) (kCs_c (Or.inl rfl) (we_132_ok.deep (by decide)) kCs_n)))))))
def lb_97_62 (s : sS) (Q : sQ) (x1 : Int) (x2 : Int) (x4 : Int) (x5 : Int) : Nat → Option (sL → sS → Prop) := sLb []
set_option maxRecDepth 30000 in
set_option maxHeartbeats 1000000 in
theorem wk_97_62 (Q : sQ) (s : sS) (x1 : Int) (x2 : Int) (x4 : Int) (x5 : Int) (hr : sRg [(0, 5, 36), (1, 0, 0), (2, 1, 0), (4, 0, 0), (5, 1, 0)] [x1, x2, x4, x5]) (h : wq_97_62 x1 x2 x4 x5 s Q) : kX dC 4 im_m97 9 62 (sCan [(0, 5, 36), (1, 0, 0), (2, 1, 0), (4, 0, 0), (5, 1, 0)] [x1, x2, x4, x5]) [] s Q := by
  unfold wq_97_62 at h
  refine wz2_ok (cs := cs_97) (wr := []) (lb := lb_97_62 s Q x1 x2 x4 x5) cs_97_ok kLb_n (okL_can rfl hr) (fun Y hY hl => ?_)
  refine hY _ _ _ _ (hY _ _ _ _ (hY _ _ _ _ (?_ : Y 67 [(0, 5, true, 36), (1, 0, true, x1), (2, 1, true, x2), (4, 0, true, x4), (5, 1, true, x5)] [(1, true, x2), (5, true, 21)] s)))
  refine hY _ _ _ _ (hY _ _ _ _ (?_ : Y 71 [(0, 5, true, 36), (1, 0, true, x1), (2, 1, true, x2), (4, 0, true, x4), (5, 1, true, x5)] [(1, true, x5), (0, true, x4), (1, true, x2), (5, true, 21)] s))
  refine hY _ _ _ _ ?_
  refine Exists.intro _ (And.intro (wc_60_r21_1t_0t_1t x2 x4 x5 _ _ h) (fun r1 m1 h => ?_))
  refine hY _ _ _ _ (hY _ _ _ _ (?_ : Y 78 [(7, 0, true, r1), (0, 5, true, 36), (1, 0, true, x1), (2, 1, true, x2), (4, 0, true, x4), (5, 1, true, x5)] [(0, true, r1)] (s.1, s.2.1, s.2.2.1, m1)))
  refine hY _ _ _ _ ?_
  refine And.intro (fun hc => ?_) (fun hc => ?_)
  · have h := h.1 hc
    show Y 88 [(7, 0, true, r1), (0, 5, true, 36), (1, 0, true, x1), (2, 1, true, x2), (4, 0, true, x4), (5, 1, true, x5)] [] (s.1, s.2.1, s.2.2.1, m1)
    refine hY _ _ _ _ ?_
    exact h
  · have h := h.2 hc
    refine hY _ _ _ _ (hY _ _ _ _ (hY _ _ _ _ (?_ : Y 85 [(7, 0, true, r1), (0, 5, true, 36), (1, 0, true, x1), (2, 1, true, x2), (4, 0, true, x4), (5, 1, true, x5)] [(0, true, r1), (0, true, x1), (5, true, 36)] (s.1, s.2.1, s.2.2.1, m1))))
    refine hY _ _ _ _ ?_
    refine Exists.intro _ (And.intro (wc_98_r36_0t_0t x1 r1 _ _ h) (fun r2 s2 h => ?_))
    show Y 88 [(7, 0, true, r1), (0, 5, true, 36), (1, 0, true, x1), (2, 1, true, x2), (4, 0, true, x4), (5, 1, true, x5)] [] s2
    refine hY _ _ _ _ ?_
    exact h
def lb_97_0 (s : sS) (Q : sQ) (x1 : Int) : Nat → Option (sL → sS → Prop) := sLb [(62, fun lv t => sG [(0, 5, 36), (1, 0, 0), (2, 1, 0), (4, 0, 0), (5, 1, 0)] lv (ap4 (fun w1 w2 w4 w5 => wq_97_62 w1 w2 w4 w5 t Q)))]
set_option maxRecDepth 30000 in
set_option maxHeartbeats 1000000 in
theorem wk_97_0 (Q : sQ) (s : sS) (x1 : Int) (hr : sRg [(0, 5, 36), (1, 0, 0)] [x1]) (h : wq_97 x1 s Q) : kX dC 4 im_m97 9 0 (sCan [(0, 5, 36), (1, 0, 0)] [x1]) [] s Q := by
  unfold wq_97 at h
  refine wz2_ok (cs := cs_97) (wr := []) (lb := lb_97_0 s Q x1) cs_97_ok (kLb_c (kLab (Bd := fun xs t => ap4 (fun w1 w2 w4 w5 => wq_97_62 w1 w2 w4 w5 t Q) xs) rfl (fun xs t r1 r2 hb => by obtain ⟨w1, w2, w4, w5, rfl, hb⟩ := ap4_ok hb; exact wk_97_62 Q t _ _ _ _ r1 hb)) kLb_n) (okL_can rfl hr) (fun Y hY hl => ?_)
  have l62 := hl 62 _ rfl
  refine hY _ _ _ _ (hY _ _ _ _ (hY _ _ _ _ (?_ : Y 5 [(0, 5, true, 36), (1, 0, true, x1)] [(0, true, x1), (5, true, 41)] s)))
  refine hY _ _ _ _ ?_
  refine Exists.intro _ (And.intro (wc_130_r41_0t x1 _ _ h) (fun r1 m1 h => ?_))
  refine hY _ _ _ _ (hY _ _ _ _ (hY _ _ _ _ (?_ : Y 12 [(4, 2, true, 0), (2, 1, true, r1), (0, 5, true, 36), (1, 0, true, x1)] [] (s.1, s.2.1, s.2.2.1, m1))))
  refine hY _ _ _ _ (hY _ _ _ _ (hY _ _ _ _ (?_ : Y 16 [(5, 1, true, 0), (4, 2, true, 0), (2, 1, true, r1), (0, 5, true, 36), (1, 0, true, x1)] [(1, true, r1)] (s.1, s.2.1, s.2.2.1, m1))))
  refine hY _ _ _ _ ?_
  refine Exists.intro _ (And.intro (wc_26_1t r1 _ _ h) (fun r2 m2 h => ?_))
  show Y 19 [(5, 1, true, 0), (4, 2, true, 0), (2, 1, true, r1), (0, 5, true, 36), (1, 0, true, x1)] [(0, true, r2)] (s.1, s.2.1, s.2.2.1, m2)
  refine hY _ _ _ _ ?_
  refine And.intro (fun hc => ?_) (fun hc => ?_)
  · have h := h.1 hc
    show Y 62 [(5, 1, true, 0), (4, 2, true, 0), (2, 1, true, r1), (0, 5, true, 36), (1, 0, true, x1)] [] (s.1, s.2.1, s.2.2.1, m2)
    refine l62 _ _ ?_
    exact h
  · have h := h.2 hc
    refine hY _ _ _ _ (hY _ _ _ _ (hY _ _ _ _ (?_ : Y 27 [(5, 1, true, 0), (4, 2, true, 0), (2, 1, true, r1), (0, 5, true, 36), (1, 0, true, x1)] [(5, true, 36), (5, true, 41)] (s.1, s.2.1, s.2.2.1, m2))))
    refine hY _ _ _ _ (hY _ _ _ _ (hY _ _ _ _ (?_ : Y 32 [(5, 1, true, 0), (4, 2, true, 0), (2, 1, true, r1), (0, 5, true, 36), (1, 0, true, x1)] [(2, true, 0), (0, true, x1), (5, true, 41), (5, true, 41)] (s.1, s.2.1, s.2.2.1, m2))))
    refine hY _ _ _ _ ?_
    refine Exists.intro _ (And.intro (wc_132_r41_0t_2t x1 0 _ _ h) (fun r3 m3 h => ?_))
    show Y 35 [(5, 1, true, 0), (4, 2, true, 0), (2, 1, true, r1), (0, 5, true, 36), (1, 0, true, x1)] [(0, true, r3), (5, true, 41)] (s.1, s.2.1, s.2.2.1, m3)
    refine hY _ _ _ _ ?_
    refine Exists.intro _ (And.intro (wc_124_r41_0t r3 _ _ h) (fun r4 m4 h => ?_))
    refine hY _ _ _ _ (hY _ _ _ _ (hY _ _ _ _ (?_ : Y 44 [(7, 0, true, r4), (5, 1, true, 0), (4, 2, true, 0), (2, 1, true, r1), (0, 5, true, 36), (1, 0, true, x1)] [(5, true, 41)] (s.1, s.2.1, s.2.2.1, m4))))
    refine hY _ _ _ _ (?_ : Y 46 [(7, 0, true, r4), (5, 1, true, 0), (4, 2, true, 0), (2, 1, true, r1), (0, 5, true, 36), (1, 0, true, x1)] [(0, true, r4), (5, true, 41)] (s.1, s.2.1, s.2.2.1, m4))
    refine hY _ _ _ _ ?_
    refine Exists.intro _ (And.intro (wc_129_r41_0t r4 _ _ h) (fun r5 m5 h => ?_))
    refine hY _ _ _ _ (hY _ _ _ _ (hY _ _ _ _ (?_ : Y 55 [(4, 0, true, r5), (7, 0, true, r4), (5, 1, true, 0), (2, 1, true, r1), (0, 5, true, 36), (1, 0, true, x1)] [(5, true, 41)] (s.1, s.2.1, s.2.2.1, m5))))
    refine hY _ _ _ _ (?_ : Y 57 [(4, 0, true, r5), (7, 0, true, r4), (5, 1, true, 0), (2, 1, true, r1), (0, 5, true, 36), (1, 0, true, x1)] [(0, true, r4), (5, true, 41)] (s.1, s.2.1, s.2.2.1, m5))
    refine hY _ _ _ _ ?_
    refine Exists.intro _ (And.intro (wc_130_r41_0t r4 _ _ h) (fun r6 m6 h => ?_))
    refine hY _ _ _ _ (?_ : Y 62 [(5, 1, true, r6), (4, 0, true, r5), (7, 0, true, r4), (2, 1, true, r1), (0, 5, true, 36), (1, 0, true, x1)] [] (s.1, s.2.1, s.2.2.1, m6))
    refine l62 _ _ ?_
    exact h
def we_97 : sF := sE 8 [(0, 5, 36), (1, 0, 0)] (fun xs s Q => ap1 (fun x1 => wq_97 x1 s Q) xs)
theorem we_97_ok : kS dC 5 97 9 (.inr we_97) := sE_ok (mi := im_m97) rfl rfl rfl (fun Q xs s r1 hb => by obtain ⟨x1, rfl, hb⟩ := ap1_ok hb; exact wk_97_0 Q s x1 r1 hb)
/-- LM$Search.perform(I)Z -/
def wq_93 (x1 : Int) (s : sS) (Q : sQ) : Prop := wq_132 x1 0 s.1 s.2.2.2 (fun r1 m1 => wq_132 x1 1 s.1 m1 (fun r2 m2 => wq_130 x1 s.1 m2 (fun r3 m3 => wq_23 r3 m3 (fun r4 m4 => ((r4 = 1 + 0 → (Q 1 (s.1, s.2.1, s.2.2.1, m4))) ∧ ((r4 = 1 + 1 → (Q 0 (s.1, s.2.1, s.2.2.1, m4))) ∧ ((r4 = 1 + 2 → (wq_99 (m4 36 9) s.1 m4 (fun _ m5 => Q 1 (s.1, s.2.1, s.2.2.1, m5)))) ∧ ((r4 = 1 + 3 → (wq_97 x1 (s.1, s.2.1, s.2.2.1, m4) (fun _ s6 => Q 0 s6))) ∧ ((r4 = 1 + 4 → (wq_124 r1 s.1 m4 (fun r7 m7 => wq_96 r7 (s.1, s.2.1, s.2.2.1, m7) (fun r8 s8 => Q r8 s8)))) ∧ ((r4 = 1 + 5 → (wq_148 r1 r2 38656 s.1 m4 (fun r9 m9 => Q r9 (s.1, s.2.1, s.2.2.1, m9)))) ∧ ((r4 = 1 + 6 → (wq_94 r1 r2 s.1 m4 (fun r10 m10 => Q r10 (s.1, s.2.1, s.2.2.1, m10)))) ∧ ((r4 = 1 + 7 → (wq_95 r1 r2 s.1 m4 (fun r11 m11 => Q r11 (s.1, s.2.1, s.2.2.1, m11)))) ∧ (True))))))))) ∧ (r4 < 1 ∨ 8 < r4 → (wq_97 x1 (s.1, s.2.1, s.2.2.1, m4) (fun _ s12 => Q 0 s12)))))))
theorem wc_99_r36_0t (x1 : Int) (s : sS) (R : Int → hy_m → Prop) (h : wq_99 x1 s.1 s.2.2.2 R) : we_99 [(5, true, 36), (0, true, x1)] s R := h
theorem wc_97_r36_0t (x1 : Int) (s : sS) (R : Int → sS → Prop) (h : wq_97 x1 s R) : we_97 [(5, true, 36), (0, true, x1)] s R := h
theorem wc_96_r36_0t (x1 : Int) (s : sS) (R : Int → sS → Prop) (h : wq_96 x1 s R) : we_96 [(5, true, 36), (0, true, x1)] s R := h
theorem wc_94_r36_0t_0t (x1 : Int) (x2 : Int) (s : sS) (R : Int → hy_m → Prop) (h : wq_94 x1 x2 s.1 s.2.2.2 R) : we_94 [(5, true, 36), (0, true, x1), (0, true, x2)] s R := h
theorem wc_95_r36_0t_0t (x1 : Int) (x2 : Int) (s : sS) (R : Int → hy_m → Prop) (h : wq_95 x1 x2 s.1 s.2.2.2 R) : we_95 [(5, true, 36), (0, true, x1), (0, true, x2)] s R := h
def cs_93 : List (Nat × Nat × sFS) := [(23, 0, .inl we_23), (94, 2, .inl we_94), (95, 2, .inl we_95), (96, 2, .inr we_96), (97, 9, .inr we_97), (99, 9, .inl we_99), (124, 0, .inl we_124), (130, 1, .inl we_130), (132, 0, .inl we_132), (148, 2, .inl we_148)]
theorem cs_93_ok : kCs dC 5 cs_93 := (kCs_c (Or.inl rfl) (we_23_ok.deep (by decide)) (kCs_c (Or.inr (Or.inr (Or.inl rfl))) (we_94_ok.deep (by decide)) (kCs_c (Or.inr (Or.inr (Or.inl rfl))) (we_95_ok.deep (by decide)) (kCs_c (Or.inr (Or.inr (Or.inl rfl))) (we_96_ok.deep (by decide)) (kCs_c (Or.inr (Or.inr (Or.inr (Or.inr rfl)))) (we_97_ok.deep (by decide)) (kCs_c (Or.inr (Or.inr (Or.inr (Or.inr rfl)))) (we_99_ok.deep (by decide)) (kCs_c (Or.inl rfl) (we_124_ok.deep (by decide)) (kCs_c (Or.inr (Or.inl rfl)) (we_130_ok.deep (by decide)) (kCs_c (Or.inl rfl) (we_132_ok.deep (by decide)) (kCs_c (Or.inr (Or.inr (Or.inl rfl))) (we_148_ok.deep (by decide)) kCs_n))))))))))
def lb_93_0 (s : sS) (Q : sQ) (x1 : Int) : Nat → Option (sL → sS → Prop) := sLb []
set_option maxRecDepth 30000 in
set_option maxHeartbeats 1000000 in
theorem wk_93_0 (Q : sQ) (s : sS) (x1 : Int) (hr : sRg [(0, 5, 36), (1, 0, 0)] [x1]) (h : wq_93 x1 s Q) : kX dC 5 im_m93 2 0 (sCan [(0, 5, 36), (1, 0, 0)] [x1]) [] s Q := by
  unfold wq_93 at h
  refine wz2_ok (cs := cs_93) (wr := []) (lb := lb_93_0 s Q x1) cs_93_ok kLb_n (okL_can rfl hr) (fun Y hY hl => ?_)
  refine hY _ _ _ _ (hY _ _ _ _ (hY _ _ _ _ (?_ : Y 5 [(0, 5, true, 36), (1, 0, true, x1)] [(0, true, x1), (5, true, 41)] s)))
  refine hY _ _ _ _ (?_ : Y 6 [(0, 5, true, 36), (1, 0, true, x1)] [(2, true, 0), (0, true, x1), (5, true, 41)] s)
  refine hY _ _ _ _ ?_
  refine Exists.intro _ (And.intro (wc_132_r41_0t_2t x1 0 _ _ h) (fun r1 m1 h => ?_))
  refine hY _ _ _ _ (hY _ _ _ _ (hY _ _ _ _ (?_ : Y 14 [(2, 0, true, r1), (0, 5, true, 36), (1, 0, true, x1)] [(5, true, 41)] (s.1, s.2.1, s.2.2.1, m1))))
  refine hY _ _ _ _ (hY _ _ _ _ (?_ : Y 16 [(2, 0, true, r1), (0, 5, true, 36), (1, 0, true, x1)] [(2, true, 1), (0, true, x1), (5, true, 41)] (s.1, s.2.1, s.2.2.1, m1)))
  refine hY _ _ _ _ ?_
  refine Exists.intro _ (And.intro (wc_132_r41_0t_2t x1 1 _ _ h) (fun r2 m2 h => ?_))
  refine hY _ _ _ _ (hY _ _ _ _ (hY _ _ _ _ (?_ : Y 24 [(3, 0, true, r2), (2, 0, true, r1), (0, 5, true, 36), (1, 0, true, x1)] [(5, true, 41)] (s.1, s.2.1, s.2.2.1, m2))))
  refine hY _ _ _ _ (?_ : Y 25 [(3, 0, true, r2), (2, 0, true, r1), (0, 5, true, 36), (1, 0, true, x1)] [(0, true, x1), (5, true, 41)] (s.1, s.2.1, s.2.2.1, m2))
  refine hY _ _ _ _ ?_
  refine Exists.intro _ (And.intro (wc_130_r41_0t x1 _ _ h) (fun r3 m3 h => ?_))
  show Y 28 [(3, 0, true, r2), (2, 0, true, r1), (0, 5, true, 36), (1, 0, true, x1)] [(1, true, r3)] (s.1, s.2.1, s.2.2.1, m3)
  refine hY _ _ _ _ ?_
  refine Exists.intro _ (And.intro (wc_23_1t r3 _ _ h) (fun r4 m4 h => ?_))
  show Y 31 [(3, 0, true, r2), (2, 0, true, r1), (0, 5, true, 36), (1, 0, true, x1)] [(0, true, r4)] (s.1, s.2.1, s.2.2.1, m4)
  refine hY _ _ _ _ ?_
  refine And.intro (And.intro (fun hc => ?_) (And.intro (fun hc => ?_) (And.intro (fun hc => ?_) (And.intro (fun hc => ?_) (And.intro (fun hc => ?_) (And.intro (fun hc => ?_) (And.intro (fun hc => ?_) (And.intro (fun hc => ?_) trivial)))))))) (fun hc => ?_)
  · have h := h.1.1 hc
    refine hY _ _ _ _ (?_ : Y 77 [(3, 0, true, r2), (2, 0, true, r1), (0, 5, true, 36), (1, 0, true, x1)] [(2, true, 1)] (s.1, s.2.1, s.2.2.1, m4))
    refine hY _ _ _ _ ?_
    exact h
  · have h := h.1.2.1 hc
    refine hY _ _ _ _ (?_ : Y 79 [(3, 0, true, r2), (2, 0, true, r1), (0, 5, true, 36), (1, 0, true, x1)] [(2, true, 0)] (s.1, s.2.1, s.2.2.1, m4))
    refine hY _ _ _ _ ?_
    exact h
  · have h := h.1.2.2.1 hc
    refine hY _ _ _ _ (hY _ _ _ _ (hY _ _ _ _ (?_ : Y 85 [(3, 0, true, r2), (2, 0, true, r1), (0, 5, true, 36), (1, 0, true, x1)] [(0, true, m4 36 9), (5, true, 36)] (s.1, s.2.1, s.2.2.1, m4))))
    refine hY _ _ _ _ ?_
    refine Exists.intro _ (And.intro (wc_99_r36_0t (m4 36 9) _ _ h) (fun r5 m5 h => ?_))
    refine hY _ _ _ _ (?_ : Y 89 [(3, 0, true, r2), (2, 0, true, r1), (0, 5, true, 36), (1, 0, true, x1)] [(2, true, 1)] (s.1, s.2.1, s.2.2.1, m5))
    refine hY _ _ _ _ ?_
    exact h
  · have h := h.1.2.2.2.1 hc
    refine hY _ _ _ _ (hY _ _ _ _ (?_ : Y 131 [(3, 0, true, r2), (2, 0, true, r1), (0, 5, true, 36), (1, 0, true, x1)] [(0, true, x1), (5, true, 36)] (s.1, s.2.1, s.2.2.1, m4)))
    refine hY _ _ _ _ ?_
    refine Exists.intro _ (And.intro (wc_97_r36_0t x1 _ _ h) (fun r6 s6 h => ?_))
    refine hY _ _ _ _ (?_ : Y 135 [(3, 0, true, r2), (2, 0, true, r1), (0, 5, true, 36), (1, 0, true, x1)] [(2, true, 0)] s6)
    refine hY _ _ _ _ ?_
    exact h
  · have h := h.1.2.2.2.2.1 hc
    refine hY _ _ _ _ (hY _ _ _ _ (hY _ _ _ _ (?_ : Y 121 [(3, 0, true, r2), (2, 0, true, r1), (0, 5, true, 36), (1, 0, true, x1)] [(5, true, 41), (5, true, 36)] (s.1, s.2.1, s.2.2.1, m4))))
    refine hY _ _ _ _ (?_ : Y 122 [(3, 0, true, r2), (2, 0, true, r1), (0, 5, true, 36), (1, 0, true, x1)] [(0, true, r1), (5, true, 41), (5, true, 36)] (s.1, s.2.1, s.2.2.1, m4))
    refine hY _ _ _ _ ?_
    refine Exists.intro _ (And.intro (wc_124_r41_0t r1 _ _ h) (fun r7 m7 h => ?_))
    show Y 125 [(3, 0, true, r2), (2, 0, true, r1), (0, 5, true, 36), (1, 0, true, x1)] [(0, true, r7), (5, true, 36)] (s.1, s.2.1, s.2.2.1, m7)
    refine hY _ _ _ _ ?_
    refine Exists.intro _ (And.intro (wc_96_r36_0t r7 _ _ h) (fun r8 s8 h => ?_))
    show Y 128 [(3, 0, true, r2), (2, 0, true, r1), (0, 5, true, 36), (1, 0, true, x1)] [(2, true, r8)] s8
    refine hY _ _ _ _ ?_
    exact h
  · have h := h.1.2.2.2.2.2.1 hc
    refine hY _ _ _ _ (hY _ _ _ _ (hY _ _ _ _ (?_ : Y 95 [(3, 0, true, r2), (2, 0, true, r1), (0, 5, true, 36), (1, 0, true, x1)] [(0, true, r1), (5, true, 47)] (s.1, s.2.1, s.2.2.1, m4))))
    refine hY _ _ _ _ (hY _ _ _ _ (?_ : Y 98 [(3, 0, true, r2), (2, 0, true, r1), (0, 5, true, 36), (1, 0, true, x1)] [(0, true, 38656), (0, true, r2), (0, true, r1), (5, true, 47)] (s.1, s.2.1, s.2.2.1, m4)))
    refine hY _ _ _ _ ?_
    refine Exists.intro _ (And.intro (wc_148_r47_0t_0t_0t r1 r2 38656 _ _ h) (fun r9 m9 h => ?_))
    show Y 101 [(3, 0, true, r2), (2, 0, true, r1), (0, 5, true, 36), (1, 0, true, x1)] [(2, true, r9)] (s.1, s.2.1, s.2.2.1, m9)
    refine hY _ _ _ _ ?_
    exact h
  · have h := h.1.2.2.2.2.2.2.1 hc
    refine hY _ _ _ _ (hY _ _ _ _ (hY _ _ _ _ (?_ : Y 105 [(3, 0, true, r2), (2, 0, true, r1), (0, 5, true, 36), (1, 0, true, x1)] [(0, true, r2), (0, true, r1), (5, true, 36)] (s.1, s.2.1, s.2.2.1, m4))))
    refine hY _ _ _ _ ?_
    refine Exists.intro _ (And.intro (wc_94_r36_0t_0t r1 r2 _ _ h) (fun r10 m10 h => ?_))
    show Y 108 [(3, 0, true, r2), (2, 0, true, r1), (0, 5, true, 36), (1, 0, true, x1)] [(2, true, r10)] (s.1, s.2.1, s.2.2.1, m10)
    refine hY _ _ _ _ ?_
    exact h
  · have h := h.1.2.2.2.2.2.2.2.1 hc
    refine hY _ _ _ _ (hY _ _ _ _ (hY _ _ _ _ (?_ : Y 112 [(3, 0, true, r2), (2, 0, true, r1), (0, 5, true, 36), (1, 0, true, x1)] [(0, true, r2), (0, true, r1), (5, true, 36)] (s.1, s.2.1, s.2.2.1, m4))))
    refine hY _ _ _ _ ?_
    refine Exists.intro _ (And.intro (wc_95_r36_0t_0t r1 r2 _ _ h) (fun r11 m11 h => ?_))
    show Y 115 [(3, 0, true, r2), (2, 0, true, r1), (0, 5, true, 36), (1, 0, true, x1)] [(2, true, r11)] (s.1, s.2.1, s.2.2.1, m11)
    refine hY _ _ _ _ ?_
    exact h
  · have h := h.2 hc
    refine hY _ _ _ _ (hY _ _ _ _ (?_ : Y 131 [(3, 0, true, r2), (2, 0, true, r1), (0, 5, true, 36), (1, 0, true, x1)] [(0, true, x1), (5, true, 36)] (s.1, s.2.1, s.2.2.1, m4)))
    refine hY _ _ _ _ ?_
    refine Exists.intro _ (And.intro (wc_97_r36_0t x1 _ _ h) (fun r12 s12 h => ?_))
    refine hY _ _ _ _ (?_ : Y 135 [(3, 0, true, r2), (2, 0, true, r1), (0, 5, true, 36), (1, 0, true, x1)] [(2, true, 0)] s12)
    refine hY _ _ _ _ ?_
    exact h
def we_93 : sF := sE 4 [(0, 5, 36), (1, 0, 0)] (fun xs s Q => ap1 (fun x1 => wq_93 x1 s Q) xs)
theorem we_93_ok : kS dC 6 93 2 (.inr we_93) := sE_ok (mi := im_m93) rfl rfl rfl (fun Q xs s r1 hb => by obtain ⟨x1, rfl, hb⟩ := ap1_ok hb; exact wk_93_0 Q s x1 r1 hb)
/-- LM$Search.proceed(I)I -/
def wf_89_21 (x1 : Int) (Q : sQ) (P21 : Int → Int → sS → Prop) (x2 : Int) (x3 : Int) (s : sS) : Prop := (1000000 ≤ x3 → (Q (s.2.2.2 36 10) s)) ∧ (x3 < 1000000 → (((s.2.2.2 36 10) ≠ 1 → (Q (s.2.2.2 36 10) s)) ∧ ((s.2.2.2 36 10) = 1 → (((s.2.2.2 36 6) = 0 → (hy_r 0 ((s.2.2.2 36 13) + 1) ∧ (hy_r 0 (x3 + 1) ∧ (P21 x2 (x3 + 1) (s.1, s.2.1, s.2.2.1, hy_u (hy_u s.2.2.2 36 10 2) 36 13 ((s.2.2.2 36 13) + 1)))))) ∧ ((s.2.2.2 36 6) ≠ 0 → (s.1.1 (s.2.2.2 36 6).toNat = some (4, 5) ∧ (((s.2.2.2 ((s.2.2.2 36 6).toNat) 0) ≠ (-2) → (((s.2.2.2 36 12) < 300 → ((x2 < x1 → (wq_90 (s.2.2.2 36 6) s (fun r1 s1 => (r1 ≠ (-9) → (wq_93 r1 s1 (fun r2 s2 => (r2 ≠ 0 → (hy_r 0 (x2 + 1) ∧ (hy_r 0 (x3 + 1) ∧ (P21 (x2 + 1) (x3 + 1) s2)))) ∧ (r2 = 0 → (wq_100 s2 (fun _ s3 => hy_r 0 (x2 + 1) ∧ (hy_r 0 (x3 + 1) ∧ (P21 (x2 + 1) (x3 + 1) s3)))))))) ∧ (r1 = (-9) → (wq_88 4 1 s1.1 s1.2.2.2 (fun _ m4 => hy_r 0 (x2 + 1) ∧ (hy_r 0 (x3 + 1) ∧ (P21 (x2 + 1) (x3 + 1) (s1.1, s1.2.1, s1.2.2.1, m4))))))))) ∧ (x1 ≤ x2 → (Q (s.2.2.2 36 10) s)))) ∧ (300 ≤ (s.2.2.2 36 12) → (wq_88 4 3 s.1 s.2.2.2 (fun _ m5 => hy_r 0 (x3 + 1) ∧ (P21 x2 (x3 + 1) (s.1, s.2.1, s.2.2.1, m5))))))) ∧ ((s.2.2.2 ((s.2.2.2 36 6).toNat) 0) = (-2) → (s.1.1 (s.2.2.2 36 6).toNat = some (4, 5) ∧ (wq_99 (s.2.2.2 ((s.2.2.2 36 6).toNat) 3) s.1 s.2.2.2 (fun _ m6 => wq_100 (s.1, s.2.1, s.2.2.1, m6) (fun _ s7 => hy_r 0 (x3 + 1) ∧ (P21 x2 (x3 + 1) s7)))))))))))))
def wq_89_21 (x1 : Int) (x2 : Int) (x3 : Int) (s : sS) (Q : sQ) : Prop := wL2 sS (wf_89_21 x1 Q) x2 x3 s
def wq_89 (x1 : Int) (s : sS) (Q : sQ) : Prop := ((s.2.2.2 36 10) ≠ 2 → (wq_89_21 x1 0 0 s Q)) ∧ ((s.2.2.2 36 10) = 2 → (wq_100 (s.1, s.2.1, s.2.2.1, hy_u s.2.2.2 36 10 1) (fun _ s1 => wq_89_21 x1 0 0 s1 Q)))
theorem wc_90_r36_3t (x1 : Int) (s : sS) (R : Int → sS → Prop) (h : wq_90 x1 s R) : we_90 [(5, true, 36), (3, true, x1)] s R := h
theorem wc_93_r36_0t (x1 : Int) (s : sS) (R : Int → sS → Prop) (h : wq_93 x1 s R) : we_93 [(5, true, 36), (0, true, x1)] s R := h
theorem wc_100_r36 (s : sS) (R : Int → sS → Prop) (h : wq_100 s R) : we_100 [(5, true, 36)] s R := h
def cs_89 : List (Nat × Nat × sFS) := [(88, 9, .inl we_88), (90, 0, .inr we_90), (93, 2, .inr we_93), (99, 9, .inl we_99), (100, 9, .inr we_100)]
theorem cs_89_ok : kCs dC 6 cs_89 := (kCs_c (Or.inr (Or.inr (Or.inr (Or.inr rfl)))) (we_88_ok.deep (by decide)) (kCs_c (Or.inl rfl) (we_90_ok.deep (by decide)) (kCs_c (Or.inr (Or.inr (Or.inl rfl))) (we_93_ok.deep (by decide)) (kCs_c (Or.inr (Or.inr (Or.inr (Or.inr rfl)))) (we_99_ok.deep (by decide)) (kCs_c (Or.inr (Or.inr (Or.inr (Or.inr rfl)))) (we_100_ok.deep (by decide)) kCs_n)))))
def lb_89_21 (s : sS) (Q : sQ) (P21 : Int → Int → sS → Prop) (x1 : Int) (x2 : Int) (x3 : Int) : Nat → Option (sL → sS → Prop) := sLb [(21, fun lv t => sG [(0, 5, 36), (1, 0, 0), (2, 0, 0), (3, 0, 0)] lv (ap3 (fun w1 w2 w3 => w1 = x1 ∧ P21 w2 w3 t)))]
set_option maxRecDepth 30000 in
set_option maxHeartbeats 1000000 in
theorem wj_89_21 (Q : sQ) (s : sS) (P21 : Int → Int → sS → Prop) (x1 : Int) (x2 : Int) (x3 : Int) (hP21 : ∀ (z2 z3 : Int) (t : sS), P21 z2 z3 t → sRg [(0, 5, 36), (1, 0, 0), (2, 0, 0), (3, 0, 0)] [x1, z2, z3] → kX dC 6 im_m89 0 21 (sCan [(0, 5, 36), (1, 0, 0), (2, 0, 0), (3, 0, 0)] [x1, z2, z3]) [] t Q) (hr : sRg [(0, 5, 36), (1, 0, 0), (2, 0, 0), (3, 0, 0)] [x1, x2, x3]) (h : wf_89_21 x1 Q P21 x2 x3 s) : kX dC 6 im_m89 0 21 (sCan [(0, 5, 36), (1, 0, 0), (2, 0, 0), (3, 0, 0)] [x1, x2, x3]) [] s Q := by
  unfold wf_89_21 at h
  refine wz2_ok (cs := cs_89) (wr := []) (lb := lb_89_21 s Q P21 x1 x2 x3) cs_89_ok (kLb_c (kLab (Bd := fun xs t => ap3 (fun w1 w2 w3 => w1 = x1 ∧ P21 w2 w3 t) xs) rfl (fun xs t r1 r2 hb => by obtain ⟨w1, w2, w3, rfl, hb⟩ := ap3_ok hb; obtain ⟨rfl, hx⟩ := hb; exact hP21 _ _ t hx r1)) kLb_n) (okL_can rfl hr) (fun Y hY hl => ?_)
  have l21 := hl 21 _ rfl
  refine hY _ _ _ _ (hY _ _ _ _ (?_ : Y 24 [(0, 5, true, 36), (1, 0, true, x1), (2, 0, true, x2), (3, 0, true, x3)] [(0, true, 1000000), (0, true, x3)] s))
  refine hY _ _ _ _ ?_
  refine And.intro (fun hc => ?_) (fun hc => ?_)
  · have h := h.1 hc
    refine hY _ _ _ _ (hY _ _ _ _ (?_ : Y 171 [(0, 5, true, 36), (1, 0, true, x1), (2, 0, true, x2), (3, 0, true, x3)] [(0, true, s.2.2.2 36 10)] s))
    refine hY _ _ _ _ ?_
    exact h
  · have h := h.2 hc
    refine hY _ _ _ _ (hY _ _ _ _ (hY _ _ _ _ (?_ : Y 32 [(0, 5, true, 36), (1, 0, true, x1), (2, 0, true, x2), (3, 0, true, x3)] [(2, true, 1), (0, true, s.2.2.2 36 10)] s)))
    refine hY _ _ _ _ ?_
    refine And.intro (fun hc => ?_) (fun hc => ?_)
    · have h := h.1 hc
      refine hY _ _ _ _ (hY _ _ _ _ (?_ : Y 171 [(0, 5, true, 36), (1, 0, true, x1), (2, 0, true, x2), (3, 0, true, x3)] [(0, true, s.2.2.2 36 10)] s))
      refine hY _ _ _ _ ?_
      exact h
    · have h := h.2 hc
      refine hY _ _ _ _ (hY _ _ _ _ (?_ : Y 39 [(0, 5, true, 36), (1, 0, true, x1), (2, 0, true, x2), (3, 0, true, x3)] [(3, true, s.2.2.2 36 6)] s))
      refine hY _ _ _ _ ?_
      refine And.intro (fun hc => ?_) (fun hc => ?_)
      · have h := h.1 hc
        refine hY _ _ _ _ (hY _ _ _ _ (?_ : Y 44 [(0, 5, true, 36), (1, 0, true, x1), (2, 0, true, x2), (3, 0, true, x3)] [(0, true, 2), (5, true, 36)] s))
        refine hY _ _ _ _ ?_
        refine hY _ _ _ _ (hY _ _ _ _ (hY _ _ _ _ (?_ : Y 52 [(0, 5, true, 36), (1, 0, true, x1), (2, 0, true, x2), (3, 0, true, x3)] [(0, true, s.2.2.2 36 13), (5, true, 36)] (s.1, s.2.1, s.2.2.1, hy_u s.2.2.2 36 10 2))))
        refine hY _ _ _ _ (hY _ _ _ _ (?_ : Y 54 [(0, 5, true, 36), (1, 0, true, x1), (2, 0, true, x2), (3, 0, true, x3)] [(0, false, (s.2.2.2 36 13) + 1), (5, true, 36)] (s.1, s.2.1, s.2.2.1, hy_u s.2.2.2 36 10 2)))
        refine hY _ _ _ _ ?_
        refine And.intro h.1 ?_
        refine hY _ _ _ _ (hY _ _ _ _ (hY _ _ _ _ (?_ : Y 21 [(3, 0, false, x3 + 1), (0, 5, true, 36), (1, 0, true, x1), (2, 0, true, x2)] [] (s.1, s.2.1, s.2.2.1, hy_u (hy_u s.2.2.2 36 10 2) 36 13 ((s.2.2.2 36 13) + 1)))))
        refine l21 _ _ ?_
        refine And.intro h.2.1 ?_
        exact (And.intro rfl h.2.2)
      · have h := h.2 hc
        refine hY _ _ _ _ (hY _ _ _ _ (?_ : Y 64 [(0, 5, true, 36), (1, 0, true, x1), (2, 0, true, x2), (3, 0, true, x3)] [(3, true, s.2.2.2 36 6)] s))
        refine hY _ _ _ _ ?_
        refine (And.intro h.1 ?_)
        refine hY _ _ _ _ (?_ : Y 69 [(0, 5, true, 36), (1, 0, true, x1), (2, 0, true, x2), (3, 0, true, x3)] [(0, true, (-2)), (0, true, s.2.2.2 ((s.2.2.2 36 6).toNat) 0)] s)
        refine hY _ _ _ _ ?_
        refine And.intro (fun hc => ?_) (fun hc => ?_)
        · have h := h.2.1 hc
          refine hY _ _ _ _ (hY _ _ _ _ (hY _ _ _ _ (?_ : Y 97 [(0, 5, true, 36), (1, 0, true, x1), (2, 0, true, x2), (3, 0, true, x3)] [(0, true, 300), (0, true, s.2.2.2 36 12)] s)))
          refine hY _ _ _ _ ?_
          refine And.intro (fun hc => ?_) (fun hc => ?_)
          · have h := h.1 hc
            refine hY _ _ _ _ (hY _ _ _ _ (?_ : Y 111 [(0, 5, true, 36), (1, 0, true, x1), (2, 0, true, x2), (3, 0, true, x3)] [(0, true, x1), (0, true, x2)] s))
            refine hY _ _ _ _ ?_
            refine And.intro (fun hc => ?_) (fun hc => ?_)
            · have h := h.1 hc
              refine hY _ _ _ _ (hY _ _ _ _ (hY _ _ _ _ (?_ : Y 124 [(2, 0, false, x2 + 1), (0, 5, true, 36), (1, 0, true, x1), (3, 0, true, x3)] [(5, true, 36), (5, true, 36)] s)))
              refine hY _ _ _ _ (?_ : Y 127 [(2, 0, false, x2 + 1), (0, 5, true, 36), (1, 0, true, x1), (3, 0, true, x3)] [(3, true, s.2.2.2 36 6), (5, true, 36)] s)
              refine hY _ _ _ _ ?_
              refine Exists.intro _ (And.intro (wc_90_r36_3t (s.2.2.2 36 6) _ _ h) (fun r1 s1 h => ?_))
              refine hY _ _ _ _ (hY _ _ _ _ (hY _ _ _ _ (?_ : Y 136 [(4, 0, true, r1), (2, 0, false, x2 + 1), (0, 5, true, 36), (1, 0, true, x1), (3, 0, true, x3)] [(0, true, (-9)), (0, true, r1)] s1)))
              refine hY _ _ _ _ ?_
              refine And.intro (fun hc => ?_) (fun hc => ?_)
              · have h := h.1 hc
                refine hY _ _ _ _ (hY _ _ _ _ (?_ : Y 151 [(4, 0, true, r1), (2, 0, false, x2 + 1), (0, 5, true, 36), (1, 0, true, x1), (3, 0, true, x3)] [(0, true, r1), (5, true, 36)] s1))
                refine hY _ _ _ _ ?_
                refine Exists.intro _ (And.intro (wc_93_r36_0t r1 _ _ h) (fun r2 s2 h => ?_))
                show Y 154 [(4, 0, true, r1), (2, 0, false, x2 + 1), (0, 5, true, 36), (1, 0, true, x1), (3, 0, true, x3)] [(2, true, r2)] s2
                refine hY _ _ _ _ ?_
                refine And.intro (fun hc => ?_) (fun hc => ?_)
                · have h := h.1 hc
                  refine hY _ _ _ _ (hY _ _ _ _ (?_ : Y 21 [(3, 0, false, x3 + 1), (4, 0, true, r1), (2, 0, false, x2 + 1), (0, 5, true, 36), (1, 0, true, x1)] [] s2))
                  refine l21 _ _ ?_
                  refine And.intro h.1 ?_
                  refine And.intro h.2.1 ?_
                  exact (And.intro rfl h.2.2)
                · have h := h.2 hc
                  refine hY _ _ _ _ (?_ : Y 158 [(4, 0, true, r1), (2, 0, false, x2 + 1), (0, 5, true, 36), (1, 0, true, x1), (3, 0, true, x3)] [(5, true, 36)] s2)
                  refine hY _ _ _ _ ?_
                  refine Exists.intro _ (And.intro (wc_100_r36 _ _ h) (fun r3 s3 h => ?_))
                  refine hY _ _ _ _ (hY _ _ _ _ (?_ : Y 21 [(3, 0, false, x3 + 1), (4, 0, true, r1), (2, 0, false, x2 + 1), (0, 5, true, 36), (1, 0, true, x1)] [] s3))
                  refine l21 _ _ ?_
                  refine And.intro h.1 ?_
                  refine And.intro h.2.1 ?_
                  exact (And.intro rfl h.2.2)
              · have h := h.2 hc
                refine hY _ _ _ _ (hY _ _ _ _ (hY _ _ _ _ (?_ : Y 142 [(4, 0, true, r1), (2, 0, false, x2 + 1), (0, 5, true, 36), (1, 0, true, x1), (3, 0, true, x3)] [(2, true, 1), (0, true, 4), (5, true, 36)] s1)))
                refine hY _ _ _ _ ?_
                refine Exists.intro _ (And.intro (wc_88_r36_0t_2t 4 1 _ _ h) (fun r4 m4 h => ?_))
                refine hY _ _ _ _ (hY _ _ _ _ (hY _ _ _ _ (?_ : Y 21 [(3, 0, false, x3 + 1), (4, 0, true, r1), (2, 0, false, x2 + 1), (0, 5, true, 36), (1, 0, true, x1)] [] (s1.1, s1.2.1, s1.2.2.1, m4))))
                refine l21 _ _ ?_
                refine And.intro h.1 ?_
                refine And.intro h.2.1 ?_
                exact (And.intro rfl h.2.2)
            · have h := h.2 hc
              refine hY _ _ _ _ (hY _ _ _ _ (?_ : Y 118 [(0, 5, true, 36), (1, 0, true, x1), (2, 0, true, x2), (3, 0, true, x3)] [(0, true, s.2.2.2 36 10)] s))
              refine hY _ _ _ _ ?_
              exact h
          · have h := h.2 hc
            refine hY _ _ _ _ (hY _ _ _ _ (hY _ _ _ _ (?_ : Y 103 [(0, 5, true, 36), (1, 0, true, x1), (2, 0, true, x2), (3, 0, true, x3)] [(0, true, 3), (0, true, 4), (5, true, 36)] s)))
            refine hY _ _ _ _ ?_
            refine Exists.intro _ (And.intro (wc_88_r36_0t_0t 4 3 _ _ h) (fun r5 m5 h => ?_))
            refine hY _ _ _ _ (hY _ _ _ _ (hY _ _ _ _ (?_ : Y 21 [(3, 0, false, x3 + 1), (0, 5, true, 36), (1, 0, true, x1), (2, 0, true, x2)] [] (s.1, s.2.1, s.2.2.1, m5))))
            refine l21 _ _ ?_
            refine And.intro h.1 ?_
            exact (And.intro rfl h.2)
        · have h := h.2.2 hc
          refine hY _ _ _ _ (hY _ _ _ _ (hY _ _ _ _ (?_ : Y 77 [(0, 5, true, 36), (1, 0, true, x1), (2, 0, true, x2), (3, 0, true, x3)] [(3, true, s.2.2.2 36 6), (5, true, 36)] s)))
          refine hY _ _ _ _ ?_
          refine (And.intro h.1 ?_)
          show Y 80 [(0, 5, true, 36), (1, 0, true, x1), (2, 0, true, x2), (3, 0, true, x3)] [(0, true, s.2.2.2 ((s.2.2.2 36 6).toNat) 3), (5, true, 36)] s
          refine hY _ _ _ _ ?_
          refine Exists.intro _ (And.intro (wc_99_r36_0t (s.2.2.2 ((s.2.2.2 36 6).toNat) 3) _ _ h.2) (fun r6 m6 h => ?_))
          refine hY _ _ _ _ (?_ : Y 84 [(0, 5, true, 36), (1, 0, true, x1), (2, 0, true, x2), (3, 0, true, x3)] [(5, true, 36)] (s.1, s.2.1, s.2.2.1, m6))
          refine hY _ _ _ _ ?_
          refine Exists.intro _ (And.intro (wc_100_r36 _ _ h) (fun r7 s7 h => ?_))
          refine hY _ _ _ _ (hY _ _ _ _ (hY _ _ _ _ (?_ : Y 21 [(3, 0, false, x3 + 1), (0, 5, true, 36), (1, 0, true, x1), (2, 0, true, x2)] [] s7)))
          refine l21 _ _ ?_
          refine And.intro h.1 ?_
          exact (And.intro rfl h.2)
theorem wk_89_21 (Q : sQ) (s : sS) (x1 : Int) (x2 : Int) (x3 : Int) (hr : sRg [(0, 5, 36), (1, 0, 0), (2, 0, 0), (3, 0, 0)] [x1, x2, x3]) (h : wq_89_21 x1 x2 x3 s Q) : kX dC 6 im_m89 0 21 (sCan [(0, 5, 36), (1, 0, 0), (2, 0, 0), (3, 0, 0)] [x1, x2, x3]) [] s Q :=
  h (fun x2 x3 s => sRg [(0, 5, 36), (1, 0, 0), (2, 0, 0), (3, 0, 0)] [x1, x2, x3] → kX dC 6 im_m89 0 21 (sCan [(0, 5, 36), (1, 0, 0), (2, 0, 0), (3, 0, 0)] [x1, x2, x3]) [] s Q) (fun x2 x3 s h hr => wj_89_21 Q s (fun x2 x3 s => sRg [(0, 5, 36), (1, 0, 0), (2, 0, 0), (3, 0, 0)] [x1, x2, x3] → kX dC 6 im_m89 0 21 (sCan [(0, 5, 36), (1, 0, 0), (2, 0, 0), (3, 0, 0)] [x1, x2, x3]) [] s Q) x1 x2 x3  (fun _ _ _ hp hr => hp hr) hr h) hr
def lb_89_0 (s : sS) (Q : sQ) (x1 : Int) : Nat → Option (sL → sS → Prop) := sLb [(21, fun lv t => sG [(0, 5, 36), (1, 0, 0), (2, 0, 0), (3, 0, 0)] lv (ap3 (fun w1 w2 w3 => wq_89_21 w1 w2 w3 t Q)))]
set_option maxRecDepth 30000 in
set_option maxHeartbeats 1000000 in
theorem wk_89_0 (Q : sQ) (s : sS) (x1 : Int) (hr : sRg [(0, 5, 36), (1, 0, 0)] [x1]) (h : wq_89 x1 s Q) : kX dC 6 im_m89 0 0 (sCan [(0, 5, 36), (1, 0, 0)] [x1]) [] s Q := by
  unfold wq_89 at h
  refine wz2_ok (cs := cs_89) (wr := []) (lb := lb_89_0 s Q x1) cs_89_ok (kLb_c (kLab (Bd := fun xs t => ap3 (fun w1 w2 w3 => wq_89_21 w1 w2 w3 t Q) xs) rfl (fun xs t r1 r2 hb => by obtain ⟨w1, w2, w3, rfl, hb⟩ := ap3_ok hb; exact wk_89_21 Q t _ _ _ r1 hb)) kLb_n) (okL_can rfl hr) (fun Y hY hl => ?_)
  have l21 := hl 21 _ rfl
  refine hY _ _ _ _ (hY _ _ _ _ (hY _ _ _ _ (?_ : Y 5 [(0, 5, true, 36), (1, 0, true, x1)] [(0, true, 2), (0, true, s.2.2.2 36 10)] s)))
  refine hY _ _ _ _ ?_
  refine And.intro (fun hc => ?_) (fun hc => ?_)
  · have h := h.1 hc
    refine hY _ _ _ _ (hY _ _ _ _ (hY _ _ _ _ (?_ : Y 20 [(2, 2, true, 0), (0, 5, true, 36), (1, 0, true, x1)] [(2, true, 0)] s)))
    refine hY _ _ _ _ (?_ : Y 21 [(3, 2, true, 0), (2, 2, true, 0), (0, 5, true, 36), (1, 0, true, x1)] [] s)
    refine l21 _ _ ?_
    exact h
  · have h := h.2 hc
    refine hY _ _ _ _ (hY _ _ _ _ (?_ : Y 10 [(0, 5, true, 36), (1, 0, true, x1)] [(2, true, 1), (5, true, 36)] s))
    refine hY _ _ _ _ ?_
    refine hY _ _ _ _ (?_ : Y 14 [(0, 5, true, 36), (1, 0, true, x1)] [(5, true, 36)] (s.1, s.2.1, s.2.2.1, hy_u s.2.2.2 36 10 1))
    refine hY _ _ _ _ ?_
    refine Exists.intro _ (And.intro (wc_100_r36 _ _ h) (fun r1 s1 h => ?_))
    refine hY _ _ _ _ (hY _ _ _ _ (hY _ _ _ _ (?_ : Y 20 [(2, 2, true, 0), (0, 5, true, 36), (1, 0, true, x1)] [(2, true, 0)] s1)))
    refine hY _ _ _ _ (?_ : Y 21 [(3, 2, true, 0), (2, 2, true, 0), (0, 5, true, 36), (1, 0, true, x1)] [] s1)
    refine l21 _ _ ?_
    exact h
def we_89 : sF := sE 5 [(0, 5, 36), (1, 0, 0)] (fun xs s Q => ap1 (fun x1 => wq_89 x1 s Q) xs)
theorem we_89_ok : kS dC 7 89 0 (.inr we_89) := sE_ok (mi := im_m89) rfl rfl rfl (fun Q xs s r1 hb => by obtain ⟨x1, rfl, hb⟩ := ap1_ok hb; exact wk_89_0 Q s x1 r1 hb)
/-- LM.run(I)I -/
def wq_14 (x1 : Int) (s : sS) (Q : sQ) : Prop := (x1 < 1 → (Q (-1) s)) ∧ (1 ≤ x1 → ((x1 ≤ 300 → (((s.2.2.2 36 10) = 1 → (wq_89 x1 s (fun r1 s1 => Q r1 s1))) ∧ ((s.2.2.2 36 10) ≠ 1 → (((s.2.2.2 36 10) = 2 → (wq_89 x1 s (fun r2 s2 => Q r2 s2))) ∧ ((s.2.2.2 36 10) ≠ 2 → (Q (-2) s)))))) ∧ (300 < x1 → (Q (-1) s))))
theorem wc_89_r36_0t (x1 : Int) (s : sS) (R : Int → sS → Prop) (h : wq_89 x1 s R) : we_89 [(5, true, 36), (0, true, x1)] s R := h
def cs_14 : List (Nat × Nat × sFS) := [(89, 0, .inr we_89)]
theorem cs_14_ok : kCs dC 7 cs_14 := (kCs_c (Or.inl rfl) (we_89_ok.deep (by decide)) kCs_n)
def lb_14_0 (s : sS) (Q : sQ) (x1 : Int) : Nat → Option (sL → sS → Prop) := sLb []
set_option maxRecDepth 30000 in
set_option maxHeartbeats 1000000 in
theorem wk_14_0 (Q : sQ) (s : sS) (x1 : Int) (hr : sRg [(0, 5, 1), (1, 0, 0)] [x1]) (h : wq_14 x1 s Q) : kX dC 7 im_m14 0 0 (sCan [(0, 5, 1), (1, 0, 0)] [x1]) [] s Q := by
  unfold wq_14 at h
  refine wz2_ok (cs := cs_14) (wr := []) (lb := lb_14_0 s Q x1) cs_14_ok kLb_n (okL_can rfl hr) (fun Y hY hl => ?_)
  refine hY _ _ _ _ (hY _ _ _ _ (?_ : Y 2 [(0, 5, true, 1), (1, 0, true, x1)] [(2, true, 1), (0, true, x1)] s))
  refine hY _ _ _ _ ?_
  refine And.intro (fun hc => ?_) (fun hc => ?_)
  · have h := h.1 hc
    refine hY _ _ _ _ (?_ : Y 13 [(0, 5, true, 1), (1, 0, true, x1)] [(0, true, (-1))] s)
    refine hY _ _ _ _ ?_
    exact h
  · have h := h.2 hc
    refine hY _ _ _ _ (hY _ _ _ _ (?_ : Y 9 [(0, 5, true, 1), (1, 0, true, x1)] [(0, true, 300), (0, true, x1)] s))
    refine hY _ _ _ _ ?_
    refine And.intro (fun hc => ?_) (fun hc => ?_)
    · have h := h.1 hc
      refine hY _ _ _ _ (hY _ _ _ _ (hY _ _ _ _ (?_ : Y 21 [(0, 5, true, 1), (1, 0, true, x1)] [(0, true, s.2.2.2 36 10)] s)))
      refine hY _ _ _ _ (?_ : Y 22 [(0, 5, true, 1), (1, 0, true, x1)] [(2, true, 1), (0, true, s.2.2.2 36 10)] s)
      refine hY _ _ _ _ ?_
      refine And.intro (fun hc => ?_) (fun hc => ?_)
      · have h := h.1 hc
        refine hY _ _ _ _ (hY _ _ _ _ (hY _ _ _ _ (?_ : Y 44 [(0, 5, true, 1), (1, 0, true, x1)] [(0, true, x1), (5, true, 36)] s)))
        refine hY _ _ _ _ ?_
        refine Exists.intro _ (And.intro (wc_89_r36_0t x1 _ _ h) (fun r1 s1 h => ?_))
        show Y 47 [(0, 5, true, 1), (1, 0, true, x1)] [(0, true, r1)] s1
        refine hY _ _ _ _ ?_
        exact h
      · have h := h.2 hc
        refine hY _ _ _ _ (hY _ _ _ _ (hY _ _ _ _ (?_ : Y 32 [(0, 5, true, 1), (1, 0, true, x1)] [(0, true, s.2.2.2 36 10)] s)))
        refine hY _ _ _ _ (?_ : Y 33 [(0, 5, true, 1), (1, 0, true, x1)] [(0, true, 2), (0, true, s.2.2.2 36 10)] s)
        refine hY _ _ _ _ ?_
        refine And.intro (fun hc => ?_) (fun hc => ?_)
        · have h := h.1 hc
          refine hY _ _ _ _ (hY _ _ _ _ (hY _ _ _ _ (?_ : Y 44 [(0, 5, true, 1), (1, 0, true, x1)] [(0, true, x1), (5, true, 36)] s)))
          refine hY _ _ _ _ ?_
          refine Exists.intro _ (And.intro (wc_89_r36_0t x1 _ _ h) (fun r2 s2 h => ?_))
          show Y 47 [(0, 5, true, 1), (1, 0, true, x1)] [(0, true, r2)] s2
          refine hY _ _ _ _ ?_
          exact h
        · have h := h.2 hc
          refine hY _ _ _ _ (?_ : Y 38 [(0, 5, true, 1), (1, 0, true, x1)] [(0, true, (-2))] s)
          refine hY _ _ _ _ ?_
          exact h
    · have h := h.2 hc
      refine hY _ _ _ _ (?_ : Y 13 [(0, 5, true, 1), (1, 0, true, x1)] [(0, true, (-1))] s)
      refine hY _ _ _ _ ?_
      exact h
def we_14 : sF := sE 2 [(0, 5, 1), (1, 0, 0)] (fun xs s Q => ap1 (fun x1 => wq_14 x1 s Q) xs)
theorem we_14_ok : kS dC 8 14 0 (.inr we_14) := sE_ok (mi := im_m14) rfl rfl rfl (fun Q xs s r1 hb => by obtain ⟨x1, rfl, hb⟩ := ap1_ok hb; exact wk_14_0 Q s x1 r1 hb)
/-- LM.stop()I -/
def wq_15 (T : hy_T) (m : hy_m) (Q : Int → hy_m → Prop) : Prop := ((m 36 10) ≠ 0 → (wq_87 T m (fun _ m1 => Q (m 36 10) m1))) ∧ ((m 36 10) = 0 → (Q (-2) m))
def cs_15 : List (Nat × Nat × sFS) := [(87, 9, .inl we_87)]
theorem cs_15_ok : kCs dC 5 cs_15 := (kCs_c (Or.inr (Or.inr (Or.inr (Or.inr rfl)))) (we_87_ok.deep (by decide)) kCs_n)
def lb_15_0 (s : sS) (Q : sQ) (R : Int → hy_m → Prop) : Nat → Option (sL → sS → Prop) := sLb []
set_option maxRecDepth 30000 in
set_option maxHeartbeats 1000000 in
theorem wk_15_0 (Q : sQ) (R : Int → hy_m → Prop) (s : sS) (hQ : ∀ x m', R x m' → Q x (sM s m')) (hr : sRg [(0, 5, 1)] []) (h : wq_15 s.1 s.2.2.2 R) : kX dC 5 im_m15 0 0 (sCan [(0, 5, 1)] []) [] s Q := by
  unfold wq_15 at h
  refine wz2_ok (cs := cs_15) (wr := []) (lb := lb_15_0 s Q R) cs_15_ok kLb_n (okL_can rfl hr) (fun Y hY hl => ?_)
  refine hY _ _ _ _ (hY _ _ _ _ (hY _ _ _ _ (?_ : Y 7 [(0, 5, true, 1)] [(0, true, s.2.2.2 36 10)] s)))
  refine hY _ _ _ _ (hY _ _ _ _ (?_ : Y 9 [(1, 0, true, s.2.2.2 36 10), (0, 5, true, 1)] [(0, true, s.2.2.2 36 10)] s))
  refine hY _ _ _ _ ?_
  refine And.intro (fun hc => ?_) (fun hc => ?_)
  · have h := h.1 hc
    refine hY _ _ _ _ (hY _ _ _ _ (?_ : Y 19 [(1, 0, true, s.2.2.2 36 10), (0, 5, true, 1)] [(5, true, 36)] s))
    refine hY _ _ _ _ ?_
    refine Exists.intro _ (And.intro (wc_87_r36 _ _ h) (fun r1 m1 h => ?_))
    refine hY _ _ _ _ (?_ : Y 23 [(1, 0, true, s.2.2.2 36 10), (0, 5, true, 1)] [(0, true, s.2.2.2 36 10)] (sM s m1))
    refine hY _ _ _ _ ?_
    exact hQ (s.2.2.2 36 10) m1 h
  · have h := h.2 hc
    refine hY _ _ _ _ (?_ : Y 14 [(1, 0, true, s.2.2.2 36 10), (0, 5, true, 1)] [(0, true, (-2))] s)
    refine hY _ _ _ _ ?_
    exact hQ (-2) s.2.2.2 h
def we_15 : sFf := sEf 2 [(0, 5, 1)] (fun xs s Q => ap0 (wq_15 s.1 s.2.2.2 Q) xs)
theorem we_15_ok : kS dC 6 15 0 (.inl we_15) := sEf_ok (mi := im_m15) rfl rfl rfl (fun R xs s r1 hb => by obtain ⟨rfl, hb⟩ := ap0_ok hb; exact wk_15_0 _ R s (fun x m' hx => ⟨m', rfl, hx⟩) r1 hb)
/-- LM$Search.sumOfGoals()I -/
def wf_112_7 (T : hy_T) (Q : Int → hy_m → Prop) (P7 : Int → Int → hy_m → Prop) (x1 : Int) (x2 : Int) (m : hy_m) : Prop := (x2 = 0 → (Q x1 m)) ∧ (x2 ≠ 0 → (wq_103 x2 T m (fun r1 m1 => T.1 (x2).toNat = some (4, 5) ∧ (hy_r 0 (x1 + r1) ∧ (P7 (x1 + r1) (m1 ((x2).toNat) 2) m1)))))
def wq_112_7 (x1 : Int) (x2 : Int) (T : hy_T) (m : hy_m) (Q : Int → hy_m → Prop) : Prop := wL2 hy_m (wf_112_7 T Q) x1 x2 m
def wq_112 (T : hy_T) (m : hy_m) (Q : Int → hy_m → Prop) : Prop := wq_112_7 0 (m 36 6) T m Q
def cs_112 : List (Nat × Nat × sFS) := [(103, 0, .inl we_103)]
theorem cs_112_ok : kCs dC 2 cs_112 := (kCs_c (Or.inl rfl) (we_103_ok.deep (by decide)) kCs_n)
def lb_112_7 (s : sS) (Q : sQ) (P7 : Int → Int → hy_m → Prop) (R : Int → hy_m → Prop) (x1 : Int) (x2 : Int) : Nat → Option (sL → sS → Prop) := sLb [(7, fun lv t => sG [(0, 5, 36), (1, 0, 0), (2, 3, 0)] lv (ap2 (fun w1 w2 => ∃ m', t = sM s m' ∧ P7 w1 w2 m')))]
set_option maxRecDepth 30000 in
set_option maxHeartbeats 1000000 in
theorem wj_112_7 (Q : sQ) (R : Int → hy_m → Prop) (s : sS) (P7 : Int → Int → hy_m → Prop) (x1 : Int) (x2 : Int) (m : hy_m) (hP7 : ∀ (z1 z2 : Int) (m : hy_m), P7 z1 z2 m → sRg [(0, 5, 36), (1, 0, 0), (2, 3, 0)] [z1, z2] → kX dC 2 im_m112 0 7 (sCan [(0, 5, 36), (1, 0, 0), (2, 3, 0)] [z1, z2]) [] (sM s m) Q) (hQ : ∀ x m', R x m' → Q x (sM s m')) (hr : sRg [(0, 5, 36), (1, 0, 0), (2, 3, 0)] [x1, x2]) (h : wf_112_7 s.1 R P7 x1 x2 m) : kX dC 2 im_m112 0 7 (sCan [(0, 5, 36), (1, 0, 0), (2, 3, 0)] [x1, x2]) [] (sM s m) Q := by
  unfold wf_112_7 at h
  refine wz2_ok (cs := cs_112) (wr := []) (lb := lb_112_7 s Q P7 R x1 x2) cs_112_ok (kLb_c (kLab (Bd := fun xs t => ap2 (fun w1 w2 => ∃ m', t = sM s m' ∧ P7 w1 w2 m') xs) rfl (fun xs t r1 r2 hb => by obtain ⟨w1, w2, rfl, hb⟩ := ap2_ok hb; obtain ⟨m', rfl, hx⟩ := hb; exact hP7 _ _ m' hx r1)) kLb_n) (okL_can rfl hr) (fun Y hY hl => ?_)
  have l7 := hl 7 _ rfl
  refine hY _ _ _ _ (?_ : Y 8 [(0, 5, true, 36), (1, 0, true, x1), (2, 3, true, x2)] [(3, true, x2)] (sM s m))
  refine hY _ _ _ _ ?_
  refine And.intro (fun hc => ?_) (fun hc => ?_)
  · have h := h.1 hc
    refine hY _ _ _ _ (?_ : Y 28 [(0, 5, true, 36), (1, 0, true, x1), (2, 3, true, x2)] [(0, true, x1)] (sM s m))
    refine hY _ _ _ _ ?_
    exact hQ x1 m h
  · have h := h.2 hc
    refine hY _ _ _ _ (hY _ _ _ _ (hY _ _ _ _ (?_ : Y 14 [(0, 5, true, 36), (1, 0, true, x1), (2, 3, true, x2)] [(3, true, x2), (5, true, 36), (0, true, x1)] (sM s m))))
    refine hY _ _ _ _ ?_
    refine Exists.intro _ (And.intro (wc_103_r36_3t x2 _ _ h) (fun r1 m1 h => ?_))
    refine hY _ _ _ _ (hY _ _ _ _ (hY _ _ _ _ (?_ : Y 20 [(1, 0, false, x1 + r1), (0, 5, true, 36), (2, 3, true, x2)] [(3, true, x2)] (sM s m1))))
    refine hY _ _ _ _ ?_
    refine (And.intro h.1 ?_)
    refine hY _ _ _ _ (hY _ _ _ _ (?_ : Y 7 [(2, 3, true, m1 ((x2).toNat) 2), (1, 0, false, x1 + r1), (0, 5, true, 36)] [] (sM s m1)))
    refine l7 _ _ ?_
    refine And.intro h.2.1 ?_
    exact (Exists.intro m1 (And.intro rfl h.2.2))
theorem wk_112_7 (Q : sQ) (R : Int → hy_m → Prop) (s : sS) (x1 : Int) (x2 : Int) (hQ : ∀ x m', R x m' → Q x (sM s m')) (hr : sRg [(0, 5, 36), (1, 0, 0), (2, 3, 0)] [x1, x2]) (h : wq_112_7 x1 x2 s.1 s.2.2.2 R) : kX dC 2 im_m112 0 7 (sCan [(0, 5, 36), (1, 0, 0), (2, 3, 0)] [x1, x2]) [] s Q :=
  h (fun x1 x2 m => sRg [(0, 5, 36), (1, 0, 0), (2, 3, 0)] [x1, x2] → kX dC 2 im_m112 0 7 (sCan [(0, 5, 36), (1, 0, 0), (2, 3, 0)] [x1, x2]) [] (sM s m) Q) (fun x1 x2 m h hr => wj_112_7 Q R s (fun x1 x2 m => sRg [(0, 5, 36), (1, 0, 0), (2, 3, 0)] [x1, x2] → kX dC 2 im_m112 0 7 (sCan [(0, 5, 36), (1, 0, 0), (2, 3, 0)] [x1, x2]) [] (sM s m) Q) x1 x2 m  (fun _ _ _ hp hr => hp hr) hQ hr h) hr
def lb_112_0 (s : sS) (Q : sQ) (R : Int → hy_m → Prop) : Nat → Option (sL → sS → Prop) := sLb [(7, fun lv t => sG [(0, 5, 36), (1, 0, 0), (2, 3, 0)] lv (ap2 (fun w1 w2 => ∃ m', t = sM s m' ∧ wq_112_7 w1 w2 s.1 m' R)))]
set_option maxRecDepth 30000 in
set_option maxHeartbeats 1000000 in
theorem wk_112_0 (Q : sQ) (R : Int → hy_m → Prop) (s : sS) (hQ : ∀ x m', R x m' → Q x (sM s m')) (hr : sRg [(0, 5, 36)] []) (h : wq_112 s.1 s.2.2.2 R) : kX dC 2 im_m112 0 0 (sCan [(0, 5, 36)] []) [] s Q := by
  unfold wq_112 at h
  refine wz2_ok (cs := cs_112) (wr := []) (lb := lb_112_0 s Q R) cs_112_ok (kLb_c (kLab (Bd := fun xs t => ap2 (fun w1 w2 => ∃ m', t = sM s m' ∧ wq_112_7 w1 w2 s.1 m' R) xs) rfl (fun xs t r1 r2 hb => by obtain ⟨w1, w2, rfl, hb⟩ := ap2_ok hb; obtain ⟨m', rfl, hx⟩ := hb; exact wk_112_7 Q R (sM s m') _ _ (fun x m'' hy => hQ x m'' hy) r1 hx)) kLb_n) (okL_can rfl hr) (fun Y hY hl => ?_)
  have l7 := hl 7 _ rfl
  refine hY _ _ _ _ (hY _ _ _ _ (hY _ _ _ _ (?_ : Y 3 [(1, 2, true, 0), (0, 5, true, 36)] [(5, true, 36)] s)))
  refine hY _ _ _ _ (hY _ _ _ _ (?_ : Y 7 [(2, 3, true, s.2.2.2 36 6), (1, 2, true, 0), (0, 5, true, 36)] [] s))
  refine l7 _ _ ?_
  exact (Exists.intro s.2.2.2 (And.intro rfl h))
def we_112 : sFf := sEf 3 [(0, 5, 36)] (fun xs s Q => ap0 (wq_112 s.1 s.2.2.2 Q) xs)
theorem we_112_ok : kS dC 3 112 0 (.inl we_112) := sEf_ok (mi := im_m112) rfl rfl rfl (fun R xs s r1 hb => by obtain ⟨rfl, hb⟩ := ap0_ok hb; exact wk_112_0 _ R s (fun x m' hx => ⟨m', rfl, hx⟩) r1 hb)
/-- LM$Clause.needsFrom(I)I -/
def wq_44 (x0 : Int) (x1 : Int) (T : hy_T) (m : hy_m) (Q : Int → hy_m → Prop) : Prop := (x1 < 0 → (Q 0 m)) ∧ (0 ≤ x1 → (T.1 (x0).toNat = some (3, 9) ∧ (∃ t1 n1 : Nat, T.1 (m ((x0).toNat) 8).toNat = some (t1, n1) ∧ 99 ≤ t1 ∧ (((n1 : Int) ≤ x1 → (Q 0 m)) ∧ (x1 < (n1 : Int) → (T.1 (x0).toNat = some (3, 9) ∧ (∃ n2 : Nat, T.1 (m ((x0).toNat) 8).toNat = some (100, n2) ∧ (0 ≤ x1 ∧ x1 < (n2 : Int) ∧ (Q (m ((m ((x0).toNat) 8).toNat) x1) m)))))))))
def cs_44 : List (Nat × Nat × sFS) := []
theorem cs_44_ok : kCs dC 0 cs_44 := kCs_n
def lb_44_0 (s : sS) (Q : sQ) (R : Int → hy_m → Prop) (x0 : Int) (x1 : Int) : Nat → Option (sL → sS → Prop) := sLb []
set_option maxRecDepth 30000 in
set_option maxHeartbeats 1000000 in
theorem wk_44_0 (Q : sQ) (R : Int → hy_m → Prop) (s : sS) (x0 : Int) (x1 : Int) (hQ : ∀ x m', R x m' → Q x (sM s m')) (hr : sRg [(0, 3, 0), (1, 0, 0)] [x0, x1]) (h : wq_44 x0 x1 s.1 s.2.2.2 R) : kX dC 0 im_m44 0 0 (sCan [(0, 3, 0), (1, 0, 0)] [x0, x1]) [] s Q := by
  unfold wq_44 at h
  refine wz2_ok (cs := cs_44) (wr := []) (lb := lb_44_0 s Q R x0 x1) cs_44_ok kLb_n (okL_can rfl hr) (fun Y hY hl => ?_)
  refine hY _ _ _ _ (?_ : Y 1 [(0, 3, true, x0), (1, 0, true, x1)] [(0, true, x1)] s)
  refine hY _ _ _ _ ?_
  refine And.intro (fun hc => ?_) (fun hc => ?_)
  · have h := h.1 hc
    refine hY _ _ _ _ (?_ : Y 23 [(0, 3, true, x0), (1, 0, true, x1)] [(2, true, 0)] s)
    refine hY _ _ _ _ ?_
    exact hQ 0 s.2.2.2 h
  · have h := h.2 hc
    refine hY _ _ _ _ (hY _ _ _ _ (?_ : Y 6 [(0, 3, true, x0), (1, 0, true, x1)] [(3, true, x0), (0, true, x1)] s))
    refine hY _ _ _ _ ?_
    refine (And.intro h.1 ?_)
    show Y 9 [(0, 3, true, x0), (1, 0, true, x1)] [(3, true, s.2.2.2 ((x0).toNat) 8), (0, true, x1)] s
    refine hY _ _ _ _ ?_
    obtain ⟨t1, n1, h⟩ := h.2
    refine Exists.intro t1 (Exists.intro n1 (And.intro h.1 (And.intro h.2.1 ?_)))
    show Y 10 [(0, 3, true, x0), (1, 0, true, x1)] [(0, true, (n1 : Int)), (0, true, x1)] s
    refine hY _ _ _ _ ?_
    refine And.intro (fun hc => ?_) (fun hc => ?_)
    · have h := h.2.2.1 hc
      refine hY _ _ _ _ (?_ : Y 23 [(0, 3, true, x0), (1, 0, true, x1)] [(2, true, 0)] s)
      refine hY _ _ _ _ ?_
      exact hQ 0 s.2.2.2 h
    · have h := h.2.2.2 hc
      refine hY _ _ _ _ (?_ : Y 14 [(0, 3, true, x0), (1, 0, true, x1)] [(3, true, x0)] s)
      refine hY _ _ _ _ ?_
      refine (And.intro h.1 ?_)
      refine hY _ _ _ _ (?_ : Y 18 [(0, 3, true, x0), (1, 0, true, x1)] [(0, true, x1), (3, true, s.2.2.2 ((x0).toNat) 8)] s)
      refine hY _ _ _ _ ?_
      obtain ⟨n2, h⟩ := h.2
      refine Exists.intro n2 (And.intro h.1 ?_)
      refine (And.intro h.2.1 (And.intro h.2.2.1 ?_))
      refine hY _ _ _ _ (?_ : Y 23 [(0, 3, true, x0), (1, 0, true, x1)] [(0, true, s.2.2.2 ((s.2.2.2 ((x0).toNat) 8).toNat) x1)] s)
      refine hY _ _ _ _ ?_
      exact hQ (s.2.2.2 ((s.2.2.2 ((x0).toNat) 8).toNat) x1) s.2.2.2 h.2.2.2
def we_44 : sFf := sEf 2 [(0, 3, 0), (1, 0, 0)] (fun xs s Q => ap2 (fun x0 x1 => wq_44 x0 x1 s.1 s.2.2.2 Q) xs)
theorem we_44_ok : kS dC 1 44 0 (.inl we_44) := sEf_ok (mi := im_m44) rfl rfl rfl (fun R xs s r1 hb => by obtain ⟨x0, x1, rfl, hb⟩ := ap2_ok hb; exact wk_44_0 _ R s x0 x1 (fun x m' hx => ⟨m', rfl, hx⟩) r1 hb)
/-- LM$Search.variablesLeft(LLogicMachine$Frame;)I -/
def wq_104 (x1 : Int) (T : hy_T) (m : hy_m) (Q : Int → hy_m → Prop) : Prop := T.1 (x1).toNat = some (4, 5) ∧ ((0 ≤ (m ((x1).toNat) 0) → (T.1 (x1).toNat = some (4, 5) ∧ (wq_127 (m ((x1).toNat) 0) T m (fun r1 m1 => T.1 (x1).toNat = some (4, 5) ∧ (T.1 (r1).toNat = some (3, 9) ∧ (wq_44 r1 (m1 ((x1).toNat) 1) T m1 (fun r2 m2 => Q r2 m2))))))) ∧ ((m ((x1).toNat) 0) < 0 → (Q 0 m)))
theorem wc_44_3t_0t (x0 : Int) (x1 : Int) (s : sS) (R : Int → hy_m → Prop) (h : wq_44 x0 x1 s.1 s.2.2.2 R) : we_44 [(3, true, x0), (0, true, x1)] s R := h
def cs_104 : List (Nat × Nat × sFS) := [(44, 0, .inl we_44), (127, 3, .inl we_127)]
theorem cs_104_ok : kCs dC 1 cs_104 := (kCs_c (Or.inl rfl) (we_44_ok.deep (by decide)) (kCs_c (Or.inr (Or.inr (Or.inr (Or.inl rfl)))) (we_127_ok.deep (by decide)) kCs_n))
def lb_104_0 (s : sS) (Q : sQ) (R : Int → hy_m → Prop) (x1 : Int) : Nat → Option (sL → sS → Prop) := sLb []
set_option maxRecDepth 30000 in
set_option maxHeartbeats 1000000 in
theorem wk_104_0 (Q : sQ) (R : Int → hy_m → Prop) (s : sS) (x1 : Int) (hQ : ∀ x m', R x m' → Q x (sM s m')) (hr : sRg [(0, 5, 36), (1, 3, 0)] [x1]) (h : wq_104 x1 s.1 s.2.2.2 R) : kX dC 1 im_m104 0 0 (sCan [(0, 5, 36), (1, 3, 0)] [x1]) [] s Q := by
  unfold wq_104 at h
  refine wz2_ok (cs := cs_104) (wr := []) (lb := lb_104_0 s Q R x1) cs_104_ok kLb_n (okL_can rfl hr) (fun Y hY hl => ?_)
  refine hY _ _ _ _ (?_ : Y 1 [(0, 5, true, 36), (1, 3, true, x1)] [(3, true, x1)] s)
  refine hY _ _ _ _ ?_
  refine (And.intro h.1 ?_)
  show Y 4 [(0, 5, true, 36), (1, 3, true, x1)] [(0, true, s.2.2.2 ((x1).toNat) 0)] s
  refine hY _ _ _ _ ?_
  refine And.intro (fun hc => ?_) (fun hc => ?_)
  · have h := h.2.1 hc
    refine hY _ _ _ _ (hY _ _ _ _ (hY _ _ _ _ (?_ : Y 16 [(0, 5, true, 36), (1, 3, true, x1)] [(3, true, x1), (5, true, 41)] s)))
    refine hY _ _ _ _ ?_
    refine (And.intro h.1 ?_)
    show Y 19 [(0, 5, true, 36), (1, 3, true, x1)] [(0, true, s.2.2.2 ((x1).toNat) 0), (5, true, 41)] s
    refine hY _ _ _ _ ?_
    refine Exists.intro _ (And.intro (wc_127_r41_0t (s.2.2.2 ((x1).toNat) 0) _ _ h.2) (fun r1 m1 h => ?_))
    refine hY _ _ _ _ (?_ : Y 23 [(0, 5, true, 36), (1, 3, true, x1)] [(3, true, x1), (3, true, r1)] (sM s m1))
    refine hY _ _ _ _ ?_
    refine (And.intro h.1 ?_)
    show Y 26 [(0, 5, true, 36), (1, 3, true, x1)] [(0, true, m1 ((x1).toNat) 1), (3, true, r1)] (sM s m1)
    refine hY _ _ _ _ ?_
    refine (And.intro h.2.1 ?_)
    refine Exists.intro _ (And.intro (wc_44_3t_0t r1 (m1 ((x1).toNat) 1) _ _ h.2.2) (fun r2 m2 h => ?_))
    show Y 29 [(0, 5, true, 36), (1, 3, true, x1)] [(0, true, r2)] (sM s m2)
    refine hY _ _ _ _ ?_
    exact hQ r2 m2 h
  · have h := h.2.2 hc
    refine hY _ _ _ _ (hY _ _ _ _ (?_ : Y 29 [(0, 5, true, 36), (1, 3, true, x1)] [(2, true, 0)] s))
    refine hY _ _ _ _ ?_
    exact hQ 0 s.2.2.2 h
def we_104 : sFf := sEf 2 [(0, 5, 36), (1, 3, 0)] (fun xs s Q => ap1 (fun x1 => wq_104 x1 s.1 s.2.2.2 Q) xs)
theorem we_104_ok : kS dC 2 104 0 (.inl we_104) := sEf_ok (mi := im_m104) rfl rfl rfl (fun R xs s r1 hb => by obtain ⟨x1, rfl, hb⟩ := ap1_ok hb; exact wk_104_0 _ R s x1 (fun x m' hx => ⟨m', rfl, hx⟩) r1 hb)
/-- LM$Search.sumOfVariables()I -/
def wf_113_7 (T : hy_T) (Q : Int → hy_m → Prop) (P7 : Int → Int → hy_m → Prop) (x1 : Int) (x2 : Int) (m : hy_m) : Prop := (x2 = 0 → (Q x1 m)) ∧ (x2 ≠ 0 → (wq_104 x2 T m (fun r1 m1 => T.1 (x2).toNat = some (4, 5) ∧ (hy_r 0 (x1 + r1) ∧ (P7 (x1 + r1) (m1 ((x2).toNat) 2) m1)))))
def wq_113_7 (x1 : Int) (x2 : Int) (T : hy_T) (m : hy_m) (Q : Int → hy_m → Prop) : Prop := wL2 hy_m (wf_113_7 T Q) x1 x2 m
def wq_113 (T : hy_T) (m : hy_m) (Q : Int → hy_m → Prop) : Prop := wq_113_7 0 (m 36 6) T m Q
theorem wc_104_r36_3t (x1 : Int) (s : sS) (R : Int → hy_m → Prop) (h : wq_104 x1 s.1 s.2.2.2 R) : we_104 [(5, true, 36), (3, true, x1)] s R := h
def cs_113 : List (Nat × Nat × sFS) := [(104, 0, .inl we_104)]
theorem cs_113_ok : kCs dC 2 cs_113 := (kCs_c (Or.inl rfl) (we_104_ok.deep (by decide)) kCs_n)
def lb_113_7 (s : sS) (Q : sQ) (P7 : Int → Int → hy_m → Prop) (R : Int → hy_m → Prop) (x1 : Int) (x2 : Int) : Nat → Option (sL → sS → Prop) := sLb [(7, fun lv t => sG [(0, 5, 36), (1, 0, 0), (2, 3, 0)] lv (ap2 (fun w1 w2 => ∃ m', t = sM s m' ∧ P7 w1 w2 m')))]
set_option maxRecDepth 30000 in
set_option maxHeartbeats 1000000 in
theorem wj_113_7 (Q : sQ) (R : Int → hy_m → Prop) (s : sS) (P7 : Int → Int → hy_m → Prop) (x1 : Int) (x2 : Int) (m : hy_m) (hP7 : ∀ (z1 z2 : Int) (m : hy_m), P7 z1 z2 m → sRg [(0, 5, 36), (1, 0, 0), (2, 3, 0)] [z1, z2] → kX dC 2 im_m113 0 7 (sCan [(0, 5, 36), (1, 0, 0), (2, 3, 0)] [z1, z2]) [] (sM s m) Q) (hQ : ∀ x m', R x m' → Q x (sM s m')) (hr : sRg [(0, 5, 36), (1, 0, 0), (2, 3, 0)] [x1, x2]) (h : wf_113_7 s.1 R P7 x1 x2 m) : kX dC 2 im_m113 0 7 (sCan [(0, 5, 36), (1, 0, 0), (2, 3, 0)] [x1, x2]) [] (sM s m) Q := by
  unfold wf_113_7 at h
  refine wz2_ok (cs := cs_113) (wr := []) (lb := lb_113_7 s Q P7 R x1 x2) cs_113_ok (kLb_c (kLab (Bd := fun xs t => ap2 (fun w1 w2 => ∃ m', t = sM s m' ∧ P7 w1 w2 m') xs) rfl (fun xs t r1 r2 hb => by obtain ⟨w1, w2, rfl, hb⟩ := ap2_ok hb; obtain ⟨m', rfl, hx⟩ := hb; exact hP7 _ _ m' hx r1)) kLb_n) (okL_can rfl hr) (fun Y hY hl => ?_)
  have l7 := hl 7 _ rfl
  refine hY _ _ _ _ (?_ : Y 8 [(0, 5, true, 36), (1, 0, true, x1), (2, 3, true, x2)] [(3, true, x2)] (sM s m))
  refine hY _ _ _ _ ?_
  refine And.intro (fun hc => ?_) (fun hc => ?_)
  · have h := h.1 hc
    refine hY _ _ _ _ (?_ : Y 28 [(0, 5, true, 36), (1, 0, true, x1), (2, 3, true, x2)] [(0, true, x1)] (sM s m))
    refine hY _ _ _ _ ?_
    exact hQ x1 m h
  · have h := h.2 hc
    refine hY _ _ _ _ (hY _ _ _ _ (hY _ _ _ _ (?_ : Y 14 [(0, 5, true, 36), (1, 0, true, x1), (2, 3, true, x2)] [(3, true, x2), (5, true, 36), (0, true, x1)] (sM s m))))
    refine hY _ _ _ _ ?_
    refine Exists.intro _ (And.intro (wc_104_r36_3t x2 _ _ h) (fun r1 m1 h => ?_))
    refine hY _ _ _ _ (hY _ _ _ _ (hY _ _ _ _ (?_ : Y 20 [(1, 0, false, x1 + r1), (0, 5, true, 36), (2, 3, true, x2)] [(3, true, x2)] (sM s m1))))
    refine hY _ _ _ _ ?_
    refine (And.intro h.1 ?_)
    refine hY _ _ _ _ (hY _ _ _ _ (?_ : Y 7 [(2, 3, true, m1 ((x2).toNat) 2), (1, 0, false, x1 + r1), (0, 5, true, 36)] [] (sM s m1)))
    refine l7 _ _ ?_
    refine And.intro h.2.1 ?_
    exact (Exists.intro m1 (And.intro rfl h.2.2))
theorem wk_113_7 (Q : sQ) (R : Int → hy_m → Prop) (s : sS) (x1 : Int) (x2 : Int) (hQ : ∀ x m', R x m' → Q x (sM s m')) (hr : sRg [(0, 5, 36), (1, 0, 0), (2, 3, 0)] [x1, x2]) (h : wq_113_7 x1 x2 s.1 s.2.2.2 R) : kX dC 2 im_m113 0 7 (sCan [(0, 5, 36), (1, 0, 0), (2, 3, 0)] [x1, x2]) [] s Q :=
  h (fun x1 x2 m => sRg [(0, 5, 36), (1, 0, 0), (2, 3, 0)] [x1, x2] → kX dC 2 im_m113 0 7 (sCan [(0, 5, 36), (1, 0, 0), (2, 3, 0)] [x1, x2]) [] (sM s m) Q) (fun x1 x2 m h hr => wj_113_7 Q R s (fun x1 x2 m => sRg [(0, 5, 36), (1, 0, 0), (2, 3, 0)] [x1, x2] → kX dC 2 im_m113 0 7 (sCan [(0, 5, 36), (1, 0, 0), (2, 3, 0)] [x1, x2]) [] (sM s m) Q) x1 x2 m  (fun _ _ _ hp hr => hp hr) hQ hr h) hr
def lb_113_0 (s : sS) (Q : sQ) (R : Int → hy_m → Prop) : Nat → Option (sL → sS → Prop) := sLb [(7, fun lv t => sG [(0, 5, 36), (1, 0, 0), (2, 3, 0)] lv (ap2 (fun w1 w2 => ∃ m', t = sM s m' ∧ wq_113_7 w1 w2 s.1 m' R)))]
set_option maxRecDepth 30000 in
set_option maxHeartbeats 1000000 in
theorem wk_113_0 (Q : sQ) (R : Int → hy_m → Prop) (s : sS) (hQ : ∀ x m', R x m' → Q x (sM s m')) (hr : sRg [(0, 5, 36)] []) (h : wq_113 s.1 s.2.2.2 R) : kX dC 2 im_m113 0 0 (sCan [(0, 5, 36)] []) [] s Q := by
  unfold wq_113 at h
  refine wz2_ok (cs := cs_113) (wr := []) (lb := lb_113_0 s Q R) cs_113_ok (kLb_c (kLab (Bd := fun xs t => ap2 (fun w1 w2 => ∃ m', t = sM s m' ∧ wq_113_7 w1 w2 s.1 m' R) xs) rfl (fun xs t r1 r2 hb => by obtain ⟨w1, w2, rfl, hb⟩ := ap2_ok hb; obtain ⟨m', rfl, hx⟩ := hb; exact wk_113_7 Q R (sM s m') _ _ (fun x m'' hy => hQ x m'' hy) r1 hx)) kLb_n) (okL_can rfl hr) (fun Y hY hl => ?_)
  have l7 := hl 7 _ rfl
  refine hY _ _ _ _ (hY _ _ _ _ (hY _ _ _ _ (?_ : Y 3 [(1, 2, true, 0), (0, 5, true, 36)] [(5, true, 36)] s)))
  refine hY _ _ _ _ (hY _ _ _ _ (?_ : Y 7 [(2, 3, true, s.2.2.2 36 6), (1, 2, true, 0), (0, 5, true, 36)] [] s))
  refine l7 _ _ ?_
  exact (Exists.intro s.2.2.2 (And.intro rfl h))
def we_113 : sFf := sEf 3 [(0, 5, 36)] (fun xs s Q => ap0 (wq_113 s.1 s.2.2.2 Q) xs)
theorem we_113_ok : kS dC 3 113 0 (.inl we_113) := sEf_ok (mi := im_m113) rfl rfl rfl (fun R xs s r1 hb => by obtain ⟨rfl, hb⟩ := ap0_ok hb; exact wk_113_0 _ R s (fun x m' hx => ⟨m', rfl, hx⟩) r1 hb)
/-- LM$Search.countBarriers()I -/
def wf_114_4 (T : hy_T) (Q : Int → hy_m → Prop) (P4 : Int → Int → hy_m → Prop) (x1 : Int) (x2 : Int) (m : hy_m) : Prop := ((m 36 8) ≤ x2 → (Q x1 m)) ∧ (x2 < (m 36 8) → (wq_110 x2 m (fun r1 m1 => (r1 = 0 → (hy_r 0 (x1 + 0) ∧ (hy_r 0 (x2 + 1) ∧ (P4 (x1 + 0) (x2 + 1) m1)))) ∧ (r1 ≠ 0 → (T.1 (r1).toNat = some (2, 6) ∧ (wq_38 r1 T m1 (fun r2 m2 => (r2 = 0 → (hy_r 0 (x1 + 0) ∧ (hy_r 0 (x2 + 1) ∧ (P4 (x1 + 0) (x2 + 1) m2)))) ∧ (r2 ≠ 0 → (hy_r 0 (x1 + 1) ∧ (hy_r 0 (x2 + 1) ∧ (P4 (x1 + 1) (x2 + 1) m2)))))))))))
def wq_114_4 (x1 : Int) (x2 : Int) (T : hy_T) (m : hy_m) (Q : Int → hy_m → Prop) : Prop := wL2 hy_m (wf_114_4 T Q) x1 x2 m
def wq_114 (T : hy_T) (m : hy_m) (Q : Int → hy_m → Prop) : Prop := wq_114_4 0 0 T m Q
theorem wc_110_r36_0t (x1 : Int) (s : sS) (R : Int → hy_m → Prop) (h : wq_110 x1 s.2.2.2 R) : we_110 [(5, true, 36), (0, true, x1)] s R := h
def cs_114 : List (Nat × Nat × sFS) := [(38, 2, .inl we_38), (110, 3, .inl we_110)]
theorem cs_114_ok : kCs dC 1 cs_114 := (kCs_c (Or.inr (Or.inr (Or.inl rfl))) (we_38_ok.deep (by decide)) (kCs_c (Or.inr (Or.inr (Or.inr (Or.inl rfl)))) (we_110_ok.deep (by decide)) kCs_n))
def lb_114_4 (s : sS) (Q : sQ) (P4 : Int → Int → hy_m → Prop) (R : Int → hy_m → Prop) (x1 : Int) (x2 : Int) : Nat → Option (sL → sS → Prop) := sLb [(4, fun lv t => sG [(0, 5, 36), (1, 0, 0), (2, 0, 0)] lv (ap2 (fun w1 w2 => ∃ m', t = sM s m' ∧ P4 w1 w2 m')))]
set_option maxRecDepth 30000 in
set_option maxHeartbeats 1000000 in
theorem wj_114_4 (Q : sQ) (R : Int → hy_m → Prop) (s : sS) (P4 : Int → Int → hy_m → Prop) (x1 : Int) (x2 : Int) (m : hy_m) (hP4 : ∀ (z1 z2 : Int) (m : hy_m), P4 z1 z2 m → sRg [(0, 5, 36), (1, 0, 0), (2, 0, 0)] [z1, z2] → kX dC 1 im_m114 0 4 (sCan [(0, 5, 36), (1, 0, 0), (2, 0, 0)] [z1, z2]) [] (sM s m) Q) (hQ : ∀ x m', R x m' → Q x (sM s m')) (hr : sRg [(0, 5, 36), (1, 0, 0), (2, 0, 0)] [x1, x2]) (h : wf_114_4 s.1 R P4 x1 x2 m) : kX dC 1 im_m114 0 4 (sCan [(0, 5, 36), (1, 0, 0), (2, 0, 0)] [x1, x2]) [] (sM s m) Q := by
  unfold wf_114_4 at h
  refine wz2_ok (cs := cs_114) (wr := []) (lb := lb_114_4 s Q P4 R x1 x2) cs_114_ok (kLb_c (kLab (Bd := fun xs t => ap2 (fun w1 w2 => ∃ m', t = sM s m' ∧ P4 w1 w2 m') xs) rfl (fun xs t r1 r2 hb => by obtain ⟨w1, w2, rfl, hb⟩ := ap2_ok hb; obtain ⟨m', rfl, hx⟩ := hb; exact hP4 _ _ m' hx r1)) kLb_n) (okL_can rfl hr) (fun Y hY hl => ?_)
  have l4 := hl 4 _ rfl
  refine hY _ _ _ _ (hY _ _ _ _ (hY _ _ _ _ (?_ : Y 9 [(0, 5, true, 36), (1, 0, true, x1), (2, 0, true, x2)] [(0, true, m 36 8), (0, true, x2)] (sM s m))))
  refine hY _ _ _ _ ?_
  refine And.intro (fun hc => ?_) (fun hc => ?_)
  · have h := h.1 hc
    refine hY _ _ _ _ (?_ : Y 44 [(0, 5, true, 36), (1, 0, true, x1), (2, 0, true, x2)] [(0, true, x1)] (sM s m))
    refine hY _ _ _ _ ?_
    exact hQ x1 m h
  · have h := h.2 hc
    refine hY _ _ _ _ (hY _ _ _ _ (?_ : Y 14 [(0, 5, true, 36), (1, 0, true, x1), (2, 0, true, x2)] [(0, true, x2), (5, true, 36)] (sM s m)))
    refine hY _ _ _ _ ?_
    refine Exists.intro _ (And.intro (wc_110_r36_0t x2 _ _ h) (fun r1 m1 h => ?_))
    refine hY _ _ _ _ (hY _ _ _ _ (hY _ _ _ _ (?_ : Y 20 [(3, 3, true, r1), (0, 5, true, 36), (1, 0, true, x1), (2, 0, true, x2)] [(3, true, r1), (0, true, x1)] (sM s m1))))
    refine hY _ _ _ _ ?_
    refine And.intro (fun hc => ?_) (fun hc => ?_)
    · have h := h.1 hc
      refine hY _ _ _ _ (hY _ _ _ _ (hY _ _ _ _ (?_ : Y 37 [(1, 0, false, x1 + 0), (3, 3, true, r1), (0, 5, true, 36), (2, 0, true, x2)] [] (sM s m1))))
      refine hY _ _ _ _ (hY _ _ _ _ (?_ : Y 4 [(2, 0, false, x2 + 1), (1, 0, false, x1 + 0), (3, 3, true, r1), (0, 5, true, 36)] [] (sM s m1)))
      refine l4 _ _ ?_
      refine And.intro h.1 ?_
      refine And.intro h.2.1 ?_
      exact (Exists.intro m1 (And.intro rfl h.2.2))
    · have h := h.2 hc
      refine hY _ _ _ _ (?_ : Y 24 [(3, 3, true, r1), (0, 5, true, 36), (1, 0, true, x1), (2, 0, true, x2)] [(3, true, r1), (0, true, x1)] (sM s m1))
      refine hY _ _ _ _ ?_
      refine (And.intro h.1 ?_)
      refine Exists.intro _ (And.intro (wc_38_3t r1 _ _ h.2) (fun r2 m2 h => ?_))
      show Y 27 [(3, 3, true, r1), (0, 5, true, 36), (1, 0, true, x1), (2, 0, true, x2)] [(2, true, r2), (0, true, x1)] (sM s m2)
      refine hY _ _ _ _ ?_
      refine And.intro (fun hc => ?_) (fun hc => ?_)
      · have h := h.1 hc
        refine hY _ _ _ _ (hY _ _ _ _ (hY _ _ _ _ (?_ : Y 37 [(1, 0, false, x1 + 0), (3, 3, true, r1), (0, 5, true, 36), (2, 0, true, x2)] [] (sM s m2))))
        refine hY _ _ _ _ (hY _ _ _ _ (?_ : Y 4 [(2, 0, false, x2 + 1), (1, 0, false, x1 + 0), (3, 3, true, r1), (0, 5, true, 36)] [] (sM s m2)))
        refine l4 _ _ ?_
        refine And.intro h.1 ?_
        refine And.intro h.2.1 ?_
        exact (Exists.intro m2 (And.intro rfl h.2.2))
      · have h := h.2 hc
        refine hY _ _ _ _ (hY _ _ _ _ (hY _ _ _ _ (?_ : Y 36 [(3, 3, true, r1), (0, 5, true, 36), (1, 0, true, x1), (2, 0, true, x2)] [(0, false, x1 + 1)] (sM s m2))))
        refine hY _ _ _ _ (hY _ _ _ _ (hY _ _ _ _ (?_ : Y 4 [(2, 0, false, x2 + 1), (1, 0, false, x1 + 1), (3, 3, true, r1), (0, 5, true, 36)] [] (sM s m2))))
        refine l4 _ _ ?_
        refine And.intro h.1 ?_
        refine And.intro h.2.1 ?_
        exact (Exists.intro m2 (And.intro rfl h.2.2))
theorem wk_114_4 (Q : sQ) (R : Int → hy_m → Prop) (s : sS) (x1 : Int) (x2 : Int) (hQ : ∀ x m', R x m' → Q x (sM s m')) (hr : sRg [(0, 5, 36), (1, 0, 0), (2, 0, 0)] [x1, x2]) (h : wq_114_4 x1 x2 s.1 s.2.2.2 R) : kX dC 1 im_m114 0 4 (sCan [(0, 5, 36), (1, 0, 0), (2, 0, 0)] [x1, x2]) [] s Q :=
  h (fun x1 x2 m => sRg [(0, 5, 36), (1, 0, 0), (2, 0, 0)] [x1, x2] → kX dC 1 im_m114 0 4 (sCan [(0, 5, 36), (1, 0, 0), (2, 0, 0)] [x1, x2]) [] (sM s m) Q) (fun x1 x2 m h hr => wj_114_4 Q R s (fun x1 x2 m => sRg [(0, 5, 36), (1, 0, 0), (2, 0, 0)] [x1, x2] → kX dC 1 im_m114 0 4 (sCan [(0, 5, 36), (1, 0, 0), (2, 0, 0)] [x1, x2]) [] (sM s m) Q) x1 x2 m  (fun _ _ _ hp hr => hp hr) hQ hr h) hr
def lb_114_0 (s : sS) (Q : sQ) (R : Int → hy_m → Prop) : Nat → Option (sL → sS → Prop) := sLb [(4, fun lv t => sG [(0, 5, 36), (1, 0, 0), (2, 0, 0)] lv (ap2 (fun w1 w2 => ∃ m', t = sM s m' ∧ wq_114_4 w1 w2 s.1 m' R)))]
set_option maxRecDepth 30000 in
set_option maxHeartbeats 1000000 in
theorem wk_114_0 (Q : sQ) (R : Int → hy_m → Prop) (s : sS) (hQ : ∀ x m', R x m' → Q x (sM s m')) (hr : sRg [(0, 5, 36)] []) (h : wq_114 s.1 s.2.2.2 R) : kX dC 1 im_m114 0 0 (sCan [(0, 5, 36)] []) [] s Q := by
  unfold wq_114 at h
  refine wz2_ok (cs := cs_114) (wr := []) (lb := lb_114_0 s Q R) cs_114_ok (kLb_c (kLab (Bd := fun xs t => ap2 (fun w1 w2 => ∃ m', t = sM s m' ∧ wq_114_4 w1 w2 s.1 m' R) xs) rfl (fun xs t r1 r2 hb => by obtain ⟨w1, w2, rfl, hb⟩ := ap2_ok hb; obtain ⟨m', rfl, hx⟩ := hb; exact wk_114_4 Q R (sM s m') _ _ (fun x m'' hy => hQ x m'' hy) r1 hx)) kLb_n) (okL_can rfl hr) (fun Y hY hl => ?_)
  have l4 := hl 4 _ rfl
  refine hY _ _ _ _ (hY _ _ _ _ (hY _ _ _ _ (?_ : Y 3 [(1, 2, true, 0), (0, 5, true, 36)] [(2, true, 0)] s)))
  refine hY _ _ _ _ (?_ : Y 4 [(2, 2, true, 0), (1, 2, true, 0), (0, 5, true, 36)] [] s)
  refine l4 _ _ ?_
  exact (Exists.intro s.2.2.2 (And.intro rfl h))
def we_114 : sFf := sEf 4 [(0, 5, 36)] (fun xs s Q => ap0 (wq_114 s.1 s.2.2.2 Q) xs)
theorem we_114_ok : kS dC 2 114 0 (.inl we_114) := sEf_ok (mi := im_m114) rfl rfl rfl (fun R xs s r1 hb => by obtain ⟨rfl, hb⟩ := ap0_ok hb; exact wk_114_0 _ R s (fun x m' hx => ⟨m', rfl, hx⟩) r1 hb)
/-- LM$Search.numberOf(I)I -/
def wq_111 (x1 : Int) (T : hy_T) (m : hy_m) (Q : Int → hy_m → Prop) : Prop := ((x1 = 0 + 0 → (Q (m 36 10) m)) ∧ ((x1 = 0 + 1 → (Q (m 36 12) m)) ∧ ((x1 = 0 + 2 → (Q (m 36 13) m)) ∧ ((x1 = 0 + 3 → (((m 36 6) = 0 → (Q 0 m)) ∧ ((m 36 6) ≠ 0 → (T.1 (m 36 6).toNat = some (4, 5) ∧ (Q (m ((m 36 6).toNat) 4) m))))) ∧ ((x1 = 0 + 4 → (wq_112 T m (fun r1 m1 => Q r1 m1))) ∧ ((x1 = 0 + 5 → (wq_113 T m (fun r2 m2 => Q r2 m2))) ∧ ((x1 = 0 + 6 → (Q (m 36 8) m)) ∧ ((x1 = 0 + 7 → (wq_114 T m (fun r3 m3 => Q r3 m3))) ∧ ((x1 = 0 + 8 → (Q (m 41 6) m)) ∧ ((x1 = 0 + 9 → (Q (m 36 14) m)) ∧ ((x1 = 0 + 10 → (Q (m 36 11) m)) ∧ ((x1 = 0 + 11 → (Q (m 36 15) m)) ∧ (True))))))))))))) ∧ (x1 < 0 ∨ 11 < x1 → (Q (m 36 16) m))
theorem wc_112_r36 (s : sS) (R : Int → hy_m → Prop) (h : wq_112 s.1 s.2.2.2 R) : we_112 [(5, true, 36)] s R := h
theorem wc_113_r36 (s : sS) (R : Int → hy_m → Prop) (h : wq_113 s.1 s.2.2.2 R) : we_113 [(5, true, 36)] s R := h
theorem wc_114_r36 (s : sS) (R : Int → hy_m → Prop) (h : wq_114 s.1 s.2.2.2 R) : we_114 [(5, true, 36)] s R := h
def cs_111 : List (Nat × Nat × sFS) := [(112, 0, .inl we_112), (113, 0, .inl we_113), (114, 0, .inl we_114)]
theorem cs_111_ok : kCs dC 3 cs_111 := (kCs_c (Or.inl rfl) (we_112_ok.deep (by decide)) (kCs_c (Or.inl rfl) (we_113_ok.deep (by decide)) (kCs_c (Or.inl rfl) (we_114_ok.deep (by decide)) kCs_n)))
def lb_111_0 (s : sS) (Q : sQ) (R : Int → hy_m → Prop) (x1 : Int) : Nat → Option (sL → sS → Prop) := sLb []
set_option maxRecDepth 30000 in
set_option maxHeartbeats 1000000 in
theorem wk_111_0 (Q : sQ) (R : Int → hy_m → Prop) (s : sS) (x1 : Int) (hQ : ∀ x m', R x m' → Q x (sM s m')) (hr : sRg [(0, 5, 36), (1, 0, 0)] [x1]) (h : wq_111 x1 s.1 s.2.2.2 R) : kX dC 3 im_m111 0 0 (sCan [(0, 5, 36), (1, 0, 0)] [x1]) [] s Q := by
  unfold wq_111 at h
  refine wz2_ok (cs := cs_111) (wr := []) (lb := lb_111_0 s Q R x1) cs_111_ok kLb_n (okL_can rfl hr) (fun Y hY hl => ?_)
  refine hY _ _ _ _ (?_ : Y 1 [(0, 5, true, 36), (1, 0, true, x1)] [(0, true, x1)] s)
  refine hY _ _ _ _ ?_
  refine And.intro (And.intro (fun hc => ?_) (And.intro (fun hc => ?_) (And.intro (fun hc => ?_) (And.intro (fun hc => ?_) (And.intro (fun hc => ?_) (And.intro (fun hc => ?_) (And.intro (fun hc => ?_) (And.intro (fun hc => ?_) (And.intro (fun hc => ?_) (And.intro (fun hc => ?_) (And.intro (fun hc => ?_) (And.intro (fun hc => ?_) trivial)))))))))))) (fun hc => ?_)
  · have h := h.1.1 hc
    refine hY _ _ _ _ (hY _ _ _ _ (?_ : Y 68 [(0, 5, true, 36), (1, 0, true, x1)] [(0, true, s.2.2.2 36 10)] s))
    refine hY _ _ _ _ ?_
    exact hQ (s.2.2.2 36 10) s.2.2.2 h
  · have h := h.1.2.1 hc
    refine hY _ _ _ _ (hY _ _ _ _ (?_ : Y 73 [(0, 5, true, 36), (1, 0, true, x1)] [(0, true, s.2.2.2 36 12)] s))
    refine hY _ _ _ _ ?_
    exact hQ (s.2.2.2 36 12) s.2.2.2 h
  · have h := h.1.2.2.1 hc
    refine hY _ _ _ _ (hY _ _ _ _ (?_ : Y 78 [(0, 5, true, 36), (1, 0, true, x1)] [(0, true, s.2.2.2 36 13)] s))
    refine hY _ _ _ _ ?_
    exact hQ (s.2.2.2 36 13) s.2.2.2 h
  · have h := h.1.2.2.2.1 hc
    refine hY _ _ _ _ (hY _ _ _ _ (?_ : Y 83 [(0, 5, true, 36), (1, 0, true, x1)] [(3, true, s.2.2.2 36 6)] s))
    refine hY _ _ _ _ ?_
    refine And.intro (fun hc => ?_) (fun hc => ?_)
    · have h := h.1 hc
      refine hY _ _ _ _ (hY _ _ _ _ (?_ : Y 97 [(0, 5, true, 36), (1, 0, true, x1)] [(2, true, 0)] s))
      refine hY _ _ _ _ ?_
      exact hQ 0 s.2.2.2 h
    · have h := h.2 hc
      refine hY _ _ _ _ (hY _ _ _ _ (?_ : Y 94 [(0, 5, true, 36), (1, 0, true, x1)] [(3, true, s.2.2.2 36 6)] s))
      refine hY _ _ _ _ ?_
      refine (And.intro h.1 ?_)
      show Y 97 [(0, 5, true, 36), (1, 0, true, x1)] [(0, true, s.2.2.2 ((s.2.2.2 36 6).toNat) 4)] s
      refine hY _ _ _ _ ?_
      exact hQ (s.2.2.2 ((s.2.2.2 36 6).toNat) 4) s.2.2.2 h.2
  · have h := h.1.2.2.2.2.1 hc
    refine hY _ _ _ _ (?_ : Y 99 [(0, 5, true, 36), (1, 0, true, x1)] [(5, true, 36)] s)
    refine hY _ _ _ _ ?_
    refine Exists.intro _ (And.intro (wc_112_r36 _ _ h) (fun r1 m1 h => ?_))
    show Y 102 [(0, 5, true, 36), (1, 0, true, x1)] [(0, true, r1)] (sM s m1)
    refine hY _ _ _ _ ?_
    exact hQ r1 m1 h
  · have h := h.1.2.2.2.2.2.1 hc
    refine hY _ _ _ _ (?_ : Y 104 [(0, 5, true, 36), (1, 0, true, x1)] [(5, true, 36)] s)
    refine hY _ _ _ _ ?_
    refine Exists.intro _ (And.intro (wc_113_r36 _ _ h) (fun r2 m2 h => ?_))
    show Y 107 [(0, 5, true, 36), (1, 0, true, x1)] [(0, true, r2)] (sM s m2)
    refine hY _ _ _ _ ?_
    exact hQ r2 m2 h
  · have h := h.1.2.2.2.2.2.2.1 hc
    refine hY _ _ _ _ (hY _ _ _ _ (?_ : Y 112 [(0, 5, true, 36), (1, 0, true, x1)] [(0, true, s.2.2.2 36 8)] s))
    refine hY _ _ _ _ ?_
    exact hQ (s.2.2.2 36 8) s.2.2.2 h
  · have h := h.1.2.2.2.2.2.2.2.1 hc
    refine hY _ _ _ _ (?_ : Y 114 [(0, 5, true, 36), (1, 0, true, x1)] [(5, true, 36)] s)
    refine hY _ _ _ _ ?_
    refine Exists.intro _ (And.intro (wc_114_r36 _ _ h) (fun r3 m3 h => ?_))
    show Y 117 [(0, 5, true, 36), (1, 0, true, x1)] [(0, true, r3)] (sM s m3)
    refine hY _ _ _ _ ?_
    exact hQ r3 m3 h
  · have h := h.1.2.2.2.2.2.2.2.2.1 hc
    refine hY _ _ _ _ (hY _ _ _ _ (hY _ _ _ _ (?_ : Y 125 [(0, 5, true, 36), (1, 0, true, x1)] [(0, true, s.2.2.2 41 6)] s)))
    refine hY _ _ _ _ ?_
    exact hQ (s.2.2.2 41 6) s.2.2.2 h
  · have h := h.1.2.2.2.2.2.2.2.2.2.1 hc
    refine hY _ _ _ _ (hY _ _ _ _ (?_ : Y 130 [(0, 5, true, 36), (1, 0, true, x1)] [(0, true, s.2.2.2 36 14)] s))
    refine hY _ _ _ _ ?_
    exact hQ (s.2.2.2 36 14) s.2.2.2 h
  · have h := h.1.2.2.2.2.2.2.2.2.2.2.1 hc
    refine hY _ _ _ _ (hY _ _ _ _ (?_ : Y 135 [(0, 5, true, 36), (1, 0, true, x1)] [(0, true, s.2.2.2 36 11)] s))
    refine hY _ _ _ _ ?_
    exact hQ (s.2.2.2 36 11) s.2.2.2 h
  · have h := h.1.2.2.2.2.2.2.2.2.2.2.2.1 hc
    refine hY _ _ _ _ (hY _ _ _ _ (?_ : Y 140 [(0, 5, true, 36), (1, 0, true, x1)] [(0, true, s.2.2.2 36 15)] s))
    refine hY _ _ _ _ ?_
    exact hQ (s.2.2.2 36 15) s.2.2.2 h
  · have h := h.2 hc
    refine hY _ _ _ _ (hY _ _ _ _ (?_ : Y 145 [(0, 5, true, 36), (1, 0, true, x1)] [(0, true, s.2.2.2 36 16)] s))
    refine hY _ _ _ _ ?_
    exact hQ (s.2.2.2 36 16) s.2.2.2 h
def we_111 : sFf := sEf 2 [(0, 5, 36), (1, 0, 0)] (fun xs s Q => ap1 (fun x1 => wq_111 x1 s.1 s.2.2.2 Q) xs)
theorem we_111_ok : kS dC 4 111 0 (.inl we_111) := sEf_ok (mi := im_m111) rfl rfl rfl (fun R xs s r1 hb => by obtain ⟨x1, rfl, hb⟩ := ap1_ok hb; exact wk_111_0 _ R s x1 (fun x m' hx => ⟨m', rfl, hx⟩) r1 hb)
/-- LM.state(I)I -/
def wq_16 (x1 : Int) (T : hy_T) (m : hy_m) (Q : Int → hy_m → Prop) : Prop := (x1 < 0 → (Q (-1) m)) ∧ (0 ≤ x1 → ((x1 ≤ 12 → (((m 36 10) ≠ 0 → (wq_111 x1 T m (fun r1 m1 => Q r1 m1))) ∧ ((m 36 10) = 0 → (Q 0 m)))) ∧ (12 < x1 → (Q (-1) m))))
theorem wc_111_r36_0t (x1 : Int) (s : sS) (R : Int → hy_m → Prop) (h : wq_111 x1 s.1 s.2.2.2 R) : we_111 [(5, true, 36), (0, true, x1)] s R := h
def cs_16 : List (Nat × Nat × sFS) := [(111, 0, .inl we_111)]
theorem cs_16_ok : kCs dC 4 cs_16 := (kCs_c (Or.inl rfl) (we_111_ok.deep (by decide)) kCs_n)
def lb_16_0 (s : sS) (Q : sQ) (R : Int → hy_m → Prop) (x1 : Int) : Nat → Option (sL → sS → Prop) := sLb []
set_option maxRecDepth 30000 in
set_option maxHeartbeats 1000000 in
theorem wk_16_0 (Q : sQ) (R : Int → hy_m → Prop) (s : sS) (x1 : Int) (hQ : ∀ x m', R x m' → Q x (sM s m')) (hr : sRg [(0, 5, 1), (1, 0, 0)] [x1]) (h : wq_16 x1 s.1 s.2.2.2 R) : kX dC 4 im_m16 0 0 (sCan [(0, 5, 1), (1, 0, 0)] [x1]) [] s Q := by
  unfold wq_16 at h
  refine wz2_ok (cs := cs_16) (wr := []) (lb := lb_16_0 s Q R x1) cs_16_ok kLb_n (okL_can rfl hr) (fun Y hY hl => ?_)
  refine hY _ _ _ _ (?_ : Y 1 [(0, 5, true, 1), (1, 0, true, x1)] [(0, true, x1)] s)
  refine hY _ _ _ _ ?_
  refine And.intro (fun hc => ?_) (fun hc => ?_)
  · have h := h.1 hc
    refine hY _ _ _ _ (?_ : Y 11 [(0, 5, true, 1), (1, 0, true, x1)] [(0, true, (-1))] s)
    refine hY _ _ _ _ ?_
    exact hQ (-1) s.2.2.2 h
  · have h := h.2 hc
    refine hY _ _ _ _ (hY _ _ _ _ (?_ : Y 7 [(0, 5, true, 1), (1, 0, true, x1)] [(0, true, 12), (0, true, x1)] s))
    refine hY _ _ _ _ ?_
    refine And.intro (fun hc => ?_) (fun hc => ?_)
    · have h := h.1 hc
      refine hY _ _ _ _ (hY _ _ _ _ (hY _ _ _ _ (?_ : Y 19 [(0, 5, true, 1), (1, 0, true, x1)] [(0, true, s.2.2.2 36 10)] s)))
      refine hY _ _ _ _ ?_
      refine And.intro (fun hc => ?_) (fun hc => ?_)
      · have h := h.1 hc
        refine hY _ _ _ _ (hY _ _ _ _ (hY _ _ _ _ (?_ : Y 31 [(0, 5, true, 1), (1, 0, true, x1)] [(0, true, x1), (5, true, 36)] s)))
        refine hY _ _ _ _ ?_
        refine Exists.intro _ (And.intro (wc_111_r36_0t x1 _ _ h) (fun r1 m1 h => ?_))
        show Y 34 [(0, 5, true, 1), (1, 0, true, x1)] [(0, true, r1)] (sM s m1)
        refine hY _ _ _ _ ?_
        exact hQ r1 m1 h
      · have h := h.2 hc
        refine hY _ _ _ _ (hY _ _ _ _ (?_ : Y 34 [(0, 5, true, 1), (1, 0, true, x1)] [(2, true, 0)] s))
        refine hY _ _ _ _ ?_
        exact hQ 0 s.2.2.2 h
    · have h := h.2 hc
      refine hY _ _ _ _ (?_ : Y 11 [(0, 5, true, 1), (1, 0, true, x1)] [(0, true, (-1))] s)
      refine hY _ _ _ _ ?_
      exact hQ (-1) s.2.2.2 h
def we_16 : sFf := sEf 2 [(0, 5, 1), (1, 0, 0)] (fun xs s Q => ap1 (fun x1 => wq_16 x1 s.1 s.2.2.2 Q) xs)
theorem we_16_ok : kS dC 5 16 0 (.inl we_16) := sEf_ok (mi := im_m16) rfl rfl rfl (fun R xs s r1 hb => by obtain ⟨x1, rfl, hb⟩ := ap1_ok hb; exact wk_16_0 _ R s x1 (fun x m' hx => ⟨m', rfl, hx⟩) r1 hb)
/-- LM$Search.hasVariable(I)Z -/
def wq_107 (x1 : Int) (T : hy_T) (m : hy_m) (Q : Int → hy_m → Prop) : Prop := ((m 36 10) = 0 → (Q 0 m)) ∧ ((m 36 10) ≠ 0 → ((x1 < 0 → (Q 0 m)) ∧ (0 ≤ x1 → (wq_127 0 T m (fun r1 m1 => T.1 (r1).toNat = some (3, 9) ∧ (((m1 ((r1).toNat) 5) ≤ x1 → (Q 0 m1)) ∧ (x1 < (m1 ((r1).toNat) 5) → (Q 1 m1))))))))
theorem wc_127_r41_2t (x1 : Int) (s : sS) (R : Int → hy_m → Prop) (h : wq_127 x1 s.1 s.2.2.2 R) : we_127 [(5, true, 41), (2, true, x1)] s R := h
def cs_107 : List (Nat × Nat × sFS) := [(127, 3, .inl we_127)]
theorem cs_107_ok : kCs dC 1 cs_107 := (kCs_c (Or.inr (Or.inr (Or.inr (Or.inl rfl)))) (we_127_ok.deep (by decide)) kCs_n)
def lb_107_0 (s : sS) (Q : sQ) (R : Int → hy_m → Prop) (x1 : Int) : Nat → Option (sL → sS → Prop) := sLb []
set_option maxRecDepth 30000 in
set_option maxHeartbeats 1000000 in
theorem wk_107_0 (Q : sQ) (R : Int → hy_m → Prop) (s : sS) (x1 : Int) (hQ : ∀ x m', R x m' → Q x (sM s m')) (hr : sRg [(0, 5, 36), (1, 0, 0)] [x1]) (h : wq_107 x1 s.1 s.2.2.2 R) : kX dC 1 im_m107 2 0 (sCan [(0, 5, 36), (1, 0, 0)] [x1]) [] s Q := by
  unfold wq_107 at h
  refine wz2_ok (cs := cs_107) (wr := []) (lb := lb_107_0 s Q R x1) cs_107_ok kLb_n (okL_can rfl hr) (fun Y hY hl => ?_)
  refine hY _ _ _ _ (hY _ _ _ _ (?_ : Y 4 [(0, 5, true, 36), (1, 0, true, x1)] [(0, true, s.2.2.2 36 10)] s))
  refine hY _ _ _ _ ?_
  refine And.intro (fun hc => ?_) (fun hc => ?_)
  · have h := h.1 hc
    refine hY _ _ _ _ (?_ : Y 31 [(0, 5, true, 36), (1, 0, true, x1)] [(2, true, 0)] s)
    refine hY _ _ _ _ ?_
    exact hQ 0 s.2.2.2 h
  · have h := h.2 hc
    refine hY _ _ _ _ (?_ : Y 8 [(0, 5, true, 36), (1, 0, true, x1)] [(0, true, x1)] s)
    refine hY _ _ _ _ ?_
    refine And.intro (fun hc => ?_) (fun hc => ?_)
    · have h := h.1 hc
      refine hY _ _ _ _ (?_ : Y 31 [(0, 5, true, 36), (1, 0, true, x1)] [(2, true, 0)] s)
      refine hY _ _ _ _ ?_
      exact hQ 0 s.2.2.2 h
    · have h := h.2 hc
      refine hY _ _ _ _ (hY _ _ _ _ (hY _ _ _ _ (?_ : Y 16 [(0, 5, true, 36), (1, 0, true, x1)] [(5, true, 41), (0, true, x1)] s)))
      refine hY _ _ _ _ (?_ : Y 17 [(0, 5, true, 36), (1, 0, true, x1)] [(2, true, 0), (5, true, 41), (0, true, x1)] s)
      refine hY _ _ _ _ ?_
      refine Exists.intro _ (And.intro (wc_127_r41_2t 0 _ _ h) (fun r1 m1 h => ?_))
      show Y 20 [(0, 5, true, 36), (1, 0, true, x1)] [(3, true, r1), (0, true, x1)] (sM s m1)
      refine hY _ _ _ _ ?_
      refine (And.intro h.1 ?_)
      show Y 23 [(0, 5, true, 36), (1, 0, true, x1)] [(0, true, m1 ((r1).toNat) 5), (0, true, x1)] (sM s m1)
      refine hY _ _ _ _ ?_
      refine And.intro (fun hc => ?_) (fun hc => ?_)
      · have h := h.2.1 hc
        refine hY _ _ _ _ (?_ : Y 31 [(0, 5, true, 36), (1, 0, true, x1)] [(2, true, 0)] (sM s m1))
        refine hY _ _ _ _ ?_
        exact hQ 0 m1 h
      · have h := h.2.2 hc
        refine hY _ _ _ _ (hY _ _ _ _ (?_ : Y 31 [(0, 5, true, 36), (1, 0, true, x1)] [(2, true, 1)] (sM s m1)))
        refine hY _ _ _ _ ?_
        exact hQ 1 m1 h
def we_107 : sFf := sEf 2 [(0, 5, 36), (1, 0, 0)] (fun xs s Q => ap1 (fun x1 => wq_107 x1 s.1 s.2.2.2 Q) xs)
theorem we_107_ok : kS dC 2 107 2 (.inl we_107) := sEf_ok (mi := im_m107) rfl rfl rfl (fun R xs s r1 hb => by obtain ⟨x1, rfl, hb⟩ := ap1_ok hb; exact wk_107_0 _ R s x1 (fun x m' hx => ⟨m', rfl, hx⟩) r1 hb)
/-- LM$Search.lowestAlias(I)I -/
def wf_108_2 (x1 : Int) (T : hy_T) (Q : Int → hy_m → Prop) (P2 : Int → hy_m → Prop) (x2 : Int) (m : hy_m) : Prop := (8 ≤ x2 → (Q (-9) m)) ∧ (x2 < 8 → (wq_124 x2 T m (fun r1 m1 => (r1 ≠ x1 → (hy_r 0 (x2 + 1) ∧ (P2 (x2 + 1) m1))) ∧ (r1 = x1 → (Q x2 m1)))))
def wq_108_2 (x1 : Int) (x2 : Int) (T : hy_T) (m : hy_m) (Q : Int → hy_m → Prop) : Prop := wL1 hy_m (wf_108_2 x1 T Q) x2 m
def wq_108 (x1 : Int) (T : hy_T) (m : hy_m) (Q : Int → hy_m → Prop) : Prop := wq_108_2 x1 0 T m Q
def cs_108 : List (Nat × Nat × sFS) := [(124, 0, .inl we_124)]
theorem cs_108_ok : kCs dC 1 cs_108 := (kCs_c (Or.inl rfl) (we_124_ok.deep (by decide)) kCs_n)
def lb_108_2 (s : sS) (Q : sQ) (P2 : Int → hy_m → Prop) (R : Int → hy_m → Prop) (x1 : Int) (x2 : Int) : Nat → Option (sL → sS → Prop) := sLb [(2, fun lv t => sG [(0, 5, 36), (1, 0, 0), (2, 0, 0)] lv (ap2 (fun w1 w2 => ∃ m', t = sM s m' ∧ w1 = x1 ∧ P2 w2 m')))]
set_option maxRecDepth 30000 in
set_option maxHeartbeats 1000000 in
theorem wj_108_2 (Q : sQ) (R : Int → hy_m → Prop) (s : sS) (P2 : Int → hy_m → Prop) (x1 : Int) (x2 : Int) (m : hy_m) (hP2 : ∀ (z2 : Int) (m : hy_m), P2 z2 m → sRg [(0, 5, 36), (1, 0, 0), (2, 0, 0)] [x1, z2] → kX dC 1 im_m108 0 2 (sCan [(0, 5, 36), (1, 0, 0), (2, 0, 0)] [x1, z2]) [] (sM s m) Q) (hQ : ∀ x m', R x m' → Q x (sM s m')) (hr : sRg [(0, 5, 36), (1, 0, 0), (2, 0, 0)] [x1, x2]) (h : wf_108_2 x1 s.1 R P2 x2 m) : kX dC 1 im_m108 0 2 (sCan [(0, 5, 36), (1, 0, 0), (2, 0, 0)] [x1, x2]) [] (sM s m) Q := by
  unfold wf_108_2 at h
  refine wz2_ok (cs := cs_108) (wr := []) (lb := lb_108_2 s Q P2 R x1 x2) cs_108_ok (kLb_c (kLab (Bd := fun xs t => ap2 (fun w1 w2 => ∃ m', t = sM s m' ∧ w1 = x1 ∧ P2 w2 m') xs) rfl (fun xs t r1 r2 hb => by obtain ⟨w1, w2, rfl, hb⟩ := ap2_ok hb; obtain ⟨m', rfl, rfl, hx⟩ := hb; exact hP2 _ m' hx r1)) kLb_n) (okL_can rfl hr) (fun Y hY hl => ?_)
  have l2 := hl 2 _ rfl
  refine hY _ _ _ _ (hY _ _ _ _ (?_ : Y 5 [(0, 5, true, 36), (1, 0, true, x1), (2, 0, true, x2)] [(0, true, 8), (0, true, x2)] (sM s m)))
  refine hY _ _ _ _ ?_
  refine And.intro (fun hc => ?_) (fun hc => ?_)
  · have h := h.1 hc
    refine hY _ _ _ _ (?_ : Y 30 [(0, 5, true, 36), (1, 0, true, x1), (2, 0, true, x2)] [(0, true, (-9))] (sM s m))
    refine hY _ _ _ _ ?_
    exact hQ (-9) m h
  · have h := h.2 hc
    refine hY _ _ _ _ (hY _ _ _ _ (hY _ _ _ _ (?_ : Y 13 [(0, 5, true, 36), (1, 0, true, x1), (2, 0, true, x2)] [(0, true, x2), (5, true, 41)] (sM s m))))
    refine hY _ _ _ _ ?_
    refine Exists.intro _ (And.intro (wc_124_r41_0t x2 _ _ h) (fun r1 m1 h => ?_))
    refine hY _ _ _ _ (?_ : Y 17 [(0, 5, true, 36), (1, 0, true, x1), (2, 0, true, x2)] [(0, true, x1), (0, true, r1)] (sM s m1))
    refine hY _ _ _ _ ?_
    refine And.intro (fun hc => ?_) (fun hc => ?_)
    · have h := h.1 hc
      refine hY _ _ _ _ (hY _ _ _ _ (?_ : Y 2 [(2, 0, false, x2 + 1), (0, 5, true, 36), (1, 0, true, x1)] [] (sM s m1)))
      refine l2 _ _ ?_
      refine And.intro h.1 ?_
      exact (Exists.intro m1 (And.intro rfl (And.intro rfl h.2)))
    · have h := h.2 hc
      refine hY _ _ _ _ (?_ : Y 21 [(0, 5, true, 36), (1, 0, true, x1), (2, 0, true, x2)] [(0, true, x2)] (sM s m1))
      refine hY _ _ _ _ ?_
      exact hQ x2 m1 h
theorem wk_108_2 (Q : sQ) (R : Int → hy_m → Prop) (s : sS) (x1 : Int) (x2 : Int) (hQ : ∀ x m', R x m' → Q x (sM s m')) (hr : sRg [(0, 5, 36), (1, 0, 0), (2, 0, 0)] [x1, x2]) (h : wq_108_2 x1 x2 s.1 s.2.2.2 R) : kX dC 1 im_m108 0 2 (sCan [(0, 5, 36), (1, 0, 0), (2, 0, 0)] [x1, x2]) [] s Q :=
  h (fun x2 m => sRg [(0, 5, 36), (1, 0, 0), (2, 0, 0)] [x1, x2] → kX dC 1 im_m108 0 2 (sCan [(0, 5, 36), (1, 0, 0), (2, 0, 0)] [x1, x2]) [] (sM s m) Q) (fun x2 m h hr => wj_108_2 Q R s (fun x2 m => sRg [(0, 5, 36), (1, 0, 0), (2, 0, 0)] [x1, x2] → kX dC 1 im_m108 0 2 (sCan [(0, 5, 36), (1, 0, 0), (2, 0, 0)] [x1, x2]) [] (sM s m) Q) x1 x2 m  (fun _ _ hp hr => hp hr) hQ hr h) hr
def lb_108_0 (s : sS) (Q : sQ) (R : Int → hy_m → Prop) (x1 : Int) : Nat → Option (sL → sS → Prop) := sLb [(2, fun lv t => sG [(0, 5, 36), (1, 0, 0), (2, 0, 0)] lv (ap2 (fun w1 w2 => ∃ m', t = sM s m' ∧ wq_108_2 w1 w2 s.1 m' R)))]
set_option maxRecDepth 30000 in
set_option maxHeartbeats 1000000 in
theorem wk_108_0 (Q : sQ) (R : Int → hy_m → Prop) (s : sS) (x1 : Int) (hQ : ∀ x m', R x m' → Q x (sM s m')) (hr : sRg [(0, 5, 36), (1, 0, 0)] [x1]) (h : wq_108 x1 s.1 s.2.2.2 R) : kX dC 1 im_m108 0 0 (sCan [(0, 5, 36), (1, 0, 0)] [x1]) [] s Q := by
  unfold wq_108 at h
  refine wz2_ok (cs := cs_108) (wr := []) (lb := lb_108_0 s Q R x1) cs_108_ok (kLb_c (kLab (Bd := fun xs t => ap2 (fun w1 w2 => ∃ m', t = sM s m' ∧ wq_108_2 w1 w2 s.1 m' R) xs) rfl (fun xs t r1 r2 hb => by obtain ⟨w1, w2, rfl, hb⟩ := ap2_ok hb; obtain ⟨m', rfl, hx⟩ := hb; exact wk_108_2 Q R (sM s m') _ _ (fun x m'' hy => hQ x m'' hy) r1 hx)) kLb_n) (okL_can rfl hr) (fun Y hY hl => ?_)
  have l2 := hl 2 _ rfl
  refine hY _ _ _ _ (hY _ _ _ _ (?_ : Y 2 [(2, 2, true, 0), (0, 5, true, 36), (1, 0, true, x1)] [] s))
  refine l2 _ _ ?_
  exact (Exists.intro s.2.2.2 (And.intro rfl h))
def we_108 : sFf := sEf 3 [(0, 5, 36), (1, 0, 0)] (fun xs s Q => ap1 (fun x1 => wq_108 x1 s.1 s.2.2.2 Q) xs)
theorem we_108_ok : kS dC 2 108 0 (.inl we_108) := sEf_ok (mi := im_m108) rfl rfl rfl (fun R xs s r1 hb => by obtain ⟨x1, rfl, hb⟩ := ap1_ok hb; exact wk_108_0 _ R s x1 (fun x m' hx => ⟨m', rfl, hx⟩) r1 hb)
/-- LM.variable(II)I -/
def wq_17 (x1 : Int) (x2 : Int) (T : hy_T) (m : hy_m) (Q : Int → hy_m → Prop) : Prop := wq_107 x1 T m (fun r1 m1 => (r1 = 0 → (Q (-1) m1)) ∧ (r1 ≠ 0 → ((x2 < 0 → (Q (-1) m1)) ∧ (0 ≤ x2 → ((x2 ≤ 3 → (wq_124 x1 T m1 (fun r2 m2 => wq_129 r2 T m2 (fun r3 m3 => ((x2 = 0 + 0 → ((r3 ≠ 1 → (Q 1 m3)) ∧ (r3 = 1 → (Q 0 m3)))) ∧ ((x2 = 0 + 1 → (Q r3 m3)) ∧ ((x2 = 0 + 2 → ((r3 ≠ 2 → (Q (-9) m3)) ∧ (r3 = 2 → (wq_130 r2 T m3 (fun r4 m4 => hy_r 0 r4 ∧ (Q r4 m4)))))) ∧ (True)))) ∧ (x2 < 0 ∨ 2 < x2 → ((r3 ≠ 1 → (Q (-9) m3)) ∧ (r3 = 1 → (wq_108 r2 T m3 (fun r5 m5 => Q r5 m5))))))))) ∧ (3 < x2 → (Q (-1) m1)))))))
theorem wc_107_r36_0t (x1 : Int) (s : sS) (R : Int → hy_m → Prop) (h : wq_107 x1 s.1 s.2.2.2 R) : we_107 [(5, true, 36), (0, true, x1)] s R := h
theorem wc_108_r36_0t (x1 : Int) (s : sS) (R : Int → hy_m → Prop) (h : wq_108 x1 s.1 s.2.2.2 R) : we_108 [(5, true, 36), (0, true, x1)] s R := h
def cs_17 : List (Nat × Nat × sFS) := [(107, 2, .inl we_107), (108, 0, .inl we_108), (124, 0, .inl we_124), (129, 0, .inl we_129), (130, 1, .inl we_130)]
theorem cs_17_ok : kCs dC 2 cs_17 := (kCs_c (Or.inr (Or.inr (Or.inl rfl))) (we_107_ok.deep (by decide)) (kCs_c (Or.inl rfl) (we_108_ok.deep (by decide)) (kCs_c (Or.inl rfl) (we_124_ok.deep (by decide)) (kCs_c (Or.inl rfl) (we_129_ok.deep (by decide)) (kCs_c (Or.inr (Or.inl rfl)) (we_130_ok.deep (by decide)) kCs_n)))))
def lb_17_0 (s : sS) (Q : sQ) (R : Int → hy_m → Prop) (x1 : Int) (x2 : Int) : Nat → Option (sL → sS → Prop) := sLb []
set_option maxRecDepth 30000 in
set_option maxHeartbeats 1000000 in
theorem wk_17_0 (Q : sQ) (R : Int → hy_m → Prop) (s : sS) (x1 : Int) (x2 : Int) (hQ : ∀ x m', R x m' → Q x (sM s m')) (hr : sRg [(0, 5, 1), (1, 0, 0), (2, 0, 0)] [x1, x2]) (h : wq_17 x1 x2 s.1 s.2.2.2 R) : kX dC 2 im_m17 0 0 (sCan [(0, 5, 1), (1, 0, 0), (2, 0, 0)] [x1, x2]) [] s Q := by
  unfold wq_17 at h
  refine wz2_ok (cs := cs_17) (wr := []) (lb := lb_17_0 s Q R x1 x2) cs_17_ok kLb_n (okL_can rfl hr) (fun Y hY hl => ?_)
  refine hY _ _ _ _ (hY _ _ _ _ (hY _ _ _ _ (?_ : Y 5 [(0, 5, true, 1), (1, 0, true, x1), (2, 0, true, x2)] [(0, true, x1), (5, true, 36)] s)))
  refine hY _ _ _ _ ?_
  refine Exists.intro _ (And.intro (wc_107_r36_0t x1 _ _ h) (fun r1 m1 h => ?_))
  show Y 8 [(0, 5, true, 1), (1, 0, true, x1), (2, 0, true, x2)] [(2, true, r1)] (sM s m1)
  refine hY _ _ _ _ ?_
  refine And.intro (fun hc => ?_) (fun hc => ?_)
  · have h := h.1 hc
    refine hY _ _ _ _ (?_ : Y 21 [(0, 5, true, 1), (1, 0, true, x1), (2, 0, true, x2)] [(0, true, (-1))] (sM s m1))
    refine hY _ _ _ _ ?_
    exact hQ (-1) m1 h
  · have h := h.2 hc
    refine hY _ _ _ _ (?_ : Y 12 [(0, 5, true, 1), (1, 0, true, x1), (2, 0, true, x2)] [(0, true, x2)] (sM s m1))
    refine hY _ _ _ _ ?_
    refine And.intro (fun hc => ?_) (fun hc => ?_)
    · have h := h.1 hc
      refine hY _ _ _ _ (?_ : Y 21 [(0, 5, true, 1), (1, 0, true, x1), (2, 0, true, x2)] [(0, true, (-1))] (sM s m1))
      refine hY _ _ _ _ ?_
      exact hQ (-1) m1 h
    · have h := h.2 hc
      refine hY _ _ _ _ (hY _ _ _ _ (?_ : Y 17 [(0, 5, true, 1), (1, 0, true, x1), (2, 0, true, x2)] [(0, true, 3), (0, true, x2)] (sM s m1)))
      refine hY _ _ _ _ ?_
      refine And.intro (fun hc => ?_) (fun hc => ?_)
      · have h := h.1 hc
        refine hY _ _ _ _ (hY _ _ _ _ (hY _ _ _ _ (?_ : Y 29 [(0, 5, true, 1), (1, 0, true, x1), (2, 0, true, x2)] [(5, true, 41)] (sM s m1))))
        refine hY _ _ _ _ (?_ : Y 30 [(0, 5, true, 1), (1, 0, true, x1), (2, 0, true, x2)] [(0, true, x1), (5, true, 41)] (sM s m1))
        refine hY _ _ _ _ ?_
        refine Exists.intro _ (And.intro (wc_124_r41_0t x1 _ _ h) (fun r2 m2 h => ?_))
        refine hY _ _ _ _ (hY _ _ _ _ (hY _ _ _ _ (?_ : Y 38 [(3, 0, true, r2), (0, 5, true, 1), (1, 0, true, x1), (2, 0, true, x2)] [(5, true, 36)] (sM s m2))))
        refine hY _ _ _ _ (hY _ _ _ _ (?_ : Y 42 [(3, 0, true, r2), (0, 5, true, 1), (1, 0, true, x1), (2, 0, true, x2)] [(0, true, r2), (5, true, 41)] (sM s m2)))
        refine hY _ _ _ _ ?_
        refine Exists.intro _ (And.intro (wc_129_r41_0t r2 _ _ h) (fun r3 m3 h => ?_))
        refine hY _ _ _ _ (hY _ _ _ _ (?_ : Y 48 [(4, 0, true, r3), (3, 0, true, r2), (0, 5, true, 1), (1, 0, true, x1), (2, 0, true, x2)] [(0, true, x2)] (sM s m3)))
        refine hY _ _ _ _ ?_
        refine And.intro (And.intro (fun hc => ?_) (And.intro (fun hc => ?_) (And.intro (fun hc => ?_) trivial))) (fun hc => ?_)
        · have h := h.1.1 hc
          refine hY _ _ _ _ (hY _ _ _ _ (?_ : Y 79 [(4, 0, true, r3), (3, 0, true, r2), (0, 5, true, 1), (1, 0, true, x1), (2, 0, true, x2)] [(2, true, 1), (0, true, r3)] (sM s m3)))
          refine hY _ _ _ _ ?_
          refine And.intro (fun hc => ?_) (fun hc => ?_)
          · have h := h.1 hc
            refine hY _ _ _ _ (?_ : Y 87 [(4, 0, true, r3), (3, 0, true, r2), (0, 5, true, 1), (1, 0, true, x1), (2, 0, true, x2)] [(2, true, 1)] (sM s m3))
            refine hY _ _ _ _ ?_
            exact hQ 1 m3 h
          · have h := h.2 hc
            refine hY _ _ _ _ (hY _ _ _ _ (?_ : Y 87 [(4, 0, true, r3), (3, 0, true, r2), (0, 5, true, 1), (1, 0, true, x1), (2, 0, true, x2)] [(2, true, 0)] (sM s m3)))
            refine hY _ _ _ _ ?_
            exact hQ 0 m3 h
        · have h := h.1.2.1 hc
          refine hY _ _ _ _ (?_ : Y 90 [(4, 0, true, r3), (3, 0, true, r2), (0, 5, true, 1), (1, 0, true, x1), (2, 0, true, x2)] [(0, true, r3)] (sM s m3))
          refine hY _ _ _ _ ?_
          exact hQ r3 m3 h
        · have h := h.1.2.2.1 hc
          refine hY _ _ _ _ (hY _ _ _ _ (?_ : Y 94 [(4, 0, true, r3), (3, 0, true, r2), (0, 5, true, 1), (1, 0, true, x1), (2, 0, true, x2)] [(0, true, 2), (0, true, r3)] (sM s m3)))
          refine hY _ _ _ _ ?_
          refine And.intro (fun hc => ?_) (fun hc => ?_)
          · have h := h.1 hc
            refine hY _ _ _ _ (?_ : Y 114 [(4, 0, true, r3), (3, 0, true, r2), (0, 5, true, 1), (1, 0, true, x1), (2, 0, true, x2)] [(0, true, (-9))] (sM s m3))
            refine hY _ _ _ _ ?_
            exact hQ (-9) m3 h
          · have h := h.2 hc
            refine hY _ _ _ _ (hY _ _ _ _ (hY _ _ _ _ (?_ : Y 104 [(4, 0, true, r3), (3, 0, true, r2), (0, 5, true, 1), (1, 0, true, x1), (2, 0, true, x2)] [(5, true, 41)] (sM s m3))))
            refine hY _ _ _ _ (?_ : Y 105 [(4, 0, true, r3), (3, 0, true, r2), (0, 5, true, 1), (1, 0, true, x1), (2, 0, true, x2)] [(0, true, r2), (5, true, 41)] (sM s m3))
            refine hY _ _ _ _ ?_
            refine Exists.intro _ (And.intro (wc_130_r41_0t r2 _ _ h) (fun r4 m4 h => ?_))
            refine hY _ _ _ _ (hY _ _ _ _ (?_ : Y 114 [(4, 0, true, r3), (3, 0, true, r2), (0, 5, true, 1), (1, 0, true, x1), (2, 0, true, x2)] [(0, false, r4)] (sM s m4)))
            refine hY _ _ _ _ ?_
            refine And.intro h.1 ?_
            exact hQ r4 m4 h.2
        · have h := h.2 hc
          refine hY _ _ _ _ (hY _ _ _ _ (?_ : Y 118 [(4, 0, true, r3), (3, 0, true, r2), (0, 5, true, 1), (1, 0, true, x1), (2, 0, true, x2)] [(2, true, 1), (0, true, r3)] (sM s m3)))
          refine hY _ _ _ _ ?_
          refine And.intro (fun hc => ?_) (fun hc => ?_)
          · have h := h.1 hc
            refine hY _ _ _ _ (?_ : Y 134 [(4, 0, true, r3), (3, 0, true, r2), (0, 5, true, 1), (1, 0, true, x1), (2, 0, true, x2)] [(0, true, (-9))] (sM s m3))
            refine hY _ _ _ _ ?_
            exact hQ (-9) m3 h
          · have h := h.2 hc
            refine hY _ _ _ _ (hY _ _ _ _ (hY _ _ _ _ (?_ : Y 126 [(4, 0, true, r3), (3, 0, true, r2), (0, 5, true, 1), (1, 0, true, x1), (2, 0, true, x2)] [(0, true, r2), (5, true, 36)] (sM s m3))))
            refine hY _ _ _ _ ?_
            refine Exists.intro _ (And.intro (wc_108_r36_0t r2 _ _ h) (fun r5 m5 h => ?_))
            refine hY _ _ _ _ (?_ : Y 134 [(4, 0, true, r3), (3, 0, true, r2), (0, 5, true, 1), (1, 0, true, x1), (2, 0, true, x2)] [(0, true, r5)] (sM s m5))
            refine hY _ _ _ _ ?_
            exact hQ r5 m5 h
      · have h := h.2 hc
        refine hY _ _ _ _ (?_ : Y 21 [(0, 5, true, 1), (1, 0, true, x1), (2, 0, true, x2)] [(0, true, (-1))] (sM s m1))
        refine hY _ _ _ _ ?_
        exact hQ (-1) m1 h
def we_17 : sFf := sEf 5 [(0, 5, 1), (1, 0, 0), (2, 0, 0)] (fun xs s Q => ap2 (fun x1 x2 => wq_17 x1 x2 s.1 s.2.2.2 Q) xs)
theorem we_17_ok : kS dC 3 17 0 (.inl we_17) := sEf_ok (mi := im_m17) rfl rfl rfl (fun R xs s r1 hb => by obtain ⟨x1, x2, rfl, hb⟩ := ap2_ok hb; exact wk_17_0 _ R s x1 x2 (fun x m' hx => ⟨m', rfl, hx⟩) r1 hb)
/-- LM.value(II)I -/
def wq_18 (x1 : Int) (x2 : Int) (T : hy_T) (m : hy_m) (Q : Int → hy_m → Prop) : Prop := wq_107 x1 T m (fun r1 m1 => (r1 = 0 → (Q (-1) m1)) ∧ (r1 ≠ 0 → ((0 ≤ x2 → (wq_156 m1 (fun _ m2 => wq_159 x1 T m2 (fun _ m3 => wq_157 x2 m3 (fun r4 m4 => Q r4 m4))))) ∧ (x2 < 0 → (Q (-1) m1)))))
theorem wc_159_r69_0t (x1 : Int) (s : sS) (R : Int → hy_m → Prop) (h : wq_159 x1 s.1 s.2.2.2 R) : we_159 [(5, true, 69), (0, true, x1)] s R := h
def cs_18 : List (Nat × Nat × sFS) := [(107, 2, .inl we_107), (156, 9, .inl we_156), (157, 0, .inl we_157), (159, 9, .inl we_159)]
theorem cs_18_ok : kCs dC 6 cs_18 := (kCs_c (Or.inr (Or.inr (Or.inl rfl))) (we_107_ok.deep (by decide)) (kCs_c (Or.inr (Or.inr (Or.inr (Or.inr rfl)))) (we_156_ok.deep (by decide)) (kCs_c (Or.inl rfl) (we_157_ok.deep (by decide)) (kCs_c (Or.inr (Or.inr (Or.inr (Or.inr rfl)))) (we_159_ok.deep (by decide)) kCs_n))))
def lb_18_0 (s : sS) (Q : sQ) (R : Int → hy_m → Prop) (x1 : Int) (x2 : Int) : Nat → Option (sL → sS → Prop) := sLb []
set_option maxRecDepth 30000 in
set_option maxHeartbeats 1000000 in
theorem wk_18_0 (Q : sQ) (R : Int → hy_m → Prop) (s : sS) (x1 : Int) (x2 : Int) (hQ : ∀ x m', R x m' → Q x (sM s m')) (hr : sRg [(0, 5, 1), (1, 0, 0), (2, 0, 0)] [x1, x2]) (h : wq_18 x1 x2 s.1 s.2.2.2 R) : kX dC 6 im_m18 0 0 (sCan [(0, 5, 1), (1, 0, 0), (2, 0, 0)] [x1, x2]) [] s Q := by
  unfold wq_18 at h
  refine wz2_ok (cs := cs_18) (wr := []) (lb := lb_18_0 s Q R x1 x2) cs_18_ok kLb_n (okL_can rfl hr) (fun Y hY hl => ?_)
  refine hY _ _ _ _ (hY _ _ _ _ (hY _ _ _ _ (?_ : Y 5 [(0, 5, true, 1), (1, 0, true, x1), (2, 0, true, x2)] [(0, true, x1), (5, true, 36)] s)))
  refine hY _ _ _ _ ?_
  refine Exists.intro _ (And.intro (wc_107_r36_0t x1 _ _ h) (fun r1 m1 h => ?_))
  show Y 8 [(0, 5, true, 1), (1, 0, true, x1), (2, 0, true, x2)] [(2, true, r1)] (sM s m1)
  refine hY _ _ _ _ ?_
  refine And.intro (fun hc => ?_) (fun hc => ?_)
  · have h := h.1 hc
    refine hY _ _ _ _ (?_ : Y 16 [(0, 5, true, 1), (1, 0, true, x1), (2, 0, true, x2)] [(0, true, (-1))] (sM s m1))
    refine hY _ _ _ _ ?_
    exact hQ (-1) m1 h
  · have h := h.2 hc
    refine hY _ _ _ _ (?_ : Y 12 [(0, 5, true, 1), (1, 0, true, x1), (2, 0, true, x2)] [(0, true, x2)] (sM s m1))
    refine hY _ _ _ _ ?_
    refine And.intro (fun hc => ?_) (fun hc => ?_)
    · have h := h.1 hc
      refine hY _ _ _ _ (hY _ _ _ _ (?_ : Y 21 [(0, 5, true, 1), (1, 0, true, x1), (2, 0, true, x2)] [(5, true, 69)] (sM s m1)))
      refine hY _ _ _ _ ?_
      refine Exists.intro _ (And.intro (wc_156_r69 _ _ h) (fun r2 m2 h => ?_))
      refine hY _ _ _ _ (hY _ _ _ _ (hY _ _ _ _ (?_ : Y 29 [(0, 5, true, 1), (1, 0, true, x1), (2, 0, true, x2)] [(0, true, x1), (5, true, 69)] (sM s m2))))
      refine hY _ _ _ _ ?_
      refine Exists.intro _ (And.intro (wc_159_r69_0t x1 _ _ h) (fun r3 m3 h => ?_))
      refine hY _ _ _ _ (hY _ _ _ _ (hY _ _ _ _ (?_ : Y 37 [(0, 5, true, 1), (1, 0, true, x1), (2, 0, true, x2)] [(0, true, x2), (5, true, 69)] (sM s m3))))
      refine hY _ _ _ _ ?_
      refine Exists.intro _ (And.intro (wc_157_r69_0t x2 _ _ h) (fun r4 m4 h => ?_))
      show Y 40 [(0, 5, true, 1), (1, 0, true, x1), (2, 0, true, x2)] [(0, true, r4)] (sM s m4)
      refine hY _ _ _ _ ?_
      exact hQ r4 m4 h
    · have h := h.2 hc
      refine hY _ _ _ _ (?_ : Y 16 [(0, 5, true, 1), (1, 0, true, x1), (2, 0, true, x2)] [(0, true, (-1))] (sM s m1))
      refine hY _ _ _ _ ?_
      exact hQ (-1) m1 h
def we_18 : sFf := sEf 3 [(0, 5, 1), (1, 0, 0), (2, 0, 0)] (fun xs s Q => ap2 (fun x1 x2 => wq_18 x1 x2 s.1 s.2.2.2 Q) xs)
theorem we_18_ok : kS dC 7 18 0 (.inl we_18) := sEf_ok (mi := im_m18) rfl rfl rfl (fun R xs s r1 hb => by obtain ⟨x1, x2, rfl, hb⟩ := ap2_ok hb; exact wk_18_0 _ R s x1 x2 (fun x m' hx => ⟨m', rfl, hx⟩) r1 hb)
/-- LM.goal(I)I -/
def wq_19 (x1 : Int) (T : hy_T) (m : hy_m) (Q : Int → hy_m → Prop) : Prop := (0 ≤ x1 → (((m 36 6) = 0 → (Q (-9) m)) ∧ ((m 36 6) ≠ 0 → (wq_156 m (fun _ m1 => wq_91 (m 36 6) T m1 (fun r2 m2 => wq_159 r2 T m2 (fun _ m3 => wq_157 x1 m3 (fun r4 m4 => Q r4 m4)))))))) ∧ (x1 < 0 → (Q (-1) m))
def cs_19 : List (Nat × Nat × sFS) := [(91, 0, .inl we_91), (156, 9, .inl we_156), (157, 0, .inl we_157), (159, 9, .inl we_159)]
theorem cs_19_ok : kCs dC 6 cs_19 := (kCs_c (Or.inl rfl) (we_91_ok.deep (by decide)) (kCs_c (Or.inr (Or.inr (Or.inr (Or.inr rfl)))) (we_156_ok.deep (by decide)) (kCs_c (Or.inl rfl) (we_157_ok.deep (by decide)) (kCs_c (Or.inr (Or.inr (Or.inr (Or.inr rfl)))) (we_159_ok.deep (by decide)) kCs_n))))
def lb_19_0 (s : sS) (Q : sQ) (R : Int → hy_m → Prop) (x1 : Int) : Nat → Option (sL → sS → Prop) := sLb []
set_option maxRecDepth 30000 in
set_option maxHeartbeats 1000000 in
theorem wk_19_0 (Q : sQ) (R : Int → hy_m → Prop) (s : sS) (x1 : Int) (hQ : ∀ x m', R x m' → Q x (sM s m')) (hr : sRg [(0, 5, 1), (1, 0, 0)] [x1]) (h : wq_19 x1 s.1 s.2.2.2 R) : kX dC 6 im_m19 0 0 (sCan [(0, 5, 1), (1, 0, 0)] [x1]) [] s Q := by
  unfold wq_19 at h
  refine wz2_ok (cs := cs_19) (wr := []) (lb := lb_19_0 s Q R x1) cs_19_ok kLb_n (okL_can rfl hr) (fun Y hY hl => ?_)
  refine hY _ _ _ _ (?_ : Y 1 [(0, 5, true, 1), (1, 0, true, x1)] [(0, true, x1)] s)
  refine hY _ _ _ _ ?_
  refine And.intro (fun hc => ?_) (fun hc => ?_)
  · have h := h.1 hc
    refine hY _ _ _ _ (hY _ _ _ _ (hY _ _ _ _ (?_ : Y 13 [(0, 5, true, 1), (1, 0, true, x1)] [(3, true, s.2.2.2 36 6)] s)))
    refine hY _ _ _ _ (hY _ _ _ _ (?_ : Y 15 [(2, 3, true, s.2.2.2 36 6), (0, 5, true, 1), (1, 0, true, x1)] [(3, true, s.2.2.2 36 6)] s))
    refine hY _ _ _ _ ?_
    refine And.intro (fun hc => ?_) (fun hc => ?_)
    · have h := h.1 hc
      refine hY _ _ _ _ (?_ : Y 20 [(2, 3, true, s.2.2.2 36 6), (0, 5, true, 1), (1, 0, true, x1)] [(0, true, (-9))] s)
      refine hY _ _ _ _ ?_
      exact hQ (-9) s.2.2.2 h
    · have h := h.2 hc
      refine hY _ _ _ _ (hY _ _ _ _ (?_ : Y 25 [(2, 3, true, s.2.2.2 36 6), (0, 5, true, 1), (1, 0, true, x1)] [(5, true, 69)] s))
      refine hY _ _ _ _ ?_
      refine Exists.intro _ (And.intro (wc_156_r69 _ _ h) (fun r1 m1 h => ?_))
      refine hY _ _ _ _ (hY _ _ _ _ (hY _ _ _ _ (?_ : Y 33 [(2, 3, true, s.2.2.2 36 6), (0, 5, true, 1), (1, 0, true, x1)] [(5, true, 1), (5, true, 69)] (sM s m1))))
      refine hY _ _ _ _ (hY _ _ _ _ (?_ : Y 37 [(2, 3, true, s.2.2.2 36 6), (0, 5, true, 1), (1, 0, true, x1)] [(3, true, s.2.2.2 36 6), (5, true, 36), (5, true, 69)] (sM s m1)))
      refine hY _ _ _ _ ?_
      refine Exists.intro _ (And.intro (wc_91_r36_3t (s.2.2.2 36 6) _ _ h) (fun r2 m2 h => ?_))
      show Y 40 [(2, 3, true, s.2.2.2 36 6), (0, 5, true, 1), (1, 0, true, x1)] [(0, true, r2), (5, true, 69)] (sM s m2)
      refine hY _ _ _ _ ?_
      refine Exists.intro _ (And.intro (wc_159_r69_0t r2 _ _ h) (fun r3 m3 h => ?_))
      refine hY _ _ _ _ (hY _ _ _ _ (hY _ _ _ _ (?_ : Y 48 [(2, 3, true, s.2.2.2 36 6), (0, 5, true, 1), (1, 0, true, x1)] [(0, true, x1), (5, true, 69)] (sM s m3))))
      refine hY _ _ _ _ ?_
      refine Exists.intro _ (And.intro (wc_157_r69_0t x1 _ _ h) (fun r4 m4 h => ?_))
      show Y 51 [(2, 3, true, s.2.2.2 36 6), (0, 5, true, 1), (1, 0, true, x1)] [(0, true, r4)] (sM s m4)
      refine hY _ _ _ _ ?_
      exact hQ r4 m4 h
  · have h := h.2 hc
    refine hY _ _ _ _ (?_ : Y 5 [(0, 5, true, 1), (1, 0, true, x1)] [(0, true, (-1))] s)
    refine hY _ _ _ _ ?_
    exact hQ (-1) s.2.2.2 h
def we_19 : sFf := sEf 3 [(0, 5, 1), (1, 0, 0)] (fun xs s Q => ap1 (fun x1 => wq_19 x1 s.1 s.2.2.2 Q) xs)
theorem we_19_ok : kS dC 7 19 0 (.inl we_19) := sEf_ok (mi := im_m19) rfl rfl rfl (fun R xs s r1 hb => by obtain ⟨x1, rfl, hb⟩ := ap1_ok hb; exact wk_19_0 _ R s x1 (fun x m' hx => ⟨m', rfl, hx⟩) r1 hb)
/-- LM$Search.frameAt(I)LLogicMachine$Frame; -/
def wf_109_15 (x1 : Int) (T : hy_T) (Q : Int → hy_m → Prop) (P15 : Int → Int → hy_m → Prop) (x2 : Int) (x3 : Int) (m : hy_m) : Prop := (x1 ≤ x3 → (Q x2 m)) ∧ (x3 < x1 → ((x2 = 0 → (Q x2 m)) ∧ (x2 ≠ 0 → (T.1 (x2).toNat = some (4, 5) ∧ (hy_r 0 (x3 + 1) ∧ (P15 (m ((x2).toNat) 2) (x3 + 1) m))))))
def wq_109_15 (x1 : Int) (x2 : Int) (x3 : Int) (T : hy_T) (m : hy_m) (Q : Int → hy_m → Prop) : Prop := wL2 hy_m (wf_109_15 x1 T Q) x2 x3 m
def wq_109 (x1 : Int) (T : hy_T) (m : hy_m) (Q : Int → hy_m → Prop) : Prop := (0 ≤ x1 → (wq_109_15 x1 (m 36 6) 0 T m Q)) ∧ (x1 < 0 → (wq_109_15 x1 0 0 T m Q))
def cs_109 : List (Nat × Nat × sFS) := []
theorem cs_109_ok : kCs dC 0 cs_109 := kCs_n
def lb_109_15 (s : sS) (Q : sQ) (P15 : Int → Int → hy_m → Prop) (R : Int → hy_m → Prop) (x1 : Int) (x2 : Int) (x3 : Int) : Nat → Option (sL → sS → Prop) := sLb [(15, fun lv t => sG [(1, 0, 0), (2, 3, 0), (3, 0, 0)] lv (ap3 (fun w1 w2 w3 => ∃ m', t = sM s m' ∧ w1 = x1 ∧ P15 w2 w3 m')))]
set_option maxRecDepth 30000 in
set_option maxHeartbeats 1000000 in
theorem wj_109_15 (Q : sQ) (R : Int → hy_m → Prop) (s : sS) (P15 : Int → Int → hy_m → Prop) (x1 : Int) (x2 : Int) (x3 : Int) (m : hy_m) (hP15 : ∀ (z2 z3 : Int) (m : hy_m), P15 z2 z3 m → sRg [(1, 0, 0), (2, 3, 0), (3, 0, 0)] [x1, z2, z3] → kX dC 0 im_m109 3 15 (sCan [(1, 0, 0), (2, 3, 0), (3, 0, 0)] [x1, z2, z3]) [] (sM s m) Q) (hQ : ∀ x m', R x m' → Q x (sM s m')) (hr : sRg [(1, 0, 0), (2, 3, 0), (3, 0, 0)] [x1, x2, x3]) (h : wf_109_15 x1 s.1 R P15 x2 x3 m) : kX dC 0 im_m109 3 15 (sCan [(1, 0, 0), (2, 3, 0), (3, 0, 0)] [x1, x2, x3]) [] (sM s m) Q := by
  unfold wf_109_15 at h
  refine wz2_ok (cs := cs_109) (wr := []) (lb := lb_109_15 s Q P15 R x1 x2 x3) cs_109_ok (kLb_c (kLab (Bd := fun xs t => ap3 (fun w1 w2 w3 => ∃ m', t = sM s m' ∧ w1 = x1 ∧ P15 w2 w3 m') xs) rfl (fun xs t r1 r2 hb => by obtain ⟨w1, w2, w3, rfl, hb⟩ := ap3_ok hb; obtain ⟨m', rfl, rfl, hx⟩ := hb; exact hP15 _ _ m' hx r1)) kLb_n) (okL_can rfl hr) (fun Y hY hl => ?_)
  have l15 := hl 15 _ rfl
  refine hY _ _ _ _ (hY _ _ _ _ (?_ : Y 17 [(1, 0, true, x1), (2, 3, true, x2), (3, 0, true, x3)] [(0, true, x1), (0, true, x3)] (sM s m)))
  refine hY _ _ _ _ ?_
  refine And.intro (fun hc => ?_) (fun hc => ?_)
  · have h := h.1 hc
    refine hY _ _ _ _ (?_ : Y 36 [(1, 0, true, x1), (2, 3, true, x2), (3, 0, true, x3)] [(3, true, x2)] (sM s m))
    refine hY _ _ _ _ ?_
    exact hQ x2 m h
  · have h := h.2 hc
    refine hY _ _ _ _ (?_ : Y 21 [(1, 0, true, x1), (2, 3, true, x2), (3, 0, true, x3)] [(3, true, x2)] (sM s m))
    refine hY _ _ _ _ ?_
    refine And.intro (fun hc => ?_) (fun hc => ?_)
    · have h := h.1 hc
      refine hY _ _ _ _ (?_ : Y 36 [(1, 0, true, x1), (2, 3, true, x2), (3, 0, true, x3)] [(3, true, x2)] (sM s m))
      refine hY _ _ _ _ ?_
      exact hQ x2 m h
    · have h := h.2 hc
      refine hY _ _ _ _ (?_ : Y 25 [(1, 0, true, x1), (2, 3, true, x2), (3, 0, true, x3)] [(3, true, x2)] (sM s m))
      refine hY _ _ _ _ ?_
      refine (And.intro h.1 ?_)
      refine hY _ _ _ _ (hY _ _ _ _ (hY _ _ _ _ (?_ : Y 15 [(3, 0, false, x3 + 1), (2, 3, true, m ((x2).toNat) 2), (1, 0, true, x1)] [] (sM s m))))
      refine l15 _ _ ?_
      refine And.intro h.2.1 ?_
      exact (Exists.intro m (And.intro rfl (And.intro rfl h.2.2)))
theorem wk_109_15 (Q : sQ) (R : Int → hy_m → Prop) (s : sS) (x1 : Int) (x2 : Int) (x3 : Int) (hQ : ∀ x m', R x m' → Q x (sM s m')) (hr : sRg [(1, 0, 0), (2, 3, 0), (3, 0, 0)] [x1, x2, x3]) (h : wq_109_15 x1 x2 x3 s.1 s.2.2.2 R) : kX dC 0 im_m109 3 15 (sCan [(1, 0, 0), (2, 3, 0), (3, 0, 0)] [x1, x2, x3]) [] s Q :=
  h (fun x2 x3 m => sRg [(1, 0, 0), (2, 3, 0), (3, 0, 0)] [x1, x2, x3] → kX dC 0 im_m109 3 15 (sCan [(1, 0, 0), (2, 3, 0), (3, 0, 0)] [x1, x2, x3]) [] (sM s m) Q) (fun x2 x3 m h hr => wj_109_15 Q R s (fun x2 x3 m => sRg [(1, 0, 0), (2, 3, 0), (3, 0, 0)] [x1, x2, x3] → kX dC 0 im_m109 3 15 (sCan [(1, 0, 0), (2, 3, 0), (3, 0, 0)] [x1, x2, x3]) [] (sM s m) Q) x1 x2 x3 m  (fun _ _ _ hp hr => hp hr) hQ hr h) hr
def lb_109_0 (s : sS) (Q : sQ) (R : Int → hy_m → Prop) (x1 : Int) : Nat → Option (sL → sS → Prop) := sLb [(15, fun lv t => sG [(1, 0, 0), (2, 3, 0), (3, 0, 0)] lv (ap3 (fun w1 w2 w3 => ∃ m', t = sM s m' ∧ wq_109_15 w1 w2 w3 s.1 m' R)))]
set_option maxRecDepth 30000 in
set_option maxHeartbeats 1000000 in
theorem wk_109_0 (Q : sQ) (R : Int → hy_m → Prop) (s : sS) (x1 : Int) (hQ : ∀ x m', R x m' → Q x (sM s m')) (hr : sRg [(0, 5, 36), (1, 0, 0)] [x1]) (h : wq_109 x1 s.1 s.2.2.2 R) : kX dC 0 im_m109 3 0 (sCan [(0, 5, 36), (1, 0, 0)] [x1]) [] s Q := by
  unfold wq_109 at h
  refine wz2_ok (cs := cs_109) (wr := []) (lb := lb_109_0 s Q R x1) cs_109_ok (kLb_c (kLab (Bd := fun xs t => ap3 (fun w1 w2 w3 => ∃ m', t = sM s m' ∧ wq_109_15 w1 w2 w3 s.1 m' R) xs) rfl (fun xs t r1 r2 hb => by obtain ⟨w1, w2, w3, rfl, hb⟩ := ap3_ok hb; obtain ⟨m', rfl, hx⟩ := hb; exact wk_109_15 Q R (sM s m') _ _ _ (fun x m'' hy => hQ x m'' hy) r1 hx)) kLb_n) (okL_can rfl hr) (fun Y hY hl => ?_)
  have l15 := hl 15 _ rfl
  refine hY _ _ _ _ (?_ : Y 1 [(0, 5, true, 36), (1, 0, true, x1)] [(0, true, x1)] s)
  refine hY _ _ _ _ ?_
  refine And.intro (fun hc => ?_) (fun hc => ?_)
  · have h := h.1 hc
    refine hY _ _ _ _ (hY _ _ _ _ (hY _ _ _ _ (?_ : Y 13 [(2, 3, true, s.2.2.2 36 6), (0, 5, true, 36), (1, 0, true, x1)] [] s)))
    refine hY _ _ _ _ (hY _ _ _ _ (?_ : Y 15 [(3, 2, true, 0), (2, 3, true, s.2.2.2 36 6), (0, 5, true, 36), (1, 0, true, x1)] [] s))
    refine l15 _ _ ?_
    exact (Exists.intro s.2.2.2 (And.intro rfl h))
  · have h := h.2 hc
    refine hY _ _ _ _ (hY _ _ _ _ (hY _ _ _ _ (?_ : Y 13 [(2, 3, true, 0), (0, 5, true, 36), (1, 0, true, x1)] [] s)))
    refine hY _ _ _ _ (hY _ _ _ _ (?_ : Y 15 [(3, 2, true, 0), (2, 3, true, 0), (0, 5, true, 36), (1, 0, true, x1)] [] s))
    refine l15 _ _ ?_
    exact (Exists.intro s.2.2.2 (And.intro rfl h))
def we_109 : sFf := sEf 4 [(0, 5, 36), (1, 0, 0)] (fun xs s Q => ap1 (fun x1 => wq_109 x1 s.1 s.2.2.2 Q) xs)
theorem we_109_ok : kS dC 1 109 3 (.inl we_109) := sEf_ok (mi := im_m109) rfl rfl rfl (fun R xs s r1 hb => by obtain ⟨x1, rfl, hb⟩ := ap1_ok hb; exact wk_109_0 _ R s x1 (fun x m' hx => ⟨m', rfl, hx⟩) r1 hb)
/-- LM$Store.numberOf(I)I -/
def wq_128 (x1 : Int) (T : hy_T) (m : hy_m) (Q : Int → hy_m → Prop) : Prop := (x1 < 0 → (Q (-9) m)) ∧ (0 ≤ x1 → (∃ t1 n1 : Nat, T.1 (m 41 2).toNat = some (t1, n1) ∧ 99 ≤ t1 ∧ (((n1 : Int) ≤ x1 → (Q (-9) m)) ∧ (x1 < (n1 : Int) → (∃ n2 : Nat, T.1 (m 41 2).toNat = some (100, n2) ∧ (0 ≤ x1 ∧ x1 < (n2 : Int) ∧ (Q (m ((m 41 2).toNat) x1) m)))))))
def cs_128 : List (Nat × Nat × sFS) := []
theorem cs_128_ok : kCs dC 0 cs_128 := kCs_n
def lb_128_0 (s : sS) (Q : sQ) (R : Int → hy_m → Prop) (x1 : Int) : Nat → Option (sL → sS → Prop) := sLb []
set_option maxRecDepth 30000 in
set_option maxHeartbeats 1000000 in
theorem wk_128_0 (Q : sQ) (R : Int → hy_m → Prop) (s : sS) (x1 : Int) (hQ : ∀ x m', R x m' → Q x (sM s m')) (hr : sRg [(0, 5, 41), (1, 0, 0)] [x1]) (h : wq_128 x1 s.1 s.2.2.2 R) : kX dC 0 im_m128 0 0 (sCan [(0, 5, 41), (1, 0, 0)] [x1]) [] s Q := by
  unfold wq_128 at h
  refine wz2_ok (cs := cs_128) (wr := []) (lb := lb_128_0 s Q R x1) cs_128_ok kLb_n (okL_can rfl hr) (fun Y hY hl => ?_)
  refine hY _ _ _ _ (?_ : Y 1 [(0, 5, true, 41), (1, 0, true, x1)] [(0, true, x1)] s)
  refine hY _ _ _ _ ?_
  refine And.intro (fun hc => ?_) (fun hc => ?_)
  · have h := h.1 hc
    refine hY _ _ _ _ (?_ : Y 24 [(0, 5, true, 41), (1, 0, true, x1)] [(0, true, (-9))] s)
    refine hY _ _ _ _ ?_
    exact hQ (-9) s.2.2.2 h
  · have h := h.2 hc
    refine hY _ _ _ _ (hY _ _ _ _ (hY _ _ _ _ (?_ : Y 9 [(0, 5, true, 41), (1, 0, true, x1)] [(3, true, s.2.2.2 41 2), (0, true, x1)] s)))
    refine hY _ _ _ _ ?_
    obtain ⟨t1, n1, h⟩ := h
    refine Exists.intro t1 (Exists.intro n1 (And.intro h.1 (And.intro h.2.1 ?_)))
    show Y 10 [(0, 5, true, 41), (1, 0, true, x1)] [(0, true, (n1 : Int)), (0, true, x1)] s
    refine hY _ _ _ _ ?_
    refine And.intro (fun hc => ?_) (fun hc => ?_)
    · have h := h.2.2.1 hc
      refine hY _ _ _ _ (?_ : Y 24 [(0, 5, true, 41), (1, 0, true, x1)] [(0, true, (-9))] s)
      refine hY _ _ _ _ ?_
      exact hQ (-9) s.2.2.2 h
    · have h := h.2.2.2 hc
      refine hY _ _ _ _ (hY _ _ _ _ (hY _ _ _ _ (?_ : Y 18 [(0, 5, true, 41), (1, 0, true, x1)] [(0, true, x1), (3, true, s.2.2.2 41 2)] s)))
      refine hY _ _ _ _ ?_
      obtain ⟨n2, h⟩ := h
      refine Exists.intro n2 (And.intro h.1 ?_)
      refine (And.intro h.2.1 (And.intro h.2.2.1 ?_))
      refine hY _ _ _ _ (?_ : Y 24 [(0, 5, true, 41), (1, 0, true, x1)] [(0, true, s.2.2.2 ((s.2.2.2 41 2).toNat) x1)] s)
      refine hY _ _ _ _ ?_
      exact hQ (s.2.2.2 ((s.2.2.2 41 2).toNat) x1) s.2.2.2 h.2.2.2
def we_128 : sFf := sEf 2 [(0, 5, 41), (1, 0, 0)] (fun xs s Q => ap1 (fun x1 => wq_128 x1 s.1 s.2.2.2 Q) xs)
theorem we_128_ok : kS dC 1 128 0 (.inl we_128) := sEf_ok (mi := im_m128) rfl rfl rfl (fun R xs s r1 hb => by obtain ⟨x1, rfl, hb⟩ := ap1_ok hb; exact wk_128_0 _ R s x1 (fun x m' hx => ⟨m', rfl, hx⟩) r1 hb)
