/-- LMModel.infers()Z -/
def wf_271_176 (x2 : Int) (Q : Int → hy_m → Prop) (P176 : Int → Int → hy_m → Prop) (x4 : Int) (x6 : Int) (m : hy_m) : Prop := wq_270 x4 m (fun r1 m1 => (r1 = 0 → (0 ≤ x2 ∧ x2 < 1300 ∧ (wq_267 x4 x6 (m1 103 x2) m1 (fun r2 m2 => Q r2 m2)))) ∧ (r1 ≠ 0 → (wq_236 x4 0 m1 (fun r3 m3 => wq_237 r3 m3 (fun r4 m4 => wq_261 r4 m4 (fun r5 m5 => (r5 ≠ 0 → (P176 r4 0 m5)) ∧ (r5 = 0 → (wq_262 1 m5 (fun r6 m6 => Q r6 m6)))))))))
def wq_271_176 (x2 : Int) (x4 : Int) (x6 : Int) (m : hy_m) (Q : Int → hy_m → Prop) : Prop := wL2 hy_m (wf_271_176 x2 Q) x4 x6 m
def wq_271_120 (x2 : Int) (x3 : Int) (x4 : Int) (x6 : Int) (m : hy_m) (Q : Int → hy_m → Prop) : Prop := ((1 : Int) = 0 → (0 ≤ x2 ∧ x2 < 1300 ∧ (wq_271_176 x2 x4 x6 (hy_u m 74 52 (m 102 x2)) Q))) ∧ ((1 : Int) ≠ 0 → (0 ≤ x2 ∧ x2 < 1300 ∧ (0 ≤ x2 ∧ x2 < 1300 ∧ (0 ≤ x2 ∧ x2 < 1300 ∧ (0 ≤ x2 ∧ x2 < 1300 ∧ (hy_r 0 ((m 100 x2) + 1) ∧ (wq_252 x3 ((m 100 x2) + 1) (m 101 x2) (m 102 x2) (m 103 x2) m (fun r1 m1 => wq_271_176 x2 x4 x6 (hy_u m1 74 52 r1) Q))))))))
def wq_271 (m : hy_m) (Q : Int → hy_m → Prop) : Prop := hy_r 0 ((m 74 34) + 1) ∧ (wq_268 (m 74 52) (hy_u m 74 34 ((m 74 34) + 1)) (fun r1 m1 => (r1 ≤ (m1 74 37) → (((m1 74 59) ≤ (m1 74 38) → (0 ≤ (m1 74 52) ∧ (m1 74 52) < 1300 ∧ (wq_269 (m1 74 52) (hy_u (hy_u m1 74 37 (m1 74 37)) 74 38 (m1 74 38)) (fun r2 m2 => ((m1 99 (m1 74 52)) = (-9) → (((m1 99 (m1 74 52)) = (-9) → (wq_271_120 (m1 74 52) (m1 99 (m1 74 52)) r2 0 m2 Q)) ∧ ((m1 99 (m1 74 52)) ≠ (-9) → (0 ≤ (m1 74 52) ∧ (m1 74 52) < 1300 ∧ (0 ≤ (m1 99 (m1 74 52)) ∧ (m1 99 (m1 74 52)) < 28 ∧ (hy_r 0 ((m2 100 (m1 74 52)) + 1) ∧ (((m2 82 (m1 99 (m1 74 52))) ≤ ((m2 100 (m1 74 52)) + 1) → (((0 : Int) = 0 → (0 ≤ (m1 74 52) ∧ (m1 74 52) < 1300 ∧ (wq_271_176 (m1 74 52) r2 0 (hy_u m2 74 52 (m2 102 (m1 74 52))) Q))) ∧ ((0 : Int) ≠ 0 → (0 ≤ (m1 74 52) ∧ (m1 74 52) < 1300 ∧ (0 ≤ (m1 74 52) ∧ (m1 74 52) < 1300 ∧ (0 ≤ (m1 74 52) ∧ (m1 74 52) < 1300 ∧ (0 ≤ (m1 74 52) ∧ (m1 74 52) < 1300 ∧ (hy_r 0 ((m2 100 (m1 74 52)) + 1) ∧ (wq_252 (m1 99 (m1 74 52)) ((m2 100 (m1 74 52)) + 1) (m2 101 (m1 74 52)) (m2 102 (m1 74 52)) (m2 103 (m1 74 52)) m2 (fun r3 m3 => wq_271_176 (m1 74 52) r2 0 (hy_u m3 74 52 r3) Q)))))))))) ∧ (((m2 100 (m1 74 52)) + 1) < (m2 82 (m1 99 (m1 74 52))) → (wq_271_120 (m1 74 52) (m1 99 (m1 74 52)) r2 0 m2 Q))))))))) ∧ ((m1 99 (m1 74 52)) ≠ (-9) → (((m1 99 (m1 74 52)) = (-9) → (wq_271_120 (m1 74 52) (m1 99 (m1 74 52)) r2 1 m2 Q)) ∧ ((m1 99 (m1 74 52)) ≠ (-9) → (0 ≤ (m1 74 52) ∧ (m1 74 52) < 1300 ∧ (0 ≤ (m1 99 (m1 74 52)) ∧ (m1 99 (m1 74 52)) < 28 ∧ (hy_r 0 ((m2 100 (m1 74 52)) + 1) ∧ (((m2 82 (m1 99 (m1 74 52))) ≤ ((m2 100 (m1 74 52)) + 1) → (((0 : Int) = 0 → (0 ≤ (m1 74 52) ∧ (m1 74 52) < 1300 ∧ (wq_271_176 (m1 74 52) r2 1 (hy_u m2 74 52 (m2 102 (m1 74 52))) Q))) ∧ ((0 : Int) ≠ 0 → (0 ≤ (m1 74 52) ∧ (m1 74 52) < 1300 ∧ (0 ≤ (m1 74 52) ∧ (m1 74 52) < 1300 ∧ (0 ≤ (m1 74 52) ∧ (m1 74 52) < 1300 ∧ (0 ≤ (m1 74 52) ∧ (m1 74 52) < 1300 ∧ (hy_r 0 ((m2 100 (m1 74 52)) + 1) ∧ (wq_252 (m1 99 (m1 74 52)) ((m2 100 (m1 74 52)) + 1) (m2 101 (m1 74 52)) (m2 102 (m1 74 52)) (m2 103 (m1 74 52)) m2 (fun r4 m4 => wq_271_176 (m1 74 52) r2 1 (hy_u m4 74 52 r4) Q)))))))))) ∧ (((m2 100 (m1 74 52)) + 1) < (m2 82 (m1 99 (m1 74 52))) → (wq_271_120 (m1 74 52) (m1 99 (m1 74 52)) r2 1 m2 Q))))))))))))) ∧ ((m1 74 38) < (m1 74 59) → (0 ≤ (m1 74 52) ∧ (m1 74 52) < 1300 ∧ (wq_269 (m1 74 52) (hy_u (hy_u m1 74 37 (m1 74 37)) 74 38 (m1 74 59)) (fun r5 m5 => ((m1 99 (m1 74 52)) = (-9) → (((m1 99 (m1 74 52)) = (-9) → (wq_271_120 (m1 74 52) (m1 99 (m1 74 52)) r5 0 m5 Q)) ∧ ((m1 99 (m1 74 52)) ≠ (-9) → (0 ≤ (m1 74 52) ∧ (m1 74 52) < 1300 ∧ (0 ≤ (m1 99 (m1 74 52)) ∧ (m1 99 (m1 74 52)) < 28 ∧ (hy_r 0 ((m5 100 (m1 74 52)) + 1) ∧ (((m5 82 (m1 99 (m1 74 52))) ≤ ((m5 100 (m1 74 52)) + 1) → (((0 : Int) = 0 → (0 ≤ (m1 74 52) ∧ (m1 74 52) < 1300 ∧ (wq_271_176 (m1 74 52) r5 0 (hy_u m5 74 52 (m5 102 (m1 74 52))) Q))) ∧ ((0 : Int) ≠ 0 → (0 ≤ (m1 74 52) ∧ (m1 74 52) < 1300 ∧ (0 ≤ (m1 74 52) ∧ (m1 74 52) < 1300 ∧ (0 ≤ (m1 74 52) ∧ (m1 74 52) < 1300 ∧ (0 ≤ (m1 74 52) ∧ (m1 74 52) < 1300 ∧ (hy_r 0 ((m5 100 (m1 74 52)) + 1) ∧ (wq_252 (m1 99 (m1 74 52)) ((m5 100 (m1 74 52)) + 1) (m5 101 (m1 74 52)) (m5 102 (m1 74 52)) (m5 103 (m1 74 52)) m5 (fun r6 m6 => wq_271_176 (m1 74 52) r5 0 (hy_u m6 74 52 r6) Q)))))))))) ∧ (((m5 100 (m1 74 52)) + 1) < (m5 82 (m1 99 (m1 74 52))) → (wq_271_120 (m1 74 52) (m1 99 (m1 74 52)) r5 0 m5 Q))))))))) ∧ ((m1 99 (m1 74 52)) ≠ (-9) → (((m1 99 (m1 74 52)) = (-9) → (wq_271_120 (m1 74 52) (m1 99 (m1 74 52)) r5 1 m5 Q)) ∧ ((m1 99 (m1 74 52)) ≠ (-9) → (0 ≤ (m1 74 52) ∧ (m1 74 52) < 1300 ∧ (0 ≤ (m1 99 (m1 74 52)) ∧ (m1 99 (m1 74 52)) < 28 ∧ (hy_r 0 ((m5 100 (m1 74 52)) + 1) ∧ (((m5 82 (m1 99 (m1 74 52))) ≤ ((m5 100 (m1 74 52)) + 1) → (((0 : Int) = 0 → (0 ≤ (m1 74 52) ∧ (m1 74 52) < 1300 ∧ (wq_271_176 (m1 74 52) r5 1 (hy_u m5 74 52 (m5 102 (m1 74 52))) Q))) ∧ ((0 : Int) ≠ 0 → (0 ≤ (m1 74 52) ∧ (m1 74 52) < 1300 ∧ (0 ≤ (m1 74 52) ∧ (m1 74 52) < 1300 ∧ (0 ≤ (m1 74 52) ∧ (m1 74 52) < 1300 ∧ (0 ≤ (m1 74 52) ∧ (m1 74 52) < 1300 ∧ (hy_r 0 ((m5 100 (m1 74 52)) + 1) ∧ (wq_252 (m1 99 (m1 74 52)) ((m5 100 (m1 74 52)) + 1) (m5 101 (m1 74 52)) (m5 102 (m1 74 52)) (m5 103 (m1 74 52)) m5 (fun r7 m7 => wq_271_176 (m1 74 52) r5 1 (hy_u m7 74 52 r7) Q)))))))))) ∧ (((m5 100 (m1 74 52)) + 1) < (m5 82 (m1 99 (m1 74 52))) → (wq_271_120 (m1 74 52) (m1 99 (m1 74 52)) r5 1 m5 Q))))))))))))))) ∧ ((m1 74 37) < r1 → (((m1 74 59) ≤ (m1 74 38) → (0 ≤ (m1 74 52) ∧ (m1 74 52) < 1300 ∧ (wq_269 (m1 74 52) (hy_u (hy_u m1 74 37 r1) 74 38 (m1 74 38)) (fun r8 m8 => ((m1 99 (m1 74 52)) = (-9) → (((m1 99 (m1 74 52)) = (-9) → (wq_271_120 (m1 74 52) (m1 99 (m1 74 52)) r8 0 m8 Q)) ∧ ((m1 99 (m1 74 52)) ≠ (-9) → (0 ≤ (m1 74 52) ∧ (m1 74 52) < 1300 ∧ (0 ≤ (m1 99 (m1 74 52)) ∧ (m1 99 (m1 74 52)) < 28 ∧ (hy_r 0 ((m8 100 (m1 74 52)) + 1) ∧ (((m8 82 (m1 99 (m1 74 52))) ≤ ((m8 100 (m1 74 52)) + 1) → (((0 : Int) = 0 → (0 ≤ (m1 74 52) ∧ (m1 74 52) < 1300 ∧ (wq_271_176 (m1 74 52) r8 0 (hy_u m8 74 52 (m8 102 (m1 74 52))) Q))) ∧ ((0 : Int) ≠ 0 → (0 ≤ (m1 74 52) ∧ (m1 74 52) < 1300 ∧ (0 ≤ (m1 74 52) ∧ (m1 74 52) < 1300 ∧ (0 ≤ (m1 74 52) ∧ (m1 74 52) < 1300 ∧ (0 ≤ (m1 74 52) ∧ (m1 74 52) < 1300 ∧ (hy_r 0 ((m8 100 (m1 74 52)) + 1) ∧ (wq_252 (m1 99 (m1 74 52)) ((m8 100 (m1 74 52)) + 1) (m8 101 (m1 74 52)) (m8 102 (m1 74 52)) (m8 103 (m1 74 52)) m8 (fun r9 m9 => wq_271_176 (m1 74 52) r8 0 (hy_u m9 74 52 r9) Q)))))))))) ∧ (((m8 100 (m1 74 52)) + 1) < (m8 82 (m1 99 (m1 74 52))) → (wq_271_120 (m1 74 52) (m1 99 (m1 74 52)) r8 0 m8 Q))))))))) ∧ ((m1 99 (m1 74 52)) ≠ (-9) → (((m1 99 (m1 74 52)) = (-9) → (wq_271_120 (m1 74 52) (m1 99 (m1 74 52)) r8 1 m8 Q)) ∧ ((m1 99 (m1 74 52)) ≠ (-9) → (0 ≤ (m1 74 52) ∧ (m1 74 52) < 1300 ∧ (0 ≤ (m1 99 (m1 74 52)) ∧ (m1 99 (m1 74 52)) < 28 ∧ (hy_r 0 ((m8 100 (m1 74 52)) + 1) ∧ (((m8 82 (m1 99 (m1 74 52))) ≤ ((m8 100 (m1 74 52)) + 1) → (((0 : Int) = 0 → (0 ≤ (m1 74 52) ∧ (m1 74 52) < 1300 ∧ (wq_271_176 (m1 74 52) r8 1 (hy_u m8 74 52 (m8 102 (m1 74 52))) Q))) ∧ ((0 : Int) ≠ 0 → (0 ≤ (m1 74 52) ∧ (m1 74 52) < 1300 ∧ (0 ≤ (m1 74 52) ∧ (m1 74 52) < 1300 ∧ (0 ≤ (m1 74 52) ∧ (m1 74 52) < 1300 ∧ (0 ≤ (m1 74 52) ∧ (m1 74 52) < 1300 ∧ (hy_r 0 ((m8 100 (m1 74 52)) + 1) ∧ (wq_252 (m1 99 (m1 74 52)) ((m8 100 (m1 74 52)) + 1) (m8 101 (m1 74 52)) (m8 102 (m1 74 52)) (m8 103 (m1 74 52)) m8 (fun r10 m10 => wq_271_176 (m1 74 52) r8 1 (hy_u m10 74 52 r10) Q)))))))))) ∧ (((m8 100 (m1 74 52)) + 1) < (m8 82 (m1 99 (m1 74 52))) → (wq_271_120 (m1 74 52) (m1 99 (m1 74 52)) r8 1 m8 Q))))))))))))) ∧ ((m1 74 38) < (m1 74 59) → (0 ≤ (m1 74 52) ∧ (m1 74 52) < 1300 ∧ (wq_269 (m1 74 52) (hy_u (hy_u m1 74 37 r1) 74 38 (m1 74 59)) (fun r11 m11 => ((m1 99 (m1 74 52)) = (-9) → (((m1 99 (m1 74 52)) = (-9) → (wq_271_120 (m1 74 52) (m1 99 (m1 74 52)) r11 0 m11 Q)) ∧ ((m1 99 (m1 74 52)) ≠ (-9) → (0 ≤ (m1 74 52) ∧ (m1 74 52) < 1300 ∧ (0 ≤ (m1 99 (m1 74 52)) ∧ (m1 99 (m1 74 52)) < 28 ∧ (hy_r 0 ((m11 100 (m1 74 52)) + 1) ∧ (((m11 82 (m1 99 (m1 74 52))) ≤ ((m11 100 (m1 74 52)) + 1) → (((0 : Int) = 0 → (0 ≤ (m1 74 52) ∧ (m1 74 52) < 1300 ∧ (wq_271_176 (m1 74 52) r11 0 (hy_u m11 74 52 (m11 102 (m1 74 52))) Q))) ∧ ((0 : Int) ≠ 0 → (0 ≤ (m1 74 52) ∧ (m1 74 52) < 1300 ∧ (0 ≤ (m1 74 52) ∧ (m1 74 52) < 1300 ∧ (0 ≤ (m1 74 52) ∧ (m1 74 52) < 1300 ∧ (0 ≤ (m1 74 52) ∧ (m1 74 52) < 1300 ∧ (hy_r 0 ((m11 100 (m1 74 52)) + 1) ∧ (wq_252 (m1 99 (m1 74 52)) ((m11 100 (m1 74 52)) + 1) (m11 101 (m1 74 52)) (m11 102 (m1 74 52)) (m11 103 (m1 74 52)) m11 (fun r12 m12 => wq_271_176 (m1 74 52) r11 0 (hy_u m12 74 52 r12) Q)))))))))) ∧ (((m11 100 (m1 74 52)) + 1) < (m11 82 (m1 99 (m1 74 52))) → (wq_271_120 (m1 74 52) (m1 99 (m1 74 52)) r11 0 m11 Q))))))))) ∧ ((m1 99 (m1 74 52)) ≠ (-9) → (((m1 99 (m1 74 52)) = (-9) → (wq_271_120 (m1 74 52) (m1 99 (m1 74 52)) r11 1 m11 Q)) ∧ ((m1 99 (m1 74 52)) ≠ (-9) → (0 ≤ (m1 74 52) ∧ (m1 74 52) < 1300 ∧ (0 ≤ (m1 99 (m1 74 52)) ∧ (m1 99 (m1 74 52)) < 28 ∧ (hy_r 0 ((m11 100 (m1 74 52)) + 1) ∧ (((m11 82 (m1 99 (m1 74 52))) ≤ ((m11 100 (m1 74 52)) + 1) → (((0 : Int) = 0 → (0 ≤ (m1 74 52) ∧ (m1 74 52) < 1300 ∧ (wq_271_176 (m1 74 52) r11 1 (hy_u m11 74 52 (m11 102 (m1 74 52))) Q))) ∧ ((0 : Int) ≠ 0 → (0 ≤ (m1 74 52) ∧ (m1 74 52) < 1300 ∧ (0 ≤ (m1 74 52) ∧ (m1 74 52) < 1300 ∧ (0 ≤ (m1 74 52) ∧ (m1 74 52) < 1300 ∧ (0 ≤ (m1 74 52) ∧ (m1 74 52) < 1300 ∧ (hy_r 0 ((m11 100 (m1 74 52)) + 1) ∧ (wq_252 (m1 99 (m1 74 52)) ((m11 100 (m1 74 52)) + 1) (m11 101 (m1 74 52)) (m11 102 (m1 74 52)) (m11 103 (m1 74 52)) m11 (fun r13 m13 => wq_271_176 (m1 74 52) r11 1 (hy_u m13 74 52 r13) Q)))))))))) ∧ (((m11 100 (m1 74 52)) + 1) < (m11 82 (m1 99 (m1 74 52))) → (wq_271_120 (m1 74 52) (m1 99 (m1 74 52)) r11 1 m11 Q)))))))))))))))))
theorem wc_270_r74_1t (x1 : Int) (s : sS) (R : Int → hy_m → Prop) (h : wq_270 x1 s.2.2.2 R) : we_270 [(5, true, 74), (1, true, x1)] s R := h
theorem wc_267_r74_1t_2t_0t (x1 : Int) (x2 : Int) (x3 : Int) (s : sS) (R : Int → hy_m → Prop) (h : wq_267 x1 x2 x3 s.2.2.2 R) : we_267 [(5, true, 74), (1, true, x1), (2, true, x2), (0, true, x3)] s R := h
theorem wc_252_r74_0t_0f_0t_0t_0t (x1 : Int) (x2 : Int) (x3 : Int) (x4 : Int) (x5 : Int) (s : sS) (R : Int → hy_m → Prop) (h : hy_r 0 x2 ∧ wq_252 x1 x2 x3 x4 x5 s.2.2.2 R) : we_252 [(5, true, 74), (0, true, x1), (0, false, x2), (0, true, x3), (0, true, x4), (0, true, x5)] s R := h
theorem wc_268_r74_0t (x1 : Int) (s : sS) (R : Int → hy_m → Prop) (h : wq_268 x1 s.2.2.2 R) : we_268 [(5, true, 74), (0, true, x1)] s R := h
theorem wc_269_r74_0t (x1 : Int) (s : sS) (R : Int → hy_m → Prop) (h : wq_269 x1 s.2.2.2 R) : we_269 [(5, true, 74), (0, true, x1)] s R := h
def cs_271 : List (Nat × Nat × sFS) := [(236, 1, .inl we_236), (237, 1, .inl we_237), (252, 0, .inl we_252), (261, 2, .inl we_261), (262, 2, .inl we_262), (267, 2, .inl we_267), (268, 0, .inl we_268), (269, 1, .inl we_269), (270, 2, .inl we_270)]
theorem cs_271_ok : kCs dM 9 cs_271 := (kCs_c (Or.inr (Or.inl rfl)) (we_236_ok.deep (by decide)) (kCs_c (Or.inr (Or.inl rfl)) (we_237_ok.deep (by decide)) (kCs_c (Or.inl rfl) (we_252_ok.deep (by decide)) (kCs_c (Or.inr (Or.inr (Or.inl rfl))) (we_261_ok.deep (by decide)) (kCs_c (Or.inr (Or.inr (Or.inl rfl))) (we_262_ok.deep (by decide)) (kCs_c (Or.inr (Or.inr (Or.inl rfl))) (we_267_ok.deep (by decide)) (kCs_c (Or.inl rfl) (we_268_ok.deep (by decide)) (kCs_c (Or.inr (Or.inl rfl)) (we_269_ok.deep (by decide)) (kCs_c (Or.inr (Or.inr (Or.inl rfl))) (we_270_ok.deep (by decide)) kCs_n)))))))))
def lb_271_176 (s : sS) (Q : sQ) (P176 : Int → Int → hy_m → Prop) (R : Int → hy_m → Prop) (x2 : Int) (x4 : Int) (x6 : Int) : Nat → Option (sL → sS → Prop) := sLb [(176, fun lv t => sG [(0, 5, 74), (2, 0, 0), (4, 1, 0), (6, 2, 0)] lv (ap3 (fun w2 w4 w6 => ∃ m', t = sM s m' ∧ w2 = x2 ∧ P176 w4 w6 m')))]
set_option maxRecDepth 30000 in
set_option maxHeartbeats 1000000 in
theorem wj_271_176 (Q : sQ) (R : Int → hy_m → Prop) (s : sS) (P176 : Int → Int → hy_m → Prop) (x2 : Int) (x4 : Int) (x6 : Int) (m : hy_m) (hP176 : ∀ (z4 z6 : Int) (m : hy_m), P176 z4 z6 m → sRg [(0, 5, 74), (2, 0, 0), (4, 1, 0), (6, 2, 0)] [x2, z4, z6] → kX dM 9 im_m271 2 176 (sCan [(0, 5, 74), (2, 0, 0), (4, 1, 0), (6, 2, 0)] [x2, z4, z6]) [] (sM s m) Q) (hQ : ∀ x m', R x m' → Q x (sM s m')) (hr : sRg [(0, 5, 74), (2, 0, 0), (4, 1, 0), (6, 2, 0)] [x2, x4, x6]) (h : wf_271_176 x2 R P176 x4 x6 m) : kX dM 9 im_m271 2 176 (sCan [(0, 5, 74), (2, 0, 0), (4, 1, 0), (6, 2, 0)] [x2, x4, x6]) [] (sM s m) Q := by
  unfold wf_271_176 at h
  refine wz2_ok (cs := cs_271) (wr := []) (lb := lb_271_176 s Q P176 R x2 x4 x6) cs_271_ok (kLb_c (kLab (Bd := fun xs t => ap3 (fun w2 w4 w6 => ∃ m', t = sM s m' ∧ w2 = x2 ∧ P176 w4 w6 m') xs) rfl (fun xs t r1 r2 hb => by obtain ⟨w2, w4, w6, rfl, hb⟩ := ap3_ok hb; obtain ⟨m', rfl, rfl, hx⟩ := hb; exact hP176 _ _ m' hx r1)) kLb_n) (okL_can rfl hr) (fun Y hY hl => ?_)
  have l176 := hl 176 _ rfl
  refine hY _ _ _ _ (hY _ _ _ _ (?_ : Y 179 [(0, 5, true, 74), (2, 0, true, x2), (4, 1, true, x4), (6, 2, true, x6)] [(1, true, x4), (5, true, 74)] (sM s m)))
  refine hY _ _ _ _ ?_
  refine Exists.intro _ (And.intro (wc_270_r74_1t x4 _ _ h) (fun r1 m1 h => ?_))
  show Y 182 [(0, 5, true, 74), (2, 0, true, x2), (4, 1, true, x4), (6, 2, true, x6)] [(2, true, r1)] (sM s m1)
  refine hY _ _ _ _ ?_
  refine And.intro (fun hc => ?_) (fun hc => ?_)
  · have h := h.1 hc
    refine hY _ _ _ _ (hY _ _ _ _ (hY _ _ _ _ (?_ : Y 224 [(0, 5, true, 74), (2, 0, true, x2), (4, 1, true, x4), (6, 2, true, x6)] [(2, true, x6), (1, true, x4), (5, true, 74)] (sM s m1))))
    refine hY _ _ _ _ (hY _ _ _ _ (hY _ _ _ _ (?_ : Y 229 [(0, 5, true, 74), (2, 0, true, x2), (4, 1, true, x4), (6, 2, true, x6)] [(0, true, x2), (5, true, 103), (2, true, x6), (1, true, x4), (5, true, 74)] (sM s m1))))
    refine hY _ _ _ _ ?_
    refine (And.intro h.1 (And.intro h.2.1 ?_))
    show Y 230 [(0, 5, true, 74), (2, 0, true, x2), (4, 1, true, x4), (6, 2, true, x6)] [(0, true, m1 103 x2), (2, true, x6), (1, true, x4), (5, true, 74)] (sM s m1)
    refine hY _ _ _ _ ?_
    refine Exists.intro _ (And.intro (wc_267_r74_1t_2t_0t x4 x6 (m1 103 x2) _ _ h.2.2) (fun r2 m2 h => ?_))
    show Y 233 [(0, 5, true, 74), (2, 0, true, x2), (4, 1, true, x4), (6, 2, true, x6)] [(2, true, r2)] (sM s m2)
    refine hY _ _ _ _ ?_
    exact hQ r2 m2 h
  · have h := h.2 hc
    refine hY _ _ _ _ (hY _ _ _ _ (hY _ _ _ _ (?_ : Y 189 [(0, 5, true, 74), (2, 0, true, x2), (4, 1, true, x4), (6, 2, true, x6)] [(1, true, x4), (5, true, 74), (5, true, 74)] (sM s m1))))
    refine hY _ _ _ _ (?_ : Y 190 [(0, 5, true, 74), (2, 0, true, x2), (4, 1, true, x4), (6, 2, true, x6)] [(2, true, 0), (1, true, x4), (5, true, 74), (5, true, 74)] (sM s m1))
    refine hY _ _ _ _ ?_
    refine Exists.intro _ (And.intro (wc_236_r74_1t_2t x4 0 _ _ h) (fun r3 m3 h => ?_))
    show Y 193 [(0, 5, true, 74), (2, 0, true, x2), (4, 1, true, x4), (6, 2, true, x6)] [(1, true, r3), (5, true, 74)] (sM s m3)
    refine hY _ _ _ _ ?_
    refine Exists.intro _ (And.intro (wc_237_r74_1t r3 _ _ h) (fun r4 m4 h => ?_))
    refine hY _ _ _ _ (hY _ _ _ _ (hY _ _ _ _ (?_ : Y 201 [(4, 1, true, r4), (0, 5, true, 74), (2, 0, true, x2), (6, 2, true, x6)] [(1, true, r4), (5, true, 74)] (sM s m4))))
    refine hY _ _ _ _ ?_
    refine Exists.intro _ (And.intro (wc_261_r74_1t r4 _ _ h) (fun r5 m5 h => ?_))
    show Y 204 [(4, 1, true, r4), (0, 5, true, 74), (2, 0, true, x2), (6, 2, true, x6)] [(2, true, r5)] (sM s m5)
    refine hY _ _ _ _ ?_
    refine And.intro (fun hc => ?_) (fun hc => ?_)
    · have h := h.1 hc
      refine hY _ _ _ _ (hY _ _ _ _ (hY _ _ _ _ (?_ : Y 176 [(6, 2, true, 0), (4, 1, true, r4), (0, 5, true, 74), (2, 0, true, x2)] [] (sM s m5))))
      refine l176 _ _ ?_
      exact (Exists.intro m5 (And.intro rfl (And.intro rfl h)))
    · have h := h.2 hc
      refine hY _ _ _ _ (hY _ _ _ _ (?_ : Y 209 [(4, 1, true, r4), (0, 5, true, 74), (2, 0, true, x2), (6, 2, true, x6)] [(2, true, 1), (5, true, 74)] (sM s m5)))
      refine hY _ _ _ _ ?_
      refine Exists.intro _ (And.intro (wc_262_r74_2t 1 _ _ h) (fun r6 m6 h => ?_))
      show Y 212 [(4, 1, true, r4), (0, 5, true, 74), (2, 0, true, x2), (6, 2, true, x6)] [(2, true, r6)] (sM s m6)
      refine hY _ _ _ _ ?_
      exact hQ r6 m6 h
theorem wk_271_176 (Q : sQ) (R : Int → hy_m → Prop) (s : sS) (x2 : Int) (x4 : Int) (x6 : Int) (hQ : ∀ x m', R x m' → Q x (sM s m')) (hr : sRg [(0, 5, 74), (2, 0, 0), (4, 1, 0), (6, 2, 0)] [x2, x4, x6]) (h : wq_271_176 x2 x4 x6 s.2.2.2 R) : kX dM 9 im_m271 2 176 (sCan [(0, 5, 74), (2, 0, 0), (4, 1, 0), (6, 2, 0)] [x2, x4, x6]) [] s Q :=
  h (fun x4 x6 m => sRg [(0, 5, 74), (2, 0, 0), (4, 1, 0), (6, 2, 0)] [x2, x4, x6] → kX dM 9 im_m271 2 176 (sCan [(0, 5, 74), (2, 0, 0), (4, 1, 0), (6, 2, 0)] [x2, x4, x6]) [] (sM s m) Q) (fun x4 x6 m h hr => wj_271_176 Q R s (fun x4 x6 m => sRg [(0, 5, 74), (2, 0, 0), (4, 1, 0), (6, 2, 0)] [x2, x4, x6] → kX dM 9 im_m271 2 176 (sCan [(0, 5, 74), (2, 0, 0), (4, 1, 0), (6, 2, 0)] [x2, x4, x6]) [] (sM s m) Q) x2 x4 x6 m  (fun _ _ _ hp hr => hp hr) hQ hr h) hr
def lb_271_120 (s : sS) (Q : sQ) (R : Int → hy_m → Prop) (x2 : Int) (x3 : Int) (x4 : Int) (x6 : Int) : Nat → Option (sL → sS → Prop) := sLb [(176, fun lv t => sG [(0, 5, 74), (2, 0, 0), (4, 1, 0), (6, 2, 0)] lv (ap3 (fun w2 w4 w6 => ∃ m', t = sM s m' ∧ wq_271_176 w2 w4 w6 m' R)))]
set_option maxRecDepth 30000 in
set_option maxHeartbeats 1000000 in
theorem wk_271_120 (Q : sQ) (R : Int → hy_m → Prop) (s : sS) (x2 : Int) (x3 : Int) (x4 : Int) (x6 : Int) (hQ : ∀ x m', R x m' → Q x (sM s m')) (hr : sRg [(0, 5, 74), (2, 0, 0), (3, 0, 0), (4, 1, 0), (6, 2, 0)] [x2, x3, x4, x6]) (h : wq_271_120 x2 x3 x4 x6 s.2.2.2 R) : kX dM 9 im_m271 2 120 (sCan [(0, 5, 74), (2, 0, 0), (3, 0, 0), (4, 1, 0), (6, 2, 0)] [x2, x3, x4, x6]) [] s Q := by
  unfold wq_271_120 at h
  refine wz2_ok (cs := cs_271) (wr := []) (lb := lb_271_120 s Q R x2 x3 x4 x6) cs_271_ok (kLb_c (kLab (Bd := fun xs t => ap3 (fun w2 w4 w6 => ∃ m', t = sM s m' ∧ wq_271_176 w2 w4 w6 m' R) xs) rfl (fun xs t r1 r2 hb => by obtain ⟨w2, w4, w6, rfl, hb⟩ := ap3_ok hb; obtain ⟨m', rfl, hx⟩ := hb; exact wk_271_176 Q R (sM s m') _ _ _ (fun x m'' hy => hQ x m'' hy) r1 hx)) kLb_n) (okL_can rfl hr) (fun Y hY hl => ?_)
  have l176 := hl 176 _ rfl
  refine hY _ _ _ _ (hY _ _ _ _ (hY _ _ _ _ (?_ : Y 127 [(7, 2, true, 1), (0, 5, true, 74), (2, 0, true, x2), (3, 0, true, x3), (4, 1, true, x4), (6, 2, true, x6)] [] s)))
  refine hY _ _ _ _ (hY _ _ _ _ (?_ : Y 130 [(7, 2, true, 1), (0, 5, true, 74), (2, 0, true, x2), (3, 0, true, x3), (4, 1, true, x4), (6, 2, true, x6)] [(2, true, 1), (5, true, 74)] s))
  refine hY _ _ _ _ ?_
  refine And.intro (fun hc => ?_) (fun hc => ?_)
  · have h := h.1 hc
    refine hY _ _ _ _ (hY _ _ _ _ (hY _ _ _ _ (?_ : Y 172 [(7, 2, true, 1), (0, 5, true, 74), (2, 0, true, x2), (3, 0, true, x3), (4, 1, true, x4), (6, 2, true, x6)] [(0, true, x2), (5, true, 102), (5, true, 74)] s)))
    refine hY _ _ _ _ ?_
    refine (And.intro h.1 (And.intro h.2.1 ?_))
    show Y 173 [(7, 2, true, 1), (0, 5, true, 74), (2, 0, true, x2), (3, 0, true, x3), (4, 1, true, x4), (6, 2, true, x6)] [(0, true, s.2.2.2 102 x2), (5, true, 74)] s
    refine hY _ _ _ _ ?_
    show Y 176 [(7, 2, true, 1), (0, 5, true, 74), (2, 0, true, x2), (3, 0, true, x3), (4, 1, true, x4), (6, 2, true, x6)] [] (sM s (hy_u s.2.2.2 74 52 (s.2.2.2 102 x2)))
    refine l176 _ _ ?_
    exact (Exists.intro (hy_u s.2.2.2 74 52 (s.2.2.2 102 x2)) (And.intro rfl h.2.2))
  · have h := h.2 hc
    refine hY _ _ _ _ (hY _ _ _ _ (hY _ _ _ _ (?_ : Y 136 [(7, 2, true, 1), (0, 5, true, 74), (2, 0, true, x2), (3, 0, true, x3), (4, 1, true, x4), (6, 2, true, x6)] [(5, true, 74), (0, true, x3), (5, true, 74), (5, true, 74)] s)))
    refine hY _ _ _ _ (hY _ _ _ _ (?_ : Y 140 [(7, 2, true, 1), (0, 5, true, 74), (2, 0, true, x2), (3, 0, true, x3), (4, 1, true, x4), (6, 2, true, x6)] [(0, true, x2), (5, true, 100), (0, true, x3), (5, true, 74), (5, true, 74)] s))
    refine hY _ _ _ _ ?_
    refine (And.intro h.1 (And.intro h.2.1 ?_))
    refine hY _ _ _ _ (hY _ _ _ _ (hY _ _ _ _ (?_ : Y 144 [(7, 2, true, 1), (0, 5, true, 74), (2, 0, true, x2), (3, 0, true, x3), (4, 1, true, x4), (6, 2, true, x6)] [(5, true, 74), (0, false, (s.2.2.2 100 x2) + 1), (0, true, x3), (5, true, 74), (5, true, 74)] s)))
    refine hY _ _ _ _ (hY _ _ _ _ (?_ : Y 148 [(7, 2, true, 1), (0, 5, true, 74), (2, 0, true, x2), (3, 0, true, x3), (4, 1, true, x4), (6, 2, true, x6)] [(0, true, x2), (5, true, 101), (0, false, (s.2.2.2 100 x2) + 1), (0, true, x3), (5, true, 74), (5, true, 74)] s))
    refine hY _ _ _ _ ?_
    refine (And.intro h.2.2.1 (And.intro h.2.2.2.1 ?_))
    refine hY _ _ _ _ (hY _ _ _ _ (hY _ _ _ _ (?_ : Y 154 [(7, 2, true, 1), (0, 5, true, 74), (2, 0, true, x2), (3, 0, true, x3), (4, 1, true, x4), (6, 2, true, x6)] [(0, true, x2), (5, true, 102), (0, true, s.2.2.2 101 x2), (0, false, (s.2.2.2 100 x2) + 1), (0, true, x3), (5, true, 74), (5, true, 74)] s)))
    refine hY _ _ _ _ ?_
    refine (And.intro h.2.2.2.2.1 (And.intro h.2.2.2.2.2.1 ?_))
    refine hY _ _ _ _ (hY _ _ _ _ (hY _ _ _ _ (?_ : Y 160 [(7, 2, true, 1), (0, 5, true, 74), (2, 0, true, x2), (3, 0, true, x3), (4, 1, true, x4), (6, 2, true, x6)] [(0, true, x2), (5, true, 103), (0, true, s.2.2.2 102 x2), (0, true, s.2.2.2 101 x2), (0, false, (s.2.2.2 100 x2) + 1), (0, true, x3), (5, true, 74), (5, true, 74)] s)))
    refine hY _ _ _ _ ?_
    refine (And.intro h.2.2.2.2.2.2.1 (And.intro h.2.2.2.2.2.2.2.1 ?_))
    show Y 161 [(7, 2, true, 1), (0, 5, true, 74), (2, 0, true, x2), (3, 0, true, x3), (4, 1, true, x4), (6, 2, true, x6)] [(0, true, s.2.2.2 103 x2), (0, true, s.2.2.2 102 x2), (0, true, s.2.2.2 101 x2), (0, false, (s.2.2.2 100 x2) + 1), (0, true, x3), (5, true, 74), (5, true, 74)] s
    refine hY _ _ _ _ ?_
    refine Exists.intro _ (And.intro (wc_252_r74_0t_0f_0t_0t_0t x3 ((s.2.2.2 100 x2) + 1) (s.2.2.2 101 x2) (s.2.2.2 102 x2) (s.2.2.2 103 x2) _ _ h.2.2.2.2.2.2.2.2) (fun r1 m1 h => ?_))
    refine hY _ _ _ _ (?_ : Y 173 [(7, 2, true, 1), (0, 5, true, 74), (2, 0, true, x2), (3, 0, true, x3), (4, 1, true, x4), (6, 2, true, x6)] [(0, true, r1), (5, true, 74)] (sM s m1))
    refine hY _ _ _ _ ?_
    show Y 176 [(7, 2, true, 1), (0, 5, true, 74), (2, 0, true, x2), (3, 0, true, x3), (4, 1, true, x4), (6, 2, true, x6)] [] (sM s (hy_u m1 74 52 r1))
    refine l176 _ _ ?_
    exact (Exists.intro (hy_u m1 74 52 r1) (And.intro rfl h))
def lb_271_0 (s : sS) (Q : sQ) (R : Int → hy_m → Prop) : Nat → Option (sL → sS → Prop) := sLb [(120, fun lv t => sG [(0, 5, 74), (2, 0, 0), (3, 0, 0), (4, 1, 0), (6, 2, 0)] lv (ap4 (fun w2 w3 w4 w6 => ∃ m', t = sM s m' ∧ wq_271_120 w2 w3 w4 w6 m' R))), (176, fun lv t => sG [(0, 5, 74), (2, 0, 0), (4, 1, 0), (6, 2, 0)] lv (ap3 (fun w2 w4 w6 => ∃ m', t = sM s m' ∧ wq_271_176 w2 w4 w6 m' R)))]
set_option maxRecDepth 30000 in
set_option maxHeartbeats 1000000 in
theorem wk_271_0 (Q : sQ) (R : Int → hy_m → Prop) (s : sS) (hQ : ∀ x m', R x m' → Q x (sM s m')) (hr : sRg [(0, 5, 74)] []) (h : wq_271 s.2.2.2 R) : kX dM 9 im_m271 2 0 (sCan [(0, 5, 74)] []) [] s Q := by
  unfold wq_271 at h
  refine wz2_ok (cs := cs_271) (wr := []) (lb := lb_271_0 s Q R) cs_271_ok (kLb_c (kLab (Bd := fun xs t => ap4 (fun w2 w3 w4 w6 => ∃ m', t = sM s m' ∧ wq_271_120 w2 w3 w4 w6 m' R) xs) rfl (fun xs t r1 r2 hb => by obtain ⟨w2, w3, w4, w6, rfl, hb⟩ := ap4_ok hb; obtain ⟨m', rfl, hx⟩ := hb; exact wk_271_120 Q R (sM s m') _ _ _ _ (fun x m'' hy => hQ x m'' hy) r1 hx)) (kLb_c (kLab (Bd := fun xs t => ap3 (fun w2 w4 w6 => ∃ m', t = sM s m' ∧ wq_271_176 w2 w4 w6 m' R) xs) rfl (fun xs t r1 r2 hb => by obtain ⟨w2, w4, w6, rfl, hb⟩ := ap3_ok hb; obtain ⟨m', rfl, hx⟩ := hb; exact wk_271_176 Q R (sM s m') _ _ _ (fun x m'' hy => hQ x m'' hy) r1 hx)) kLb_n)) (okL_can rfl hr) (fun Y hY hl => ?_)
  have l120 := hl 120 _ rfl
  have l176 := hl 176 _ rfl
  refine hY _ _ _ _ (hY _ _ _ _ (hY _ _ _ _ (?_ : Y 5 [(0, 5, true, 74)] [(0, true, s.2.2.2 74 34), (5, true, 74)] s)))
  refine hY _ _ _ _ (hY _ _ _ _ (?_ : Y 7 [(0, 5, true, 74)] [(0, false, (s.2.2.2 74 34) + 1), (5, true, 74)] s))
  refine hY _ _ _ _ ?_
  refine And.intro h.1 ?_
  refine hY _ _ _ _ (hY _ _ _ _ (hY _ _ _ _ (?_ : Y 15 [(0, 5, true, 74)] [(0, true, s.2.2.2 74 52), (5, true, 74)] (sM s (hy_u s.2.2.2 74 34 ((s.2.2.2 74 34) + 1))))))
  refine hY _ _ _ _ ?_
  refine Exists.intro _ (And.intro (wc_268_r74_0t (s.2.2.2 74 52) _ _ h.2) (fun r1 m1 h => ?_))
  refine hY _ _ _ _ (hY _ _ _ _ (hY _ _ _ _ (?_ : Y 21 [(1, 0, true, r1), (0, 5, true, 74)] [(0, true, r1), (5, true, 74)] (sM s m1))))
  refine hY _ _ _ _ (hY _ _ _ _ (?_ : Y 25 [(1, 0, true, r1), (0, 5, true, 74)] [(0, true, m1 74 37), (0, true, r1), (5, true, 74)] (sM s m1)))
  refine hY _ _ _ _ ?_
  refine And.intro (fun hc => ?_) (fun hc => ?_)
  · have h := h.1 hc
    refine hY _ _ _ _ (hY _ _ _ _ (?_ : Y 36 [(1, 0, true, r1), (0, 5, true, 74)] [(0, true, m1 74 37), (5, true, 74)] (sM s m1)))
    refine hY _ _ _ _ ?_
    refine hY _ _ _ _ (hY _ _ _ _ (hY _ _ _ _ (?_ : Y 44 [(1, 0, true, r1), (0, 5, true, 74)] [(0, true, m1 74 59), (5, true, 74)] (sM s (hy_u m1 74 37 (m1 74 37))))))
    refine hY _ _ _ _ (hY _ _ _ _ (?_ : Y 48 [(1, 0, true, r1), (0, 5, true, 74)] [(0, true, m1 74 38), (0, true, m1 74 59), (5, true, 74)] (sM s (hy_u m1 74 37 (m1 74 37)))))
    refine hY _ _ _ _ ?_
    refine And.intro (fun hc => ?_) (fun hc => ?_)
    · have h := h.1 hc
      refine hY _ _ _ _ (hY _ _ _ _ (?_ : Y 62 [(1, 0, true, r1), (0, 5, true, 74)] [(0, true, m1 74 38), (5, true, 74)] (sM s (hy_u m1 74 37 (m1 74 37)))))
      refine hY _ _ _ _ ?_
      refine hY _ _ _ _ (hY _ _ _ _ (hY _ _ _ _ (?_ : Y 70 [(2, 0, true, m1 74 52), (1, 0, true, r1), (0, 5, true, 74)] [] (sM s (hy_u (hy_u m1 74 37 (m1 74 37)) 74 38 (m1 74 38))))))
      refine hY _ _ _ _ (hY _ _ _ _ (hY _ _ _ _ (?_ : Y 75 [(2, 0, true, m1 74 52), (1, 0, true, r1), (0, 5, true, 74)] [(0, true, m1 74 52), (5, true, 99)] (sM s (hy_u (hy_u m1 74 37 (m1 74 37)) 74 38 (m1 74 38))))))
      refine hY _ _ _ _ ?_
      refine (And.intro h.1 (And.intro h.2.1 ?_))
      refine hY _ _ _ _ (hY _ _ _ _ (hY _ _ _ _ (?_ : Y 79 [(3, 0, true, m1 99 (m1 74 52)), (2, 0, true, m1 74 52), (1, 0, true, r1), (0, 5, true, 74)] [(0, true, m1 74 52), (5, true, 74)] (sM s (hy_u (hy_u m1 74 37 (m1 74 37)) 74 38 (m1 74 38))))))
      refine hY _ _ _ _ ?_
      refine Exists.intro _ (And.intro (wc_269_r74_0t (m1 74 52) _ _ h.2.2) (fun r2 m2 h => ?_))
      refine hY _ _ _ _ (hY _ _ _ _ (hY _ _ _ _ (?_ : Y 87 [(4, 1, true, r2), (3, 0, true, m1 99 (m1 74 52)), (2, 0, true, m1 74 52), (1, 0, true, r1), (0, 5, true, 74)] [(0, true, (-9)), (0, true, m1 99 (m1 74 52))] (sM s m2))))
      refine hY _ _ _ _ ?_
      refine And.intro (fun hc => ?_) (fun hc => ?_)
      · have h := h.1 hc
        refine hY _ _ _ _ (hY _ _ _ _ (hY _ _ _ _ (?_ : Y 98 [(6, 2, true, 0), (4, 1, true, r2), (3, 0, true, m1 99 (m1 74 52)), (2, 0, true, m1 74 52), (1, 0, true, r1), (0, 5, true, 74)] [(0, true, m1 99 (m1 74 52))] (sM s m2))))
        refine hY _ _ _ _ (?_ : Y 100 [(6, 2, true, 0), (4, 1, true, r2), (3, 0, true, m1 99 (m1 74 52)), (2, 0, true, m1 74 52), (1, 0, true, r1), (0, 5, true, 74)] [(0, true, (-9)), (0, true, m1 99 (m1 74 52))] (sM s m2))
        refine hY _ _ _ _ ?_
        refine And.intro (fun hc => ?_) (fun hc => ?_)
        · have h := h.1 hc
          show Y 120 [(6, 2, true, 0), (4, 1, true, r2), (3, 0, true, m1 99 (m1 74 52)), (2, 0, true, m1 74 52), (1, 0, true, r1), (0, 5, true, 74)] [] (sM s m2)
          refine l120 _ _ ?_
          exact (Exists.intro m2 (And.intro rfl h))
        · have h := h.2 hc
          refine hY _ _ _ _ (hY _ _ _ _ (hY _ _ _ _ (?_ : Y 108 [(6, 2, true, 0), (4, 1, true, r2), (3, 0, true, m1 99 (m1 74 52)), (2, 0, true, m1 74 52), (1, 0, true, r1), (0, 5, true, 74)] [(0, true, m1 74 52), (5, true, 100)] (sM s m2))))
          refine hY _ _ _ _ ?_
          refine (And.intro h.1 (And.intro h.2.1 ?_))
          refine hY _ _ _ _ (hY _ _ _ _ (hY _ _ _ _ (?_ : Y 112 [(6, 2, true, 0), (4, 1, true, r2), (3, 0, true, m1 99 (m1 74 52)), (2, 0, true, m1 74 52), (1, 0, true, r1), (0, 5, true, 74)] [(5, true, 74), (0, false, (m2 100 (m1 74 52)) + 1)] (sM s m2))))
          refine hY _ _ _ _ (hY _ _ _ _ (?_ : Y 116 [(6, 2, true, 0), (4, 1, true, r2), (3, 0, true, m1 99 (m1 74 52)), (2, 0, true, m1 74 52), (1, 0, true, r1), (0, 5, true, 74)] [(0, true, m1 99 (m1 74 52)), (5, true, 82), (0, false, (m2 100 (m1 74 52)) + 1)] (sM s m2)))
          refine hY _ _ _ _ ?_
          refine (And.intro h.2.2.1 (And.intro h.2.2.2.1 ?_))
          show Y 117 [(6, 2, true, 0), (4, 1, true, r2), (3, 0, true, m1 99 (m1 74 52)), (2, 0, true, m1 74 52), (1, 0, true, r1), (0, 5, true, 74)] [(0, true, m2 82 (m1 99 (m1 74 52))), (0, false, (m2 100 (m1 74 52)) + 1)] (sM s m2)
          refine hY _ _ _ _ ?_
          refine And.intro h.2.2.2.2.1 ?_
          refine And.intro (fun hc => ?_) (fun hc => ?_)
          · have h := h.2.2.2.2.2.1 hc
            refine hY _ _ _ _ (hY _ _ _ _ (hY _ _ _ _ (?_ : Y 128 [(7, 2, true, 0), (6, 2, true, 0), (4, 1, true, r2), (3, 0, true, m1 99 (m1 74 52)), (2, 0, true, m1 74 52), (1, 0, true, r1), (0, 5, true, 74)] [(5, true, 74)] (sM s m2))))
            refine hY _ _ _ _ (?_ : Y 130 [(7, 2, true, 0), (6, 2, true, 0), (4, 1, true, r2), (3, 0, true, m1 99 (m1 74 52)), (2, 0, true, m1 74 52), (1, 0, true, r1), (0, 5, true, 74)] [(2, true, 0), (5, true, 74)] (sM s m2))
            refine hY _ _ _ _ ?_
            refine And.intro (fun hc => ?_) (fun hc => ?_)
            · have h := h.1 hc
              refine hY _ _ _ _ (hY _ _ _ _ (hY _ _ _ _ (?_ : Y 172 [(7, 2, true, 0), (6, 2, true, 0), (4, 1, true, r2), (3, 0, true, m1 99 (m1 74 52)), (2, 0, true, m1 74 52), (1, 0, true, r1), (0, 5, true, 74)] [(0, true, m1 74 52), (5, true, 102), (5, true, 74)] (sM s m2))))
              refine hY _ _ _ _ ?_
              refine (And.intro h.1 (And.intro h.2.1 ?_))
              show Y 173 [(7, 2, true, 0), (6, 2, true, 0), (4, 1, true, r2), (3, 0, true, m1 99 (m1 74 52)), (2, 0, true, m1 74 52), (1, 0, true, r1), (0, 5, true, 74)] [(0, true, m2 102 (m1 74 52)), (5, true, 74)] (sM s m2)
              refine hY _ _ _ _ ?_
              show Y 176 [(7, 2, true, 0), (6, 2, true, 0), (4, 1, true, r2), (3, 0, true, m1 99 (m1 74 52)), (2, 0, true, m1 74 52), (1, 0, true, r1), (0, 5, true, 74)] [] (sM s (hy_u m2 74 52 (m2 102 (m1 74 52))))
              refine l176 _ _ ?_
              exact (Exists.intro (hy_u m2 74 52 (m2 102 (m1 74 52))) (And.intro rfl h.2.2))
            · have h := h.2 hc
              refine hY _ _ _ _ (hY _ _ _ _ (hY _ _ _ _ (?_ : Y 136 [(7, 2, true, 0), (6, 2, true, 0), (4, 1, true, r2), (3, 0, true, m1 99 (m1 74 52)), (2, 0, true, m1 74 52), (1, 0, true, r1), (0, 5, true, 74)] [(5, true, 74), (0, true, m1 99 (m1 74 52)), (5, true, 74), (5, true, 74)] (sM s m2))))
              refine hY _ _ _ _ (hY _ _ _ _ (?_ : Y 140 [(7, 2, true, 0), (6, 2, true, 0), (4, 1, true, r2), (3, 0, true, m1 99 (m1 74 52)), (2, 0, true, m1 74 52), (1, 0, true, r1), (0, 5, true, 74)] [(0, true, m1 74 52), (5, true, 100), (0, true, m1 99 (m1 74 52)), (5, true, 74), (5, true, 74)] (sM s m2)))
              refine hY _ _ _ _ ?_
              refine (And.intro h.1 (And.intro h.2.1 ?_))
              refine hY _ _ _ _ (hY _ _ _ _ (hY _ _ _ _ (?_ : Y 144 [(7, 2, true, 0), (6, 2, true, 0), (4, 1, true, r2), (3, 0, true, m1 99 (m1 74 52)), (2, 0, true, m1 74 52), (1, 0, true, r1), (0, 5, true, 74)] [(5, true, 74), (0, false, (m2 100 (m1 74 52)) + 1), (0, true, m1 99 (m1 74 52)), (5, true, 74), (5, true, 74)] (sM s m2))))
              refine hY _ _ _ _ (hY _ _ _ _ (?_ : Y 148 [(7, 2, true, 0), (6, 2, true, 0), (4, 1, true, r2), (3, 0, true, m1 99 (m1 74 52)), (2, 0, true, m1 74 52), (1, 0, true, r1), (0, 5, true, 74)] [(0, true, m1 74 52), (5, true, 101), (0, false, (m2 100 (m1 74 52)) + 1), (0, true, m1 99 (m1 74 52)), (5, true, 74), (5, true, 74)] (sM s m2)))
              refine hY _ _ _ _ ?_
              refine (And.intro h.2.2.1 (And.intro h.2.2.2.1 ?_))
              refine hY _ _ _ _ (hY _ _ _ _ (hY _ _ _ _ (?_ : Y 154 [(7, 2, true, 0), (6, 2, true, 0), (4, 1, true, r2), (3, 0, true, m1 99 (m1 74 52)), (2, 0, true, m1 74 52), (1, 0, true, r1), (0, 5, true, 74)] [(0, true, m1 74 52), (5, true, 102), (0, true, m2 101 (m1 74 52)), (0, false, (m2 100 (m1 74 52)) + 1), (0, true, m1 99 (m1 74 52)), (5, true, 74), (5, true, 74)] (sM s m2))))
              refine hY _ _ _ _ ?_
              refine (And.intro h.2.2.2.2.1 (And.intro h.2.2.2.2.2.1 ?_))
              refine hY _ _ _ _ (hY _ _ _ _ (hY _ _ _ _ (?_ : Y 160 [(7, 2, true, 0), (6, 2, true, 0), (4, 1, true, r2), (3, 0, true, m1 99 (m1 74 52)), (2, 0, true, m1 74 52), (1, 0, true, r1), (0, 5, true, 74)] [(0, true, m1 74 52), (5, true, 103), (0, true, m2 102 (m1 74 52)), (0, true, m2 101 (m1 74 52)), (0, false, (m2 100 (m1 74 52)) + 1), (0, true, m1 99 (m1 74 52)), (5, true, 74), (5, true, 74)] (sM s m2))))
              refine hY _ _ _ _ ?_
              refine (And.intro h.2.2.2.2.2.2.1 (And.intro h.2.2.2.2.2.2.2.1 ?_))
              show Y 161 [(7, 2, true, 0), (6, 2, true, 0), (4, 1, true, r2), (3, 0, true, m1 99 (m1 74 52)), (2, 0, true, m1 74 52), (1, 0, true, r1), (0, 5, true, 74)] [(0, true, m2 103 (m1 74 52)), (0, true, m2 102 (m1 74 52)), (0, true, m2 101 (m1 74 52)), (0, false, (m2 100 (m1 74 52)) + 1), (0, true, m1 99 (m1 74 52)), (5, true, 74), (5, true, 74)] (sM s m2)
              refine hY _ _ _ _ ?_
              refine Exists.intro _ (And.intro (wc_252_r74_0t_0f_0t_0t_0t (m1 99 (m1 74 52)) ((m2 100 (m1 74 52)) + 1) (m2 101 (m1 74 52)) (m2 102 (m1 74 52)) (m2 103 (m1 74 52)) _ _ h.2.2.2.2.2.2.2.2) (fun r3 m3 h => ?_))
              refine hY _ _ _ _ (?_ : Y 173 [(7, 2, true, 0), (6, 2, true, 0), (4, 1, true, r2), (3, 0, true, m1 99 (m1 74 52)), (2, 0, true, m1 74 52), (1, 0, true, r1), (0, 5, true, 74)] [(0, true, r3), (5, true, 74)] (sM s m3))
              refine hY _ _ _ _ ?_
              show Y 176 [(7, 2, true, 0), (6, 2, true, 0), (4, 1, true, r2), (3, 0, true, m1 99 (m1 74 52)), (2, 0, true, m1 74 52), (1, 0, true, r1), (0, 5, true, 74)] [] (sM s (hy_u m3 74 52 r3))
              refine l176 _ _ ?_
              exact (Exists.intro (hy_u m3 74 52 r3) (And.intro rfl h))
          · have h := h.2.2.2.2.2.2 hc
            show Y 120 [(6, 2, true, 0), (4, 1, true, r2), (3, 0, true, m1 99 (m1 74 52)), (2, 0, true, m1 74 52), (1, 0, true, r1), (0, 5, true, 74)] [] (sM s m2)
            refine l120 _ _ ?_
            exact (Exists.intro m2 (And.intro rfl h))
      · have h := h.2 hc
        refine hY _ _ _ _ (hY _ _ _ _ (hY _ _ _ _ (?_ : Y 97 [(6, 2, true, 1), (4, 1, true, r2), (3, 0, true, m1 99 (m1 74 52)), (2, 0, true, m1 74 52), (1, 0, true, r1), (0, 5, true, 74)] [] (sM s m2))))
        refine hY _ _ _ _ (hY _ _ _ _ (?_ : Y 100 [(6, 2, true, 1), (4, 1, true, r2), (3, 0, true, m1 99 (m1 74 52)), (2, 0, true, m1 74 52), (1, 0, true, r1), (0, 5, true, 74)] [(0, true, (-9)), (0, true, m1 99 (m1 74 52))] (sM s m2)))
        refine hY _ _ _ _ ?_
        refine And.intro (fun hc => ?_) (fun hc => ?_)
        · have h := h.1 hc
          show Y 120 [(6, 2, true, 1), (4, 1, true, r2), (3, 0, true, m1 99 (m1 74 52)), (2, 0, true, m1 74 52), (1, 0, true, r1), (0, 5, true, 74)] [] (sM s m2)
          refine l120 _ _ ?_
          exact (Exists.intro m2 (And.intro rfl h))
        · have h := h.2 hc
          refine hY _ _ _ _ (hY _ _ _ _ (hY _ _ _ _ (?_ : Y 108 [(6, 2, true, 1), (4, 1, true, r2), (3, 0, true, m1 99 (m1 74 52)), (2, 0, true, m1 74 52), (1, 0, true, r1), (0, 5, true, 74)] [(0, true, m1 74 52), (5, true, 100)] (sM s m2))))
          refine hY _ _ _ _ ?_
          refine (And.intro h.1 (And.intro h.2.1 ?_))
          refine hY _ _ _ _ (hY _ _ _ _ (hY _ _ _ _ (?_ : Y 112 [(6, 2, true, 1), (4, 1, true, r2), (3, 0, true, m1 99 (m1 74 52)), (2, 0, true, m1 74 52), (1, 0, true, r1), (0, 5, true, 74)] [(5, true, 74), (0, false, (m2 100 (m1 74 52)) + 1)] (sM s m2))))
          refine hY _ _ _ _ (hY _ _ _ _ (?_ : Y 116 [(6, 2, true, 1), (4, 1, true, r2), (3, 0, true, m1 99 (m1 74 52)), (2, 0, true, m1 74 52), (1, 0, true, r1), (0, 5, true, 74)] [(0, true, m1 99 (m1 74 52)), (5, true, 82), (0, false, (m2 100 (m1 74 52)) + 1)] (sM s m2)))
          refine hY _ _ _ _ ?_
          refine (And.intro h.2.2.1 (And.intro h.2.2.2.1 ?_))
          show Y 117 [(6, 2, true, 1), (4, 1, true, r2), (3, 0, true, m1 99 (m1 74 52)), (2, 0, true, m1 74 52), (1, 0, true, r1), (0, 5, true, 74)] [(0, true, m2 82 (m1 99 (m1 74 52))), (0, false, (m2 100 (m1 74 52)) + 1)] (sM s m2)
          refine hY _ _ _ _ ?_
          refine And.intro h.2.2.2.2.1 ?_
          refine And.intro (fun hc => ?_) (fun hc => ?_)
          · have h := h.2.2.2.2.2.1 hc
            refine hY _ _ _ _ (hY _ _ _ _ (hY _ _ _ _ (?_ : Y 128 [(7, 2, true, 0), (6, 2, true, 1), (4, 1, true, r2), (3, 0, true, m1 99 (m1 74 52)), (2, 0, true, m1 74 52), (1, 0, true, r1), (0, 5, true, 74)] [(5, true, 74)] (sM s m2))))
            refine hY _ _ _ _ (?_ : Y 130 [(7, 2, true, 0), (6, 2, true, 1), (4, 1, true, r2), (3, 0, true, m1 99 (m1 74 52)), (2, 0, true, m1 74 52), (1, 0, true, r1), (0, 5, true, 74)] [(2, true, 0), (5, true, 74)] (sM s m2))
            refine hY _ _ _ _ ?_
            refine And.intro (fun hc => ?_) (fun hc => ?_)
            · have h := h.1 hc
              refine hY _ _ _ _ (hY _ _ _ _ (hY _ _ _ _ (?_ : Y 172 [(7, 2, true, 0), (6, 2, true, 1), (4, 1, true, r2), (3, 0, true, m1 99 (m1 74 52)), (2, 0, true, m1 74 52), (1, 0, true, r1), (0, 5, true, 74)] [(0, true, m1 74 52), (5, true, 102), (5, true, 74)] (sM s m2))))
              refine hY _ _ _ _ ?_
              refine (And.intro h.1 (And.intro h.2.1 ?_))
              show Y 173 [(7, 2, true, 0), (6, 2, true, 1), (4, 1, true, r2), (3, 0, true, m1 99 (m1 74 52)), (2, 0, true, m1 74 52), (1, 0, true, r1), (0, 5, true, 74)] [(0, true, m2 102 (m1 74 52)), (5, true, 74)] (sM s m2)
              refine hY _ _ _ _ ?_
              show Y 176 [(7, 2, true, 0), (6, 2, true, 1), (4, 1, true, r2), (3, 0, true, m1 99 (m1 74 52)), (2, 0, true, m1 74 52), (1, 0, true, r1), (0, 5, true, 74)] [] (sM s (hy_u m2 74 52 (m2 102 (m1 74 52))))
              refine l176 _ _ ?_
              exact (Exists.intro (hy_u m2 74 52 (m2 102 (m1 74 52))) (And.intro rfl h.2.2))
            · have h := h.2 hc
              refine hY _ _ _ _ (hY _ _ _ _ (hY _ _ _ _ (?_ : Y 136 [(7, 2, true, 0), (6, 2, true, 1), (4, 1, true, r2), (3, 0, true, m1 99 (m1 74 52)), (2, 0, true, m1 74 52), (1, 0, true, r1), (0, 5, true, 74)] [(5, true, 74), (0, true, m1 99 (m1 74 52)), (5, true, 74), (5, true, 74)] (sM s m2))))
              refine hY _ _ _ _ (hY _ _ _ _ (?_ : Y 140 [(7, 2, true, 0), (6, 2, true, 1), (4, 1, true, r2), (3, 0, true, m1 99 (m1 74 52)), (2, 0, true, m1 74 52), (1, 0, true, r1), (0, 5, true, 74)] [(0, true, m1 74 52), (5, true, 100), (0, true, m1 99 (m1 74 52)), (5, true, 74), (5, true, 74)] (sM s m2)))
              refine hY _ _ _ _ ?_
              refine (And.intro h.1 (And.intro h.2.1 ?_))
              refine hY _ _ _ _ (hY _ _ _ _ (hY _ _ _ _ (?_ : Y 144 [(7, 2, true, 0), (6, 2, true, 1), (4, 1, true, r2), (3, 0, true, m1 99 (m1 74 52)), (2, 0, true, m1 74 52), (1, 0, true, r1), (0, 5, true, 74)] [(5, true, 74), (0, false, (m2 100 (m1 74 52)) + 1), (0, true, m1 99 (m1 74 52)), (5, true, 74), (5, true, 74)] (sM s m2))))
              refine hY _ _ _ _ (hY _ _ _ _ (?_ : Y 148 [(7, 2, true, 0), (6, 2, true, 1), (4, 1, true, r2), (3, 0, true, m1 99 (m1 74 52)), (2, 0, true, m1 74 52), (1, 0, true, r1), (0, 5, true, 74)] [(0, true, m1 74 52), (5, true, 101), (0, false, (m2 100 (m1 74 52)) + 1), (0, true, m1 99 (m1 74 52)), (5, true, 74), (5, true, 74)] (sM s m2)))
              refine hY _ _ _ _ ?_
              refine (And.intro h.2.2.1 (And.intro h.2.2.2.1 ?_))
              refine hY _ _ _ _ (hY _ _ _ _ (hY _ _ _ _ (?_ : Y 154 [(7, 2, true, 0), (6, 2, true, 1), (4, 1, true, r2), (3, 0, true, m1 99 (m1 74 52)), (2, 0, true, m1 74 52), (1, 0, true, r1), (0, 5, true, 74)] [(0, true, m1 74 52), (5, true, 102), (0, true, m2 101 (m1 74 52)), (0, false, (m2 100 (m1 74 52)) + 1), (0, true, m1 99 (m1 74 52)), (5, true, 74), (5, true, 74)] (sM s m2))))
              refine hY _ _ _ _ ?_
              refine (And.intro h.2.2.2.2.1 (And.intro h.2.2.2.2.2.1 ?_))
              refine hY _ _ _ _ (hY _ _ _ _ (hY _ _ _ _ (?_ : Y 160 [(7, 2, true, 0), (6, 2, true, 1), (4, 1, true, r2), (3, 0, true, m1 99 (m1 74 52)), (2, 0, true, m1 74 52), (1, 0, true, r1), (0, 5, true, 74)] [(0, true, m1 74 52), (5, true, 103), (0, true, m2 102 (m1 74 52)), (0, true, m2 101 (m1 74 52)), (0, false, (m2 100 (m1 74 52)) + 1), (0, true, m1 99 (m1 74 52)), (5, true, 74), (5, true, 74)] (sM s m2))))
              refine hY _ _ _ _ ?_
              refine (And.intro h.2.2.2.2.2.2.1 (And.intro h.2.2.2.2.2.2.2.1 ?_))
              show Y 161 [(7, 2, true, 0), (6, 2, true, 1), (4, 1, true, r2), (3, 0, true, m1 99 (m1 74 52)), (2, 0, true, m1 74 52), (1, 0, true, r1), (0, 5, true, 74)] [(0, true, m2 103 (m1 74 52)), (0, true, m2 102 (m1 74 52)), (0, true, m2 101 (m1 74 52)), (0, false, (m2 100 (m1 74 52)) + 1), (0, true, m1 99 (m1 74 52)), (5, true, 74), (5, true, 74)] (sM s m2)
              refine hY _ _ _ _ ?_
              refine Exists.intro _ (And.intro (wc_252_r74_0t_0f_0t_0t_0t (m1 99 (m1 74 52)) ((m2 100 (m1 74 52)) + 1) (m2 101 (m1 74 52)) (m2 102 (m1 74 52)) (m2 103 (m1 74 52)) _ _ h.2.2.2.2.2.2.2.2) (fun r4 m4 h => ?_))
              refine hY _ _ _ _ (?_ : Y 173 [(7, 2, true, 0), (6, 2, true, 1), (4, 1, true, r2), (3, 0, true, m1 99 (m1 74 52)), (2, 0, true, m1 74 52), (1, 0, true, r1), (0, 5, true, 74)] [(0, true, r4), (5, true, 74)] (sM s m4))
              refine hY _ _ _ _ ?_
              show Y 176 [(7, 2, true, 0), (6, 2, true, 1), (4, 1, true, r2), (3, 0, true, m1 99 (m1 74 52)), (2, 0, true, m1 74 52), (1, 0, true, r1), (0, 5, true, 74)] [] (sM s (hy_u m4 74 52 r4))
              refine l176 _ _ ?_
              exact (Exists.intro (hy_u m4 74 52 r4) (And.intro rfl h))
          · have h := h.2.2.2.2.2.2 hc
            show Y 120 [(6, 2, true, 1), (4, 1, true, r2), (3, 0, true, m1 99 (m1 74 52)), (2, 0, true, m1 74 52), (1, 0, true, r1), (0, 5, true, 74)] [] (sM s m2)
            refine l120 _ _ ?_
            exact (Exists.intro m2 (And.intro rfl h))
    · have h := h.2 hc
      refine hY _ _ _ _ (hY _ _ _ _ (hY _ _ _ _ (?_ : Y 62 [(1, 0, true, r1), (0, 5, true, 74)] [(0, true, m1 74 59), (5, true, 74)] (sM s (hy_u m1 74 37 (m1 74 37))))))
      refine hY _ _ _ _ ?_
      refine hY _ _ _ _ (hY _ _ _ _ (hY _ _ _ _ (?_ : Y 70 [(2, 0, true, m1 74 52), (1, 0, true, r1), (0, 5, true, 74)] [] (sM s (hy_u (hy_u m1 74 37 (m1 74 37)) 74 38 (m1 74 59))))))
      refine hY _ _ _ _ (hY _ _ _ _ (hY _ _ _ _ (?_ : Y 75 [(2, 0, true, m1 74 52), (1, 0, true, r1), (0, 5, true, 74)] [(0, true, m1 74 52), (5, true, 99)] (sM s (hy_u (hy_u m1 74 37 (m1 74 37)) 74 38 (m1 74 59))))))
      refine hY _ _ _ _ ?_
      refine (And.intro h.1 (And.intro h.2.1 ?_))
      refine hY _ _ _ _ (hY _ _ _ _ (hY _ _ _ _ (?_ : Y 79 [(3, 0, true, m1 99 (m1 74 52)), (2, 0, true, m1 74 52), (1, 0, true, r1), (0, 5, true, 74)] [(0, true, m1 74 52), (5, true, 74)] (sM s (hy_u (hy_u m1 74 37 (m1 74 37)) 74 38 (m1 74 59))))))
      refine hY _ _ _ _ ?_
      refine Exists.intro _ (And.intro (wc_269_r74_0t (m1 74 52) _ _ h.2.2) (fun r5 m5 h => ?_))
      refine hY _ _ _ _ (hY _ _ _ _ (hY _ _ _ _ (?_ : Y 87 [(4, 1, true, r5), (3, 0, true, m1 99 (m1 74 52)), (2, 0, true, m1 74 52), (1, 0, true, r1), (0, 5, true, 74)] [(0, true, (-9)), (0, true, m1 99 (m1 74 52))] (sM s m5))))
      refine hY _ _ _ _ ?_
      refine And.intro (fun hc => ?_) (fun hc => ?_)
      · have h := h.1 hc
        refine hY _ _ _ _ (hY _ _ _ _ (hY _ _ _ _ (?_ : Y 98 [(6, 2, true, 0), (4, 1, true, r5), (3, 0, true, m1 99 (m1 74 52)), (2, 0, true, m1 74 52), (1, 0, true, r1), (0, 5, true, 74)] [(0, true, m1 99 (m1 74 52))] (sM s m5))))
        refine hY _ _ _ _ (?_ : Y 100 [(6, 2, true, 0), (4, 1, true, r5), (3, 0, true, m1 99 (m1 74 52)), (2, 0, true, m1 74 52), (1, 0, true, r1), (0, 5, true, 74)] [(0, true, (-9)), (0, true, m1 99 (m1 74 52))] (sM s m5))
        refine hY _ _ _ _ ?_
        refine And.intro (fun hc => ?_) (fun hc => ?_)
        · have h := h.1 hc
          show Y 120 [(6, 2, true, 0), (4, 1, true, r5), (3, 0, true, m1 99 (m1 74 52)), (2, 0, true, m1 74 52), (1, 0, true, r1), (0, 5, true, 74)] [] (sM s m5)
          refine l120 _ _ ?_
          exact (Exists.intro m5 (And.intro rfl h))
        · have h := h.2 hc
          refine hY _ _ _ _ (hY _ _ _ _ (hY _ _ _ _ (?_ : Y 108 [(6, 2, true, 0), (4, 1, true, r5), (3, 0, true, m1 99 (m1 74 52)), (2, 0, true, m1 74 52), (1, 0, true, r1), (0, 5, true, 74)] [(0, true, m1 74 52), (5, true, 100)] (sM s m5))))
          refine hY _ _ _ _ ?_
          refine (And.intro h.1 (And.intro h.2.1 ?_))
          refine hY _ _ _ _ (hY _ _ _ _ (hY _ _ _ _ (?_ : Y 112 [(6, 2, true, 0), (4, 1, true, r5), (3, 0, true, m1 99 (m1 74 52)), (2, 0, true, m1 74 52), (1, 0, true, r1), (0, 5, true, 74)] [(5, true, 74), (0, false, (m5 100 (m1 74 52)) + 1)] (sM s m5))))
          refine hY _ _ _ _ (hY _ _ _ _ (?_ : Y 116 [(6, 2, true, 0), (4, 1, true, r5), (3, 0, true, m1 99 (m1 74 52)), (2, 0, true, m1 74 52), (1, 0, true, r1), (0, 5, true, 74)] [(0, true, m1 99 (m1 74 52)), (5, true, 82), (0, false, (m5 100 (m1 74 52)) + 1)] (sM s m5)))
          refine hY _ _ _ _ ?_
          refine (And.intro h.2.2.1 (And.intro h.2.2.2.1 ?_))
          show Y 117 [(6, 2, true, 0), (4, 1, true, r5), (3, 0, true, m1 99 (m1 74 52)), (2, 0, true, m1 74 52), (1, 0, true, r1), (0, 5, true, 74)] [(0, true, m5 82 (m1 99 (m1 74 52))), (0, false, (m5 100 (m1 74 52)) + 1)] (sM s m5)
          refine hY _ _ _ _ ?_
          refine And.intro h.2.2.2.2.1 ?_
          refine And.intro (fun hc => ?_) (fun hc => ?_)
          · have h := h.2.2.2.2.2.1 hc
            refine hY _ _ _ _ (hY _ _ _ _ (hY _ _ _ _ (?_ : Y 128 [(7, 2, true, 0), (6, 2, true, 0), (4, 1, true, r5), (3, 0, true, m1 99 (m1 74 52)), (2, 0, true, m1 74 52), (1, 0, true, r1), (0, 5, true, 74)] [(5, true, 74)] (sM s m5))))
            refine hY _ _ _ _ (?_ : Y 130 [(7, 2, true, 0), (6, 2, true, 0), (4, 1, true, r5), (3, 0, true, m1 99 (m1 74 52)), (2, 0, true, m1 74 52), (1, 0, true, r1), (0, 5, true, 74)] [(2, true, 0), (5, true, 74)] (sM s m5))
            refine hY _ _ _ _ ?_
            refine And.intro (fun hc => ?_) (fun hc => ?_)
            · have h := h.1 hc
              refine hY _ _ _ _ (hY _ _ _ _ (hY _ _ _ _ (?_ : Y 172 [(7, 2, true, 0), (6, 2, true, 0), (4, 1, true, r5), (3, 0, true, m1 99 (m1 74 52)), (2, 0, true, m1 74 52), (1, 0, true, r1), (0, 5, true, 74)] [(0, true, m1 74 52), (5, true, 102), (5, true, 74)] (sM s m5))))
              refine hY _ _ _ _ ?_
              refine (And.intro h.1 (And.intro h.2.1 ?_))
              show Y 173 [(7, 2, true, 0), (6, 2, true, 0), (4, 1, true, r5), (3, 0, true, m1 99 (m1 74 52)), (2, 0, true, m1 74 52), (1, 0, true, r1), (0, 5, true, 74)] [(0, true, m5 102 (m1 74 52)), (5, true, 74)] (sM s m5)
              refine hY _ _ _ _ ?_
              show Y 176 [(7, 2, true, 0), (6, 2, true, 0), (4, 1, true, r5), (3, 0, true, m1 99 (m1 74 52)), (2, 0, true, m1 74 52), (1, 0, true, r1), (0, 5, true, 74)] [] (sM s (hy_u m5 74 52 (m5 102 (m1 74 52))))
              refine l176 _ _ ?_
              exact (Exists.intro (hy_u m5 74 52 (m5 102 (m1 74 52))) (And.intro rfl h.2.2))
            · have h := h.2 hc
              refine hY _ _ _ _ (hY _ _ _ _ (hY _ _ _ _ (?_ : Y 136 [(7, 2, true, 0), (6, 2, true, 0), (4, 1, true, r5), (3, 0, true, m1 99 (m1 74 52)), (2, 0, true, m1 74 52), (1, 0, true, r1), (0, 5, true, 74)] [(5, true, 74), (0, true, m1 99 (m1 74 52)), (5, true, 74), (5, true, 74)] (sM s m5))))
              refine hY _ _ _ _ (hY _ _ _ _ (?_ : Y 140 [(7, 2, true, 0), (6, 2, true, 0), (4, 1, true, r5), (3, 0, true, m1 99 (m1 74 52)), (2, 0, true, m1 74 52), (1, 0, true, r1), (0, 5, true, 74)] [(0, true, m1 74 52), (5, true, 100), (0, true, m1 99 (m1 74 52)), (5, true, 74), (5, true, 74)] (sM s m5)))
              refine hY _ _ _ _ ?_
              refine (And.intro h.1 (And.intro h.2.1 ?_))
              refine hY _ _ _ _ (hY _ _ _ _ (hY _ _ _ _ (?_ : Y 144 [(7, 2, true, 0), (6, 2, true, 0), (4, 1, true, r5), (3, 0, true, m1 99 (m1 74 52)), (2, 0, true, m1 74 52), (1, 0, true, r1), (0, 5, true, 74)] [(5, true, 74), (0, false, (m5 100 (m1 74 52)) + 1), (0, true, m1 99 (m1 74 52)), (5, true, 74), (5, true, 74)] (sM s m5))))
              refine hY _ _ _ _ (hY _ _ _ _ (?_ : Y 148 [(7, 2, true, 0), (6, 2, true, 0), (4, 1, true, r5), (3, 0, true, m1 99 (m1 74 52)), (2, 0, true, m1 74 52), (1, 0, true, r1), (0, 5, true, 74)] [(0, true, m1 74 52), (5, true, 101), (0, false, (m5 100 (m1 74 52)) + 1), (0, true, m1 99 (m1 74 52)), (5, true, 74), (5, true, 74)] (sM s m5)))
              refine hY _ _ _ _ ?_
              refine (And.intro h.2.2.1 (And.intro h.2.2.2.1 ?_))
              refine hY _ _ _ _ (hY _ _ _ _ (hY _ _ _ _ (?_ : Y 154 [(7, 2, true, 0), (6, 2, true, 0), (4, 1, true, r5), (3, 0, true, m1 99 (m1 74 52)), (2, 0, true, m1 74 52), (1, 0, true, r1), (0, 5, true, 74)] [(0, true, m1 74 52), (5, true, 102), (0, true, m5 101 (m1 74 52)), (0, false, (m5 100 (m1 74 52)) + 1), (0, true, m1 99 (m1 74 52)), (5, true, 74), (5, true, 74)] (sM s m5))))
              refine hY _ _ _ _ ?_
              refine (And.intro h.2.2.2.2.1 (And.intro h.2.2.2.2.2.1 ?_))
              refine hY _ _ _ _ (hY _ _ _ _ (hY _ _ _ _ (?_ : Y 160 [(7, 2, true, 0), (6, 2, true, 0), (4, 1, true, r5), (3, 0, true, m1 99 (m1 74 52)), (2, 0, true, m1 74 52), (1, 0, true, r1), (0, 5, true, 74)] [(0, true, m1 74 52), (5, true, 103), (0, true, m5 102 (m1 74 52)), (0, true, m5 101 (m1 74 52)), (0, false, (m5 100 (m1 74 52)) + 1), (0, true, m1 99 (m1 74 52)), (5, true, 74), (5, true, 74)] (sM s m5))))
              refine hY _ _ _ _ ?_
              refine (And.intro h.2.2.2.2.2.2.1 (And.intro h.2.2.2.2.2.2.2.1 ?_))
              show Y 161 [(7, 2, true, 0), (6, 2, true, 0), (4, 1, true, r5), (3, 0, true, m1 99 (m1 74 52)), (2, 0, true, m1 74 52), (1, 0, true, r1), (0, 5, true, 74)] [(0, true, m5 103 (m1 74 52)), (0, true, m5 102 (m1 74 52)), (0, true, m5 101 (m1 74 52)), (0, false, (m5 100 (m1 74 52)) + 1), (0, true, m1 99 (m1 74 52)), (5, true, 74), (5, true, 74)] (sM s m5)
              refine hY _ _ _ _ ?_
              refine Exists.intro _ (And.intro (wc_252_r74_0t_0f_0t_0t_0t (m1 99 (m1 74 52)) ((m5 100 (m1 74 52)) + 1) (m5 101 (m1 74 52)) (m5 102 (m1 74 52)) (m5 103 (m1 74 52)) _ _ h.2.2.2.2.2.2.2.2) (fun r6 m6 h => ?_))
              refine hY _ _ _ _ (?_ : Y 173 [(7, 2, true, 0), (6, 2, true, 0), (4, 1, true, r5), (3, 0, true, m1 99 (m1 74 52)), (2, 0, true, m1 74 52), (1, 0, true, r1), (0, 5, true, 74)] [(0, true, r6), (5, true, 74)] (sM s m6))
              refine hY _ _ _ _ ?_
              show Y 176 [(7, 2, true, 0), (6, 2, true, 0), (4, 1, true, r5), (3, 0, true, m1 99 (m1 74 52)), (2, 0, true, m1 74 52), (1, 0, true, r1), (0, 5, true, 74)] [] (sM s (hy_u m6 74 52 r6))
              refine l176 _ _ ?_
              exact (Exists.intro (hy_u m6 74 52 r6) (And.intro rfl h))
          · have h := h.2.2.2.2.2.2 hc
            show Y 120 [(6, 2, true, 0), (4, 1, true, r5), (3, 0, true, m1 99 (m1 74 52)), (2, 0, true, m1 74 52), (1, 0, true, r1), (0, 5, true, 74)] [] (sM s m5)
            refine l120 _ _ ?_
            exact (Exists.intro m5 (And.intro rfl h))
      · have h := h.2 hc
        refine hY _ _ _ _ (hY _ _ _ _ (hY _ _ _ _ (?_ : Y 97 [(6, 2, true, 1), (4, 1, true, r5), (3, 0, true, m1 99 (m1 74 52)), (2, 0, true, m1 74 52), (1, 0, true, r1), (0, 5, true, 74)] [] (sM s m5))))
        refine hY _ _ _ _ (hY _ _ _ _ (?_ : Y 100 [(6, 2, true, 1), (4, 1, true, r5), (3, 0, true, m1 99 (m1 74 52)), (2, 0, true, m1 74 52), (1, 0, true, r1), (0, 5, true, 74)] [(0, true, (-9)), (0, true, m1 99 (m1 74 52))] (sM s m5)))
        refine hY _ _ _ _ ?_
        refine And.intro (fun hc => ?_) (fun hc => ?_)
        · have h := h.1 hc
          show Y 120 [(6, 2, true, 1), (4, 1, true, r5), (3, 0, true, m1 99 (m1 74 52)), (2, 0, true, m1 74 52), (1, 0, true, r1), (0, 5, true, 74)] [] (sM s m5)
          refine l120 _ _ ?_
          exact (Exists.intro m5 (And.intro rfl h))
        · have h := h.2 hc
          refine hY _ _ _ _ (hY _ _ _ _ (hY _ _ _ _ (?_ : Y 108 [(6, 2, true, 1), (4, 1, true, r5), (3, 0, true, m1 99 (m1 74 52)), (2, 0, true, m1 74 52), (1, 0, true, r1), (0, 5, true, 74)] [(0, true, m1 74 52), (5, true, 100)] (sM s m5))))
          refine hY _ _ _ _ ?_
          refine (And.intro h.1 (And.intro h.2.1 ?_))
          refine hY _ _ _ _ (hY _ _ _ _ (hY _ _ _ _ (?_ : Y 112 [(6, 2, true, 1), (4, 1, true, r5), (3, 0, true, m1 99 (m1 74 52)), (2, 0, true, m1 74 52), (1, 0, true, r1), (0, 5, true, 74)] [(5, true, 74), (0, false, (m5 100 (m1 74 52)) + 1)] (sM s m5))))
          refine hY _ _ _ _ (hY _ _ _ _ (?_ : Y 116 [(6, 2, true, 1), (4, 1, true, r5), (3, 0, true, m1 99 (m1 74 52)), (2, 0, true, m1 74 52), (1, 0, true, r1), (0, 5, true, 74)] [(0, true, m1 99 (m1 74 52)), (5, true, 82), (0, false, (m5 100 (m1 74 52)) + 1)] (sM s m5)))
          refine hY _ _ _ _ ?_
          refine (And.intro h.2.2.1 (And.intro h.2.2.2.1 ?_))
          show Y 117 [(6, 2, true, 1), (4, 1, true, r5), (3, 0, true, m1 99 (m1 74 52)), (2, 0, true, m1 74 52), (1, 0, true, r1), (0, 5, true, 74)] [(0, true, m5 82 (m1 99 (m1 74 52))), (0, false, (m5 100 (m1 74 52)) + 1)] (sM s m5)
          refine hY _ _ _ _ ?_
          refine And.intro h.2.2.2.2.1 ?_
          refine And.intro (fun hc => ?_) (fun hc => ?_)
          · have h := h.2.2.2.2.2.1 hc
            refine hY _ _ _ _ (hY _ _ _ _ (hY _ _ _ _ (?_ : Y 128 [(7, 2, true, 0), (6, 2, true, 1), (4, 1, true, r5), (3, 0, true, m1 99 (m1 74 52)), (2, 0, true, m1 74 52), (1, 0, true, r1), (0, 5, true, 74)] [(5, true, 74)] (sM s m5))))
            refine hY _ _ _ _ (?_ : Y 130 [(7, 2, true, 0), (6, 2, true, 1), (4, 1, true, r5), (3, 0, true, m1 99 (m1 74 52)), (2, 0, true, m1 74 52), (1, 0, true, r1), (0, 5, true, 74)] [(2, true, 0), (5, true, 74)] (sM s m5))
            refine hY _ _ _ _ ?_
            refine And.intro (fun hc => ?_) (fun hc => ?_)
            · have h := h.1 hc
              refine hY _ _ _ _ (hY _ _ _ _ (hY _ _ _ _ (?_ : Y 172 [(7, 2, true, 0), (6, 2, true, 1), (4, 1, true, r5), (3, 0, true, m1 99 (m1 74 52)), (2, 0, true, m1 74 52), (1, 0, true, r1), (0, 5, true, 74)] [(0, true, m1 74 52), (5, true, 102), (5, true, 74)] (sM s m5))))
              refine hY _ _ _ _ ?_
              refine (And.intro h.1 (And.intro h.2.1 ?_))
              show Y 173 [(7, 2, true, 0), (6, 2, true, 1), (4, 1, true, r5), (3, 0, true, m1 99 (m1 74 52)), (2, 0, true, m1 74 52), (1, 0, true, r1), (0, 5, true, 74)] [(0, true, m5 102 (m1 74 52)), (5, true, 74)] (sM s m5)
              refine hY _ _ _ _ ?_
              show Y 176 [(7, 2, true, 0), (6, 2, true, 1), (4, 1, true, r5), (3, 0, true, m1 99 (m1 74 52)), (2, 0, true, m1 74 52), (1, 0, true, r1), (0, 5, true, 74)] [] (sM s (hy_u m5 74 52 (m5 102 (m1 74 52))))
              refine l176 _ _ ?_
              exact (Exists.intro (hy_u m5 74 52 (m5 102 (m1 74 52))) (And.intro rfl h.2.2))
            · have h := h.2 hc
              refine hY _ _ _ _ (hY _ _ _ _ (hY _ _ _ _ (?_ : Y 136 [(7, 2, true, 0), (6, 2, true, 1), (4, 1, true, r5), (3, 0, true, m1 99 (m1 74 52)), (2, 0, true, m1 74 52), (1, 0, true, r1), (0, 5, true, 74)] [(5, true, 74), (0, true, m1 99 (m1 74 52)), (5, true, 74), (5, true, 74)] (sM s m5))))
              refine hY _ _ _ _ (hY _ _ _ _ (?_ : Y 140 [(7, 2, true, 0), (6, 2, true, 1), (4, 1, true, r5), (3, 0, true, m1 99 (m1 74 52)), (2, 0, true, m1 74 52), (1, 0, true, r1), (0, 5, true, 74)] [(0, true, m1 74 52), (5, true, 100), (0, true, m1 99 (m1 74 52)), (5, true, 74), (5, true, 74)] (sM s m5)))
              refine hY _ _ _ _ ?_
              refine (And.intro h.1 (And.intro h.2.1 ?_))
              refine hY _ _ _ _ (hY _ _ _ _ (hY _ _ _ _ (?_ : Y 144 [(7, 2, true, 0), (6, 2, true, 1), (4, 1, true, r5), (3, 0, true, m1 99 (m1 74 52)), (2, 0, true, m1 74 52), (1, 0, true, r1), (0, 5, true, 74)] [(5, true, 74), (0, false, (m5 100 (m1 74 52)) + 1), (0, true, m1 99 (m1 74 52)), (5, true, 74), (5, true, 74)] (sM s m5))))
              refine hY _ _ _ _ (hY _ _ _ _ (?_ : Y 148 [(7, 2, true, 0), (6, 2, true, 1), (4, 1, true, r5), (3, 0, true, m1 99 (m1 74 52)), (2, 0, true, m1 74 52), (1, 0, true, r1), (0, 5, true, 74)] [(0, true, m1 74 52), (5, true, 101), (0, false, (m5 100 (m1 74 52)) + 1), (0, true, m1 99 (m1 74 52)), (5, true, 74), (5, true, 74)] (sM s m5)))
              refine hY _ _ _ _ ?_
              refine (And.intro h.2.2.1 (And.intro h.2.2.2.1 ?_))
              refine hY _ _ _ _ (hY _ _ _ _ (hY _ _ _ _ (?_ : Y 154 [(7, 2, true, 0), (6, 2, true, 1), (4, 1, true, r5), (3, 0, true, m1 99 (m1 74 52)), (2, 0, true, m1 74 52), (1, 0, true, r1), (0, 5, true, 74)] [(0, true, m1 74 52), (5, true, 102), (0, true, m5 101 (m1 74 52)), (0, false, (m5 100 (m1 74 52)) + 1), (0, true, m1 99 (m1 74 52)), (5, true, 74), (5, true, 74)] (sM s m5))))
              refine hY _ _ _ _ ?_
              refine (And.intro h.2.2.2.2.1 (And.intro h.2.2.2.2.2.1 ?_))
              refine hY _ _ _ _ (hY _ _ _ _ (hY _ _ _ _ (?_ : Y 160 [(7, 2, true, 0), (6, 2, true, 1), (4, 1, true, r5), (3, 0, true, m1 99 (m1 74 52)), (2, 0, true, m1 74 52), (1, 0, true, r1), (0, 5, true, 74)] [(0, true, m1 74 52), (5, true, 103), (0, true, m5 102 (m1 74 52)), (0, true, m5 101 (m1 74 52)), (0, false, (m5 100 (m1 74 52)) + 1), (0, true, m1 99 (m1 74 52)), (5, true, 74), (5, true, 74)] (sM s m5))))
              refine hY _ _ _ _ ?_
              refine (And.intro h.2.2.2.2.2.2.1 (And.intro h.2.2.2.2.2.2.2.1 ?_))
              show Y 161 [(7, 2, true, 0), (6, 2, true, 1), (4, 1, true, r5), (3, 0, true, m1 99 (m1 74 52)), (2, 0, true, m1 74 52), (1, 0, true, r1), (0, 5, true, 74)] [(0, true, m5 103 (m1 74 52)), (0, true, m5 102 (m1 74 52)), (0, true, m5 101 (m1 74 52)), (0, false, (m5 100 (m1 74 52)) + 1), (0, true, m1 99 (m1 74 52)), (5, true, 74), (5, true, 74)] (sM s m5)
              refine hY _ _ _ _ ?_
              refine Exists.intro _ (And.intro (wc_252_r74_0t_0f_0t_0t_0t (m1 99 (m1 74 52)) ((m5 100 (m1 74 52)) + 1) (m5 101 (m1 74 52)) (m5 102 (m1 74 52)) (m5 103 (m1 74 52)) _ _ h.2.2.2.2.2.2.2.2) (fun r7 m7 h => ?_))
              refine hY _ _ _ _ (?_ : Y 173 [(7, 2, true, 0), (6, 2, true, 1), (4, 1, true, r5), (3, 0, true, m1 99 (m1 74 52)), (2, 0, true, m1 74 52), (1, 0, true, r1), (0, 5, true, 74)] [(0, true, r7), (5, true, 74)] (sM s m7))
              refine hY _ _ _ _ ?_
              show Y 176 [(7, 2, true, 0), (6, 2, true, 1), (4, 1, true, r5), (3, 0, true, m1 99 (m1 74 52)), (2, 0, true, m1 74 52), (1, 0, true, r1), (0, 5, true, 74)] [] (sM s (hy_u m7 74 52 r7))
              refine l176 _ _ ?_
              exact (Exists.intro (hy_u m7 74 52 r7) (And.intro rfl h))
          · have h := h.2.2.2.2.2.2 hc
            show Y 120 [(6, 2, true, 1), (4, 1, true, r5), (3, 0, true, m1 99 (m1 74 52)), (2, 0, true, m1 74 52), (1, 0, true, r1), (0, 5, true, 74)] [] (sM s m5)
            refine l120 _ _ ?_
            exact (Exists.intro m5 (And.intro rfl h))
  · have h := h.2 hc
    refine hY _ _ _ _ (hY _ _ _ _ (?_ : Y 36 [(1, 0, true, r1), (0, 5, true, 74)] [(0, true, r1), (5, true, 74)] (sM s m1)))
    refine hY _ _ _ _ ?_
    refine hY _ _ _ _ (hY _ _ _ _ (hY _ _ _ _ (?_ : Y 44 [(1, 0, true, r1), (0, 5, true, 74)] [(0, true, m1 74 59), (5, true, 74)] (sM s (hy_u m1 74 37 r1)))))
    refine hY _ _ _ _ (hY _ _ _ _ (?_ : Y 48 [(1, 0, true, r1), (0, 5, true, 74)] [(0, true, m1 74 38), (0, true, m1 74 59), (5, true, 74)] (sM s (hy_u m1 74 37 r1))))
    refine hY _ _ _ _ ?_
    refine And.intro (fun hc => ?_) (fun hc => ?_)
    · have h := h.1 hc
      refine hY _ _ _ _ (hY _ _ _ _ (?_ : Y 62 [(1, 0, true, r1), (0, 5, true, 74)] [(0, true, m1 74 38), (5, true, 74)] (sM s (hy_u m1 74 37 r1))))
      refine hY _ _ _ _ ?_
      refine hY _ _ _ _ (hY _ _ _ _ (hY _ _ _ _ (?_ : Y 70 [(2, 0, true, m1 74 52), (1, 0, true, r1), (0, 5, true, 74)] [] (sM s (hy_u (hy_u m1 74 37 r1) 74 38 (m1 74 38))))))
      refine hY _ _ _ _ (hY _ _ _ _ (hY _ _ _ _ (?_ : Y 75 [(2, 0, true, m1 74 52), (1, 0, true, r1), (0, 5, true, 74)] [(0, true, m1 74 52), (5, true, 99)] (sM s (hy_u (hy_u m1 74 37 r1) 74 38 (m1 74 38))))))
      refine hY _ _ _ _ ?_
      refine (And.intro h.1 (And.intro h.2.1 ?_))
      refine hY _ _ _ _ (hY _ _ _ _ (hY _ _ _ _ (?_ : Y 79 [(3, 0, true, m1 99 (m1 74 52)), (2, 0, true, m1 74 52), (1, 0, true, r1), (0, 5, true, 74)] [(0, true, m1 74 52), (5, true, 74)] (sM s (hy_u (hy_u m1 74 37 r1) 74 38 (m1 74 38))))))
      refine hY _ _ _ _ ?_
      refine Exists.intro _ (And.intro (wc_269_r74_0t (m1 74 52) _ _ h.2.2) (fun r8 m8 h => ?_))
      refine hY _ _ _ _ (hY _ _ _ _ (hY _ _ _ _ (?_ : Y 87 [(4, 1, true, r8), (3, 0, true, m1 99 (m1 74 52)), (2, 0, true, m1 74 52), (1, 0, true, r1), (0, 5, true, 74)] [(0, true, (-9)), (0, true, m1 99 (m1 74 52))] (sM s m8))))
      refine hY _ _ _ _ ?_
      refine And.intro (fun hc => ?_) (fun hc => ?_)
      · have h := h.1 hc
        refine hY _ _ _ _ (hY _ _ _ _ (hY _ _ _ _ (?_ : Y 98 [(6, 2, true, 0), (4, 1, true, r8), (3, 0, true, m1 99 (m1 74 52)), (2, 0, true, m1 74 52), (1, 0, true, r1), (0, 5, true, 74)] [(0, true, m1 99 (m1 74 52))] (sM s m8))))
        refine hY _ _ _ _ (?_ : Y 100 [(6, 2, true, 0), (4, 1, true, r8), (3, 0, true, m1 99 (m1 74 52)), (2, 0, true, m1 74 52), (1, 0, true, r1), (0, 5, true, 74)] [(0, true, (-9)), (0, true, m1 99 (m1 74 52))] (sM s m8))
        refine hY _ _ _ _ ?_
        refine And.intro (fun hc => ?_) (fun hc => ?_)
        · have h := h.1 hc
          show Y 120 [(6, 2, true, 0), (4, 1, true, r8), (3, 0, true, m1 99 (m1 74 52)), (2, 0, true, m1 74 52), (1, 0, true, r1), (0, 5, true, 74)] [] (sM s m8)
          refine l120 _ _ ?_
          exact (Exists.intro m8 (And.intro rfl h))
        · have h := h.2 hc
          refine hY _ _ _ _ (hY _ _ _ _ (hY _ _ _ _ (?_ : Y 108 [(6, 2, true, 0), (4, 1, true, r8), (3, 0, true, m1 99 (m1 74 52)), (2, 0, true, m1 74 52), (1, 0, true, r1), (0, 5, true, 74)] [(0, true, m1 74 52), (5, true, 100)] (sM s m8))))
          refine hY _ _ _ _ ?_
          refine (And.intro h.1 (And.intro h.2.1 ?_))
          refine hY _ _ _ _ (hY _ _ _ _ (hY _ _ _ _ (?_ : Y 112 [(6, 2, true, 0), (4, 1, true, r8), (3, 0, true, m1 99 (m1 74 52)), (2, 0, true, m1 74 52), (1, 0, true, r1), (0, 5, true, 74)] [(5, true, 74), (0, false, (m8 100 (m1 74 52)) + 1)] (sM s m8))))
          refine hY _ _ _ _ (hY _ _ _ _ (?_ : Y 116 [(6, 2, true, 0), (4, 1, true, r8), (3, 0, true, m1 99 (m1 74 52)), (2, 0, true, m1 74 52), (1, 0, true, r1), (0, 5, true, 74)] [(0, true, m1 99 (m1 74 52)), (5, true, 82), (0, false, (m8 100 (m1 74 52)) + 1)] (sM s m8)))
          refine hY _ _ _ _ ?_
          refine (And.intro h.2.2.1 (And.intro h.2.2.2.1 ?_))
          show Y 117 [(6, 2, true, 0), (4, 1, true, r8), (3, 0, true, m1 99 (m1 74 52)), (2, 0, true, m1 74 52), (1, 0, true, r1), (0, 5, true, 74)] [(0, true, m8 82 (m1 99 (m1 74 52))), (0, false, (m8 100 (m1 74 52)) + 1)] (sM s m8)
          refine hY _ _ _ _ ?_
          refine And.intro h.2.2.2.2.1 ?_
          refine And.intro (fun hc => ?_) (fun hc => ?_)
          · have h := h.2.2.2.2.2.1 hc
            refine hY _ _ _ _ (hY _ _ _ _ (hY _ _ _ _ (?_ : Y 128 [(7, 2, true, 0), (6, 2, true, 0), (4, 1, true, r8), (3, 0, true, m1 99 (m1 74 52)), (2, 0, true, m1 74 52), (1, 0, true, r1), (0, 5, true, 74)] [(5, true, 74)] (sM s m8))))
            refine hY _ _ _ _ (?_ : Y 130 [(7, 2, true, 0), (6, 2, true, 0), (4, 1, true, r8), (3, 0, true, m1 99 (m1 74 52)), (2, 0, true, m1 74 52), (1, 0, true, r1), (0, 5, true, 74)] [(2, true, 0), (5, true, 74)] (sM s m8))
            refine hY _ _ _ _ ?_
            refine And.intro (fun hc => ?_) (fun hc => ?_)
            · have h := h.1 hc
              refine hY _ _ _ _ (hY _ _ _ _ (hY _ _ _ _ (?_ : Y 172 [(7, 2, true, 0), (6, 2, true, 0), (4, 1, true, r8), (3, 0, true, m1 99 (m1 74 52)), (2, 0, true, m1 74 52), (1, 0, true, r1), (0, 5, true, 74)] [(0, true, m1 74 52), (5, true, 102), (5, true, 74)] (sM s m8))))
              refine hY _ _ _ _ ?_
              refine (And.intro h.1 (And.intro h.2.1 ?_))
              show Y 173 [(7, 2, true, 0), (6, 2, true, 0), (4, 1, true, r8), (3, 0, true, m1 99 (m1 74 52)), (2, 0, true, m1 74 52), (1, 0, true, r1), (0, 5, true, 74)] [(0, true, m8 102 (m1 74 52)), (5, true, 74)] (sM s m8)
              refine hY _ _ _ _ ?_
              show Y 176 [(7, 2, true, 0), (6, 2, true, 0), (4, 1, true, r8), (3, 0, true, m1 99 (m1 74 52)), (2, 0, true, m1 74 52), (1, 0, true, r1), (0, 5, true, 74)] [] (sM s (hy_u m8 74 52 (m8 102 (m1 74 52))))
              refine l176 _ _ ?_
              exact (Exists.intro (hy_u m8 74 52 (m8 102 (m1 74 52))) (And.intro rfl h.2.2))
            · have h := h.2 hc
              refine hY _ _ _ _ (hY _ _ _ _ (hY _ _ _ _ (?_ : Y 136 [(7, 2, true, 0), (6, 2, true, 0), (4, 1, true, r8), (3, 0, true, m1 99 (m1 74 52)), (2, 0, true, m1 74 52), (1, 0, true, r1), (0, 5, true, 74)] [(5, true, 74), (0, true, m1 99 (m1 74 52)), (5, true, 74), (5, true, 74)] (sM s m8))))
              refine hY _ _ _ _ (hY _ _ _ _ (?_ : Y 140 [(7, 2, true, 0), (6, 2, true, 0), (4, 1, true, r8), (3, 0, true, m1 99 (m1 74 52)), (2, 0, true, m1 74 52), (1, 0, true, r1), (0, 5, true, 74)] [(0, true, m1 74 52), (5, true, 100), (0, true, m1 99 (m1 74 52)), (5, true, 74), (5, true, 74)] (sM s m8)))
              refine hY _ _ _ _ ?_
              refine (And.intro h.1 (And.intro h.2.1 ?_))
              refine hY _ _ _ _ (hY _ _ _ _ (hY _ _ _ _ (?_ : Y 144 [(7, 2, true, 0), (6, 2, true, 0), (4, 1, true, r8), (3, 0, true, m1 99 (m1 74 52)), (2, 0, true, m1 74 52), (1, 0, true, r1), (0, 5, true, 74)] [(5, true, 74), (0, false, (m8 100 (m1 74 52)) + 1), (0, true, m1 99 (m1 74 52)), (5, true, 74), (5, true, 74)] (sM s m8))))
              refine hY _ _ _ _ (hY _ _ _ _ (?_ : Y 148 [(7, 2, true, 0), (6, 2, true, 0), (4, 1, true, r8), (3, 0, true, m1 99 (m1 74 52)), (2, 0, true, m1 74 52), (1, 0, true, r1), (0, 5, true, 74)] [(0, true, m1 74 52), (5, true, 101), (0, false, (m8 100 (m1 74 52)) + 1), (0, true, m1 99 (m1 74 52)), (5, true, 74), (5, true, 74)] (sM s m8)))
              refine hY _ _ _ _ ?_
              refine (And.intro h.2.2.1 (And.intro h.2.2.2.1 ?_))
              refine hY _ _ _ _ (hY _ _ _ _ (hY _ _ _ _ (?_ : Y 154 [(7, 2, true, 0), (6, 2, true, 0), (4, 1, true, r8), (3, 0, true, m1 99 (m1 74 52)), (2, 0, true, m1 74 52), (1, 0, true, r1), (0, 5, true, 74)] [(0, true, m1 74 52), (5, true, 102), (0, true, m8 101 (m1 74 52)), (0, false, (m8 100 (m1 74 52)) + 1), (0, true, m1 99 (m1 74 52)), (5, true, 74), (5, true, 74)] (sM s m8))))
              refine hY _ _ _ _ ?_
              refine (And.intro h.2.2.2.2.1 (And.intro h.2.2.2.2.2.1 ?_))
              refine hY _ _ _ _ (hY _ _ _ _ (hY _ _ _ _ (?_ : Y 160 [(7, 2, true, 0), (6, 2, true, 0), (4, 1, true, r8), (3, 0, true, m1 99 (m1 74 52)), (2, 0, true, m1 74 52), (1, 0, true, r1), (0, 5, true, 74)] [(0, true, m1 74 52), (5, true, 103), (0, true, m8 102 (m1 74 52)), (0, true, m8 101 (m1 74 52)), (0, false, (m8 100 (m1 74 52)) + 1), (0, true, m1 99 (m1 74 52)), (5, true, 74), (5, true, 74)] (sM s m8))))
              refine hY _ _ _ _ ?_
              refine (And.intro h.2.2.2.2.2.2.1 (And.intro h.2.2.2.2.2.2.2.1 ?_))
              show Y 161 [(7, 2, true, 0), (6, 2, true, 0), (4, 1, true, r8), (3, 0, true, m1 99 (m1 74 52)), (2, 0, true, m1 74 52), (1, 0, true, r1), (0, 5, true, 74)] [(0, true, m8 103 (m1 74 52)), (0, true, m8 102 (m1 74 52)), (0, true, m8 101 (m1 74 52)), (0, false, (m8 100 (m1 74 52)) + 1), (0, true, m1 99 (m1 74 52)), (5, true, 74), (5, true, 74)] (sM s m8)
              refine hY _ _ _ _ ?_
              refine Exists.intro _ (And.intro (wc_252_r74_0t_0f_0t_0t_0t (m1 99 (m1 74 52)) ((m8 100 (m1 74 52)) + 1) (m8 101 (m1 74 52)) (m8 102 (m1 74 52)) (m8 103 (m1 74 52)) _ _ h.2.2.2.2.2.2.2.2) (fun r9 m9 h => ?_))
              refine hY _ _ _ _ (?_ : Y 173 [(7, 2, true, 0), (6, 2, true, 0), (4, 1, true, r8), (3, 0, true, m1 99 (m1 74 52)), (2, 0, true, m1 74 52), (1, 0, true, r1), (0, 5, true, 74)] [(0, true, r9), (5, true, 74)] (sM s m9))
              refine hY _ _ _ _ ?_
              show Y 176 [(7, 2, true, 0), (6, 2, true, 0), (4, 1, true, r8), (3, 0, true, m1 99 (m1 74 52)), (2, 0, true, m1 74 52), (1, 0, true, r1), (0, 5, true, 74)] [] (sM s (hy_u m9 74 52 r9))
              refine l176 _ _ ?_
              exact (Exists.intro (hy_u m9 74 52 r9) (And.intro rfl h))
          · have h := h.2.2.2.2.2.2 hc
            show Y 120 [(6, 2, true, 0), (4, 1, true, r8), (3, 0, true, m1 99 (m1 74 52)), (2, 0, true, m1 74 52), (1, 0, true, r1), (0, 5, true, 74)] [] (sM s m8)
            refine l120 _ _ ?_
            exact (Exists.intro m8 (And.intro rfl h))
      · have h := h.2 hc
        refine hY _ _ _ _ (hY _ _ _ _ (hY _ _ _ _ (?_ : Y 97 [(6, 2, true, 1), (4, 1, true, r8), (3, 0, true, m1 99 (m1 74 52)), (2, 0, true, m1 74 52), (1, 0, true, r1), (0, 5, true, 74)] [] (sM s m8))))
        refine hY _ _ _ _ (hY _ _ _ _ (?_ : Y 100 [(6, 2, true, 1), (4, 1, true, r8), (3, 0, true, m1 99 (m1 74 52)), (2, 0, true, m1 74 52), (1, 0, true, r1), (0, 5, true, 74)] [(0, true, (-9)), (0, true, m1 99 (m1 74 52))] (sM s m8)))
        refine hY _ _ _ _ ?_
        refine And.intro (fun hc => ?_) (fun hc => ?_)
        · have h := h.1 hc
          show Y 120 [(6, 2, true, 1), (4, 1, true, r8), (3, 0, true, m1 99 (m1 74 52)), (2, 0, true, m1 74 52), (1, 0, true, r1), (0, 5, true, 74)] [] (sM s m8)
          refine l120 _ _ ?_
          exact (Exists.intro m8 (And.intro rfl h))
        · have h := h.2 hc
          refine hY _ _ _ _ (hY _ _ _ _ (hY _ _ _ _ (?_ : Y 108 [(6, 2, true, 1), (4, 1, true, r8), (3, 0, true, m1 99 (m1 74 52)), (2, 0, true, m1 74 52), (1, 0, true, r1), (0, 5, true, 74)] [(0, true, m1 74 52), (5, true, 100)] (sM s m8))))
          refine hY _ _ _ _ ?_
          refine (And.intro h.1 (And.intro h.2.1 ?_))
          refine hY _ _ _ _ (hY _ _ _ _ (hY _ _ _ _ (?_ : Y 112 [(6, 2, true, 1), (4, 1, true, r8), (3, 0, true, m1 99 (m1 74 52)), (2, 0, true, m1 74 52), (1, 0, true, r1), (0, 5, true, 74)] [(5, true, 74), (0, false, (m8 100 (m1 74 52)) + 1)] (sM s m8))))
          refine hY _ _ _ _ (hY _ _ _ _ (?_ : Y 116 [(6, 2, true, 1), (4, 1, true, r8), (3, 0, true, m1 99 (m1 74 52)), (2, 0, true, m1 74 52), (1, 0, true, r1), (0, 5, true, 74)] [(0, true, m1 99 (m1 74 52)), (5, true, 82), (0, false, (m8 100 (m1 74 52)) + 1)] (sM s m8)))
          refine hY _ _ _ _ ?_
          refine (And.intro h.2.2.1 (And.intro h.2.2.2.1 ?_))
          show Y 117 [(6, 2, true, 1), (4, 1, true, r8), (3, 0, true, m1 99 (m1 74 52)), (2, 0, true, m1 74 52), (1, 0, true, r1), (0, 5, true, 74)] [(0, true, m8 82 (m1 99 (m1 74 52))), (0, false, (m8 100 (m1 74 52)) + 1)] (sM s m8)
          refine hY _ _ _ _ ?_
          refine And.intro h.2.2.2.2.1 ?_
          refine And.intro (fun hc => ?_) (fun hc => ?_)
          · have h := h.2.2.2.2.2.1 hc
            refine hY _ _ _ _ (hY _ _ _ _ (hY _ _ _ _ (?_ : Y 128 [(7, 2, true, 0), (6, 2, true, 1), (4, 1, true, r8), (3, 0, true, m1 99 (m1 74 52)), (2, 0, true, m1 74 52), (1, 0, true, r1), (0, 5, true, 74)] [(5, true, 74)] (sM s m8))))
            refine hY _ _ _ _ (?_ : Y 130 [(7, 2, true, 0), (6, 2, true, 1), (4, 1, true, r8), (3, 0, true, m1 99 (m1 74 52)), (2, 0, true, m1 74 52), (1, 0, true, r1), (0, 5, true, 74)] [(2, true, 0), (5, true, 74)] (sM s m8))
            refine hY _ _ _ _ ?_
            refine And.intro (fun hc => ?_) (fun hc => ?_)
            · have h := h.1 hc
              refine hY _ _ _ _ (hY _ _ _ _ (hY _ _ _ _ (?_ : Y 172 [(7, 2, true, 0), (6, 2, true, 1), (4, 1, true, r8), (3, 0, true, m1 99 (m1 74 52)), (2, 0, true, m1 74 52), (1, 0, true, r1), (0, 5, true, 74)] [(0, true, m1 74 52), (5, true, 102), (5, true, 74)] (sM s m8))))
              refine hY _ _ _ _ ?_
              refine (And.intro h.1 (And.intro h.2.1 ?_))
              show Y 173 [(7, 2, true, 0), (6, 2, true, 1), (4, 1, true, r8), (3, 0, true, m1 99 (m1 74 52)), (2, 0, true, m1 74 52), (1, 0, true, r1), (0, 5, true, 74)] [(0, true, m8 102 (m1 74 52)), (5, true, 74)] (sM s m8)
              refine hY _ _ _ _ ?_
              show Y 176 [(7, 2, true, 0), (6, 2, true, 1), (4, 1, true, r8), (3, 0, true, m1 99 (m1 74 52)), (2, 0, true, m1 74 52), (1, 0, true, r1), (0, 5, true, 74)] [] (sM s (hy_u m8 74 52 (m8 102 (m1 74 52))))
              refine l176 _ _ ?_
              exact (Exists.intro (hy_u m8 74 52 (m8 102 (m1 74 52))) (And.intro rfl h.2.2))
            · have h := h.2 hc
              refine hY _ _ _ _ (hY _ _ _ _ (hY _ _ _ _ (?_ : Y 136 [(7, 2, true, 0), (6, 2, true, 1), (4, 1, true, r8), (3, 0, true, m1 99 (m1 74 52)), (2, 0, true, m1 74 52), (1, 0, true, r1), (0, 5, true, 74)] [(5, true, 74), (0, true, m1 99 (m1 74 52)), (5, true, 74), (5, true, 74)] (sM s m8))))
              refine hY _ _ _ _ (hY _ _ _ _ (?_ : Y 140 [(7, 2, true, 0), (6, 2, true, 1), (4, 1, true, r8), (3, 0, true, m1 99 (m1 74 52)), (2, 0, true, m1 74 52), (1, 0, true, r1), (0, 5, true, 74)] [(0, true, m1 74 52), (5, true, 100), (0, true, m1 99 (m1 74 52)), (5, true, 74), (5, true, 74)] (sM s m8)))
              refine hY _ _ _ _ ?_
              refine (And.intro h.1 (And.intro h.2.1 ?_))
              refine hY _ _ _ _ (hY _ _ _ _ (hY _ _ _ _ (?_ : Y 144 [(7, 2, true, 0), (6, 2, true, 1), (4, 1, true, r8), (3, 0, true, m1 99 (m1 74 52)), (2, 0, true, m1 74 52), (1, 0, true, r1), (0, 5, true, 74)] [(5, true, 74), (0, false, (m8 100 (m1 74 52)) + 1), (0, true, m1 99 (m1 74 52)), (5, true, 74), (5, true, 74)] (sM s m8))))
              refine hY _ _ _ _ (hY _ _ _ _ (?_ : Y 148 [(7, 2, true, 0), (6, 2, true, 1), (4, 1, true, r8), (3, 0, true, m1 99 (m1 74 52)), (2, 0, true, m1 74 52), (1, 0, true, r1), (0, 5, true, 74)] [(0, true, m1 74 52), (5, true, 101), (0, false, (m8 100 (m1 74 52)) + 1), (0, true, m1 99 (m1 74 52)), (5, true, 74), (5, true, 74)] (sM s m8)))
              refine hY _ _ _ _ ?_
              refine (And.intro h.2.2.1 (And.intro h.2.2.2.1 ?_))
              refine hY _ _ _ _ (hY _ _ _ _ (hY _ _ _ _ (?_ : Y 154 [(7, 2, true, 0), (6, 2, true, 1), (4, 1, true, r8), (3, 0, true, m1 99 (m1 74 52)), (2, 0, true, m1 74 52), (1, 0, true, r1), (0, 5, true, 74)] [(0, true, m1 74 52), (5, true, 102), (0, true, m8 101 (m1 74 52)), (0, false, (m8 100 (m1 74 52)) + 1), (0, true, m1 99 (m1 74 52)), (5, true, 74), (5, true, 74)] (sM s m8))))
              refine hY _ _ _ _ ?_
              refine (And.intro h.2.2.2.2.1 (And.intro h.2.2.2.2.2.1 ?_))
              refine hY _ _ _ _ (hY _ _ _ _ (hY _ _ _ _ (?_ : Y 160 [(7, 2, true, 0), (6, 2, true, 1), (4, 1, true, r8), (3, 0, true, m1 99 (m1 74 52)), (2, 0, true, m1 74 52), (1, 0, true, r1), (0, 5, true, 74)] [(0, true, m1 74 52), (5, true, 103), (0, true, m8 102 (m1 74 52)), (0, true, m8 101 (m1 74 52)), (0, false, (m8 100 (m1 74 52)) + 1), (0, true, m1 99 (m1 74 52)), (5, true, 74), (5, true, 74)] (sM s m8))))
              refine hY _ _ _ _ ?_
              refine (And.intro h.2.2.2.2.2.2.1 (And.intro h.2.2.2.2.2.2.2.1 ?_))
              show Y 161 [(7, 2, true, 0), (6, 2, true, 1), (4, 1, true, r8), (3, 0, true, m1 99 (m1 74 52)), (2, 0, true, m1 74 52), (1, 0, true, r1), (0, 5, true, 74)] [(0, true, m8 103 (m1 74 52)), (0, true, m8 102 (m1 74 52)), (0, true, m8 101 (m1 74 52)), (0, false, (m8 100 (m1 74 52)) + 1), (0, true, m1 99 (m1 74 52)), (5, true, 74), (5, true, 74)] (sM s m8)
              refine hY _ _ _ _ ?_
              refine Exists.intro _ (And.intro (wc_252_r74_0t_0f_0t_0t_0t (m1 99 (m1 74 52)) ((m8 100 (m1 74 52)) + 1) (m8 101 (m1 74 52)) (m8 102 (m1 74 52)) (m8 103 (m1 74 52)) _ _ h.2.2.2.2.2.2.2.2) (fun r10 m10 h => ?_))
              refine hY _ _ _ _ (?_ : Y 173 [(7, 2, true, 0), (6, 2, true, 1), (4, 1, true, r8), (3, 0, true, m1 99 (m1 74 52)), (2, 0, true, m1 74 52), (1, 0, true, r1), (0, 5, true, 74)] [(0, true, r10), (5, true, 74)] (sM s m10))
              refine hY _ _ _ _ ?_
              show Y 176 [(7, 2, true, 0), (6, 2, true, 1), (4, 1, true, r8), (3, 0, true, m1 99 (m1 74 52)), (2, 0, true, m1 74 52), (1, 0, true, r1), (0, 5, true, 74)] [] (sM s (hy_u m10 74 52 r10))
              refine l176 _ _ ?_
              exact (Exists.intro (hy_u m10 74 52 r10) (And.intro rfl h))
          · have h := h.2.2.2.2.2.2 hc
            show Y 120 [(6, 2, true, 1), (4, 1, true, r8), (3, 0, true, m1 99 (m1 74 52)), (2, 0, true, m1 74 52), (1, 0, true, r1), (0, 5, true, 74)] [] (sM s m8)
            refine l120 _ _ ?_
            exact (Exists.intro m8 (And.intro rfl h))
    · have h := h.2 hc
      refine hY _ _ _ _ (hY _ _ _ _ (hY _ _ _ _ (?_ : Y 62 [(1, 0, true, r1), (0, 5, true, 74)] [(0, true, m1 74 59), (5, true, 74)] (sM s (hy_u m1 74 37 r1)))))
      refine hY _ _ _ _ ?_
      refine hY _ _ _ _ (hY _ _ _ _ (hY _ _ _ _ (?_ : Y 70 [(2, 0, true, m1 74 52), (1, 0, true, r1), (0, 5, true, 74)] [] (sM s (hy_u (hy_u m1 74 37 r1) 74 38 (m1 74 59))))))
      refine hY _ _ _ _ (hY _ _ _ _ (hY _ _ _ _ (?_ : Y 75 [(2, 0, true, m1 74 52), (1, 0, true, r1), (0, 5, true, 74)] [(0, true, m1 74 52), (5, true, 99)] (sM s (hy_u (hy_u m1 74 37 r1) 74 38 (m1 74 59))))))
      refine hY _ _ _ _ ?_
      refine (And.intro h.1 (And.intro h.2.1 ?_))
      refine hY _ _ _ _ (hY _ _ _ _ (hY _ _ _ _ (?_ : Y 79 [(3, 0, true, m1 99 (m1 74 52)), (2, 0, true, m1 74 52), (1, 0, true, r1), (0, 5, true, 74)] [(0, true, m1 74 52), (5, true, 74)] (sM s (hy_u (hy_u m1 74 37 r1) 74 38 (m1 74 59))))))
      refine hY _ _ _ _ ?_
      refine Exists.intro _ (And.intro (wc_269_r74_0t (m1 74 52) _ _ h.2.2) (fun r11 m11 h => ?_))
      refine hY _ _ _ _ (hY _ _ _ _ (hY _ _ _ _ (?_ : Y 87 [(4, 1, true, r11), (3, 0, true, m1 99 (m1 74 52)), (2, 0, true, m1 74 52), (1, 0, true, r1), (0, 5, true, 74)] [(0, true, (-9)), (0, true, m1 99 (m1 74 52))] (sM s m11))))
      refine hY _ _ _ _ ?_
      refine And.intro (fun hc => ?_) (fun hc => ?_)
      · have h := h.1 hc
        refine hY _ _ _ _ (hY _ _ _ _ (hY _ _ _ _ (?_ : Y 98 [(6, 2, true, 0), (4, 1, true, r11), (3, 0, true, m1 99 (m1 74 52)), (2, 0, true, m1 74 52), (1, 0, true, r1), (0, 5, true, 74)] [(0, true, m1 99 (m1 74 52))] (sM s m11))))
        refine hY _ _ _ _ (?_ : Y 100 [(6, 2, true, 0), (4, 1, true, r11), (3, 0, true, m1 99 (m1 74 52)), (2, 0, true, m1 74 52), (1, 0, true, r1), (0, 5, true, 74)] [(0, true, (-9)), (0, true, m1 99 (m1 74 52))] (sM s m11))
        refine hY _ _ _ _ ?_
        refine And.intro (fun hc => ?_) (fun hc => ?_)
        · have h := h.1 hc
          show Y 120 [(6, 2, true, 0), (4, 1, true, r11), (3, 0, true, m1 99 (m1 74 52)), (2, 0, true, m1 74 52), (1, 0, true, r1), (0, 5, true, 74)] [] (sM s m11)
          refine l120 _ _ ?_
          exact (Exists.intro m11 (And.intro rfl h))
        · have h := h.2 hc
          refine hY _ _ _ _ (hY _ _ _ _ (hY _ _ _ _ (?_ : Y 108 [(6, 2, true, 0), (4, 1, true, r11), (3, 0, true, m1 99 (m1 74 52)), (2, 0, true, m1 74 52), (1, 0, true, r1), (0, 5, true, 74)] [(0, true, m1 74 52), (5, true, 100)] (sM s m11))))
          refine hY _ _ _ _ ?_
          refine (And.intro h.1 (And.intro h.2.1 ?_))
          refine hY _ _ _ _ (hY _ _ _ _ (hY _ _ _ _ (?_ : Y 112 [(6, 2, true, 0), (4, 1, true, r11), (3, 0, true, m1 99 (m1 74 52)), (2, 0, true, m1 74 52), (1, 0, true, r1), (0, 5, true, 74)] [(5, true, 74), (0, false, (m11 100 (m1 74 52)) + 1)] (sM s m11))))
          refine hY _ _ _ _ (hY _ _ _ _ (?_ : Y 116 [(6, 2, true, 0), (4, 1, true, r11), (3, 0, true, m1 99 (m1 74 52)), (2, 0, true, m1 74 52), (1, 0, true, r1), (0, 5, true, 74)] [(0, true, m1 99 (m1 74 52)), (5, true, 82), (0, false, (m11 100 (m1 74 52)) + 1)] (sM s m11)))
          refine hY _ _ _ _ ?_
          refine (And.intro h.2.2.1 (And.intro h.2.2.2.1 ?_))
          show Y 117 [(6, 2, true, 0), (4, 1, true, r11), (3, 0, true, m1 99 (m1 74 52)), (2, 0, true, m1 74 52), (1, 0, true, r1), (0, 5, true, 74)] [(0, true, m11 82 (m1 99 (m1 74 52))), (0, false, (m11 100 (m1 74 52)) + 1)] (sM s m11)
          refine hY _ _ _ _ ?_
          refine And.intro h.2.2.2.2.1 ?_
          refine And.intro (fun hc => ?_) (fun hc => ?_)
          · have h := h.2.2.2.2.2.1 hc
            refine hY _ _ _ _ (hY _ _ _ _ (hY _ _ _ _ (?_ : Y 128 [(7, 2, true, 0), (6, 2, true, 0), (4, 1, true, r11), (3, 0, true, m1 99 (m1 74 52)), (2, 0, true, m1 74 52), (1, 0, true, r1), (0, 5, true, 74)] [(5, true, 74)] (sM s m11))))
            refine hY _ _ _ _ (?_ : Y 130 [(7, 2, true, 0), (6, 2, true, 0), (4, 1, true, r11), (3, 0, true, m1 99 (m1 74 52)), (2, 0, true, m1 74 52), (1, 0, true, r1), (0, 5, true, 74)] [(2, true, 0), (5, true, 74)] (sM s m11))
            refine hY _ _ _ _ ?_
            refine And.intro (fun hc => ?_) (fun hc => ?_)
            · have h := h.1 hc
              refine hY _ _ _ _ (hY _ _ _ _ (hY _ _ _ _ (?_ : Y 172 [(7, 2, true, 0), (6, 2, true, 0), (4, 1, true, r11), (3, 0, true, m1 99 (m1 74 52)), (2, 0, true, m1 74 52), (1, 0, true, r1), (0, 5, true, 74)] [(0, true, m1 74 52), (5, true, 102), (5, true, 74)] (sM s m11))))
              refine hY _ _ _ _ ?_
              refine (And.intro h.1 (And.intro h.2.1 ?_))
              show Y 173 [(7, 2, true, 0), (6, 2, true, 0), (4, 1, true, r11), (3, 0, true, m1 99 (m1 74 52)), (2, 0, true, m1 74 52), (1, 0, true, r1), (0, 5, true, 74)] [(0, true, m11 102 (m1 74 52)), (5, true, 74)] (sM s m11)
              refine hY _ _ _ _ ?_
              show Y 176 [(7, 2, true, 0), (6, 2, true, 0), (4, 1, true, r11), (3, 0, true, m1 99 (m1 74 52)), (2, 0, true, m1 74 52), (1, 0, true, r1), (0, 5, true, 74)] [] (sM s (hy_u m11 74 52 (m11 102 (m1 74 52))))
              refine l176 _ _ ?_
              exact (Exists.intro (hy_u m11 74 52 (m11 102 (m1 74 52))) (And.intro rfl h.2.2))
            · have h := h.2 hc
              refine hY _ _ _ _ (hY _ _ _ _ (hY _ _ _ _ (?_ : Y 136 [(7, 2, true, 0), (6, 2, true, 0), (4, 1, true, r11), (3, 0, true, m1 99 (m1 74 52)), (2, 0, true, m1 74 52), (1, 0, true, r1), (0, 5, true, 74)] [(5, true, 74), (0, true, m1 99 (m1 74 52)), (5, true, 74), (5, true, 74)] (sM s m11))))
              refine hY _ _ _ _ (hY _ _ _ _ (?_ : Y 140 [(7, 2, true, 0), (6, 2, true, 0), (4, 1, true, r11), (3, 0, true, m1 99 (m1 74 52)), (2, 0, true, m1 74 52), (1, 0, true, r1), (0, 5, true, 74)] [(0, true, m1 74 52), (5, true, 100), (0, true, m1 99 (m1 74 52)), (5, true, 74), (5, true, 74)] (sM s m11)))
              refine hY _ _ _ _ ?_
              refine (And.intro h.1 (And.intro h.2.1 ?_))
              refine hY _ _ _ _ (hY _ _ _ _ (hY _ _ _ _ (?_ : Y 144 [(7, 2, true, 0), (6, 2, true, 0), (4, 1, true, r11), (3, 0, true, m1 99 (m1 74 52)), (2, 0, true, m1 74 52), (1, 0, true, r1), (0, 5, true, 74)] [(5, true, 74), (0, false, (m11 100 (m1 74 52)) + 1), (0, true, m1 99 (m1 74 52)), (5, true, 74), (5, true, 74)] (sM s m11))))
              refine hY _ _ _ _ (hY _ _ _ _ (?_ : Y 148 [(7, 2, true, 0), (6, 2, true, 0), (4, 1, true, r11), (3, 0, true, m1 99 (m1 74 52)), (2, 0, true, m1 74 52), (1, 0, true, r1), (0, 5, true, 74)] [(0, true, m1 74 52), (5, true, 101), (0, false, (m11 100 (m1 74 52)) + 1), (0, true, m1 99 (m1 74 52)), (5, true, 74), (5, true, 74)] (sM s m11)))
              refine hY _ _ _ _ ?_
              refine (And.intro h.2.2.1 (And.intro h.2.2.2.1 ?_))
              refine hY _ _ _ _ (hY _ _ _ _ (hY _ _ _ _ (?_ : Y 154 [(7, 2, true, 0), (6, 2, true, 0), (4, 1, true, r11), (3, 0, true, m1 99 (m1 74 52)), (2, 0, true, m1 74 52), (1, 0, true, r1), (0, 5, true, 74)] [(0, true, m1 74 52), (5, true, 102), (0, true, m11 101 (m1 74 52)), (0, false, (m11 100 (m1 74 52)) + 1), (0, true, m1 99 (m1 74 52)), (5, true, 74), (5, true, 74)] (sM s m11))))
              refine hY _ _ _ _ ?_
              refine (And.intro h.2.2.2.2.1 (And.intro h.2.2.2.2.2.1 ?_))
              refine hY _ _ _ _ (hY _ _ _ _ (hY _ _ _ _ (?_ : Y 160 [(7, 2, true, 0), (6, 2, true, 0), (4, 1, true, r11), (3, 0, true, m1 99 (m1 74 52)), (2, 0, true, m1 74 52), (1, 0, true, r1), (0, 5, true, 74)] [(0, true, m1 74 52), (5, true, 103), (0, true, m11 102 (m1 74 52)), (0, true, m11 101 (m1 74 52)), (0, false, (m11 100 (m1 74 52)) + 1), (0, true, m1 99 (m1 74 52)), (5, true, 74), (5, true, 74)] (sM s m11))))
              refine hY _ _ _ _ ?_
              refine (And.intro h.2.2.2.2.2.2.1 (And.intro h.2.2.2.2.2.2.2.1 ?_))
              show Y 161 [(7, 2, true, 0), (6, 2, true, 0), (4, 1, true, r11), (3, 0, true, m1 99 (m1 74 52)), (2, 0, true, m1 74 52), (1, 0, true, r1), (0, 5, true, 74)] [(0, true, m11 103 (m1 74 52)), (0, true, m11 102 (m1 74 52)), (0, true, m11 101 (m1 74 52)), (0, false, (m11 100 (m1 74 52)) + 1), (0, true, m1 99 (m1 74 52)), (5, true, 74), (5, true, 74)] (sM s m11)
              refine hY _ _ _ _ ?_
              refine Exists.intro _ (And.intro (wc_252_r74_0t_0f_0t_0t_0t (m1 99 (m1 74 52)) ((m11 100 (m1 74 52)) + 1) (m11 101 (m1 74 52)) (m11 102 (m1 74 52)) (m11 103 (m1 74 52)) _ _ h.2.2.2.2.2.2.2.2) (fun r12 m12 h => ?_))
              refine hY _ _ _ _ (?_ : Y 173 [(7, 2, true, 0), (6, 2, true, 0), (4, 1, true, r11), (3, 0, true, m1 99 (m1 74 52)), (2, 0, true, m1 74 52), (1, 0, true, r1), (0, 5, true, 74)] [(0, true, r12), (5, true, 74)] (sM s m12))
              refine hY _ _ _ _ ?_
              show Y 176 [(7, 2, true, 0), (6, 2, true, 0), (4, 1, true, r11), (3, 0, true, m1 99 (m1 74 52)), (2, 0, true, m1 74 52), (1, 0, true, r1), (0, 5, true, 74)] [] (sM s (hy_u m12 74 52 r12))
              refine l176 _ _ ?_
              exact (Exists.intro (hy_u m12 74 52 r12) (And.intro rfl h))
          · have h := h.2.2.2.2.2.2 hc
            show Y 120 [(6, 2, true, 0), (4, 1, true, r11), (3, 0, true, m1 99 (m1 74 52)), (2, 0, true, m1 74 52), (1, 0, true, r1), (0, 5, true, 74)] [] (sM s m11)
            refine l120 _ _ ?_
            exact (Exists.intro m11 (And.intro rfl h))
      · have h := h.2 hc
        refine hY _ _ _ _ (hY _ _ _ _ (hY _ _ _ _ (?_ : Y 97 [(6, 2, true, 1), (4, 1, true, r11), (3, 0, true, m1 99 (m1 74 52)), (2, 0, true, m1 74 52), (1, 0, true, r1), (0, 5, true, 74)] [] (sM s m11))))
        refine hY _ _ _ _ (hY _ _ _ _ (?_ : Y 100 [(6, 2, true, 1), (4, 1, true, r11), (3, 0, true, m1 99 (m1 74 52)), (2, 0, true, m1 74 52), (1, 0, true, r1), (0, 5, true, 74)] [(0, true, (-9)), (0, true, m1 99 (m1 74 52))] (sM s m11)))
        refine hY _ _ _ _ ?_
        refine And.intro (fun hc => ?_) (fun hc => ?_)
        · have h := h.1 hc
          show Y 120 [(6, 2, true, 1), (4, 1, true, r11), (3, 0, true, m1 99 (m1 74 52)), (2, 0, true, m1 74 52), (1, 0, true, r1), (0, 5, true, 74)] [] (sM s m11)
          refine l120 _ _ ?_
          exact (Exists.intro m11 (And.intro rfl h))
        · have h := h.2 hc
          refine hY _ _ _ _ (hY _ _ _ _ (hY _ _ _ _ (?_ : Y 108 [(6, 2, true, 1), (4, 1, true, r11), (3, 0, true, m1 99 (m1 74 52)), (2, 0, true, m1 74 52), (1, 0, true, r1), (0, 5, true, 74)] [(0, true, m1 74 52), (5, true, 100)] (sM s m11))))
          refine hY _ _ _ _ ?_
          refine (And.intro h.1 (And.intro h.2.1 ?_))
          refine hY _ _ _ _ (hY _ _ _ _ (hY _ _ _ _ (?_ : Y 112 [(6, 2, true, 1), (4, 1, true, r11), (3, 0, true, m1 99 (m1 74 52)), (2, 0, true, m1 74 52), (1, 0, true, r1), (0, 5, true, 74)] [(5, true, 74), (0, false, (m11 100 (m1 74 52)) + 1)] (sM s m11))))
          refine hY _ _ _ _ (hY _ _ _ _ (?_ : Y 116 [(6, 2, true, 1), (4, 1, true, r11), (3, 0, true, m1 99 (m1 74 52)), (2, 0, true, m1 74 52), (1, 0, true, r1), (0, 5, true, 74)] [(0, true, m1 99 (m1 74 52)), (5, true, 82), (0, false, (m11 100 (m1 74 52)) + 1)] (sM s m11)))
          refine hY _ _ _ _ ?_
          refine (And.intro h.2.2.1 (And.intro h.2.2.2.1 ?_))
          show Y 117 [(6, 2, true, 1), (4, 1, true, r11), (3, 0, true, m1 99 (m1 74 52)), (2, 0, true, m1 74 52), (1, 0, true, r1), (0, 5, true, 74)] [(0, true, m11 82 (m1 99 (m1 74 52))), (0, false, (m11 100 (m1 74 52)) + 1)] (sM s m11)
          refine hY _ _ _ _ ?_
          refine And.intro h.2.2.2.2.1 ?_
          refine And.intro (fun hc => ?_) (fun hc => ?_)
          · have h := h.2.2.2.2.2.1 hc
            refine hY _ _ _ _ (hY _ _ _ _ (hY _ _ _ _ (?_ : Y 128 [(7, 2, true, 0), (6, 2, true, 1), (4, 1, true, r11), (3, 0, true, m1 99 (m1 74 52)), (2, 0, true, m1 74 52), (1, 0, true, r1), (0, 5, true, 74)] [(5, true, 74)] (sM s m11))))
            refine hY _ _ _ _ (?_ : Y 130 [(7, 2, true, 0), (6, 2, true, 1), (4, 1, true, r11), (3, 0, true, m1 99 (m1 74 52)), (2, 0, true, m1 74 52), (1, 0, true, r1), (0, 5, true, 74)] [(2, true, 0), (5, true, 74)] (sM s m11))
            refine hY _ _ _ _ ?_
            refine And.intro (fun hc => ?_) (fun hc => ?_)
            · have h := h.1 hc
              refine hY _ _ _ _ (hY _ _ _ _ (hY _ _ _ _ (?_ : Y 172 [(7, 2, true, 0), (6, 2, true, 1), (4, 1, true, r11), (3, 0, true, m1 99 (m1 74 52)), (2, 0, true, m1 74 52), (1, 0, true, r1), (0, 5, true, 74)] [(0, true, m1 74 52), (5, true, 102), (5, true, 74)] (sM s m11))))
              refine hY _ _ _ _ ?_
              refine (And.intro h.1 (And.intro h.2.1 ?_))
              show Y 173 [(7, 2, true, 0), (6, 2, true, 1), (4, 1, true, r11), (3, 0, true, m1 99 (m1 74 52)), (2, 0, true, m1 74 52), (1, 0, true, r1), (0, 5, true, 74)] [(0, true, m11 102 (m1 74 52)), (5, true, 74)] (sM s m11)
              refine hY _ _ _ _ ?_
              show Y 176 [(7, 2, true, 0), (6, 2, true, 1), (4, 1, true, r11), (3, 0, true, m1 99 (m1 74 52)), (2, 0, true, m1 74 52), (1, 0, true, r1), (0, 5, true, 74)] [] (sM s (hy_u m11 74 52 (m11 102 (m1 74 52))))
              refine l176 _ _ ?_
              exact (Exists.intro (hy_u m11 74 52 (m11 102 (m1 74 52))) (And.intro rfl h.2.2))
            · have h := h.2 hc
              refine hY _ _ _ _ (hY _ _ _ _ (hY _ _ _ _ (?_ : Y 136 [(7, 2, true, 0), (6, 2, true, 1), (4, 1, true, r11), (3, 0, true, m1 99 (m1 74 52)), (2, 0, true, m1 74 52), (1, 0, true, r1), (0, 5, true, 74)] [(5, true, 74), (0, true, m1 99 (m1 74 52)), (5, true, 74), (5, true, 74)] (sM s m11))))
              refine hY _ _ _ _ (hY _ _ _ _ (?_ : Y 140 [(7, 2, true, 0), (6, 2, true, 1), (4, 1, true, r11), (3, 0, true, m1 99 (m1 74 52)), (2, 0, true, m1 74 52), (1, 0, true, r1), (0, 5, true, 74)] [(0, true, m1 74 52), (5, true, 100), (0, true, m1 99 (m1 74 52)), (5, true, 74), (5, true, 74)] (sM s m11)))
              refine hY _ _ _ _ ?_
              refine (And.intro h.1 (And.intro h.2.1 ?_))
              refine hY _ _ _ _ (hY _ _ _ _ (hY _ _ _ _ (?_ : Y 144 [(7, 2, true, 0), (6, 2, true, 1), (4, 1, true, r11), (3, 0, true, m1 99 (m1 74 52)), (2, 0, true, m1 74 52), (1, 0, true, r1), (0, 5, true, 74)] [(5, true, 74), (0, false, (m11 100 (m1 74 52)) + 1), (0, true, m1 99 (m1 74 52)), (5, true, 74), (5, true, 74)] (sM s m11))))
              refine hY _ _ _ _ (hY _ _ _ _ (?_ : Y 148 [(7, 2, true, 0), (6, 2, true, 1), (4, 1, true, r11), (3, 0, true, m1 99 (m1 74 52)), (2, 0, true, m1 74 52), (1, 0, true, r1), (0, 5, true, 74)] [(0, true, m1 74 52), (5, true, 101), (0, false, (m11 100 (m1 74 52)) + 1), (0, true, m1 99 (m1 74 52)), (5, true, 74), (5, true, 74)] (sM s m11)))
              refine hY _ _ _ _ ?_
              refine (And.intro h.2.2.1 (And.intro h.2.2.2.1 ?_))
              refine hY _ _ _ _ (hY _ _ _ _ (hY _ _ _ _ (?_ : Y 154 [(7, 2, true, 0), (6, 2, true, 1), (4, 1, true, r11), (3, 0, true, m1 99 (m1 74 52)), (2, 0, true, m1 74 52), (1, 0, true, r1), (0, 5, true, 74)] [(0, true, m1 74 52), (5, true, 102), (0, true, m11 101 (m1 74 52)), (0, false, (m11 100 (m1 74 52)) + 1), (0, true, m1 99 (m1 74 52)), (5, true, 74), (5, true, 74)] (sM s m11))))
              refine hY _ _ _ _ ?_
              refine (And.intro h.2.2.2.2.1 (And.intro h.2.2.2.2.2.1 ?_))
              refine hY _ _ _ _ (hY _ _ _ _ (hY _ _ _ _ (?_ : Y 160 [(7, 2, true, 0), (6, 2, true, 1), (4, 1, true, r11), (3, 0, true, m1 99 (m1 74 52)), (2, 0, true, m1 74 52), (1, 0, true, r1), (0, 5, true, 74)] [(0, true, m1 74 52), (5, true, 103), (0, true, m11 102 (m1 74 52)), (0, true, m11 101 (m1 74 52)), (0, false, (m11 100 (m1 74 52)) + 1), (0, true, m1 99 (m1 74 52)), (5, true, 74), (5, true, 74)] (sM s m11))))
              refine hY _ _ _ _ ?_
              refine (And.intro h.2.2.2.2.2.2.1 (And.intro h.2.2.2.2.2.2.2.1 ?_))
              show Y 161 [(7, 2, true, 0), (6, 2, true, 1), (4, 1, true, r11), (3, 0, true, m1 99 (m1 74 52)), (2, 0, true, m1 74 52), (1, 0, true, r1), (0, 5, true, 74)] [(0, true, m11 103 (m1 74 52)), (0, true, m11 102 (m1 74 52)), (0, true, m11 101 (m1 74 52)), (0, false, (m11 100 (m1 74 52)) + 1), (0, true, m1 99 (m1 74 52)), (5, true, 74), (5, true, 74)] (sM s m11)
              refine hY _ _ _ _ ?_
              refine Exists.intro _ (And.intro (wc_252_r74_0t_0f_0t_0t_0t (m1 99 (m1 74 52)) ((m11 100 (m1 74 52)) + 1) (m11 101 (m1 74 52)) (m11 102 (m1 74 52)) (m11 103 (m1 74 52)) _ _ h.2.2.2.2.2.2.2.2) (fun r13 m13 h => ?_))
              refine hY _ _ _ _ (?_ : Y 173 [(7, 2, true, 0), (6, 2, true, 1), (4, 1, true, r11), (3, 0, true, m1 99 (m1 74 52)), (2, 0, true, m1 74 52), (1, 0, true, r1), (0, 5, true, 74)] [(0, true, r13), (5, true, 74)] (sM s m13))
              refine hY _ _ _ _ ?_
              show Y 176 [(7, 2, true, 0), (6, 2, true, 1), (4, 1, true, r11), (3, 0, true, m1 99 (m1 74 52)), (2, 0, true, m1 74 52), (1, 0, true, r1), (0, 5, true, 74)] [] (sM s (hy_u m13 74 52 r13))
              refine l176 _ _ ?_
              exact (Exists.intro (hy_u m13 74 52 r13) (And.intro rfl h))
          · have h := h.2.2.2.2.2.2 hc
            show Y 120 [(6, 2, true, 1), (4, 1, true, r11), (3, 0, true, m1 99 (m1 74 52)), (2, 0, true, m1 74 52), (1, 0, true, r1), (0, 5, true, 74)] [] (sM s m11)
            refine l120 _ _ ?_
            exact (Exists.intro m11 (And.intro rfl h))
def we_271 : sFf := sEf 8 [(0, 5, 74)] (fun xs s Q => ap0 (wq_271 s.2.2.2 Q) xs)
theorem we_271_ok : kS dM 10 271 2 (.inl we_271) := sEf_ok (mi := im_m271) rfl rfl rfl (fun R xs s r1 hb => by obtain ⟨rfl, hb⟩ := ap0_ok hb; exact wk_271_0 _ R s (fun x m' hx => ⟨m', rfl, hx⟩) r1 hb)
/-- LMModel.ends(I)V -/
def wf_272_39 (Q : Int → hy_m → Prop) (P39 : Int → hy_m → Prop) (x2 : Int) (m : hy_m) : Prop := ((m 74 42) ≤ x2 → (Q 0 m)) ∧ (x2 < (m 74 42) → (0 ≤ x2 ∧ x2 < 2500 ∧ (hy_r 0 (x2 + 1) ∧ (P39 (x2 + 1) (hy_u m 97 x2 (-1))))))
def wq_272_39 (x2 : Int) (m : hy_m) (Q : Int → hy_m → Prop) : Prop := wL1 hy_m (wf_272_39 Q) x2 m
def wq_272 (x1 : Int) (m : hy_m) (Q : Int → hy_m → Prop) : Prop := 0 ≤ (26 : Int) ∧ (26 : Int) < 28 ∧ (wq_272_39 0 (hy_u (hy_u (hy_u (hy_u (hy_u (hy_u m 74 32 x1) 74 52 (-9)) 74 59 0) 74 44 0) 74 51 0) 74 42 (m 84 26)) Q)
def cs_272 : List (Nat × Nat × sFS) := []
theorem cs_272_ok : kCs dM 0 cs_272 := kCs_n
def lb_272_39 (s : sS) (Q : sQ) (P39 : Int → hy_m → Prop) (R : Int → hy_m → Prop) (x2 : Int) : Nat → Option (sL → sS → Prop) := sLb [(39, fun lv t => sG [(0, 5, 74), (2, 0, 0)] lv (ap1 (fun w2 => ∃ m', t = sM s m' ∧ P39 w2 m')))]
set_option maxRecDepth 30000 in
set_option maxHeartbeats 1000000 in
theorem wj_272_39 (Q : sQ) (R : Int → hy_m → Prop) (s : sS) (P39 : Int → hy_m → Prop) (x2 : Int) (m : hy_m) (hP39 : ∀ (z2 : Int) (m : hy_m), P39 z2 m → sRg [(0, 5, 74), (2, 0, 0)] [z2] → kX dM 0 im_m272 9 39 (sCan [(0, 5, 74), (2, 0, 0)] [z2]) [] (sM s m) Q) (hQ : ∀ x m', R x m' → Q x (sM s m')) (hr : sRg [(0, 5, 74), (2, 0, 0)] [x2]) (h : wf_272_39 R P39 x2 m) : kX dM 0 im_m272 9 39 (sCan [(0, 5, 74), (2, 0, 0)] [x2]) [] (sM s m) Q := by
  unfold wf_272_39 at h
  refine wz2_ok (cs := cs_272) (wr := []) (lb := lb_272_39 s Q P39 R x2) cs_272_ok (kLb_c (kLab (Bd := fun xs t => ap1 (fun w2 => ∃ m', t = sM s m' ∧ P39 w2 m') xs) rfl (fun xs t r1 r2 hb => by obtain ⟨w2, rfl, hb⟩ := ap1_ok hb; obtain ⟨m', rfl, hx⟩ := hb; exact hP39 _ m' hx r1)) kLb_n) (okL_can rfl hr) (fun Y hY hl => ?_)
  have l39 := hl 39 _ rfl
  refine hY _ _ _ _ (hY _ _ _ _ (hY _ _ _ _ (?_ : Y 44 [(0, 5, true, 74), (2, 0, true, x2)] [(0, true, m 74 42), (0, true, x2)] (sM s m))))
  refine hY _ _ _ _ ?_
  refine And.intro (fun hc => ?_) (fun hc => ?_)
  · have h := h.1 hc
    show Y 62 [(0, 5, true, 74), (2, 0, true, x2)] [] (sM s m)
    refine hY _ _ _ _ ?_
    exact hQ 0 m h
  · have h := h.2 hc
    refine hY _ _ _ _ (hY _ _ _ _ (hY _ _ _ _ (?_ : Y 52 [(0, 5, true, 74), (2, 0, true, x2)] [(0, true, x2), (5, true, 97)] (sM s m))))
    refine hY _ _ _ _ (?_ : Y 55 [(0, 5, true, 74), (2, 0, true, x2)] [(1, true, (-1)), (0, true, x2), (5, true, 97)] (sM s m))
    refine hY _ _ _ _ ?_
    refine (And.intro h.1 (And.intro h.2.1 ?_))
    refine hY _ _ _ _ (hY _ _ _ _ (?_ : Y 39 [(2, 0, false, x2 + 1), (0, 5, true, 74)] [] (sM s (hy_u m 97 x2 (-1)))))
    refine l39 _ _ ?_
    refine And.intro h.2.2.1 ?_
    exact (Exists.intro (hy_u m 97 x2 (-1)) (And.intro rfl h.2.2.2))
theorem wk_272_39 (Q : sQ) (R : Int → hy_m → Prop) (s : sS) (x2 : Int) (hQ : ∀ x m', R x m' → Q x (sM s m')) (hr : sRg [(0, 5, 74), (2, 0, 0)] [x2]) (h : wq_272_39 x2 s.2.2.2 R) : kX dM 0 im_m272 9 39 (sCan [(0, 5, 74), (2, 0, 0)] [x2]) [] s Q :=
  h (fun x2 m => sRg [(0, 5, 74), (2, 0, 0)] [x2] → kX dM 0 im_m272 9 39 (sCan [(0, 5, 74), (2, 0, 0)] [x2]) [] (sM s m) Q) (fun x2 m h hr => wj_272_39 Q R s (fun x2 m => sRg [(0, 5, 74), (2, 0, 0)] [x2] → kX dM 0 im_m272 9 39 (sCan [(0, 5, 74), (2, 0, 0)] [x2]) [] (sM s m) Q) x2 m  (fun _ _ hp hr => hp hr) hQ hr h) hr
def lb_272_0 (s : sS) (Q : sQ) (R : Int → hy_m → Prop) (x1 : Int) : Nat → Option (sL → sS → Prop) := sLb [(39, fun lv t => sG [(0, 5, 74), (2, 0, 0)] lv (ap1 (fun w2 => ∃ m', t = sM s m' ∧ wq_272_39 w2 m' R)))]
set_option maxRecDepth 30000 in
set_option maxHeartbeats 1000000 in
theorem wk_272_0 (Q : sQ) (R : Int → hy_m → Prop) (s : sS) (x1 : Int) (hQ : ∀ x m', R x m' → Q x (sM s m')) (hr : sRg [(0, 5, 74), (1, 0, 0)] [x1]) (h : wq_272 x1 s.2.2.2 R) : kX dM 0 im_m272 9 0 (sCan [(0, 5, 74), (1, 0, 0)] [x1]) [] s Q := by
  unfold wq_272 at h
  refine wz2_ok (cs := cs_272) (wr := []) (lb := lb_272_0 s Q R x1) cs_272_ok (kLb_c (kLab (Bd := fun xs t => ap1 (fun w2 => ∃ m', t = sM s m' ∧ wq_272_39 w2 m' R) xs) rfl (fun xs t r1 r2 hb => by obtain ⟨w2, rfl, hb⟩ := ap1_ok hb; obtain ⟨m', rfl, hx⟩ := hb; exact wk_272_39 Q R (sM s m') _ (fun x m'' hy => hQ x m'' hy) r1 hx)) kLb_n) (okL_can rfl hr) (fun Y hY hl => ?_)
  have l39 := hl 39 _ rfl
  refine hY _ _ _ _ (hY _ _ _ _ (?_ : Y 2 [(0, 5, true, 74), (1, 0, true, x1)] [(0, true, x1), (5, true, 74)] s))
  refine hY _ _ _ _ ?_
  refine hY _ _ _ _ (hY _ _ _ _ (?_ : Y 8 [(0, 5, true, 74), (1, 0, true, x1)] [(0, true, (-9)), (5, true, 74)] (sM s (hy_u s.2.2.2 74 32 x1))))
  refine hY _ _ _ _ ?_
  refine hY _ _ _ _ (hY _ _ _ _ (?_ : Y 13 [(0, 5, true, 74), (1, 0, true, x1)] [(2, true, 0), (5, true, 74)] (sM s (hy_u (hy_u s.2.2.2 74 32 x1) 74 52 (-9)))))
  refine hY _ _ _ _ ?_
  refine hY _ _ _ _ (hY _ _ _ _ (?_ : Y 18 [(0, 5, true, 74), (1, 0, true, x1)] [(2, true, 0), (5, true, 74)] (sM s (hy_u (hy_u (hy_u s.2.2.2 74 32 x1) 74 52 (-9)) 74 59 0))))
  refine hY _ _ _ _ ?_
  refine hY _ _ _ _ (hY _ _ _ _ (?_ : Y 23 [(0, 5, true, 74), (1, 0, true, x1)] [(2, true, 0), (5, true, 74)] (sM s (hy_u (hy_u (hy_u (hy_u s.2.2.2 74 32 x1) 74 52 (-9)) 74 59 0) 74 44 0))))
  refine hY _ _ _ _ ?_
  refine hY _ _ _ _ (hY _ _ _ _ (hY _ _ _ _ (?_ : Y 31 [(0, 5, true, 74), (1, 0, true, x1)] [(5, true, 84), (5, true, 74)] (sM s (hy_u (hy_u (hy_u (hy_u (hy_u s.2.2.2 74 32 x1) 74 52 (-9)) 74 59 0) 74 44 0) 74 51 0)))))
  refine hY _ _ _ _ (?_ : Y 33 [(0, 5, true, 74), (1, 0, true, x1)] [(0, true, 26), (5, true, 84), (5, true, 74)] (sM s (hy_u (hy_u (hy_u (hy_u (hy_u s.2.2.2 74 32 x1) 74 52 (-9)) 74 59 0) 74 44 0) 74 51 0)))
  refine hY _ _ _ _ ?_
  refine (And.intro h.1 (And.intro h.2.1 ?_))
  show Y 34 [(0, 5, true, 74), (1, 0, true, x1)] [(0, true, s.2.2.2 84 26), (5, true, 74)] (sM s (hy_u (hy_u (hy_u (hy_u (hy_u s.2.2.2 74 32 x1) 74 52 (-9)) 74 59 0) 74 44 0) 74 51 0))
  refine hY _ _ _ _ ?_
  refine hY _ _ _ _ (hY _ _ _ _ (?_ : Y 39 [(2, 2, true, 0), (0, 5, true, 74), (1, 0, true, x1)] [] (sM s (hy_u (hy_u (hy_u (hy_u (hy_u (hy_u s.2.2.2 74 32 x1) 74 52 (-9)) 74 59 0) 74 44 0) 74 51 0) 74 42 (s.2.2.2 84 26)))))
  refine l39 _ _ ?_
  exact (Exists.intro (hy_u (hy_u (hy_u (hy_u (hy_u (hy_u s.2.2.2 74 32 x1) 74 52 (-9)) 74 59 0) 74 44 0) 74 51 0) 74 42 (s.2.2.2 84 26)) (And.intro rfl h.2.2))
def we_272 : sFf := sEf 3 [(0, 5, 74), (1, 0, 0)] (fun xs s Q => ap1 (fun x1 => wq_272 x1 s.2.2.2 Q) xs)
theorem we_272_ok : kS dM 1 272 9 (.inl we_272) := sEf_ok (mi := im_m272) rfl rfl rfl (fun R xs s r1 hb => by obtain ⟨x1, rfl, hb⟩ := ap1_ok hb; exact wk_272_0 _ R s x1 (fun x m' hx => ⟨m', rfl, hx⟩) r1 hb)
/-- LMModel.isEndOfNot()Z -/
def wq_273 (m : hy_m) (Q : Int → hy_m → Prop) : Prop := 0 ≤ (m 74 52) ∧ (m 74 52) < 1300 ∧ (((m 99 (m 74 52)) ≠ (-9) → (Q 0 m)) ∧ ((m 99 (m 74 52)) = (-9) → (0 ≤ (m 74 52) ∧ (m 74 52) < 1300 ∧ (((m 100 (m 74 52)) ≠ 1 → (Q 0 m)) ∧ ((m 100 (m 74 52)) = 1 → (Q 1 m))))))
def cs_273 : List (Nat × Nat × sFS) := []
theorem cs_273_ok : kCs dM 0 cs_273 := kCs_n
def lb_273_0 (s : sS) (Q : sQ) (R : Int → hy_m → Prop) : Nat → Option (sL → sS → Prop) := sLb []
set_option maxRecDepth 30000 in
set_option maxHeartbeats 1000000 in
theorem wk_273_0 (Q : sQ) (R : Int → hy_m → Prop) (s : sS) (hQ : ∀ x m', R x m' → Q x (sM s m')) (hr : sRg [(0, 5, 74)] []) (h : wq_273 s.2.2.2 R) : kX dM 0 im_m273 2 0 (sCan [(0, 5, 74)] []) [] s Q := by
  unfold wq_273 at h
  refine wz2_ok (cs := cs_273) (wr := []) (lb := lb_273_0 s Q R) cs_273_ok kLb_n (okL_can rfl hr) (fun Y hY hl => ?_)
  refine hY _ _ _ _ (hY _ _ _ _ (hY _ _ _ _ (?_ : Y 5 [(0, 5, true, 74)] [(5, true, 74), (5, true, 99)] s)))
  refine hY _ _ _ _ (?_ : Y 8 [(0, 5, true, 74)] [(0, true, s.2.2.2 74 52), (5, true, 99)] s)
  refine hY _ _ _ _ ?_
  refine (And.intro h.1 (And.intro h.2.1 ?_))
  refine hY _ _ _ _ (?_ : Y 11 [(0, 5, true, 74)] [(0, true, (-9)), (0, true, s.2.2.2 99 (s.2.2.2 74 52))] s)
  refine hY _ _ _ _ ?_
  refine And.intro (fun hc => ?_) (fun hc => ?_)
  · have h := h.2.2.1 hc
    refine hY _ _ _ _ (?_ : Y 32 [(0, 5, true, 74)] [(2, true, 0)] s)
    refine hY _ _ _ _ ?_
    exact hQ 0 s.2.2.2 h
  · have h := h.2.2.2 hc
    refine hY _ _ _ _ (hY _ _ _ _ (hY _ _ _ _ (?_ : Y 19 [(0, 5, true, 74)] [(5, true, 74), (5, true, 100)] s)))
    refine hY _ _ _ _ (?_ : Y 22 [(0, 5, true, 74)] [(0, true, s.2.2.2 74 52), (5, true, 100)] s)
    refine hY _ _ _ _ ?_
    refine (And.intro h.1 (And.intro h.2.1 ?_))
    refine hY _ _ _ _ (?_ : Y 24 [(0, 5, true, 74)] [(2, true, 1), (0, true, s.2.2.2 100 (s.2.2.2 74 52))] s)
    refine hY _ _ _ _ ?_
    refine And.intro (fun hc => ?_) (fun hc => ?_)
    · have h := h.2.2.1 hc
      refine hY _ _ _ _ (?_ : Y 32 [(0, 5, true, 74)] [(2, true, 0)] s)
      refine hY _ _ _ _ ?_
      exact hQ 0 s.2.2.2 h
    · have h := h.2.2.2 hc
      refine hY _ _ _ _ (hY _ _ _ _ (?_ : Y 32 [(0, 5, true, 74)] [(2, true, 1)] s))
      refine hY _ _ _ _ ?_
      exact hQ 1 s.2.2.2 h
def we_273 : sFf := sEf 1 [(0, 5, 74)] (fun xs s Q => ap0 (wq_273 s.2.2.2 Q) xs)
theorem we_273_ok : kS dM 1 273 2 (.inl we_273) := sEf_ok (mi := im_m273) rfl rfl rfl (fun R xs s r1 hb => by obtain ⟨rfl, hb⟩ := ap0_ok hb; exact wk_273_0 _ R s (fun x m' hx => ⟨m', rfl, hx⟩) r1 hb)
/-- LMModel.endsNot()Z -/
def wq_274 (m : hy_m) (Q : Int → hy_m → Prop) : Prop := 0 ≤ (m 74 52) ∧ (m 74 52) < 1300 ∧ (0 ≤ (m 74 52) ∧ (m 74 52) < 1300 ∧ (wq_257 (hy_u (hy_u m 74 59 (m 103 (m 74 52))) 74 52 (m 102 (m 74 52))) (fun r1 m1 => Q r1 m1)))
def cs_274 : List (Nat × Nat × sFS) := [(257, 2, .inl we_257)]
theorem cs_274_ok : kCs dM 7 cs_274 := (kCs_c (Or.inr (Or.inr (Or.inl rfl))) (we_257_ok.deep (by decide)) kCs_n)
def lb_274_0 (s : sS) (Q : sQ) (R : Int → hy_m → Prop) : Nat → Option (sL → sS → Prop) := sLb []
set_option maxRecDepth 30000 in
set_option maxHeartbeats 1000000 in
theorem wk_274_0 (Q : sQ) (R : Int → hy_m → Prop) (s : sS) (hQ : ∀ x m', R x m' → Q x (sM s m')) (hr : sRg [(0, 5, 74)] []) (h : wq_274 s.2.2.2 R) : kX dM 7 im_m274 2 0 (sCan [(0, 5, 74)] []) [] s Q := by
  unfold wq_274 at h
  refine wz2_ok (cs := cs_274) (wr := []) (lb := lb_274_0 s Q R) cs_274_ok kLb_n (okL_can rfl hr) (fun Y hY hl => ?_)
  refine hY _ _ _ _ (hY _ _ _ _ (hY _ _ _ _ (?_ : Y 5 [(0, 5, true, 74)] [(5, true, 103), (5, true, 74)] s)))
  refine hY _ _ _ _ (hY _ _ _ _ (?_ : Y 9 [(0, 5, true, 74)] [(0, true, s.2.2.2 74 52), (5, true, 103), (5, true, 74)] s))
  refine hY _ _ _ _ ?_
  refine (And.intro h.1 (And.intro h.2.1 ?_))
  show Y 10 [(0, 5, true, 74)] [(0, true, s.2.2.2 103 (s.2.2.2 74 52)), (5, true, 74)] s
  refine hY _ _ _ _ ?_
  refine hY _ _ _ _ (hY _ _ _ _ (hY _ _ _ _ (?_ : Y 18 [(0, 5, true, 74)] [(5, true, 102), (5, true, 74)] (sM s (hy_u s.2.2.2 74 59 (s.2.2.2 103 (s.2.2.2 74 52)))))))
  refine hY _ _ _ _ (hY _ _ _ _ (?_ : Y 22 [(0, 5, true, 74)] [(0, true, s.2.2.2 74 52), (5, true, 102), (5, true, 74)] (sM s (hy_u s.2.2.2 74 59 (s.2.2.2 103 (s.2.2.2 74 52))))))
  refine hY _ _ _ _ ?_
  refine (And.intro h.2.2.1 (And.intro h.2.2.2.1 ?_))
  show Y 23 [(0, 5, true, 74)] [(0, true, s.2.2.2 102 (s.2.2.2 74 52)), (5, true, 74)] (sM s (hy_u s.2.2.2 74 59 (s.2.2.2 103 (s.2.2.2 74 52))))
  refine hY _ _ _ _ ?_
  refine hY _ _ _ _ (?_ : Y 27 [(0, 5, true, 74)] [(5, true, 74)] (sM s (hy_u (hy_u s.2.2.2 74 59 (s.2.2.2 103 (s.2.2.2 74 52))) 74 52 (s.2.2.2 102 (s.2.2.2 74 52)))))
  refine hY _ _ _ _ ?_
  refine Exists.intro _ (And.intro (wc_257_r74 _ _ h.2.2.2.2) (fun r1 m1 h => ?_))
  show Y 30 [(0, 5, true, 74)] [(2, true, r1)] (sM s m1)
  refine hY _ _ _ _ ?_
  exact hQ r1 m1 h
def we_274 : sFf := sEf 1 [(0, 5, 74)] (fun xs s Q => ap0 (wq_274 s.2.2.2 Q) xs)
theorem we_274_ok : kS dM 8 274 2 (.inl we_274) := sEf_ok (mi := im_m274) rfl rfl rfl (fun R xs s r1 hb => by obtain ⟨rfl, hb⟩ := ap0_ok hb; exact wk_274_0 _ R s (fun x m' hx => ⟨m', rfl, hx⟩) r1 hb)
/-- LMModel.run(I)I -/
def wq_275_128 (x2 : Int) (m : hy_m) (Q : Int → hy_m → Prop) : Prop := (x2 ≠ 0 → (hy_r 0 ((m 74 35) + 1) ∧ (Q 2 (hy_u (hy_u m 74 32 2) 74 35 ((m 74 35) + 1))))) ∧ (x2 = 0 → (((m 74 33) = 0 → (wq_272 3 m (fun _ m1 => Q (m1 74 32) m1))) ∧ ((m 74 33) ≠ 0 → (wq_272 4 m (fun _ m2 => Q (m2 74 32) m2)))))
def wf_275_60 (x1 : Int) (Q : Int → hy_m → Prop) (P60 : Int → Int → hy_m → Prop) (x2 : Int) (x3 : Int) (m : hy_m) : Prop := (x2 = 0 → (wq_275_128 x2 m Q)) ∧ (x2 ≠ 0 → (((m 74 52) = (-9) → (wq_275_128 x2 m Q)) ∧ ((m 74 52) ≠ (-9) → (wq_273 m (fun r1 m1 => (r1 = 0 → (((m1 74 34) ≠ 300 → ((x3 ≠ x1 → (wq_271 m1 (fun r2 m2 => hy_r 0 (x3 + 1) ∧ (P60 r2 (x3 + 1) m2)))) ∧ (x3 = x1 → (Q (m1 74 32) m1)))) ∧ ((m1 74 34) = 300 → (wq_262 3 m1 (fun r3 m3 => P60 r3 x3 m3))))) ∧ (r1 ≠ 0 → (wq_274 m1 (fun r4 m4 => P60 r4 x3 m4))))))))
def wq_275_60 (x1 : Int) (x2 : Int) (x3 : Int) (m : hy_m) (Q : Int → hy_m → Prop) : Prop := wL2 hy_m (wf_275_60 x1 Q) x2 x3 m
def wq_275_32 (x1 : Int) (m : hy_m) (Q : Int → hy_m → Prop) : Prop := ((m 74 32) = 1 → (wq_275_60 x1 1 0 (hy_u m 74 32 1) Q)) ∧ ((m 74 32) ≠ 1 → (wq_257 m (fun r1 m1 => (r1 = 0 → (wq_275_60 x1 0 0 (hy_u m1 74 32 1) Q)) ∧ (r1 ≠ 0 → (wq_275_60 x1 1 0 (hy_u m1 74 32 1) Q)))))
def wq_275 (x1 : Int) (m : hy_m) (Q : Int → hy_m → Prop) : Prop := wq_170 x1 1 300 m (fun r1 m1 => (r1 ≠ 0 → (((m1 74 32) = 1 → (wq_275_32 x1 m1 Q)) ∧ ((m1 74 32) ≠ 1 → (((m1 74 32) = 2 → (wq_275_32 x1 m1 Q)) ∧ ((m1 74 32) ≠ 2 → (Q (-2) m1)))))) ∧ (r1 = 0 → (Q (-1) m1)))
theorem wc_272_r74_0t (x1 : Int) (s : sS) (R : Int → hy_m → Prop) (h : wq_272 x1 s.2.2.2 R) : we_272 [(5, true, 74), (0, true, x1)] s R := h
theorem wc_273_r74 (s : sS) (R : Int → hy_m → Prop) (h : wq_273 s.2.2.2 R) : we_273 [(5, true, 74)] s R := h
theorem wc_271_r74 (s : sS) (R : Int → hy_m → Prop) (h : wq_271 s.2.2.2 R) : we_271 [(5, true, 74)] s R := h
theorem wc_274_r74 (s : sS) (R : Int → hy_m → Prop) (h : wq_274 s.2.2.2 R) : we_274 [(5, true, 74)] s R := h
theorem wc_170_0t_2t_0t (x0 : Int) (x1 : Int) (x2 : Int) (s : sS) (R : Int → hy_m → Prop) (h : wq_170 x0 x1 x2 s.2.2.2 R) : we_170 [(0, true, x0), (2, true, x1), (0, true, x2)] s R := h
def cs_275 : List (Nat × Nat × sFS) := [(170, 2, .inl we_170), (257, 2, .inl we_257), (262, 2, .inl we_262), (271, 2, .inl we_271), (272, 9, .inl we_272), (273, 2, .inl we_273), (274, 2, .inl we_274)]
theorem cs_275_ok : kCs dM 10 cs_275 := (kCs_c (Or.inr (Or.inr (Or.inl rfl))) (we_170_ok.deep (by decide)) (kCs_c (Or.inr (Or.inr (Or.inl rfl))) (we_257_ok.deep (by decide)) (kCs_c (Or.inr (Or.inr (Or.inl rfl))) (we_262_ok.deep (by decide)) (kCs_c (Or.inr (Or.inr (Or.inl rfl))) (we_271_ok.deep (by decide)) (kCs_c (Or.inr (Or.inr (Or.inr (Or.inr rfl)))) (we_272_ok.deep (by decide)) (kCs_c (Or.inr (Or.inr (Or.inl rfl))) (we_273_ok.deep (by decide)) (kCs_c (Or.inr (Or.inr (Or.inl rfl))) (we_274_ok.deep (by decide)) kCs_n)))))))
def lb_275_128 (s : sS) (Q : sQ) (R : Int → hy_m → Prop) (x2 : Int) : Nat → Option (sL → sS → Prop) := sLb []
set_option maxRecDepth 30000 in
set_option maxHeartbeats 1000000 in
theorem wk_275_128 (Q : sQ) (R : Int → hy_m → Prop) (s : sS) (x2 : Int) (hQ : ∀ x m', R x m' → Q x (sM s m')) (hr : sRg [(0, 5, 74), (2, 2, 0)] [x2]) (h : wq_275_128 x2 s.2.2.2 R) : kX dM 10 im_m275 0 128 (sCan [(0, 5, 74), (2, 2, 0)] [x2]) [] s Q := by
  unfold wq_275_128 at h
  refine wz2_ok (cs := cs_275) (wr := []) (lb := lb_275_128 s Q R x2) cs_275_ok kLb_n (okL_can rfl hr) (fun Y hY hl => ?_)
  refine hY _ _ _ _ (?_ : Y 129 [(0, 5, true, 74), (2, 2, true, x2)] [(2, true, x2)] s)
  refine hY _ _ _ _ ?_
  refine And.intro (fun hc => ?_) (fun hc => ?_)
  · have h := h.1 hc
    refine hY _ _ _ _ (hY _ _ _ _ (?_ : Y 155 [(0, 5, true, 74), (2, 2, true, x2)] [(0, true, 2), (5, true, 74)] s))
    refine hY _ _ _ _ ?_
    refine hY _ _ _ _ (hY _ _ _ _ (hY _ _ _ _ (?_ : Y 163 [(0, 5, true, 74), (2, 2, true, x2)] [(0, true, s.2.2.2 74 35), (5, true, 74)] (sM s (hy_u s.2.2.2 74 32 2)))))
    refine hY _ _ _ _ (hY _ _ _ _ (?_ : Y 165 [(0, 5, true, 74), (2, 2, true, x2)] [(0, false, (s.2.2.2 74 35) + 1), (5, true, 74)] (sM s (hy_u s.2.2.2 74 32 2))))
    refine hY _ _ _ _ ?_
    refine And.intro h.1 ?_
    refine hY _ _ _ _ (hY _ _ _ _ (?_ : Y 172 [(0, 5, true, 74), (2, 2, true, x2)] [(0, true, 2)] (sM s (hy_u (hy_u s.2.2.2 74 32 2) 74 35 ((s.2.2.2 74 35) + 1)))))
    refine hY _ _ _ _ ?_
    exact hQ 2 (hy_u (hy_u s.2.2.2 74 32 2) 74 35 ((s.2.2.2 74 35) + 1)) h.2
  · have h := h.2 hc
    refine hY _ _ _ _ (hY _ _ _ _ (hY _ _ _ _ (?_ : Y 137 [(0, 5, true, 74), (2, 2, true, x2)] [(0, true, s.2.2.2 74 33), (5, true, 74)] s)))
    refine hY _ _ _ _ ?_
    refine And.intro (fun hc => ?_) (fun hc => ?_)
    · have h := h.1 hc
      refine hY _ _ _ _ (?_ : Y 145 [(0, 5, true, 74), (2, 2, true, x2)] [(0, true, 3), (5, true, 74)] s)
      refine hY _ _ _ _ ?_
      refine Exists.intro _ (And.intro (wc_272_r74_0t 3 _ _ h) (fun r1 m1 h => ?_))
      refine hY _ _ _ _ (hY _ _ _ _ (?_ : Y 152 [(0, 5, true, 74), (2, 2, true, x2)] [(0, true, m1 74 32)] (sM s m1)))
      refine hY _ _ _ _ ?_
      exact hQ (m1 74 32) m1 h
    · have h := h.2 hc
      refine hY _ _ _ _ (hY _ _ _ _ (?_ : Y 145 [(0, 5, true, 74), (2, 2, true, x2)] [(0, true, 4), (5, true, 74)] s))
      refine hY _ _ _ _ ?_
      refine Exists.intro _ (And.intro (wc_272_r74_0t 4 _ _ h) (fun r2 m2 h => ?_))
      refine hY _ _ _ _ (hY _ _ _ _ (?_ : Y 152 [(0, 5, true, 74), (2, 2, true, x2)] [(0, true, m2 74 32)] (sM s m2)))
      refine hY _ _ _ _ ?_
      exact hQ (m2 74 32) m2 h
def lb_275_60 (s : sS) (Q : sQ) (P60 : Int → Int → hy_m → Prop) (R : Int → hy_m → Prop) (x1 : Int) (x2 : Int) (x3 : Int) : Nat → Option (sL → sS → Prop) := sLb [(128, fun lv t => sG [(0, 5, 74), (2, 2, 0)] lv (ap1 (fun w2 => ∃ m', t = sM s m' ∧ wq_275_128 w2 m' R))), (60, fun lv t => sG [(0, 5, 74), (1, 0, 0), (2, 2, 0), (3, 0, 0)] lv (ap3 (fun w1 w2 w3 => ∃ m', t = sM s m' ∧ w1 = x1 ∧ P60 w2 w3 m')))]
set_option maxRecDepth 30000 in
set_option maxHeartbeats 1000000 in
theorem wj_275_60 (Q : sQ) (R : Int → hy_m → Prop) (s : sS) (P60 : Int → Int → hy_m → Prop) (x1 : Int) (x2 : Int) (x3 : Int) (m : hy_m) (hP60 : ∀ (z2 z3 : Int) (m : hy_m), P60 z2 z3 m → sRg [(0, 5, 74), (1, 0, 0), (2, 2, 0), (3, 0, 0)] [x1, z2, z3] → kX dM 10 im_m275 0 60 (sCan [(0, 5, 74), (1, 0, 0), (2, 2, 0), (3, 0, 0)] [x1, z2, z3]) [] (sM s m) Q) (hQ : ∀ x m', R x m' → Q x (sM s m')) (hr : sRg [(0, 5, 74), (1, 0, 0), (2, 2, 0), (3, 0, 0)] [x1, x2, x3]) (h : wf_275_60 x1 R P60 x2 x3 m) : kX dM 10 im_m275 0 60 (sCan [(0, 5, 74), (1, 0, 0), (2, 2, 0), (3, 0, 0)] [x1, x2, x3]) [] (sM s m) Q := by
  unfold wf_275_60 at h
  refine wz2_ok (cs := cs_275) (wr := []) (lb := lb_275_60 s Q P60 R x1 x2 x3) cs_275_ok (kLb_c (kLab (Bd := fun xs t => ap1 (fun w2 => ∃ m', t = sM s m' ∧ wq_275_128 w2 m' R) xs) rfl (fun xs t r1 r2 hb => by obtain ⟨w2, rfl, hb⟩ := ap1_ok hb; obtain ⟨m', rfl, hx⟩ := hb; exact wk_275_128 Q R (sM s m') _ (fun x m'' hy => hQ x m'' hy) r1 hx)) (kLb_c (kLab (Bd := fun xs t => ap3 (fun w1 w2 w3 => ∃ m', t = sM s m' ∧ w1 = x1 ∧ P60 w2 w3 m') xs) rfl (fun xs t r1 r2 hb => by obtain ⟨w1, w2, w3, rfl, hb⟩ := ap3_ok hb; obtain ⟨m', rfl, rfl, hx⟩ := hb; exact hP60 _ _ m' hx r1)) kLb_n)) (okL_can rfl hr) (fun Y hY hl => ?_)
  have l128 := hl 128 _ rfl
  have l60 := hl 60 _ rfl
  refine hY _ _ _ _ (?_ : Y 61 [(0, 5, true, 74), (1, 0, true, x1), (2, 2, true, x2), (3, 0, true, x3)] [(2, true, x2)] (sM s m))
  refine hY _ _ _ _ ?_
  refine And.intro (fun hc => ?_) (fun hc => ?_)
  · have h := h.1 hc
    show Y 128 [(0, 5, true, 74), (1, 0, true, x1), (2, 2, true, x2), (3, 0, true, x3)] [] (sM s m)
    refine l128 _ _ ?_
    exact (Exists.intro m (And.intro rfl h))
  · have h := h.2 hc
    refine hY _ _ _ _ (hY _ _ _ _ (hY _ _ _ _ (?_ : Y 70 [(0, 5, true, 74), (1, 0, true, x1), (2, 2, true, x2), (3, 0, true, x3)] [(0, true, (-9)), (0, true, m 74 52)] (sM s m))))
    refine hY _ _ _ _ ?_
    refine And.intro (fun hc => ?_) (fun hc => ?_)
    · have h := h.1 hc
      show Y 128 [(0, 5, true, 74), (1, 0, true, x1), (2, 2, true, x2), (3, 0, true, x3)] [] (sM s m)
      refine l128 _ _ ?_
      exact (Exists.intro m (And.intro rfl h))
    · have h := h.2 hc
      refine hY _ _ _ _ (?_ : Y 74 [(0, 5, true, 74), (1, 0, true, x1), (2, 2, true, x2), (3, 0, true, x3)] [(5, true, 74)] (sM s m))
      refine hY _ _ _ _ ?_
      refine Exists.intro _ (And.intro (wc_273_r74 _ _ h) (fun r1 m1 h => ?_))
      show Y 77 [(0, 5, true, 74), (1, 0, true, x1), (2, 2, true, x2), (3, 0, true, x3)] [(2, true, r1)] (sM s m1)
      refine hY _ _ _ _ ?_
      refine And.intro (fun hc => ?_) (fun hc => ?_)
      · have h := h.1 hc
        refine hY _ _ _ _ (hY _ _ _ _ (hY _ _ _ _ (?_ : Y 95 [(0, 5, true, 74), (1, 0, true, x1), (2, 2, true, x2), (3, 0, true, x3)] [(0, true, 300), (0, true, m1 74 34)] (sM s m1))))
        refine hY _ _ _ _ ?_
        refine And.intro (fun hc => ?_) (fun hc => ?_)
        · have h := h.1 hc
          refine hY _ _ _ _ (hY _ _ _ _ (?_ : Y 109 [(0, 5, true, 74), (1, 0, true, x1), (2, 2, true, x2), (3, 0, true, x3)] [(0, true, x1), (0, true, x3)] (sM s m1)))
          refine hY _ _ _ _ ?_
          refine And.intro (fun hc => ?_) (fun hc => ?_)
          · have h := h.1 hc
            refine hY _ _ _ _ (hY _ _ _ _ (?_ : Y 121 [(3, 0, false, x3 + 1), (0, 5, true, 74), (1, 0, true, x1), (2, 2, true, x2)] [(5, true, 74)] (sM s m1)))
            refine hY _ _ _ _ ?_
            refine Exists.intro _ (And.intro (wc_271_r74 _ _ h) (fun r2 m2 h => ?_))
            refine hY _ _ _ _ (hY _ _ _ _ (?_ : Y 60 [(2, 2, true, r2), (3, 0, false, x3 + 1), (0, 5, true, 74), (1, 0, true, x1)] [] (sM s m2)))
            refine l60 _ _ ?_
            refine And.intro h.1 ?_
            exact (Exists.intro m2 (And.intro rfl (And.intro rfl h.2)))
          · have h := h.2 hc
            refine hY _ _ _ _ (hY _ _ _ _ (?_ : Y 116 [(0, 5, true, 74), (1, 0, true, x1), (2, 2, true, x2), (3, 0, true, x3)] [(0, true, m1 74 32)] (sM s m1)))
            refine hY _ _ _ _ ?_
            exact hQ (m1 74 32) m1 h
        · have h := h.2 hc
          refine hY _ _ _ _ (hY _ _ _ _ (?_ : Y 100 [(0, 5, true, 74), (1, 0, true, x1), (2, 2, true, x2), (3, 0, true, x3)] [(0, true, 3), (5, true, 74)] (sM s m1)))
          refine hY _ _ _ _ ?_
          refine Exists.intro _ (And.intro (wc_262_r74_0t 3 _ _ h) (fun r3 m3 h => ?_))
          refine hY _ _ _ _ (hY _ _ _ _ (?_ : Y 60 [(2, 2, true, r3), (0, 5, true, 74), (1, 0, true, x1), (3, 0, true, x3)] [] (sM s m3)))
          refine l60 _ _ ?_
          exact (Exists.intro m3 (And.intro rfl (And.intro rfl h)))
      · have h := h.2 hc
        refine hY _ _ _ _ (?_ : Y 81 [(0, 5, true, 74), (1, 0, true, x1), (2, 2, true, x2), (3, 0, true, x3)] [(5, true, 74)] (sM s m1))
        refine hY _ _ _ _ ?_
        refine Exists.intro _ (And.intro (wc_274_r74 _ _ h) (fun r4 m4 h => ?_))
        refine hY _ _ _ _ (hY _ _ _ _ (?_ : Y 60 [(2, 2, true, r4), (0, 5, true, 74), (1, 0, true, x1), (3, 0, true, x3)] [] (sM s m4)))
        refine l60 _ _ ?_
        exact (Exists.intro m4 (And.intro rfl (And.intro rfl h)))
theorem wk_275_60 (Q : sQ) (R : Int → hy_m → Prop) (s : sS) (x1 : Int) (x2 : Int) (x3 : Int) (hQ : ∀ x m', R x m' → Q x (sM s m')) (hr : sRg [(0, 5, 74), (1, 0, 0), (2, 2, 0), (3, 0, 0)] [x1, x2, x3]) (h : wq_275_60 x1 x2 x3 s.2.2.2 R) : kX dM 10 im_m275 0 60 (sCan [(0, 5, 74), (1, 0, 0), (2, 2, 0), (3, 0, 0)] [x1, x2, x3]) [] s Q :=
  h (fun x2 x3 m => sRg [(0, 5, 74), (1, 0, 0), (2, 2, 0), (3, 0, 0)] [x1, x2, x3] → kX dM 10 im_m275 0 60 (sCan [(0, 5, 74), (1, 0, 0), (2, 2, 0), (3, 0, 0)] [x1, x2, x3]) [] (sM s m) Q) (fun x2 x3 m h hr => wj_275_60 Q R s (fun x2 x3 m => sRg [(0, 5, 74), (1, 0, 0), (2, 2, 0), (3, 0, 0)] [x1, x2, x3] → kX dM 10 im_m275 0 60 (sCan [(0, 5, 74), (1, 0, 0), (2, 2, 0), (3, 0, 0)] [x1, x2, x3]) [] (sM s m) Q) x1 x2 x3 m  (fun _ _ _ hp hr => hp hr) hQ hr h) hr
def lb_275_32 (s : sS) (Q : sQ) (R : Int → hy_m → Prop) (x1 : Int) : Nat → Option (sL → sS → Prop) := sLb [(60, fun lv t => sG [(0, 5, 74), (1, 0, 0), (2, 2, 0), (3, 0, 0)] lv (ap3 (fun w1 w2 w3 => ∃ m', t = sM s m' ∧ wq_275_60 w1 w2 w3 m' R)))]
set_option maxRecDepth 30000 in
set_option maxHeartbeats 1000000 in
theorem wk_275_32 (Q : sQ) (R : Int → hy_m → Prop) (s : sS) (x1 : Int) (hQ : ∀ x m', R x m' → Q x (sM s m')) (hr : sRg [(0, 5, 74), (1, 0, 0)] [x1]) (h : wq_275_32 x1 s.2.2.2 R) : kX dM 10 im_m275 0 32 (sCan [(0, 5, 74), (1, 0, 0)] [x1]) [] s Q := by
  unfold wq_275_32 at h
  refine wz2_ok (cs := cs_275) (wr := []) (lb := lb_275_32 s Q R x1) cs_275_ok (kLb_c (kLab (Bd := fun xs t => ap3 (fun w1 w2 w3 => ∃ m', t = sM s m' ∧ wq_275_60 w1 w2 w3 m' R) xs) rfl (fun xs t r1 r2 hb => by obtain ⟨w1, w2, w3, rfl, hb⟩ := ap3_ok hb; obtain ⟨m', rfl, hx⟩ := hb; exact wk_275_60 Q R (sM s m') _ _ _ (fun x m'' hy => hQ x m'' hy) r1 hx)) kLb_n) (okL_can rfl hr) (fun Y hY hl => ?_)
  have l60 := hl 60 _ rfl
  refine hY _ _ _ _ (hY _ _ _ _ (hY _ _ _ _ (?_ : Y 37 [(0, 5, true, 74), (1, 0, true, x1)] [(2, true, 1), (0, true, s.2.2.2 74 32)] s)))
  refine hY _ _ _ _ ?_
  refine And.intro (fun hc => ?_) (fun hc => ?_)
  · have h := h.1 hc
    refine hY _ _ _ _ (hY _ _ _ _ (hY _ _ _ _ (?_ : Y 53 [(2, 2, true, 1), (0, 5, true, 74), (1, 0, true, x1)] [] s)))
    refine hY _ _ _ _ (hY _ _ _ _ (?_ : Y 55 [(2, 2, true, 1), (0, 5, true, 74), (1, 0, true, x1)] [(2, true, 1), (5, true, 74)] s))
    refine hY _ _ _ _ ?_
    refine hY _ _ _ _ (hY _ _ _ _ (?_ : Y 60 [(3, 2, true, 0), (2, 2, true, 1), (0, 5, true, 74), (1, 0, true, x1)] [] (sM s (hy_u s.2.2.2 74 32 1))))
    refine l60 _ _ ?_
    exact (Exists.intro (hy_u s.2.2.2 74 32 1) (And.intro rfl h))
  · have h := h.2 hc
    refine hY _ _ _ _ (?_ : Y 41 [(0, 5, true, 74), (1, 0, true, x1)] [(5, true, 74)] s)
    refine hY _ _ _ _ ?_
    refine Exists.intro _ (And.intro (wc_257_r74 _ _ h) (fun r1 m1 h => ?_))
    show Y 44 [(0, 5, true, 74), (1, 0, true, x1)] [(2, true, r1)] (sM s m1)
    refine hY _ _ _ _ ?_
    refine And.intro (fun hc => ?_) (fun hc => ?_)
    · have h := h.1 hc
      refine hY _ _ _ _ (hY _ _ _ _ (hY _ _ _ _ (?_ : Y 54 [(2, 2, true, 0), (0, 5, true, 74), (1, 0, true, x1)] [(5, true, 74)] (sM s m1))))
      refine hY _ _ _ _ (?_ : Y 55 [(2, 2, true, 0), (0, 5, true, 74), (1, 0, true, x1)] [(2, true, 1), (5, true, 74)] (sM s m1))
      refine hY _ _ _ _ ?_
      refine hY _ _ _ _ (hY _ _ _ _ (?_ : Y 60 [(3, 2, true, 0), (2, 2, true, 0), (0, 5, true, 74), (1, 0, true, x1)] [] (sM s (hy_u m1 74 32 1))))
      refine l60 _ _ ?_
      exact (Exists.intro (hy_u m1 74 32 1) (And.intro rfl h))
    · have h := h.2 hc
      refine hY _ _ _ _ (hY _ _ _ _ (hY _ _ _ _ (?_ : Y 53 [(2, 2, true, 1), (0, 5, true, 74), (1, 0, true, x1)] [] (sM s m1))))
      refine hY _ _ _ _ (hY _ _ _ _ (?_ : Y 55 [(2, 2, true, 1), (0, 5, true, 74), (1, 0, true, x1)] [(2, true, 1), (5, true, 74)] (sM s m1)))
      refine hY _ _ _ _ ?_
      refine hY _ _ _ _ (hY _ _ _ _ (?_ : Y 60 [(3, 2, true, 0), (2, 2, true, 1), (0, 5, true, 74), (1, 0, true, x1)] [] (sM s (hy_u m1 74 32 1))))
      refine l60 _ _ ?_
      exact (Exists.intro (hy_u m1 74 32 1) (And.intro rfl h))
def lb_275_0 (s : sS) (Q : sQ) (R : Int → hy_m → Prop) (x1 : Int) : Nat → Option (sL → sS → Prop) := sLb [(32, fun lv t => sG [(0, 5, 74), (1, 0, 0)] lv (ap1 (fun w1 => ∃ m', t = sM s m' ∧ wq_275_32 w1 m' R)))]
set_option maxRecDepth 30000 in
set_option maxHeartbeats 1000000 in
theorem wk_275_0 (Q : sQ) (R : Int → hy_m → Prop) (s : sS) (x1 : Int) (hQ : ∀ x m', R x m' → Q x (sM s m')) (hr : sRg [(0, 5, 74), (1, 0, 0)] [x1]) (h : wq_275 x1 s.2.2.2 R) : kX dM 10 im_m275 0 0 (sCan [(0, 5, 74), (1, 0, 0)] [x1]) [] s Q := by
  unfold wq_275 at h
  refine wz2_ok (cs := cs_275) (wr := []) (lb := lb_275_0 s Q R x1) cs_275_ok (kLb_c (kLab (Bd := fun xs t => ap1 (fun w1 => ∃ m', t = sM s m' ∧ wq_275_32 w1 m' R) xs) rfl (fun xs t r1 r2 hb => by obtain ⟨w1, rfl, hb⟩ := ap1_ok hb; obtain ⟨m', rfl, hx⟩ := hb; exact wk_275_32 Q R (sM s m') _ (fun x m'' hy => hQ x m'' hy) r1 hx)) kLb_n) (okL_can rfl hr) (fun Y hY hl => ?_)
  have l32 := hl 32 _ rfl
  refine hY _ _ _ _ (hY _ _ _ _ (hY _ _ _ _ (?_ : Y 5 [(0, 5, true, 74), (1, 0, true, x1)] [(0, true, 300), (2, true, 1), (0, true, x1)] s)))
  refine hY _ _ _ _ ?_
  refine Exists.intro _ (And.intro (wc_170_0t_2t_0t x1 1 300 _ _ h) (fun r1 m1 h => ?_))
  show Y 8 [(0, 5, true, 74), (1, 0, true, x1)] [(2, true, r1)] (sM s m1)
  refine hY _ _ _ _ ?_
  refine And.intro (fun hc => ?_) (fun hc => ?_)
  · have h := h.1 hc
    refine hY _ _ _ _ (hY _ _ _ _ (hY _ _ _ _ (?_ : Y 18 [(0, 5, true, 74), (1, 0, true, x1)] [(2, true, 1), (0, true, m1 74 32)] (sM s m1))))
    refine hY _ _ _ _ ?_
    refine And.intro (fun hc => ?_) (fun hc => ?_)
    · have h := h.1 hc
      show Y 32 [(0, 5, true, 74), (1, 0, true, x1)] [] (sM s m1)
      refine l32 _ _ ?_
      exact (Exists.intro m1 (And.intro rfl h))
    · have h := h.2 hc
      refine hY _ _ _ _ (hY _ _ _ _ (hY _ _ _ _ (?_ : Y 26 [(0, 5, true, 74), (1, 0, true, x1)] [(0, true, 2), (0, true, m1 74 32)] (sM s m1))))
      refine hY _ _ _ _ ?_
      refine And.intro (fun hc => ?_) (fun hc => ?_)
      · have h := h.1 hc
        show Y 32 [(0, 5, true, 74), (1, 0, true, x1)] [] (sM s m1)
        refine l32 _ _ ?_
        exact (Exists.intro m1 (And.intro rfl h))
      · have h := h.2 hc
        refine hY _ _ _ _ (?_ : Y 31 [(0, 5, true, 74), (1, 0, true, x1)] [(0, true, (-2))] (sM s m1))
        refine hY _ _ _ _ ?_
        exact hQ (-2) m1 h
  · have h := h.2 hc
    refine hY _ _ _ _ (?_ : Y 12 [(0, 5, true, 74), (1, 0, true, x1)] [(0, true, (-1))] (sM s m1))
    refine hY _ _ _ _ ?_
    exact hQ (-1) m1 h
def we_275 : sFf := sEf 4 [(0, 5, 74), (1, 0, 0)] (fun xs s Q => ap1 (fun x1 => wq_275 x1 s.2.2.2 Q) xs)
theorem we_275_ok : kS dM 11 275 0 (.inl we_275) := sEf_ok (mi := im_m275) rfl rfl rfl (fun R xs s r1 hb => by obtain ⟨x1, rfl, hb⟩ := ap1_ok hb; exact wk_275_0 _ R s x1 (fun x m' hx => ⟨m', rfl, hx⟩) r1 hb)
