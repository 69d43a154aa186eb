/-- LM$Search.goalsLeft(LLogicMachine$Frame;)I -/
def wq_103 (x1 : Int) (T : hy_T) (m : hy_m) (Q : Int → hy_m → Prop) : Prop := T.1 (x1).toNat = some (4, 5) ∧ ((0 ≤ (m ((x1).toNat) 0) → (T.1 (x1).toNat = some (4, 5) ∧ (wq_127 (m ((x1).toNat) 0) T m (fun r1 m1 => T.1 (r1).toNat = some (3, 9) ∧ (∃ t2 n2 : Nat, T.1 (m1 ((r1).toNat) 4).toNat = some (t2, n2) ∧ 99 ≤ t2 ∧ (T.1 (x1).toNat = some (4, 5) ∧ (hy_r 0 ((n2 : Int) - (m1 ((x1).toNat) 1)) ∧ (Q ((n2 : Int) - (m1 ((x1).toNat) 1)) m1)))))))) ∧ ((m ((x1).toNat) 0) < 0 → (T.1 (x1).toNat = some (4, 5) ∧ (((m ((x1).toNat) 0) ≠ (-1) → (Q 1 m)) ∧ ((m ((x1).toNat) 0) = (-1) → (Q 2 m))))))
def cs_103 : List (Nat × Nat × sFS) := [(127, 3, .inl we_127)]
theorem cs_103_ok : kCs dC 1 cs_103 := (kCs_c (Or.inr (Or.inr (Or.inr (Or.inl rfl)))) (we_127_ok.deep (by decide)) kCs_n)
def lb_103_0 (s : sS) (Q : sQ) (R : Int → hy_m → Prop) (x1 : Int) : Nat → Option (sL → sS → Prop) := sLb []
set_option maxRecDepth 30000 in
set_option maxHeartbeats 1000000 in
theorem wk_103_0 (Q : sQ) (R : Int → hy_m → Prop) (s : sS) (x1 : Int) (hQ : ∀ x m', R x m' → Q x (sM s m')) (hr : sRg [(0, 5, 36), (1, 3, 0)] [x1]) (h : wq_103 x1 s.1 s.2.2.2 R) : kX dC 1 im_m103 0 0 (sCan [(0, 5, 36), (1, 3, 0)] [x1]) [] s Q := by
  unfold wq_103 at h
  refine wz2_ok (cs := cs_103) (wr := []) (lb := lb_103_0 s Q R x1) cs_103_ok kLb_n (okL_can rfl hr) (fun Y hY hl => ?_)
  refine hY _ _ _ _ (?_ : Y 1 [(0, 5, true, 36), (1, 3, true, x1)] [(3, true, x1)] s)
  refine hY _ _ _ _ ?_
  refine (And.intro h.1 ?_)
  show Y 4 [(0, 5, true, 36), (1, 3, true, x1)] [(0, true, s.2.2.2 ((x1).toNat) 0)] s
  refine hY _ _ _ _ ?_
  refine And.intro (fun hc => ?_) (fun hc => ?_)
  · have h := h.2.1 hc
    refine hY _ _ _ _ (hY _ _ _ _ (hY _ _ _ _ (?_ : Y 26 [(0, 5, true, 36), (1, 3, true, x1)] [(3, true, x1), (5, true, 41)] s)))
    refine hY _ _ _ _ ?_
    refine (And.intro h.1 ?_)
    show Y 29 [(0, 5, true, 36), (1, 3, true, x1)] [(0, true, s.2.2.2 ((x1).toNat) 0), (5, true, 41)] s
    refine hY _ _ _ _ ?_
    refine Exists.intro _ (And.intro (wc_127_r41_0t (s.2.2.2 ((x1).toNat) 0) _ _ h.2) (fun r1 m1 h => ?_))
    show Y 32 [(0, 5, true, 36), (1, 3, true, x1)] [(3, true, r1)] (sM s m1)
    refine hY _ _ _ _ ?_
    refine (And.intro h.1 ?_)
    show Y 35 [(0, 5, true, 36), (1, 3, true, x1)] [(3, true, m1 ((r1).toNat) 4)] (sM s m1)
    refine hY _ _ _ _ ?_
    obtain ⟨t2, n2, h⟩ := h.2
    refine Exists.intro t2 (Exists.intro n2 (And.intro h.1 (And.intro h.2.1 ?_)))
    refine hY _ _ _ _ (?_ : Y 37 [(0, 5, true, 36), (1, 3, true, x1)] [(3, true, x1), (0, true, (n2 : Int))] (sM s m1))
    refine hY _ _ _ _ ?_
    refine (And.intro h.2.2.1 ?_)
    refine hY _ _ _ _ (?_ : Y 41 [(0, 5, true, 36), (1, 3, true, x1)] [(0, false, (n2 : Int) - (m1 ((x1).toNat) 1))] (sM s m1))
    refine hY _ _ _ _ ?_
    refine And.intro h.2.2.2.1 ?_
    exact hQ ((n2 : Int) - (m1 ((x1).toNat) 1)) m1 h.2.2.2.2
  · have h := h.2.2 hc
    refine hY _ _ _ _ (?_ : Y 8 [(0, 5, true, 36), (1, 3, true, x1)] [(3, true, x1)] s)
    refine hY _ _ _ _ ?_
    refine (And.intro h.1 ?_)
    refine hY _ _ _ _ (?_ : Y 12 [(0, 5, true, 36), (1, 3, true, x1)] [(0, true, (-1)), (0, true, s.2.2.2 ((x1).toNat) 0)] s)
    refine hY _ _ _ _ ?_
    refine And.intro (fun hc => ?_) (fun hc => ?_)
    · have h := h.2.1 hc
      refine hY _ _ _ _ (?_ : Y 20 [(0, 5, true, 36), (1, 3, true, x1)] [(2, true, 1)] s)
      refine hY _ _ _ _ ?_
      exact hQ 1 s.2.2.2 h
    · have h := h.2.2 hc
      refine hY _ _ _ _ (hY _ _ _ _ (?_ : Y 20 [(0, 5, true, 36), (1, 3, true, x1)] [(0, true, 2)] s))
      refine hY _ _ _ _ ?_
      exact hQ 2 s.2.2.2 h
def we_103 : sFf := sEf 2 [(0, 5, 36), (1, 3, 0)] (fun xs s Q => ap1 (fun x1 => wq_103 x1 s.1 s.2.2.2 Q) xs)
theorem we_103_ok : kS dC 2 103 0 (.inl we_103) := sEf_ok (mi := im_m103) rfl rfl rfl (fun R xs s r1 hb => by obtain ⟨x1, rfl, hb⟩ := ap1_ok hb; exact wk_103_0 _ R s x1 (fun x m' hx => ⟨m', rfl, hx⟩) r1 hb)
/-- LM$Search.dropGoal(LLogicMachine$Frame;)V -/
def wq_92 (x1 : Int) (s : sS) (Q : sQ) : Prop := s.1.1 (x1).toNat = some (4, 5) ∧ (((s.2.2.2 ((x1).toNat) 0) ≠ (-1) → (wq_103 x1 s.1 s.2.2.2 (fun r1 m1 => (r1 ≤ 1 → (s.1.1 (x1).toNat = some (4, 5) ∧ (Q 0 (s.1, s.2.1, s.2.2.1, hy_u m1 36 6 (m1 ((x1).toNat) 2))))) ∧ (1 < r1 → (s.1.1 (x1).toNat = some (4, 5) ∧ (s.1.1 (x1).toNat = some (4, 5) ∧ (s.1.1 (x1).toNat = some (4, 5) ∧ (s.1.1 (x1).toNat = some (4, 5) ∧ (hy_r 0 ((m1 ((x1).toNat) 1) + 1) ∧ (wq_102 (m1 ((x1).toNat) 0) ((m1 ((x1).toNat) 1) + 1) (m1 ((x1).toNat) 2) (m1 ((x1).toNat) 3) (s.1, s.2.1, s.2.2.1, m1) (fun r2 s2 => Q 0 (s2.1, s2.2.1, s2.2.2.1, hy_u s2.2.2.2 36 6 r2)))))))))))) ∧ ((s.2.2.2 ((x1).toNat) 0) = (-1) → (s.1.1 (x1).toNat = some (4, 5) ∧ (s.1.1 (x1).toNat = some (4, 5) ∧ (wq_102 (-2) 0 (s.2.2.2 ((x1).toNat) 2) (s.2.2.2 ((x1).toNat) 3) s (fun r3 s3 => Q 0 (s3.1, s3.2.1, s3.2.2.1, hy_u s3.2.2.2 36 6 r3)))))))
theorem wc_103_r36_3t (x1 : Int) (s : sS) (R : Int → hy_m → Prop) (h : wq_103 x1 s.1 s.2.2.2 R) : we_103 [(5, true, 36), (3, true, x1)] s R := h
theorem wc_102_r36_0t_0f_3t_0t (x1 : Int) (x2 : Int) (x3 : Int) (x4 : Int) (s : sS) (R : Int → sS → Prop) (h : hy_r 0 x2 ∧ wq_102 x1 x2 x3 x4 s R) : we_102 [(5, true, 36), (0, true, x1), (0, false, x2), (3, true, x3), (0, true, x4)] s R := h
def cs_92 : List (Nat × Nat × sFS) := [(102, 3, .inr we_102), (103, 0, .inl we_103)]
theorem cs_92_ok : kCs dC 2 cs_92 := (kCs_c (Or.inr (Or.inr (Or.inr (Or.inl rfl)))) (we_102_ok.deep (by decide)) (kCs_c (Or.inl rfl) (we_103_ok.deep (by decide)) kCs_n))
def lb_92_0 (s : sS) (Q : sQ) (x1 : Int) : Nat → Option (sL → sS → Prop) := sLb []
set_option maxRecDepth 30000 in
set_option maxHeartbeats 1000000 in
theorem wk_92_0 (Q : sQ) (s : sS) (x1 : Int) (hr : sRg [(0, 5, 36), (1, 3, 0)] [x1]) (h : wq_92 x1 s Q) : kX dC 2 im_m92 9 0 (sCan [(0, 5, 36), (1, 3, 0)] [x1]) [] s Q := by
  unfold wq_92 at h
  refine wz2_ok (cs := cs_92) (wr := []) (lb := lb_92_0 s Q x1) cs_92_ok kLb_n (okL_can rfl hr) (fun Y hY hl => ?_)
  refine hY _ _ _ _ (?_ : Y 1 [(0, 5, true, 36), (1, 3, true, x1)] [(3, true, x1)] s)
  refine hY _ _ _ _ ?_
  refine (And.intro h.1 ?_)
  refine hY _ _ _ _ (?_ : Y 5 [(0, 5, true, 36), (1, 3, true, x1)] [(0, true, (-1)), (0, true, s.2.2.2 ((x1).toNat) 0)] s)
  refine hY _ _ _ _ ?_
  refine And.intro (fun hc => ?_) (fun hc => ?_)
  · have h := h.2.1 hc
    refine hY _ _ _ _ (hY _ _ _ _ (?_ : Y 32 [(0, 5, true, 36), (1, 3, true, x1)] [(3, true, x1), (5, true, 36)] s))
    refine hY _ _ _ _ ?_
    refine Exists.intro _ (And.intro (wc_103_r36_3t x1 _ _ h) (fun r1 m1 h => ?_))
    refine hY _ _ _ _ (?_ : Y 36 [(0, 5, true, 36), (1, 3, true, x1)] [(2, true, 1), (0, true, r1)] (s.1, s.2.1, s.2.2.1, m1))
    refine hY _ _ _ _ ?_
    refine And.intro (fun hc => ?_) (fun hc => ?_)
    · have h := h.1 hc
      refine hY _ _ _ _ (hY _ _ _ _ (?_ : Y 70 [(0, 5, true, 36), (1, 3, true, x1)] [(3, true, x1), (5, true, 36)] (s.1, s.2.1, s.2.2.1, m1)))
      refine hY _ _ _ _ ?_
      refine (And.intro h.1 ?_)
      show Y 73 [(0, 5, true, 36), (1, 3, true, x1)] [(3, true, m1 ((x1).toNat) 2), (5, true, 36)] (s.1, s.2.1, s.2.2.1, m1)
      refine hY _ _ _ _ ?_
      show Y 76 [(0, 5, true, 36), (1, 3, true, x1)] [] (s.1, s.2.1, s.2.2.1, hy_u m1 36 6 (m1 ((x1).toNat) 2))
      refine hY _ _ _ _ ?_
      exact h.2
    · have h := h.2 hc
      refine hY _ _ _ _ (hY _ _ _ _ (hY _ _ _ _ (?_ : Y 42 [(0, 5, true, 36), (1, 3, true, x1)] [(3, true, x1), (5, true, 36), (5, true, 36)] (s.1, s.2.1, s.2.2.1, m1))))
      refine hY _ _ _ _ ?_
      refine (And.intro h.1 ?_)
      refine hY _ _ _ _ (?_ : Y 46 [(0, 5, true, 36), (1, 3, true, x1)] [(3, true, x1), (0, true, m1 ((x1).toNat) 0), (5, true, 36), (5, true, 36)] (s.1, s.2.1, s.2.2.1, m1))
      refine hY _ _ _ _ ?_
      refine (And.intro h.2.1 ?_)
      refine hY _ _ _ _ (hY _ _ _ _ (hY _ _ _ _ (?_ : Y 52 [(0, 5, true, 36), (1, 3, true, x1)] [(3, true, x1), (0, false, (m1 ((x1).toNat) 1) + 1), (0, true, m1 ((x1).toNat) 0), (5, true, 36), (5, true, 36)] (s.1, s.2.1, s.2.2.1, m1))))
      refine hY _ _ _ _ ?_
      refine (And.intro h.2.2.1 ?_)
      refine hY _ _ _ _ (?_ : Y 56 [(0, 5, true, 36), (1, 3, true, x1)] [(3, true, x1), (3, true, m1 ((x1).toNat) 2), (0, false, (m1 ((x1).toNat) 1) + 1), (0, true, m1 ((x1).toNat) 0), (5, true, 36), (5, true, 36)] (s.1, s.2.1, s.2.2.1, m1))
      refine hY _ _ _ _ ?_
      refine (And.intro h.2.2.2.1 ?_)
      show Y 59 [(0, 5, true, 36), (1, 3, true, x1)] [(0, true, m1 ((x1).toNat) 3), (3, true, m1 ((x1).toNat) 2), (0, false, (m1 ((x1).toNat) 1) + 1), (0, true, m1 ((x1).toNat) 0), (5, true, 36), (5, true, 36)] (s.1, s.2.1, s.2.2.1, m1)
      refine hY _ _ _ _ ?_
      refine Exists.intro _ (And.intro (wc_102_r36_0t_0f_3t_0t (m1 ((x1).toNat) 0) ((m1 ((x1).toNat) 1) + 1) (m1 ((x1).toNat) 2) (m1 ((x1).toNat) 3) _ _ h.2.2.2.2) (fun r2 s2 h => ?_))
      show Y 62 [(0, 5, true, 36), (1, 3, true, x1)] [(3, true, r2), (5, true, 36)] s2
      refine hY _ _ _ _ ?_
      refine hY _ _ _ _ (?_ : Y 76 [(0, 5, true, 36), (1, 3, true, x1)] [] (s2.1, s2.2.1, s2.2.2.1, hy_u s2.2.2.2 36 6 r2))
      refine hY _ _ _ _ ?_
      exact h
  · have h := h.2.2 hc
    refine hY _ _ _ _ (hY _ _ _ _ (hY _ _ _ _ (?_ : Y 12 [(0, 5, true, 36), (1, 3, true, x1)] [(0, true, (-2)), (5, true, 36), (5, true, 36)] s)))
    refine hY _ _ _ _ (hY _ _ _ _ (?_ : Y 14 [(0, 5, true, 36), (1, 3, true, x1)] [(3, true, x1), (2, true, 0), (0, true, (-2)), (5, true, 36), (5, true, 36)] s))
    refine hY _ _ _ _ ?_
    refine (And.intro h.1 ?_)
    refine hY _ _ _ _ (?_ : Y 18 [(0, 5, true, 36), (1, 3, true, x1)] [(3, true, x1), (3, true, s.2.2.2 ((x1).toNat) 2), (2, true, 0), (0, true, (-2)), (5, true, 36), (5, true, 36)] s)
    refine hY _ _ _ _ ?_
    refine (And.intro h.2.1 ?_)
    show Y 21 [(0, 5, true, 36), (1, 3, true, x1)] [(0, true, s.2.2.2 ((x1).toNat) 3), (3, true, s.2.2.2 ((x1).toNat) 2), (2, true, 0), (0, true, (-2)), (5, true, 36), (5, true, 36)] s
    refine hY _ _ _ _ ?_
    refine Exists.intro _ (And.intro (wc_102_r36_0t_2t_3t_0t (-2) 0 (s.2.2.2 ((x1).toNat) 2) (s.2.2.2 ((x1).toNat) 3) _ _ h.2.2) (fun r3 s3 h => ?_))
    show Y 24 [(0, 5, true, 36), (1, 3, true, x1)] [(3, true, r3), (5, true, 36)] s3
    refine hY _ _ _ _ ?_
    refine hY _ _ _ _ (?_ : Y 76 [(0, 5, true, 36), (1, 3, true, x1)] [] (s3.1, s3.2.1, s3.2.2.1, hy_u s3.2.2.2 36 6 r3))
    refine hY _ _ _ _ ?_
    exact h
def we_92 : sF := sE 2 [(0, 5, 36), (1, 3, 0)] (fun xs s Q => ap1 (fun x1 => wq_92 x1 s Q) xs)
theorem we_92_ok : kS dC 3 92 9 (.inr we_92) := sE_ok (mi := im_m92) rfl rfl rfl (fun Q xs s r1 hb => by obtain ⟨x1, rfl, hb⟩ := ap1_ok hb; exact wk_92_0 Q s x1 r1 hb)
/-- LM$Search.takeGoal(LLogicMachine$Frame;)I -/
def wf_90_76 (Q : sQ) (P76 : Int → Int → sS → Prop) (x2 : Int) (x3 : Int) (s : sS) : Prop := (1000000 ≤ x3 → (Q x2 s)) ∧ (x3 < 1000000 → (wq_130 x2 s.1 s.2.2.2 (fun r1 m1 => (r1 ≠ 913097613 → (Q x2 (s.1, s.2.1, s.2.2.1, m1))) ∧ (r1 = 913097613 → (wq_132 x2 0 s.1 (hy_u m1 36 9 (m1 36 8)) (fun r2 m2 => wq_124 r2 s.1 m2 (fun r3 m3 => wq_129 r3 s.1 m3 (fun r4 m4 => wq_130 r3 s.1 m4 (fun r5 m5 => wq_24 r4 r5 m5 (fun r6 m6 => (r6 ≠ 0 → (hy_r 0 (x3 + 1) ∧ (P76 r3 (x3 + 1) (s.1, s.2.1, s.2.2.1, m6)))) ∧ (r6 = 0 → (Q (-9) (s.1, s.2.1, s.2.2.1, m6)))))))))))))
def wq_90_76 (x2 : Int) (x3 : Int) (s : sS) (Q : sQ) : Prop := wL2 sS (wf_90_76 Q) x2 x3 s
def wq_90 (x1 : Int) (s : sS) (Q : sQ) : Prop := hy_r 0 ((s.2.2.2 36 12) + 1) ∧ (s.1.1 (x1).toNat = some (4, 5) ∧ (wq_91 x1 s.1 (hy_u (hy_u (hy_u s.2.2.2 36 12 ((s.2.2.2 36 12) + 1)) 36 15 (if (s.2.2.2 36 15) < ((hy_u s.2.2.2 36 12 ((s.2.2.2 36 12) + 1)) ((x1).toNat) 4) then ((hy_u s.2.2.2 36 12 ((s.2.2.2 36 12) + 1)) ((x1).toNat) 4) else (s.2.2.2 36 15))) 36 16 (if (s.2.2.2 36 16) < (s.2.2.2 36 8) then (s.2.2.2 36 8) else (s.2.2.2 36 16))) (fun r1 m1 => wq_92 x1 (s.1, s.2.1, s.2.2.1, m1) (fun _ s2 => s2.1.1 (x1).toNat = some (4, 5) ∧ (((s2.2.2.2 ((x1).toNat) 0) ≠ (-1) → (s2.1.1 (x1).toNat = some (4, 5) ∧ (wq_90_76 r1 0 (s2.1, s2.2.1, s2.2.2.1, hy_u s2.2.2.2 36 9 (s2.2.2.2 ((x1).toNat) 3)) Q))) ∧ ((s2.2.2.2 ((x1).toNat) 0) = (-1) → (wq_90_76 r1 0 (s2.1, s2.2.1, s2.2.2.1, hy_u s2.2.2.2 36 9 (s2.2.2.2 36 8)) Q)))))))
theorem wc_132_r41_0t_2t (x1 : Int) (x2 : Int) (s : sS) (R : Int → hy_m → Prop) (h : wq_132 x1 x2 s.1 s.2.2.2 R) : we_132 [(5, true, 41), (0, true, x1), (2, true, x2)] s R := h
theorem wc_91_r36_3t (x1 : Int) (s : sS) (R : Int → hy_m → Prop) (h : wq_91 x1 s.1 s.2.2.2 R) : we_91 [(5, true, 36), (3, true, x1)] s R := h
theorem wc_92_r36_3t (x1 : Int) (s : sS) (R : Int → sS → Prop) (h : wq_92 x1 s R) : we_92 [(5, true, 36), (3, true, x1)] s R := h
def cs_90 : List (Nat × Nat × sFS) := [(24, 2, .inl we_24), (91, 0, .inl we_91), (92, 9, .inr we_92), (124, 0, .inl we_124), (129, 0, .inl we_129), (130, 1, .inl we_130), (132, 0, .inl we_132)]
theorem cs_90_ok : kCs dC 3 cs_90 := (kCs_c (Or.inr (Or.inr (Or.inl rfl))) (we_24_ok.deep (by decide)) (kCs_c (Or.inl rfl) (we_91_ok.deep (by decide)) (kCs_c (Or.inr (Or.inr (Or.inr (Or.inr rfl)))) (we_92_ok.deep (by decide)) (kCs_c (Or.inl rfl) (we_124_ok.deep (by decide)) (kCs_c (Or.inl rfl) (we_129_ok.deep (by decide)) (kCs_c (Or.inr (Or.inl rfl)) (we_130_ok.deep (by decide)) (kCs_c (Or.inl rfl) (we_132_ok.deep (by decide)) kCs_n)))))))
def lb_90_76 (s : sS) (Q : sQ) (P76 : Int → Int → sS → Prop) (x2 : Int) (x3 : Int) : Nat → Option (sL → sS → Prop) := sLb [(76, fun lv t => sG [(0, 5, 36), (2, 0, 0), (3, 0, 0)] lv (ap2 (fun w2 w3 => P76 w2 w3 t)))]
set_option maxRecDepth 30000 in
set_option maxHeartbeats 1000000 in
theorem wj_90_76 (Q : sQ) (s : sS) (P76 : Int → Int → sS → Prop) (x2 : Int) (x3 : Int) (hP76 : ∀ (z2 z3 : Int) (t : sS), P76 z2 z3 t → sRg [(0, 5, 36), (2, 0, 0), (3, 0, 0)] [z2, z3] → kX dC 3 im_m90 0 76 (sCan [(0, 5, 36), (2, 0, 0), (3, 0, 0)] [z2, z3]) [] t Q) (hr : sRg [(0, 5, 36), (2, 0, 0), (3, 0, 0)] [x2, x3]) (h : wf_90_76 Q P76 x2 x3 s) : kX dC 3 im_m90 0 76 (sCan [(0, 5, 36), (2, 0, 0), (3, 0, 0)] [x2, x3]) [] s Q := by
  unfold wf_90_76 at h
  refine wz2_ok (cs := cs_90) (wr := []) (lb := lb_90_76 s Q P76 x2 x3) cs_90_ok (kLb_c (kLab (Bd := fun xs t => ap2 (fun w2 w3 => P76 w2 w3 t) xs) rfl (fun xs t r1 r2 hb => by obtain ⟨w2, w3, rfl, hb⟩ := ap2_ok hb; exact hP76 _ _ t hb r1)) kLb_n) (okL_can rfl hr) (fun Y hY hl => ?_)
  have l76 := hl 76 _ rfl
  refine hY _ _ _ _ (hY _ _ _ _ (?_ : Y 79 [(0, 5, true, 36), (2, 0, true, x2), (3, 0, true, x3)] [(0, true, 1000000), (0, true, x3)] s))
  refine hY _ _ _ _ ?_
  refine And.intro (fun hc => ?_) (fun hc => ?_)
  · have h := h.1 hc
    refine hY _ _ _ _ (?_ : Y 154 [(0, 5, true, 36), (2, 0, true, x2), (3, 0, true, x3)] [(0, true, x2)] s)
    refine hY _ _ _ _ ?_
    exact h
  · have h := h.2 hc
    refine hY _ _ _ _ (hY _ _ _ _ (hY _ _ _ _ (?_ : Y 87 [(0, 5, true, 36), (2, 0, true, x2), (3, 0, true, x3)] [(0, true, x2), (5, true, 41)] s)))
    refine hY _ _ _ _ ?_
    refine Exists.intro _ (And.intro (wc_130_r41_0t x2 _ _ h) (fun r1 m1 h => ?_))
    refine hY _ _ _ _ (?_ : Y 93 [(0, 5, true, 36), (2, 0, true, x2), (3, 0, true, x3)] [(1, true, 913097613), (1, true, r1)] (s.1, s.2.1, s.2.2.1, m1))
    refine hY _ _ _ _ ?_
    refine And.intro (fun hc => ?_) (fun hc => ?_)
    · have h := h.1 hc
      refine hY _ _ _ _ (?_ : Y 154 [(0, 5, true, 36), (2, 0, true, x2), (3, 0, true, x3)] [(0, true, x2)] (s.1, s.2.1, s.2.2.1, m1))
      refine hY _ _ _ _ ?_
      exact h
    · have h := h.2 hc
      refine hY _ _ _ _ (hY _ _ _ _ (hY _ _ _ _ (?_ : Y 102 [(0, 5, true, 36), (2, 0, true, x2), (3, 0, true, x3)] [(0, true, m1 36 8), (5, true, 36)] (s.1, s.2.1, s.2.2.1, m1))))
      refine hY _ _ _ _ ?_
      refine hY _ _ _ _ (hY _ _ _ _ (hY _ _ _ _ (?_ : Y 110 [(0, 5, true, 36), (2, 0, true, x2), (3, 0, true, x3)] [(5, true, 36), (5, true, 41)] (s.1, s.2.1, s.2.2.1, hy_u m1 36 9 (m1 36 8)))))
      refine hY _ _ _ _ (hY _ _ _ _ (hY _ _ _ _ (?_ : Y 115 [(0, 5, true, 36), (2, 0, true, x2), (3, 0, true, x3)] [(2, true, 0), (0, true, x2), (5, true, 41), (5, true, 41)] (s.1, s.2.1, s.2.2.1, hy_u m1 36 9 (m1 36 8)))))
      refine hY _ _ _ _ ?_
      refine Exists.intro _ (And.intro (wc_132_r41_0t_2t x2 0 _ _ h) (fun r2 m2 h => ?_))
      show Y 118 [(0, 5, true, 36), (2, 0, true, x2), (3, 0, true, x3)] [(0, true, r2), (5, true, 41)] (s.1, s.2.1, s.2.2.1, m2)
      refine hY _ _ _ _ ?_
      refine Exists.intro _ (And.intro (wc_124_r41_0t r2 _ _ h) (fun r3 m3 h => ?_))
      refine hY _ _ _ _ (hY _ _ _ _ (hY _ _ _ _ (?_ : Y 126 [(2, 0, true, r3), (0, 5, true, 36), (3, 0, true, x3)] [(5, true, 41)] (s.1, s.2.1, s.2.2.1, m3))))
      refine hY _ _ _ _ (?_ : Y 127 [(2, 0, true, r3), (0, 5, true, 36), (3, 0, true, x3)] [(0, true, r3), (5, true, 41)] (s.1, s.2.1, s.2.2.1, m3))
      refine hY _ _ _ _ ?_
      refine Exists.intro _ (And.intro (wc_129_r41_0t r3 _ _ h) (fun r4 m4 h => ?_))
      refine hY _ _ _ _ (hY _ _ _ _ (hY _ _ _ _ (?_ : Y 135 [(2, 0, true, r3), (0, 5, true, 36), (3, 0, true, x3)] [(0, true, r3), (5, true, 41), (0, true, r4)] (s.1, s.2.1, s.2.2.1, m4))))
      refine hY _ _ _ _ ?_
      refine Exists.intro _ (And.intro (wc_130_r41_0t r3 _ _ h) (fun r5 m5 h => ?_))
      show Y 138 [(2, 0, true, r3), (0, 5, true, 36), (3, 0, true, x3)] [(1, true, r5), (0, true, r4)] (s.1, s.2.1, s.2.2.1, m5)
      refine hY _ _ _ _ ?_
      refine Exists.intro _ (And.intro (wc_24_0t_1t r4 r5 _ _ h) (fun r6 m6 h => ?_))
      show Y 141 [(2, 0, true, r3), (0, 5, true, 36), (3, 0, true, x3)] [(2, true, r6)] (s.1, s.2.1, s.2.2.1, m6)
      refine hY _ _ _ _ ?_
      refine And.intro (fun hc => ?_) (fun hc => ?_)
      · have h := h.1 hc
        refine hY _ _ _ _ (hY _ _ _ _ (?_ : Y 76 [(3, 0, false, x3 + 1), (2, 0, true, r3), (0, 5, true, 36)] [] (s.1, s.2.1, s.2.2.1, m6)))
        refine l76 _ _ ?_
        refine And.intro h.1 ?_
        exact h.2
      · have h := h.2 hc
        refine hY _ _ _ _ (?_ : Y 146 [(2, 0, true, r3), (0, 5, true, 36), (3, 0, true, x3)] [(0, true, (-9))] (s.1, s.2.1, s.2.2.1, m6))
        refine hY _ _ _ _ ?_
        exact h
theorem wk_90_76 (Q : sQ) (s : sS) (x2 : Int) (x3 : Int) (hr : sRg [(0, 5, 36), (2, 0, 0), (3, 0, 0)] [x2, x3]) (h : wq_90_76 x2 x3 s Q) : kX dC 3 im_m90 0 76 (sCan [(0, 5, 36), (2, 0, 0), (3, 0, 0)] [x2, x3]) [] s Q :=
  h (fun x2 x3 s => sRg [(0, 5, 36), (2, 0, 0), (3, 0, 0)] [x2, x3] → kX dC 3 im_m90 0 76 (sCan [(0, 5, 36), (2, 0, 0), (3, 0, 0)] [x2, x3]) [] s Q) (fun x2 x3 s h hr => wj_90_76 Q s (fun x2 x3 s => sRg [(0, 5, 36), (2, 0, 0), (3, 0, 0)] [x2, x3] → kX dC 3 im_m90 0 76 (sCan [(0, 5, 36), (2, 0, 0), (3, 0, 0)] [x2, x3]) [] s Q) x2 x3  (fun _ _ _ hp hr => hp hr) hr h) hr
def lb_90_0 (s : sS) (Q : sQ) (x1 : Int) : Nat → Option (sL → sS → Prop) := sLb [(76, fun lv t => sG [(0, 5, 36), (2, 0, 0), (3, 0, 0)] lv (ap2 (fun w2 w3 => wq_90_76 w2 w3 t Q)))]
set_option maxRecDepth 30000 in
set_option maxHeartbeats 1000000 in
theorem wk_90_0 (Q : sQ) (s : sS) (x1 : Int) (hr : sRg [(0, 5, 36), (1, 3, 0)] [x1]) (h : wq_90 x1 s Q) : kX dC 3 im_m90 0 0 (sCan [(0, 5, 36), (1, 3, 0)] [x1]) [] s Q := by
  unfold wq_90 at h
  refine wz2_ok (cs := cs_90) (wr := []) (lb := lb_90_0 s Q x1) cs_90_ok (kLb_c (kLab (Bd := fun xs t => ap2 (fun w2 w3 => wq_90_76 w2 w3 t Q) xs) rfl (fun xs t r1 r2 hb => by obtain ⟨w2, w3, rfl, hb⟩ := ap2_ok hb; exact wk_90_76 Q t _ _ r1 hb)) kLb_n) (okL_can rfl hr) (fun Y hY hl => ?_)
  have l76 := hl 76 _ rfl
  refine hY _ _ _ _ (hY _ _ _ _ (hY _ _ _ _ (?_ : Y 5 [(0, 5, true, 36), (1, 3, true, x1)] [(0, true, s.2.2.2 36 12), (5, true, 36)] s)))
  refine hY _ _ _ _ (hY _ _ _ _ (?_ : Y 7 [(0, 5, true, 36), (1, 3, true, x1)] [(0, false, (s.2.2.2 36 12) + 1), (5, true, 36)] s))
  refine hY _ _ _ _ ?_
  refine And.intro h.1 ?_
  refine hY _ _ _ _ (hY _ _ _ _ (hY _ _ _ _ (?_ : Y 15 [(0, 5, true, 36), (1, 3, true, x1)] [(0, true, s.2.2.2 36 15), (5, true, 36)] (s.1, s.2.1, s.2.2.1, hy_u s.2.2.2 36 12 ((s.2.2.2 36 12) + 1)))))
  refine hY _ _ _ _ (?_ : Y 16 [(0, 5, true, 36), (1, 3, true, x1)] [(3, true, x1), (0, true, s.2.2.2 36 15), (5, true, 36)] (s.1, s.2.1, s.2.2.1, hy_u s.2.2.2 36 12 ((s.2.2.2 36 12) + 1)))
  refine hY _ _ _ _ ?_
  refine (And.intro h.2.1 ?_)
  show Y 19 [(0, 5, true, 36), (1, 3, true, x1)] [(0, true, (hy_u s.2.2.2 36 12 ((s.2.2.2 36 12) + 1)) ((x1).toNat) 4), (0, true, s.2.2.2 36 15), (5, true, 36)] (s.1, s.2.1, s.2.2.1, hy_u s.2.2.2 36 12 ((s.2.2.2 36 12) + 1))
  refine hY _ _ _ _ ?_
  show Y 22 [(0, 5, true, 36), (1, 3, true, x1)] [(0, true, (if (s.2.2.2 36 15) < ((hy_u s.2.2.2 36 12 ((s.2.2.2 36 12) + 1)) ((x1).toNat) 4) then ((hy_u s.2.2.2 36 12 ((s.2.2.2 36 12) + 1)) ((x1).toNat) 4) else (s.2.2.2 36 15))), (5, true, 36)] (s.1, s.2.1, s.2.2.1, hy_u s.2.2.2 36 12 ((s.2.2.2 36 12) + 1))
  refine hY _ _ _ _ ?_
  refine hY _ _ _ _ (hY _ _ _ _ (hY _ _ _ _ (?_ : Y 30 [(0, 5, true, 36), (1, 3, true, x1)] [(0, true, s.2.2.2 36 16), (5, true, 36)] (s.1, s.2.1, s.2.2.1, hy_u (hy_u s.2.2.2 36 12 ((s.2.2.2 36 12) + 1)) 36 15 (if (s.2.2.2 36 15) < ((hy_u s.2.2.2 36 12 ((s.2.2.2 36 12) + 1)) ((x1).toNat) 4) then ((hy_u s.2.2.2 36 12 ((s.2.2.2 36 12) + 1)) ((x1).toNat) 4) else (s.2.2.2 36 15))))))
  refine hY _ _ _ _ (hY _ _ _ _ (?_ : Y 34 [(0, 5, true, 36), (1, 3, true, x1)] [(0, true, s.2.2.2 36 8), (0, true, s.2.2.2 36 16), (5, true, 36)] (s.1, s.2.1, s.2.2.1, hy_u (hy_u s.2.2.2 36 12 ((s.2.2.2 36 12) + 1)) 36 15 (if (s.2.2.2 36 15) < ((hy_u s.2.2.2 36 12 ((s.2.2.2 36 12) + 1)) ((x1).toNat) 4) then ((hy_u s.2.2.2 36 12 ((s.2.2.2 36 12) + 1)) ((x1).toNat) 4) else (s.2.2.2 36 15)))))
  refine hY _ _ _ _ ?_
  show Y 37 [(0, 5, true, 36), (1, 3, true, x1)] [(0, true, (if (s.2.2.2 36 16) < (s.2.2.2 36 8) then (s.2.2.2 36 8) else (s.2.2.2 36 16))), (5, true, 36)] (s.1, s.2.1, s.2.2.1, hy_u (hy_u s.2.2.2 36 12 ((s.2.2.2 36 12) + 1)) 36 15 (if (s.2.2.2 36 15) < ((hy_u s.2.2.2 36 12 ((s.2.2.2 36 12) + 1)) ((x1).toNat) 4) then ((hy_u s.2.2.2 36 12 ((s.2.2.2 36 12) + 1)) ((x1).toNat) 4) else (s.2.2.2 36 15)))
  refine hY _ _ _ _ ?_
  refine hY _ _ _ _ (hY _ _ _ _ (?_ : Y 42 [(0, 5, true, 36), (1, 3, true, x1)] [(3, true, x1), (5, true, 36)] (s.1, s.2.1, s.2.2.1, hy_u (hy_u (hy_u s.2.2.2 36 12 ((s.2.2.2 36 12) + 1)) 36 15 (if (s.2.2.2 36 15) < ((hy_u s.2.2.2 36 12 ((s.2.2.2 36 12) + 1)) ((x1).toNat) 4) then ((hy_u s.2.2.2 36 12 ((s.2.2.2 36 12) + 1)) ((x1).toNat) 4) else (s.2.2.2 36 15))) 36 16 (if (s.2.2.2 36 16) < (s.2.2.2 36 8) then (s.2.2.2 36 8) else (s.2.2.2 36 16)))))
  refine hY _ _ _ _ ?_
  refine Exists.intro _ (And.intro (wc_91_r36_3t x1 _ _ h.2.2) (fun r1 m1 h => ?_))
  refine hY _ _ _ _ (hY _ _ _ _ (hY _ _ _ _ (?_ : Y 48 [(2, 0, true, r1), (0, 5, true, 36), (1, 3, true, x1)] [(3, true, x1), (5, true, 36)] (s.1, s.2.1, s.2.2.1, m1))))
  refine hY _ _ _ _ ?_
  refine Exists.intro _ (And.intro (wc_92_r36_3t x1 _ _ h) (fun r2 s2 h => ?_))
  refine hY _ _ _ _ (hY _ _ _ _ (?_ : Y 53 [(2, 0, true, r1), (0, 5, true, 36), (1, 3, true, x1)] [(3, true, x1), (5, true, 36)] s2))
  refine hY _ _ _ _ ?_
  refine (And.intro h.1 ?_)
  refine hY _ _ _ _ (?_ : Y 57 [(2, 0, true, r1), (0, 5, true, 36), (1, 3, true, x1)] [(0, true, (-1)), (0, true, s2.2.2.2 ((x1).toNat) 0), (5, true, 36)] s2)
  refine hY _ _ _ _ ?_
  refine And.intro (fun hc => ?_) (fun hc => ?_)
  · have h := h.2.1 hc
    refine hY _ _ _ _ (?_ : Y 68 [(2, 0, true, r1), (0, 5, true, 36), (1, 3, true, x1)] [(3, true, x1), (5, true, 36)] s2)
    refine hY _ _ _ _ ?_
    refine (And.intro h.1 ?_)
    show Y 71 [(2, 0, true, r1), (0, 5, true, 36), (1, 3, true, x1)] [(0, true, s2.2.2.2 ((x1).toNat) 3), (5, true, 36)] s2
    refine hY _ _ _ _ ?_
    refine hY _ _ _ _ (hY _ _ _ _ (?_ : Y 76 [(3, 2, true, 0), (2, 0, true, r1), (0, 5, true, 36), (1, 3, true, x1)] [] (s2.1, s2.2.1, s2.2.2.1, hy_u s2.2.2.2 36 9 (s2.2.2.2 ((x1).toNat) 3))))
    refine l76 _ _ ?_
    exact h.2
  · have h := h.2.2 hc
    refine hY _ _ _ _ (hY _ _ _ _ (hY _ _ _ _ (?_ : Y 71 [(2, 0, true, r1), (0, 5, true, 36), (1, 3, true, x1)] [(0, true, s2.2.2.2 36 8), (5, true, 36)] s2)))
    refine hY _ _ _ _ ?_
    refine hY _ _ _ _ (hY _ _ _ _ (?_ : Y 76 [(3, 2, true, 0), (2, 0, true, r1), (0, 5, true, 36), (1, 3, true, x1)] [] (s2.1, s2.2.1, s2.2.2.1, hy_u s2.2.2.2 36 9 (s2.2.2.2 36 8))))
    refine l76 _ _ ?_
    exact h
def we_90 : sF := sE 4 [(0, 5, 36), (1, 3, 0)] (fun xs s Q => ap1 (fun x1 => wq_90 x1 s Q) xs)
theorem we_90_ok : kS dC 4 90 0 (.inr we_90) := sE_ok (mi := im_m90) rfl rfl rfl (fun Q xs s r1 hb => by obtain ⟨x1, rfl, hb⟩ := ap1_ok hb; exact wk_90_0 Q s x1 r1 hb)
/-- LM$Arithmetic.addValue(I)Z -/
def wq_36 (x1 : Int) (T : hy_T) (m : hy_m) (Q : Int → hy_m → Prop) : Prop := ∃ t1 n1 : Nat, T.1 (m 53 3).toNat = some (t1, n1) ∧ 99 ≤ t1 ∧ (((m 53 4) < (n1 : Int) → (∃ n2 : Nat, T.1 (m 53 3).toNat = some (100, n2) ∧ (0 ≤ (m 53 4) ∧ (m 53 4) < (n2 : Int) ∧ (hy_r 0 (((hy_u m ((m 53 3).toNat) (m 53 4) x1) 53 4) + 1) ∧ (Q 1 (hy_u (hy_u m ((m 53 3).toNat) (m 53 4) x1) 53 4 (((hy_u m ((m 53 3).toNat) (m 53 4) x1) 53 4) + 1))))))) ∧ ((n1 : Int) ≤ (m 53 4) → (Q 0 m)))
def cs_36 : List (Nat × Nat × sFS) := []
theorem cs_36_ok : kCs dC 0 cs_36 := kCs_n
def lb_36_0 (s : sS) (Q : sQ) (R : Int → hy_m → Prop) (x1 : Int) : Nat → Option (sL → sS → Prop) := sLb []
set_option maxRecDepth 30000 in
set_option maxHeartbeats 1000000 in
theorem wk_36_0 (Q : sQ) (R : Int → hy_m → Prop) (s : sS) (x1 : Int) (hQ : ∀ x m', R x m' → Q x (sM s m')) (hr : sRg [(0, 5, 53), (1, 0, 0)] [x1]) (h : wq_36 x1 s.1 s.2.2.2 R) : kX dC 0 im_m36 2 0 (sCan [(0, 5, 53), (1, 0, 0)] [x1]) [] s Q := by
  unfold wq_36 at h
  refine wz2_ok (cs := cs_36) (wr := []) (lb := lb_36_0 s Q R x1) cs_36_ok kLb_n (okL_can rfl hr) (fun Y hY hl => ?_)
  refine hY _ _ _ _ (hY _ _ _ _ (hY _ _ _ _ (?_ : Y 5 [(0, 5, true, 53), (1, 0, true, x1)] [(5, true, 53), (0, true, s.2.2.2 53 4)] s)))
  refine hY _ _ _ _ (?_ : Y 8 [(0, 5, true, 53), (1, 0, true, x1)] [(3, true, s.2.2.2 53 3), (0, true, s.2.2.2 53 4)] s)
  refine hY _ _ _ _ ?_
  obtain ⟨t1, n1, h⟩ := h
  refine Exists.intro t1 (Exists.intro n1 (And.intro h.1 (And.intro h.2.1 ?_)))
  show Y 9 [(0, 5, true, 53), (1, 0, true, x1)] [(0, true, (n1 : Int)), (0, true, s.2.2.2 53 4)] s
  refine hY _ _ _ _ ?_
  refine And.intro (fun hc => ?_) (fun hc => ?_)
  · have h := h.2.2.1 hc
    refine hY _ _ _ _ (hY _ _ _ _ (hY _ _ _ _ (?_ : Y 19 [(0, 5, true, 53), (1, 0, true, x1)] [(5, true, 53), (3, true, s.2.2.2 53 3)] s)))
    refine hY _ _ _ _ (hY _ _ _ _ (?_ : Y 23 [(0, 5, true, 53), (1, 0, true, x1)] [(0, true, x1), (0, true, s.2.2.2 53 4), (3, true, s.2.2.2 53 3)] s))
    refine hY _ _ _ _ ?_
    obtain ⟨n2, h⟩ := h
    refine Exists.intro n2 (And.intro h.1 ?_)
    refine (And.intro h.2.1 (And.intro h.2.2.1 ?_))
    refine hY _ _ _ _ (hY _ _ _ _ (hY _ _ _ _ (?_ : Y 29 [(0, 5, true, 53), (1, 0, true, x1)] [(0, true, (hy_u s.2.2.2 ((s.2.2.2 53 3).toNat) (s.2.2.2 53 4) x1) 53 4), (5, true, 53)] (sM s (hy_u s.2.2.2 ((s.2.2.2 53 3).toNat) (s.2.2.2 53 4) x1)))))
    refine hY _ _ _ _ (hY _ _ _ _ (?_ : Y 31 [(0, 5, true, 53), (1, 0, true, x1)] [(0, false, ((hy_u s.2.2.2 ((s.2.2.2 53 3).toNat) (s.2.2.2 53 4) x1) 53 4) + 1), (5, true, 53)] (sM s (hy_u s.2.2.2 ((s.2.2.2 53 3).toNat) (s.2.2.2 53 4) x1))))
    refine hY _ _ _ _ ?_
    refine And.intro h.2.2.2.1 ?_
    refine hY _ _ _ _ (?_ : Y 35 [(0, 5, true, 53), (1, 0, true, x1)] [(2, true, 1)] (sM s (hy_u (hy_u s.2.2.2 ((s.2.2.2 53 3).toNat) (s.2.2.2 53 4) x1) 53 4 (((hy_u s.2.2.2 ((s.2.2.2 53 3).toNat) (s.2.2.2 53 4) x1) 53 4) + 1))))
    refine hY _ _ _ _ ?_
    exact hQ 1 (hy_u (hy_u s.2.2.2 ((s.2.2.2 53 3).toNat) (s.2.2.2 53 4) x1) 53 4 (((hy_u s.2.2.2 ((s.2.2.2 53 3).toNat) (s.2.2.2 53 4) x1) 53 4) + 1)) h.2.2.2.2
  · have h := h.2.2.2 hc
    refine hY _ _ _ _ (?_ : Y 13 [(0, 5, true, 53), (1, 0, true, x1)] [(2, true, 0)] s)
    refine hY _ _ _ _ ?_
    exact hQ 0 s.2.2.2 h
def we_36 : sFf := sEf 2 [(0, 5, 53), (1, 0, 0)] (fun xs s Q => ap1 (fun x1 => wq_36 x1 s.1 s.2.2.2 Q) xs)
theorem we_36_ok : kS dC 1 36 2 (.inl we_36) := sEf_ok (mi := im_m36) rfl rfl rfl (fun R xs s r1 hb => by obtain ⟨x1, rfl, hb⟩ := ap1_ok hb; exact wk_36_0 _ R s x1 (fun x m' hx => ⟨m', rfl, hx⟩) r1 hb)
/-- LM$Arithmetic.addTask(II)Z -/
def wq_35 (x1 : Int) (x2 : Int) (T : hy_T) (m : hy_m) (Q : Int → hy_m → Prop) : Prop := ∃ t1 n1 : Nat, T.1 (m 53 1).toNat = some (t1, n1) ∧ 99 ≤ t1 ∧ (((m 53 2) < (n1 : Int) → (∃ n2 : Nat, T.1 (m 53 1).toNat = some (100, n2) ∧ (0 ≤ (m 53 2) ∧ (m 53 2) < (n2 : Int) ∧ (hy_r 0 (((hy_u m ((m 53 1).toNat) (m 53 2) (iO (iSl x1 16) x2)) 53 2) + 1) ∧ (Q 1 (hy_u (hy_u m ((m 53 1).toNat) (m 53 2) (iO (iSl x1 16) x2)) 53 2 (((hy_u m ((m 53 1).toNat) (m 53 2) (iO (iSl x1 16) x2)) 53 2) + 1))))))) ∧ ((n1 : Int) ≤ (m 53 2) → (Q 0 m)))
def cs_35 : List (Nat × Nat × sFS) := []
theorem cs_35_ok : kCs dC 0 cs_35 := kCs_n
def lb_35_0 (s : sS) (Q : sQ) (R : Int → hy_m → Prop) (x1 : Int) (x2 : Int) : Nat → Option (sL → sS → Prop) := sLb []
set_option maxRecDepth 30000 in
set_option maxHeartbeats 1000000 in
theorem wk_35_0 (Q : sQ) (R : Int → hy_m → Prop) (s : sS) (x1 : Int) (x2 : Int) (hQ : ∀ x m', R x m' → Q x (sM s m')) (hr : sRg [(0, 5, 53), (1, 0, 0), (2, 0, 0)] [x1, x2]) (h : wq_35 x1 x2 s.1 s.2.2.2 R) : kX dC 0 im_m35 2 0 (sCan [(0, 5, 53), (1, 0, 0), (2, 0, 0)] [x1, x2]) [] s Q := by
  unfold wq_35 at h
  refine wz2_ok (cs := cs_35) (wr := []) (lb := lb_35_0 s Q R x1 x2) cs_35_ok kLb_n (okL_can rfl hr) (fun Y hY hl => ?_)
  refine hY _ _ _ _ (hY _ _ _ _ (hY _ _ _ _ (?_ : Y 5 [(0, 5, true, 53), (1, 0, true, x1), (2, 0, true, x2)] [(5, true, 53), (0, true, s.2.2.2 53 2)] s)))
  refine hY _ _ _ _ (?_ : Y 8 [(0, 5, true, 53), (1, 0, true, x1), (2, 0, true, x2)] [(3, true, s.2.2.2 53 1), (0, true, s.2.2.2 53 2)] s)
  refine hY _ _ _ _ ?_
  obtain ⟨t1, n1, h⟩ := h
  refine Exists.intro t1 (Exists.intro n1 (And.intro h.1 (And.intro h.2.1 ?_)))
  show Y 9 [(0, 5, true, 53), (1, 0, true, x1), (2, 0, true, x2)] [(0, true, (n1 : Int)), (0, true, s.2.2.2 53 2)] s
  refine hY _ _ _ _ ?_
  refine And.intro (fun hc => ?_) (fun hc => ?_)
  · have h := h.2.2.1 hc
    refine hY _ _ _ _ (hY _ _ _ _ (hY _ _ _ _ (?_ : Y 19 [(0, 5, true, 53), (1, 0, true, x1), (2, 0, true, x2)] [(5, true, 53), (3, true, s.2.2.2 53 1)] s)))
    refine hY _ _ _ _ (hY _ _ _ _ (hY _ _ _ _ (?_ : Y 25 [(0, 5, true, 53), (1, 0, true, x1), (2, 0, true, x2)] [(0, true, 16), (0, true, x1), (0, true, s.2.2.2 53 2), (3, true, s.2.2.2 53 1)] s)))
    refine hY _ _ _ _ (?_ : Y 26 [(0, 5, true, 53), (1, 0, true, x1), (2, 0, true, x2)] [(0, true, iSl x1 16), (0, true, s.2.2.2 53 2), (3, true, s.2.2.2 53 1)] s)
    refine hY _ _ _ _ (?_ : Y 27 [(0, 5, true, 53), (1, 0, true, x1), (2, 0, true, x2)] [(0, true, x2), (0, true, iSl x1 16), (0, true, s.2.2.2 53 2), (3, true, s.2.2.2 53 1)] s)
    generalize iSl x1 16 = gg at h ⊢
    refine hY _ _ _ _ (?_ : Y 28 [(0, 5, true, 53), (1, 0, true, x1), (2, 0, true, x2)] [(0, true, iO gg x2), (0, true, s.2.2.2 53 2), (3, true, s.2.2.2 53 1)] s)
    refine hY _ _ _ _ ?_
    obtain ⟨n2, h⟩ := h
    refine Exists.intro n2 (And.intro h.1 ?_)
    refine (And.intro h.2.1 (And.intro h.2.2.1 ?_))
    refine hY _ _ _ _ (hY _ _ _ _ (hY _ _ _ _ (?_ : Y 34 [(0, 5, true, 53), (1, 0, true, x1), (2, 0, true, x2)] [(0, true, (hy_u s.2.2.2 ((s.2.2.2 53 1).toNat) (s.2.2.2 53 2) (iO gg x2)) 53 2), (5, true, 53)] (sM s (hy_u s.2.2.2 ((s.2.2.2 53 1).toNat) (s.2.2.2 53 2) (iO gg x2))))))
    refine hY _ _ _ _ (hY _ _ _ _ (?_ : Y 36 [(0, 5, true, 53), (1, 0, true, x1), (2, 0, true, x2)] [(0, false, ((hy_u s.2.2.2 ((s.2.2.2 53 1).toNat) (s.2.2.2 53 2) (iO gg x2)) 53 2) + 1), (5, true, 53)] (sM s (hy_u s.2.2.2 ((s.2.2.2 53 1).toNat) (s.2.2.2 53 2) (iO gg x2)))))
    refine hY _ _ _ _ ?_
    refine And.intro h.2.2.2.1 ?_
    refine hY _ _ _ _ (?_ : Y 40 [(0, 5, true, 53), (1, 0, true, x1), (2, 0, true, x2)] [(2, true, 1)] (sM s (hy_u (hy_u s.2.2.2 ((s.2.2.2 53 1).toNat) (s.2.2.2 53 2) (iO gg x2)) 53 2 (((hy_u s.2.2.2 ((s.2.2.2 53 1).toNat) (s.2.2.2 53 2) (iO gg x2)) 53 2) + 1))))
    refine hY _ _ _ _ ?_
    exact hQ 1 (hy_u (hy_u s.2.2.2 ((s.2.2.2 53 1).toNat) (s.2.2.2 53 2) (iO gg x2)) 53 2 (((hy_u s.2.2.2 ((s.2.2.2 53 1).toNat) (s.2.2.2 53 2) (iO gg x2)) 53 2) + 1)) h.2.2.2.2
  · have h := h.2.2.2 hc
    refine hY _ _ _ _ (?_ : Y 13 [(0, 5, true, 53), (1, 0, true, x1), (2, 0, true, x2)] [(2, true, 0)] s)
    refine hY _ _ _ _ ?_
    exact hQ 0 s.2.2.2 h
def we_35 : sFf := sEf 3 [(0, 5, 53), (1, 0, 0), (2, 0, 0)] (fun xs s Q => ap2 (fun x1 x2 => wq_35 x1 x2 s.1 s.2.2.2 Q) xs)
theorem we_35_ok : kS dC 1 35 2 (.inl we_35) := sEf_ok (mi := im_m35) rfl rfl rfl (fun R xs s r1 hb => by obtain ⟨x1, x2, rfl, hb⟩ := ap2_ok hb; exact wk_35_0 _ R s x1 x2 (fun x m' hx => ⟨m', rfl, hx⟩) r1 hb)
/-- LM$Arithmetic.computeVariable(I)Z -/
def wq_32_72 (x1 : Int) (x2 : Int) (T : hy_T) (m : hy_m) (Q : Int → hy_m → Prop) : Prop := wq_35 2 x1 T m (fun r1 m1 => (r1 = 0 → (Q 0 m1)) ∧ (r1 ≠ 0 → (wq_35 0 x2 T m1 (fun r2 m2 => (r2 = 0 → (Q 0 m2)) ∧ (r2 ≠ 0 → (Q 1 m2))))))
def wq_32 (x1 : Int) (T : hy_T) (m : hy_m) (Q : Int → hy_m → Prop) : Prop := wq_126 x1 T m (fun r1 m1 => (x1 = (-9) → (Q 0 m1)) ∧ (x1 ≠ (-9) → ((r1 ≠ (-1) → ((0 ≤ r1 → (∃ t2 n2 : Nat, T.1 (m1 53 5).toNat = some (t2, n2) ∧ 99 ≤ t2 ∧ (((n2 : Int) ≤ x1 → (wq_32_72 x1 r1 T m1 Q)) ∧ (x1 < (n2 : Int) → (∃ n3 : Nat, T.1 (m1 53 6).toNat = some (100, n3) ∧ (0 ≤ x1 ∧ x1 < (n3 : Int) ∧ (((m1 ((m1 53 6).toNat) x1) ≠ (m1 53 7) → (wq_32_72 x1 r1 T m1 Q)) ∧ ((m1 ((m1 53 6).toNat) x1) = (m1 53 7) → (∃ n4 : Nat, T.1 (m1 53 5).toNat = some (100, n4) ∧ (0 ≤ x1 ∧ x1 < (n4 : Int) ∧ (wq_36 (m1 ((m1 53 5).toNat) x1) T m1 (fun r5 m5 => Q r5 m5)))))))))))) ∧ (r1 < 0 → (wq_131 r1 m1 (fun r6 m6 => wq_36 r6 T m6 (fun r7 m7 => Q r7 m7)))))) ∧ (r1 = (-1) → (Q 0 m1)))))
theorem wc_35_r53_0t_0t (x1 : Int) (x2 : Int) (s : sS) (R : Int → hy_m → Prop) (h : wq_35 x1 x2 s.1 s.2.2.2 R) : we_35 [(5, true, 53), (0, true, x1), (0, true, x2)] s R := h
theorem wc_35_r53_2t_0t (x1 : Int) (x2 : Int) (s : sS) (R : Int → hy_m → Prop) (h : wq_35 x1 x2 s.1 s.2.2.2 R) : we_35 [(5, true, 53), (2, true, x1), (0, true, x2)] s R := h
theorem wc_36_r53_0t (x1 : Int) (s : sS) (R : Int → hy_m → Prop) (h : wq_36 x1 s.1 s.2.2.2 R) : we_36 [(5, true, 53), (0, true, x1)] s R := h
def cs_32 : List (Nat × Nat × sFS) := [(35, 2, .inl we_35), (36, 2, .inl we_36), (126, 0, .inl we_126), (131, 0, .inl we_131)]
theorem cs_32_ok : kCs dC 1 cs_32 := (kCs_c (Or.inr (Or.inr (Or.inl rfl))) (we_35_ok.deep (by decide)) (kCs_c (Or.inr (Or.inr (Or.inl rfl))) (we_36_ok.deep (by decide)) (kCs_c (Or.inl rfl) (we_126_ok.deep (by decide)) (kCs_c (Or.inl rfl) (we_131_ok.deep (by decide)) kCs_n))))
def lb_32_72 (s : sS) (Q : sQ) (R : Int → hy_m → Prop) (x1 : Int) (x2 : Int) : Nat → Option (sL → sS → Prop) := sLb []
set_option maxRecDepth 30000 in
set_option maxHeartbeats 1000000 in
theorem wk_32_72 (Q : sQ) (R : Int → hy_m → Prop) (s : sS) (x1 : Int) (x2 : Int) (hQ : ∀ x m', R x m' → Q x (sM s m')) (hr : sRg [(0, 5, 53), (1, 0, 0), (2, 0, 0)] [x1, x2]) (h : wq_32_72 x1 x2 s.1 s.2.2.2 R) : kX dC 1 im_m32 2 72 (sCan [(0, 5, 53), (1, 0, 0), (2, 0, 0)] [x1, x2]) [] s Q := by
  unfold wq_32_72 at h
  refine wz2_ok (cs := cs_32) (wr := []) (lb := lb_32_72 s Q R x1 x2) cs_32_ok kLb_n (okL_can rfl hr) (fun Y hY hl => ?_)
  refine hY _ _ _ _ (hY _ _ _ _ (hY _ _ _ _ (?_ : Y 75 [(0, 5, true, 53), (1, 0, true, x1), (2, 0, true, x2)] [(0, true, x1), (0, true, 2), (5, true, 53)] s)))
  refine hY _ _ _ _ ?_
  refine Exists.intro _ (And.intro (wc_35_r53_0t_0t 2 x1 _ _ h) (fun r1 m1 h => ?_))
  show Y 78 [(0, 5, true, 53), (1, 0, true, x1), (2, 0, true, x2)] [(2, true, r1)] (sM s m1)
  refine hY _ _ _ _ ?_
  refine And.intro (fun hc => ?_) (fun hc => ?_)
  · have h := h.1 hc
    refine hY _ _ _ _ (?_ : Y 95 [(0, 5, true, 53), (1, 0, true, x1), (2, 0, true, x2)] [(2, true, 0)] (sM s m1))
    refine hY _ _ _ _ ?_
    exact hQ 0 m1 h
  · have h := h.2 hc
    refine hY _ _ _ _ (hY _ _ _ _ (hY _ _ _ _ (?_ : Y 84 [(0, 5, true, 53), (1, 0, true, x1), (2, 0, true, x2)] [(0, true, x2), (2, true, 0), (5, true, 53)] (sM s m1))))
    refine hY _ _ _ _ ?_
    refine Exists.intro _ (And.intro (wc_35_r53_2t_0t 0 x2 _ _ h) (fun r2 m2 h => ?_))
    show Y 87 [(0, 5, true, 53), (1, 0, true, x1), (2, 0, true, x2)] [(2, true, r2)] (sM s m2)
    refine hY _ _ _ _ ?_
    refine And.intro (fun hc => ?_) (fun hc => ?_)
    · have h := h.1 hc
      refine hY _ _ _ _ (?_ : Y 95 [(0, 5, true, 53), (1, 0, true, x1), (2, 0, true, x2)] [(2, true, 0)] (sM s m2))
      refine hY _ _ _ _ ?_
      exact hQ 0 m2 h
    · have h := h.2 hc
      refine hY _ _ _ _ (hY _ _ _ _ (?_ : Y 95 [(0, 5, true, 53), (1, 0, true, x1), (2, 0, true, x2)] [(2, true, 1)] (sM s m2)))
      refine hY _ _ _ _ ?_
      exact hQ 1 m2 h
def lb_32_0 (s : sS) (Q : sQ) (R : Int → hy_m → Prop) (x1 : Int) : Nat → Option (sL → sS → Prop) := sLb [(72, fun lv t => sG [(0, 5, 53), (1, 0, 0), (2, 0, 0)] lv (ap2 (fun w1 w2 => ∃ m', t = sM s m' ∧ wq_32_72 w1 w2 s.1 m' R)))]
set_option maxRecDepth 30000 in
set_option maxHeartbeats 1000000 in
theorem wk_32_0 (Q : sQ) (R : Int → hy_m → Prop) (s : sS) (x1 : Int) (hQ : ∀ x m', R x m' → Q x (sM s m')) (hr : sRg [(0, 5, 53), (1, 0, 0)] [x1]) (h : wq_32 x1 s.1 s.2.2.2 R) : kX dC 1 im_m32 2 0 (sCan [(0, 5, 53), (1, 0, 0)] [x1]) [] s Q := by
  unfold wq_32 at h
  refine wz2_ok (cs := cs_32) (wr := []) (lb := lb_32_0 s Q R x1) cs_32_ok (kLb_c (kLab (Bd := fun xs t => ap2 (fun w1 w2 => ∃ m', t = sM s m' ∧ wq_32_72 w1 w2 s.1 m' R) xs) rfl (fun xs t r1 r2 hb => by obtain ⟨w1, w2, rfl, hb⟩ := ap2_ok hb; obtain ⟨m', rfl, hx⟩ := hb; exact wk_32_72 Q R (sM s m') _ _ (fun x m'' hy => hQ x m'' hy) r1 hx)) kLb_n) (okL_can rfl hr) (fun Y hY hl => ?_)
  have l72 := hl 72 _ rfl
  refine hY _ _ _ _ (hY _ _ _ _ (hY _ _ _ _ (?_ : Y 5 [(0, 5, true, 53), (1, 0, true, x1)] [(0, true, x1), (5, true, 41)] s)))
  refine hY _ _ _ _ ?_
  refine Exists.intro _ (And.intro (wc_126_r41_0t x1 _ _ h) (fun r1 m1 h => ?_))
  refine hY _ _ _ _ (hY _ _ _ _ (hY _ _ _ _ (?_ : Y 12 [(2, 0, true, r1), (0, 5, true, 53), (1, 0, true, x1)] [(0, true, (-9)), (0, true, x1)] (sM s m1))))
  refine hY _ _ _ _ ?_
  refine And.intro (fun hc => ?_) (fun hc => ?_)
  · have h := h.1 hc
    refine hY _ _ _ _ (?_ : Y 21 [(2, 0, true, r1), (0, 5, true, 53), (1, 0, true, x1)] [(2, true, 0)] (sM s m1))
    refine hY _ _ _ _ ?_
    exact hQ 0 m1 h
  · have h := h.2 hc
    refine hY _ _ _ _ (hY _ _ _ _ (?_ : Y 17 [(2, 0, true, r1), (0, 5, true, 53), (1, 0, true, x1)] [(0, true, (-1)), (0, true, r1)] (sM s m1)))
    refine hY _ _ _ _ ?_
    refine And.intro (fun hc => ?_) (fun hc => ?_)
    · have h := h.1 hc
      refine hY _ _ _ _ (?_ : Y 23 [(2, 0, true, r1), (0, 5, true, 53), (1, 0, true, x1)] [(0, true, r1)] (sM s m1))
      refine hY _ _ _ _ ?_
      refine And.intro (fun hc => ?_) (fun hc => ?_)
      · have h := h.1 hc
        refine hY _ _ _ _ (hY _ _ _ _ (hY _ _ _ _ (?_ : Y 44 [(2, 0, true, r1), (0, 5, true, 53), (1, 0, true, x1)] [(3, true, m1 53 5), (0, true, x1)] (sM s m1))))
        refine hY _ _ _ _ ?_
        obtain ⟨t2, n2, h⟩ := h
        refine Exists.intro t2 (Exists.intro n2 (And.intro h.1 (And.intro h.2.1 ?_)))
        show Y 45 [(2, 0, true, r1), (0, 5, true, 53), (1, 0, true, x1)] [(0, true, (n2 : Int)), (0, true, x1)] (sM s m1)
        refine hY _ _ _ _ ?_
        refine And.intro (fun hc => ?_) (fun hc => ?_)
        · have h := h.2.2.1 hc
          show Y 72 [(2, 0, true, r1), (0, 5, true, 53), (1, 0, true, x1)] [] (sM s m1)
          refine l72 _ _ ?_
          exact (Exists.intro m1 (And.intro rfl h))
        · have h := h.2.2.2 hc
          refine hY _ _ _ _ (hY _ _ _ _ (hY _ _ _ _ (?_ : Y 53 [(2, 0, true, r1), (0, 5, true, 53), (1, 0, true, x1)] [(0, true, x1), (3, true, m1 53 6)] (sM s m1))))
          refine hY _ _ _ _ ?_
          obtain ⟨n3, h⟩ := h
          refine Exists.intro n3 (And.intro h.1 ?_)
          refine (And.intro h.2.1 (And.intro h.2.2.1 ?_))
          refine hY _ _ _ _ (hY _ _ _ _ (?_ : Y 58 [(2, 0, true, r1), (0, 5, true, 53), (1, 0, true, x1)] [(0, true, m1 53 7), (0, true, m1 ((m1 53 6).toNat) x1)] (sM s m1)))
          refine hY _ _ _ _ ?_
          refine And.intro (fun hc => ?_) (fun hc => ?_)
          · have h := h.2.2.2.1 hc
            show Y 72 [(2, 0, true, r1), (0, 5, true, 53), (1, 0, true, x1)] [] (sM s m1)
            refine l72 _ _ ?_
            exact (Exists.intro m1 (And.intro rfl h))
          · have h := h.2.2.2.2 hc
            refine hY _ _ _ _ (hY _ _ _ _ (hY _ _ _ _ (?_ : Y 66 [(2, 0, true, r1), (0, 5, true, 53), (1, 0, true, x1)] [(3, true, m1 53 5), (5, true, 53)] (sM s m1))))
            refine hY _ _ _ _ (?_ : Y 67 [(2, 0, true, r1), (0, 5, true, 53), (1, 0, true, x1)] [(0, true, x1), (3, true, m1 53 5), (5, true, 53)] (sM s m1))
            refine hY _ _ _ _ ?_
            obtain ⟨n4, h⟩ := h
            refine Exists.intro n4 (And.intro h.1 ?_)
            refine (And.intro h.2.1 (And.intro h.2.2.1 ?_))
            show Y 68 [(2, 0, true, r1), (0, 5, true, 53), (1, 0, true, x1)] [(0, true, m1 ((m1 53 5).toNat) x1), (5, true, 53)] (sM s m1)
            refine hY _ _ _ _ ?_
            refine Exists.intro _ (And.intro (wc_36_r53_0t (m1 ((m1 53 5).toNat) x1) _ _ h.2.2.2) (fun r5 m5 h => ?_))
            show Y 71 [(2, 0, true, r1), (0, 5, true, 53), (1, 0, true, x1)] [(2, true, r5)] (sM s m5)
            refine hY _ _ _ _ ?_
            exact hQ r5 m5 h
      · have h := h.2 hc
        refine hY _ _ _ _ (hY _ _ _ _ (hY _ _ _ _ (?_ : Y 31 [(2, 0, true, r1), (0, 5, true, 53), (1, 0, true, x1)] [(5, true, 41), (5, true, 53)] (sM s m1))))
        refine hY _ _ _ _ (?_ : Y 32 [(2, 0, true, r1), (0, 5, true, 53), (1, 0, true, x1)] [(0, true, r1), (5, true, 41), (5, true, 53)] (sM s m1))
        refine hY _ _ _ _ ?_
        refine Exists.intro _ (And.intro (wc_131_r41_0t r1 _ _ h) (fun r6 m6 h => ?_))
        show Y 35 [(2, 0, true, r1), (0, 5, true, 53), (1, 0, true, x1)] [(0, true, r6), (5, true, 53)] (sM s m6)
        refine hY _ _ _ _ ?_
        refine Exists.intro _ (And.intro (wc_36_r53_0t r6 _ _ h) (fun r7 m7 h => ?_))
        show Y 38 [(2, 0, true, r1), (0, 5, true, 53), (1, 0, true, x1)] [(2, true, r7)] (sM s m7)
        refine hY _ _ _ _ ?_
        exact hQ r7 m7 h
    · have h := h.2 hc
      refine hY _ _ _ _ (?_ : Y 21 [(2, 0, true, r1), (0, 5, true, 53), (1, 0, true, x1)] [(2, true, 0)] (sM s m1))
      refine hY _ _ _ _ ?_
      exact hQ 0 m1 h
def we_32 : sFf := sEf 3 [(0, 5, 53), (1, 0, 0)] (fun xs s Q => ap1 (fun x1 => wq_32 x1 s.1 s.2.2.2 Q) xs)
theorem we_32_ok : kS dC 2 32 2 (.inl we_32) := sEf_ok (mi := im_m32) rfl rfl rfl (fun R xs s r1 hb => by obtain ⟨x1, rfl, hb⟩ := ap1_ok hb; exact wk_32_0 _ R s x1 (fun x m' hx => ⟨m', rfl, hx⟩) r1 hb)
/-- LM$Arithmetic.compute(I)Z -/
def wq_31_79 (x1 : Int) (T : hy_T) (m : hy_m) (Q : Int → hy_m → Prop) : Prop := wq_35 1 x1 T m (fun r1 m1 => (r1 = 0 → (Q 0 m1)) ∧ (r1 ≠ 0 → (wq_132 x1 1 T m1 (fun r2 m2 => wq_35 0 r2 T m2 (fun r3 m3 => (r3 = 0 → (Q 0 m3)) ∧ (r3 ≠ 0 → (wq_132 x1 0 T m3 (fun r4 m4 => wq_35 0 r4 T m4 (fun r5 m5 => (r5 = 0 → (Q 0 m5)) ∧ (r5 ≠ 0 → (Q 1 m5)))))))))))
def wq_31 (x1 : Int) (T : hy_T) (m : hy_m) (Q : Int → hy_m → Prop) : Prop := wq_129 x1 T m (fun r1 m1 => (r1 ≠ 1 → (wq_130 x1 T m1 (fun r2 m2 => (r1 ≠ 2 → ((r1 ≠ 4 → (Q 0 m2)) ∧ (r1 = 4 → ((r2 = 6605190 → (wq_31_79 x1 T m2 Q)) ∧ (r2 ≠ 6605190 → ((r2 = 6482894 → (wq_31_79 x1 T m2 Q)) ∧ (r2 ≠ 6482894 → ((r2 = 7138230 → (wq_31_79 x1 T m2 Q)) ∧ (r2 ≠ 7138230 → (Q 0 m2)))))))))) ∧ (r1 = 2 → (hy_r 0 r2 ∧ (wq_36 r2 T m2 (fun r3 m3 => Q r3 m3))))))) ∧ (r1 = 1 → (wq_125 x1 T m1 (fun r4 m4 => wq_32 r4 T m4 (fun r5 m5 => Q r5 m5)))))
theorem wc_36_r53_0f (x1 : Int) (s : sS) (R : Int → hy_m → Prop) (h : hy_r 0 x1 ∧ wq_36 x1 s.1 s.2.2.2 R) : we_36 [(5, true, 53), (0, false, x1)] s R := h
theorem wc_32_r53_0t (x1 : Int) (s : sS) (R : Int → hy_m → Prop) (h : wq_32 x1 s.1 s.2.2.2 R) : we_32 [(5, true, 53), (0, true, x1)] s R := h
def cs_31 : List (Nat × Nat × sFS) := [(32, 2, .inl we_32), (35, 2, .inl we_35), (36, 2, .inl we_36), (125, 0, .inl we_125), (129, 0, .inl we_129), (130, 1, .inl we_130), (132, 0, .inl we_132)]
theorem cs_31_ok : kCs dC 2 cs_31 := (kCs_c (Or.inr (Or.inr (Or.inl rfl))) (we_32_ok.deep (by decide)) (kCs_c (Or.inr (Or.inr (Or.inl rfl))) (we_35_ok.deep (by decide)) (kCs_c (Or.inr (Or.inr (Or.inl rfl))) (we_36_ok.deep (by decide)) (kCs_c (Or.inl rfl) (we_125_ok.deep (by decide)) (kCs_c (Or.inl rfl) (we_129_ok.deep (by decide)) (kCs_c (Or.inr (Or.inl rfl)) (we_130_ok.deep (by decide)) (kCs_c (Or.inl rfl) (we_132_ok.deep (by decide)) kCs_n)))))))
def lb_31_79 (s : sS) (Q : sQ) (R : Int → hy_m → Prop) (x1 : Int) : Nat → Option (sL → sS → Prop) := sLb []
set_option maxRecDepth 30000 in
set_option maxHeartbeats 1000000 in
theorem wk_31_79 (Q : sQ) (R : Int → hy_m → Prop) (s : sS) (x1 : Int) (hQ : ∀ x m', R x m' → Q x (sM s m')) (hr : sRg [(0, 5, 53), (1, 0, 0)] [x1]) (h : wq_31_79 x1 s.1 s.2.2.2 R) : kX dC 2 im_m31 2 79 (sCan [(0, 5, 53), (1, 0, 0)] [x1]) [] s Q := by
  unfold wq_31_79 at h
  refine wz2_ok (cs := cs_31) (wr := []) (lb := lb_31_79 s Q R x1) cs_31_ok kLb_n (okL_can rfl hr) (fun Y hY hl => ?_)
  refine hY _ _ _ _ (hY _ _ _ _ (hY _ _ _ _ (?_ : Y 82 [(0, 5, true, 53), (1, 0, true, x1)] [(0, true, x1), (2, true, 1), (5, true, 53)] s)))
  refine hY _ _ _ _ ?_
  refine Exists.intro _ (And.intro (wc_35_r53_2t_0t 1 x1 _ _ h) (fun r1 m1 h => ?_))
  show Y 85 [(0, 5, true, 53), (1, 0, true, x1)] [(2, true, r1)] (sM s m1)
  refine hY _ _ _ _ ?_
  refine And.intro (fun hc => ?_) (fun hc => ?_)
  · have h := h.1 hc
    refine hY _ _ _ _ (?_ : Y 127 [(0, 5, true, 53), (1, 0, true, x1)] [(2, true, 0)] (sM s m1))
    refine hY _ _ _ _ ?_
    exact hQ 0 m1 h
  · have h := h.2 hc
    refine hY _ _ _ _ (hY _ _ _ _ (hY _ _ _ _ (?_ : Y 91 [(0, 5, true, 53), (1, 0, true, x1)] [(5, true, 53), (2, true, 0), (5, true, 53)] (sM s m1))))
    refine hY _ _ _ _ (hY _ _ _ _ (hY _ _ _ _ (?_ : Y 96 [(0, 5, true, 53), (1, 0, true, x1)] [(2, true, 1), (0, true, x1), (5, true, 41), (2, true, 0), (5, true, 53)] (sM s m1))))
    refine hY _ _ _ _ ?_
    refine Exists.intro _ (And.intro (wc_132_r41_0t_2t x1 1 _ _ h) (fun r2 m2 h => ?_))
    show Y 99 [(0, 5, true, 53), (1, 0, true, x1)] [(0, true, r2), (2, true, 0), (5, true, 53)] (sM s m2)
    refine hY _ _ _ _ ?_
    refine Exists.intro _ (And.intro (wc_35_r53_2t_0t 0 r2 _ _ h) (fun r3 m3 h => ?_))
    show Y 102 [(0, 5, true, 53), (1, 0, true, x1)] [(2, true, r3)] (sM s m3)
    refine hY _ _ _ _ ?_
    refine And.intro (fun hc => ?_) (fun hc => ?_)
    · have h := h.1 hc
      refine hY _ _ _ _ (?_ : Y 127 [(0, 5, true, 53), (1, 0, true, x1)] [(2, true, 0)] (sM s m3))
      refine hY _ _ _ _ ?_
      exact hQ 0 m3 h
    · have h := h.2 hc
      refine hY _ _ _ _ (hY _ _ _ _ (hY _ _ _ _ (?_ : Y 108 [(0, 5, true, 53), (1, 0, true, x1)] [(5, true, 53), (2, true, 0), (5, true, 53)] (sM s m3))))
      refine hY _ _ _ _ (hY _ _ _ _ (hY _ _ _ _ (?_ : Y 113 [(0, 5, true, 53), (1, 0, true, x1)] [(2, true, 0), (0, true, x1), (5, true, 41), (2, true, 0), (5, true, 53)] (sM s m3))))
      refine hY _ _ _ _ ?_
      refine Exists.intro _ (And.intro (wc_132_r41_0t_2t x1 0 _ _ h) (fun r4 m4 h => ?_))
      show Y 116 [(0, 5, true, 53), (1, 0, true, x1)] [(0, true, r4), (2, true, 0), (5, true, 53)] (sM s m4)
      refine hY _ _ _ _ ?_
      refine Exists.intro _ (And.intro (wc_35_r53_2t_0t 0 r4 _ _ h) (fun r5 m5 h => ?_))
      show Y 119 [(0, 5, true, 53), (1, 0, true, x1)] [(2, true, r5)] (sM s m5)
      refine hY _ _ _ _ ?_
      refine And.intro (fun hc => ?_) (fun hc => ?_)
      · have h := h.1 hc
        refine hY _ _ _ _ (?_ : Y 127 [(0, 5, true, 53), (1, 0, true, x1)] [(2, true, 0)] (sM s m5))
        refine hY _ _ _ _ ?_
        exact hQ 0 m5 h
      · have h := h.2 hc
        refine hY _ _ _ _ (hY _ _ _ _ (?_ : Y 127 [(0, 5, true, 53), (1, 0, true, x1)] [(2, true, 1)] (sM s m5)))
        refine hY _ _ _ _ ?_
        exact hQ 1 m5 h
def lb_31_0 (s : sS) (Q : sQ) (R : Int → hy_m → Prop) (x1 : Int) : Nat → Option (sL → sS → Prop) := sLb [(79, fun lv t => sG [(0, 5, 53), (1, 0, 0)] lv (ap1 (fun w1 => ∃ m', t = sM s m' ∧ wq_31_79 w1 s.1 m' R)))]
set_option maxRecDepth 30000 in
set_option maxHeartbeats 1000000 in
theorem wk_31_0 (Q : sQ) (R : Int → hy_m → Prop) (s : sS) (x1 : Int) (hQ : ∀ x m', R x m' → Q x (sM s m')) (hr : sRg [(0, 5, 53), (1, 0, 0)] [x1]) (h : wq_31 x1 s.1 s.2.2.2 R) : kX dC 2 im_m31 2 0 (sCan [(0, 5, 53), (1, 0, 0)] [x1]) [] s Q := by
  unfold wq_31 at h
  refine wz2_ok (cs := cs_31) (wr := []) (lb := lb_31_0 s Q R x1) cs_31_ok (kLb_c (kLab (Bd := fun xs t => ap1 (fun w1 => ∃ m', t = sM s m' ∧ wq_31_79 w1 s.1 m' R) xs) rfl (fun xs t r1 r2 hb => by obtain ⟨w1, rfl, hb⟩ := ap1_ok hb; obtain ⟨m', rfl, hx⟩ := hb; exact wk_31_79 Q R (sM s m') _ (fun x m'' hy => hQ x m'' hy) r1 hx)) kLb_n) (okL_can rfl hr) (fun Y hY hl => ?_)
  have l79 := hl 79 _ rfl
  refine hY _ _ _ _ (hY _ _ _ _ (hY _ _ _ _ (?_ : Y 5 [(0, 5, true, 53), (1, 0, true, x1)] [(0, true, x1), (5, true, 41)] s)))
  refine hY _ _ _ _ ?_
  refine Exists.intro _ (And.intro (wc_129_r41_0t x1 _ _ h) (fun r1 m1 h => ?_))
  refine hY _ _ _ _ (hY _ _ _ _ (hY _ _ _ _ (?_ : Y 11 [(2, 0, true, r1), (0, 5, true, 53), (1, 0, true, x1)] [(2, true, 1), (0, true, r1)] (sM s m1))))
  refine hY _ _ _ _ ?_
  refine And.intro (fun hc => ?_) (fun hc => ?_)
  · have h := h.1 hc
    refine hY _ _ _ _ (hY _ _ _ _ (hY _ _ _ _ (?_ : Y 32 [(2, 0, true, r1), (0, 5, true, 53), (1, 0, true, x1)] [(0, true, x1), (5, true, 41)] (sM s m1))))
    refine hY _ _ _ _ ?_
    refine Exists.intro _ (And.intro (wc_130_r41_0t x1 _ _ h) (fun r2 m2 h => ?_))
    refine hY _ _ _ _ (hY _ _ _ _ (hY _ _ _ _ (?_ : Y 38 [(3, 1, true, r2), (2, 0, true, r1), (0, 5, true, 53), (1, 0, true, x1)] [(0, true, 2), (0, true, r1)] (sM s m2))))
    refine hY _ _ _ _ ?_
    refine And.intro (fun hc => ?_) (fun hc => ?_)
    · have h := h.1 hc
      refine hY _ _ _ _ (hY _ _ _ _ (?_ : Y 50 [(3, 1, true, r2), (2, 0, true, r1), (0, 5, true, 53), (1, 0, true, x1)] [(0, true, 4), (0, true, r1)] (sM s m2)))
      refine hY _ _ _ _ ?_
      refine And.intro (fun hc => ?_) (fun hc => ?_)
      · have h := h.1 hc
        refine hY _ _ _ _ (?_ : Y 78 [(3, 1, true, r2), (2, 0, true, r1), (0, 5, true, 53), (1, 0, true, x1)] [(2, true, 0)] (sM s m2))
        refine hY _ _ _ _ ?_
        exact hQ 0 m2 h
      · have h := h.2 hc
        refine hY _ _ _ _ (hY _ _ _ _ (?_ : Y 57 [(3, 1, true, r2), (2, 0, true, r1), (0, 5, true, 53), (1, 0, true, x1)] [(1, true, 6605190), (1, true, r2)] (sM s m2)))
        refine hY _ _ _ _ ?_
        refine And.intro (fun hc => ?_) (fun hc => ?_)
        · have h := h.1 hc
          show Y 79 [(3, 1, true, r2), (2, 0, true, r1), (0, 5, true, 53), (1, 0, true, x1)] [] (sM s m2)
          refine l79 _ _ ?_
          exact (Exists.intro m2 (And.intro rfl h))
        · have h := h.2 hc
          refine hY _ _ _ _ (hY _ _ _ _ (?_ : Y 65 [(3, 1, true, r2), (2, 0, true, r1), (0, 5, true, 53), (1, 0, true, x1)] [(1, true, 6482894), (1, true, r2)] (sM s m2)))
          refine hY _ _ _ _ ?_
          refine And.intro (fun hc => ?_) (fun hc => ?_)
          · have h := h.1 hc
            show Y 79 [(3, 1, true, r2), (2, 0, true, r1), (0, 5, true, 53), (1, 0, true, x1)] [] (sM s m2)
            refine l79 _ _ ?_
            exact (Exists.intro m2 (And.intro rfl h))
          · have h := h.2 hc
            refine hY _ _ _ _ (hY _ _ _ _ (?_ : Y 73 [(3, 1, true, r2), (2, 0, true, r1), (0, 5, true, 53), (1, 0, true, x1)] [(1, true, 7138230), (1, true, r2)] (sM s m2)))
            refine hY _ _ _ _ ?_
            refine And.intro (fun hc => ?_) (fun hc => ?_)
            · have h := h.1 hc
              show Y 79 [(3, 1, true, r2), (2, 0, true, r1), (0, 5, true, 53), (1, 0, true, x1)] [] (sM s m2)
              refine l79 _ _ ?_
              exact (Exists.intro m2 (And.intro rfl h))
            · have h := h.2 hc
              refine hY _ _ _ _ (?_ : Y 78 [(3, 1, true, r2), (2, 0, true, r1), (0, 5, true, 53), (1, 0, true, x1)] [(2, true, 0)] (sM s m2))
              refine hY _ _ _ _ ?_
              exact hQ 0 m2 h
    · have h := h.2 hc
      refine hY _ _ _ _ (hY _ _ _ _ (hY _ _ _ _ (?_ : Y 44 [(3, 1, true, r2), (2, 0, true, r1), (0, 5, true, 53), (1, 0, true, x1)] [(0, false, r2), (5, true, 53)] (sM s m2))))
      refine hY _ _ _ _ ?_
      refine Exists.intro _ (And.intro (wc_36_r53_0f r2 _ _ h) (fun r3 m3 h => ?_))
      show Y 47 [(3, 1, true, r2), (2, 0, true, r1), (0, 5, true, 53), (1, 0, true, x1)] [(2, true, r3)] (sM s m3)
      refine hY _ _ _ _ ?_
      exact hQ r3 m3 h
  · have h := h.2 hc
    refine hY _ _ _ _ (hY _ _ _ _ (hY _ _ _ _ (?_ : Y 19 [(2, 0, true, r1), (0, 5, true, 53), (1, 0, true, x1)] [(5, true, 41), (5, true, 53)] (sM s m1))))
    refine hY _ _ _ _ (?_ : Y 20 [(2, 0, true, r1), (0, 5, true, 53), (1, 0, true, x1)] [(0, true, x1), (5, true, 41), (5, true, 53)] (sM s m1))
    refine hY _ _ _ _ ?_
    refine Exists.intro _ (And.intro (wc_125_r41_0t x1 _ _ h) (fun r4 m4 h => ?_))
    show Y 23 [(2, 0, true, r1), (0, 5, true, 53), (1, 0, true, x1)] [(0, true, r4), (5, true, 53)] (sM s m4)
    refine hY _ _ _ _ ?_
    refine Exists.intro _ (And.intro (wc_32_r53_0t r4 _ _ h) (fun r5 m5 h => ?_))
    show Y 26 [(2, 0, true, r1), (0, 5, true, 53), (1, 0, true, x1)] [(2, true, r5)] (sM s m5)
    refine hY _ _ _ _ ?_
    exact hQ r5 m5 h
def we_31 : sFf := sEf 5 [(0, 5, 53), (1, 0, 0)] (fun xs s Q => ap1 (fun x1 => wq_31 x1 s.1 s.2.2.2 Q) xs)
theorem we_31_ok : kS dC 3 31 2 (.inl we_31) := sEf_ok (mi := im_m31) rfl rfl rfl (fun R xs s r1 hb => by obtain ⟨x1, rfl, hb⟩ := ap1_ok hb; exact wk_31_0 _ R s x1 (fun x m' hx => ⟨m', rfl, hx⟩) r1 hb)
/-- LM$Arithmetic.apply(J)Z -/
def wq_33 (x1 : Int) (T : hy_T) (m : hy_m) (Q : Int → hy_m → Prop) : Prop := (2 ≤ (m 53 4) → (∃ n1 : Nat, T.1 (m 53 3).toNat = some (100, n1) ∧ (0 ≤ ((m 53 4) - 1) ∧ ((m 53 4) - 1) < (n1 : Int) ∧ (∃ n2 : Nat, T.1 (m 53 3).toNat = some (100, n2) ∧ (0 ≤ ((m 53 4) - 2) ∧ ((m 53 4) - 2) < (n2 : Int) ∧ (hy_r 0 ((m 53 4) - 2) ∧ ((x1 ≠ 6605190 → ((x1 ≠ 6482894 → (wq_36 (iW ((m ((m 53 3).toNat) ((m 53 4) - 2)) * (m ((m 53 3).toNat) ((m 53 4) - 1)))) T (hy_u m 53 4 ((m 53 4) - 2)) (fun r3 m3 => Q r3 m3))) ∧ (x1 = 6482894 → (wq_36 (iW ((m ((m 53 3).toNat) ((m 53 4) - 2)) - (m ((m 53 3).toNat) ((m 53 4) - 1)))) T (hy_u m 53 4 ((m 53 4) - 2)) (fun r4 m4 => Q r4 m4))))) ∧ (x1 = 6605190 → (wq_36 (iW ((m ((m 53 3).toNat) ((m 53 4) - 2)) + (m ((m 53 3).toNat) ((m 53 4) - 1)))) T (hy_u m 53 4 ((m 53 4) - 2)) (fun r5 m5 => Q r5 m5)))))))))) ∧ ((m 53 4) < 2 → (Q 0 m))
def cs_33 : List (Nat × Nat × sFS) := [(36, 2, .inl we_36)]
theorem cs_33_ok : kCs dC 1 cs_33 := (kCs_c (Or.inr (Or.inr (Or.inl rfl))) (we_36_ok.deep (by decide)) kCs_n)
def lb_33_0 (s : sS) (Q : sQ) (R : Int → hy_m → Prop) (x1 : Int) : Nat → Option (sL → sS → Prop) := sLb []
set_option maxRecDepth 30000 in
set_option maxHeartbeats 1000000 in
theorem wk_33_0 (Q : sQ) (R : Int → hy_m → Prop) (s : sS) (x1 : Int) (hQ : ∀ x m', R x m' → Q x (sM s m')) (hr : sRg [(0, 5, 53), (1, 1, 0)] [x1]) (h : wq_33 x1 s.1 s.2.2.2 R) : kX dC 1 im_m33 2 0 (sCan [(0, 5, 53), (1, 1, 0)] [x1]) [] s Q := by
  unfold wq_33 at h
  refine wz2_ok (cs := cs_33) (wr := [57, 74, 81]) (lb := lb_33_0 s Q R x1) cs_33_ok kLb_n (okL_can rfl hr) (fun Y hY hl => ?_)
  refine hY _ _ _ _ (hY _ _ _ _ (hY _ _ _ _ (?_ : Y 5 [(0, 5, true, 53), (1, 1, true, x1)] [(0, true, 2), (0, true, s.2.2.2 53 4)] s)))
  refine hY _ _ _ _ ?_
  refine And.intro (fun hc => ?_) (fun hc => ?_)
  · have h := h.1 hc
    refine hY _ _ _ _ (hY _ _ _ _ (hY _ _ _ _ (?_ : Y 15 [(0, 5, true, 53), (1, 1, true, x1)] [(5, true, 53), (3, true, s.2.2.2 53 3)] s)))
    refine hY _ _ _ _ (hY _ _ _ _ (hY _ _ _ _ (?_ : Y 20 [(0, 5, true, 53), (1, 1, true, x1)] [(0, false, (s.2.2.2 53 4) - 1), (3, true, s.2.2.2 53 3)] s)))
    refine hY _ _ _ _ ?_
    obtain ⟨n1, h⟩ := h
    refine Exists.intro n1 (And.intro h.1 ?_)
    refine (And.intro h.2.1 (And.intro h.2.2.1 ?_))
    refine hY _ _ _ _ (hY _ _ _ _ (hY _ _ _ _ (?_ : Y 26 [(3, 0, true, s.2.2.2 ((s.2.2.2 53 3).toNat) ((s.2.2.2 53 4) - 1)), (0, 5, true, 53), (1, 1, true, x1)] [(3, true, s.2.2.2 53 3)] s)))
    refine hY _ _ _ _ (hY _ _ _ _ (hY _ _ _ _ (?_ : Y 31 [(3, 0, true, s.2.2.2 ((s.2.2.2 53 3).toNat) ((s.2.2.2 53 4) - 1)), (0, 5, true, 53), (1, 1, true, x1)] [(0, true, 2), (0, true, s.2.2.2 53 4), (3, true, s.2.2.2 53 3)] s)))
    refine hY _ _ _ _ (?_ : Y 32 [(3, 0, true, s.2.2.2 ((s.2.2.2 53 3).toNat) ((s.2.2.2 53 4) - 1)), (0, 5, true, 53), (1, 1, true, x1)] [(0, false, (s.2.2.2 53 4) - 2), (3, true, s.2.2.2 53 3)] s)
    refine hY _ _ _ _ ?_
    obtain ⟨n2, h⟩ := h.2.2.2
    refine Exists.intro n2 (And.intro h.1 ?_)
    refine (And.intro h.2.1 (And.intro h.2.2.1 ?_))
    refine hY _ _ _ _ (hY _ _ _ _ (hY _ _ _ _ (?_ : Y 37 [(4, 0, true, s.2.2.2 ((s.2.2.2 53 3).toNat) ((s.2.2.2 53 4) - 2)), (3, 0, true, s.2.2.2 ((s.2.2.2 53 3).toNat) ((s.2.2.2 53 4) - 1)), (0, 5, true, 53), (1, 1, true, x1)] [(5, true, 53), (5, true, 53)] s)))
    refine hY _ _ _ _ (hY _ _ _ _ (hY _ _ _ _ (?_ : Y 42 [(4, 0, true, s.2.2.2 ((s.2.2.2 53 3).toNat) ((s.2.2.2 53 4) - 2)), (3, 0, true, s.2.2.2 ((s.2.2.2 53 3).toNat) ((s.2.2.2 53 4) - 1)), (0, 5, true, 53), (1, 1, true, x1)] [(0, false, (s.2.2.2 53 4) - 2), (5, true, 53)] s)))
    refine hY _ _ _ _ ?_
    refine And.intro h.2.2.2.1 ?_
    refine hY _ _ _ _ (hY _ _ _ _ (?_ : Y 49 [(4, 0, true, s.2.2.2 ((s.2.2.2 53 3).toNat) ((s.2.2.2 53 4) - 2)), (3, 0, true, s.2.2.2 ((s.2.2.2 53 3).toNat) ((s.2.2.2 53 4) - 1)), (0, 5, true, 53), (1, 1, true, x1)] [(1, true, 6605190), (1, true, x1)] (sM s (hy_u s.2.2.2 53 4 ((s.2.2.2 53 4) - 2)))))
    refine hY _ _ _ _ ?_
    refine And.intro (fun hc => ?_) (fun hc => ?_)
    · have h := h.2.2.2.2.1 hc
      refine hY _ _ _ _ (hY _ _ _ _ (hY _ _ _ _ (?_ : Y 67 [(4, 0, true, s.2.2.2 ((s.2.2.2 53 3).toNat) ((s.2.2.2 53 4) - 2)), (3, 0, true, s.2.2.2 ((s.2.2.2 53 3).toNat) ((s.2.2.2 53 4) - 1)), (0, 5, true, 53), (1, 1, true, x1)] [(1, true, 6482894), (1, true, x1), (5, true, 53)] (sM s (hy_u s.2.2.2 53 4 ((s.2.2.2 53 4) - 2))))))
      refine hY _ _ _ _ ?_
      refine And.intro (fun hc => ?_) (fun hc => ?_)
      · have h := h.1 hc
        refine hY _ _ _ _ (hY _ _ _ _ (hY _ _ _ _ (?_ : Y 82 [(4, 0, true, s.2.2.2 ((s.2.2.2 53 3).toNat) ((s.2.2.2 53 4) - 2)), (3, 0, true, s.2.2.2 ((s.2.2.2 53 3).toNat) ((s.2.2.2 53 4) - 1)), (0, 5, true, 53), (1, 1, true, x1)] [(0, true, iW ((s.2.2.2 ((s.2.2.2 53 3).toNat) ((s.2.2.2 53 4) - 2)) * (s.2.2.2 ((s.2.2.2 53 3).toNat) ((s.2.2.2 53 4) - 1)))), (5, true, 53)] (sM s (hy_u s.2.2.2 53 4 ((s.2.2.2 53 4) - 2))))))
        refine hY _ _ _ _ ?_
        refine Exists.intro _ (And.intro (wc_36_r53_0t (iW ((s.2.2.2 ((s.2.2.2 53 3).toNat) ((s.2.2.2 53 4) - 2)) * (s.2.2.2 ((s.2.2.2 53 3).toNat) ((s.2.2.2 53 4) - 1)))) _ _ h) (fun r3 m3 h => ?_))
        show Y 85 [(4, 0, true, s.2.2.2 ((s.2.2.2 53 3).toNat) ((s.2.2.2 53 4) - 2)), (3, 0, true, s.2.2.2 ((s.2.2.2 53 3).toNat) ((s.2.2.2 53 4) - 1)), (0, 5, true, 53), (1, 1, true, x1)] [(2, true, r3)] (sM s m3)
        refine hY _ _ _ _ ?_
        exact hQ r3 m3 h
      · have h := h.2 hc
        refine hY _ _ _ _ (hY _ _ _ _ (hY _ _ _ _ (?_ : Y 75 [(4, 0, true, s.2.2.2 ((s.2.2.2 53 3).toNat) ((s.2.2.2 53 4) - 2)), (3, 0, true, s.2.2.2 ((s.2.2.2 53 3).toNat) ((s.2.2.2 53 4) - 1)), (0, 5, true, 53), (1, 1, true, x1)] [(0, true, iW ((s.2.2.2 ((s.2.2.2 53 3).toNat) ((s.2.2.2 53 4) - 2)) - (s.2.2.2 ((s.2.2.2 53 3).toNat) ((s.2.2.2 53 4) - 1)))), (5, true, 53)] (sM s (hy_u s.2.2.2 53 4 ((s.2.2.2 53 4) - 2))))))
        refine hY _ _ _ _ (?_ : Y 82 [(4, 0, true, s.2.2.2 ((s.2.2.2 53 3).toNat) ((s.2.2.2 53 4) - 2)), (3, 0, true, s.2.2.2 ((s.2.2.2 53 3).toNat) ((s.2.2.2 53 4) - 1)), (0, 5, true, 53), (1, 1, true, x1)] [(0, true, iW ((s.2.2.2 ((s.2.2.2 53 3).toNat) ((s.2.2.2 53 4) - 2)) - (s.2.2.2 ((s.2.2.2 53 3).toNat) ((s.2.2.2 53 4) - 1)))), (5, true, 53)] (sM s (hy_u s.2.2.2 53 4 ((s.2.2.2 53 4) - 2))))
        refine hY _ _ _ _ ?_
        refine Exists.intro _ (And.intro (wc_36_r53_0t (iW ((s.2.2.2 ((s.2.2.2 53 3).toNat) ((s.2.2.2 53 4) - 2)) - (s.2.2.2 ((s.2.2.2 53 3).toNat) ((s.2.2.2 53 4) - 1)))) _ _ h) (fun r4 m4 h => ?_))
        show Y 85 [(4, 0, true, s.2.2.2 ((s.2.2.2 53 3).toNat) ((s.2.2.2 53 4) - 2)), (3, 0, true, s.2.2.2 ((s.2.2.2 53 3).toNat) ((s.2.2.2 53 4) - 1)), (0, 5, true, 53), (1, 1, true, x1)] [(2, true, r4)] (sM s m4)
        refine hY _ _ _ _ ?_
        exact hQ r4 m4 h
    · have h := h.2.2.2.2.2 hc
      refine hY _ _ _ _ (hY _ _ _ _ (hY _ _ _ _ (?_ : Y 57 [(4, 0, true, s.2.2.2 ((s.2.2.2 53 3).toNat) ((s.2.2.2 53 4) - 2)), (3, 0, true, s.2.2.2 ((s.2.2.2 53 3).toNat) ((s.2.2.2 53 4) - 1)), (0, 5, true, 53), (1, 1, true, x1)] [(0, true, s.2.2.2 ((s.2.2.2 53 3).toNat) ((s.2.2.2 53 4) - 1)), (0, true, s.2.2.2 ((s.2.2.2 53 3).toNat) ((s.2.2.2 53 4) - 2)), (5, true, 53)] (sM s (hy_u s.2.2.2 53 4 ((s.2.2.2 53 4) - 2))))))
      refine hY _ _ _ _ (?_ : Y 58 [(4, 0, true, s.2.2.2 ((s.2.2.2 53 3).toNat) ((s.2.2.2 53 4) - 2)), (3, 0, true, s.2.2.2 ((s.2.2.2 53 3).toNat) ((s.2.2.2 53 4) - 1)), (0, 5, true, 53), (1, 1, true, x1)] [(0, true, iW ((s.2.2.2 ((s.2.2.2 53 3).toNat) ((s.2.2.2 53 4) - 2)) + (s.2.2.2 ((s.2.2.2 53 3).toNat) ((s.2.2.2 53 4) - 1)))), (5, true, 53)] (sM s (hy_u s.2.2.2 53 4 ((s.2.2.2 53 4) - 2))))
      refine hY _ _ _ _ ?_
      refine Exists.intro _ (And.intro (wc_36_r53_0t (iW ((s.2.2.2 ((s.2.2.2 53 3).toNat) ((s.2.2.2 53 4) - 2)) + (s.2.2.2 ((s.2.2.2 53 3).toNat) ((s.2.2.2 53 4) - 1)))) _ _ h) (fun r5 m5 h => ?_))
      show Y 61 [(4, 0, true, s.2.2.2 ((s.2.2.2 53 3).toNat) ((s.2.2.2 53 4) - 2)), (3, 0, true, s.2.2.2 ((s.2.2.2 53 3).toNat) ((s.2.2.2 53 4) - 1)), (0, 5, true, 53), (1, 1, true, x1)] [(2, true, r5)] (sM s m5)
      refine hY _ _ _ _ ?_
      exact hQ r5 m5 h
  · have h := h.2 hc
    refine hY _ _ _ _ (?_ : Y 9 [(0, 5, true, 53), (1, 1, true, x1)] [(2, true, 0)] s)
    refine hY _ _ _ _ ?_
    exact hQ 0 s.2.2.2 h
def we_33 : sFf := sEf 5 [(0, 5, 53), (1, 1, 0)] (fun xs s Q => ap1 (fun x1 => wq_33 x1 s.1 s.2.2.2 Q) xs)
theorem we_33_ok : kS dC 2 33 2 (.inl we_33) := sEf_ok (mi := im_m33) rfl rfl rfl (fun R xs s r1 hb => by obtain ⟨x1, rfl, hb⟩ := ap1_ok hb; exact wk_33_0 _ R s x1 (fun x m' hx => ⟨m', rfl, hx⟩) r1 hb)
/-- LM$Arithmetic.keep(I)Z -/
def wq_34 (x1 : Int) (T : hy_T) (m : hy_m) (Q : Int → hy_m → Prop) : Prop := ((m 53 4) ≤ 0 → (Q 0 m)) ∧ (0 < (m 53 4) → (∃ t1 n1 : Nat, T.1 (m 53 5).toNat = some (t1, n1) ∧ 99 ≤ t1 ∧ ((x1 < (n1 : Int) → (∃ n2 : Nat, T.1 (m 53 3).toNat = some (100, n2) ∧ (0 ≤ ((m 53 4) - 1) ∧ ((m 53 4) - 1) < (n2 : Int) ∧ (∃ n3 : Nat, T.1 (m 53 5).toNat = some (100, n3) ∧ (0 ≤ x1 ∧ x1 < (n3 : Int) ∧ (∃ n4 : Nat, T.1 ((hy_u m ((m 53 5).toNat) x1 (m ((m 53 3).toNat) ((m 53 4) - 1))) 53 6).toNat = some (100, n4) ∧ (0 ≤ x1 ∧ x1 < (n4 : Int) ∧ (Q 1 (hy_u (hy_u m ((m 53 5).toNat) x1 (m ((m 53 3).toNat) ((m 53 4) - 1))) (((hy_u m ((m 53 5).toNat) x1 (m ((m 53 3).toNat) ((m 53 4) - 1))) 53 6).toNat) x1 ((hy_u m ((m 53 5).toNat) x1 (m ((m 53 3).toNat) ((m 53 4) - 1))) 53 7)))))))))) ∧ ((n1 : Int) ≤ x1 → (Q 0 m)))))
def cs_34 : List (Nat × Nat × sFS) := []
theorem cs_34_ok : kCs dC 0 cs_34 := kCs_n
def lb_34_0 (s : sS) (Q : sQ) (R : Int → hy_m → Prop) (x1 : Int) : Nat → Option (sL → sS → Prop) := sLb []
set_option maxRecDepth 30000 in
set_option maxHeartbeats 1000000 in
theorem wk_34_0 (Q : sQ) (R : Int → hy_m → Prop) (s : sS) (x1 : Int) (hQ : ∀ x m', R x m' → Q x (sM s m')) (hr : sRg [(0, 5, 53), (1, 0, 0)] [x1]) (h : wq_34 x1 s.1 s.2.2.2 R) : kX dC 0 im_m34 2 0 (sCan [(0, 5, 53), (1, 0, 0)] [x1]) [] s Q := by
  unfold wq_34 at h
  refine wz2_ok (cs := cs_34) (wr := []) (lb := lb_34_0 s Q R x1) cs_34_ok kLb_n (okL_can rfl hr) (fun Y hY hl => ?_)
  refine hY _ _ _ _ (hY _ _ _ _ (?_ : Y 4 [(0, 5, true, 53), (1, 0, true, x1)] [(0, true, s.2.2.2 53 4)] s))
  refine hY _ _ _ _ ?_
  refine And.intro (fun hc => ?_) (fun hc => ?_)
  · have h := h.1 hc
    refine hY _ _ _ _ (?_ : Y 17 [(0, 5, true, 53), (1, 0, true, x1)] [(2, true, 0)] s)
    refine hY _ _ _ _ ?_
    exact hQ 0 s.2.2.2 h
  · have h := h.2 hc
    refine hY _ _ _ _ (hY _ _ _ _ (hY _ _ _ _ (?_ : Y 12 [(0, 5, true, 53), (1, 0, true, x1)] [(3, true, s.2.2.2 53 5), (0, true, x1)] s)))
    refine hY _ _ _ _ ?_
    obtain ⟨t1, n1, h⟩ := h
    refine Exists.intro t1 (Exists.intro n1 (And.intro h.1 (And.intro h.2.1 ?_)))
    show Y 13 [(0, 5, true, 53), (1, 0, true, x1)] [(0, true, (n1 : Int)), (0, true, x1)] s
    refine hY _ _ _ _ ?_
    refine And.intro (fun hc => ?_) (fun hc => ?_)
    · have h := h.2.2.1 hc
      refine hY _ _ _ _ (hY _ _ _ _ (hY _ _ _ _ (?_ : Y 23 [(0, 5, true, 53), (1, 0, true, x1)] [(0, true, x1), (3, true, s.2.2.2 53 5)] s)))
      refine hY _ _ _ _ (hY _ _ _ _ (hY _ _ _ _ (?_ : Y 28 [(0, 5, true, 53), (1, 0, true, x1)] [(5, true, 53), (3, true, s.2.2.2 53 3), (0, true, x1), (3, true, s.2.2.2 53 5)] s)))
      refine hY _ _ _ _ (hY _ _ _ _ (hY _ _ _ _ (?_ : Y 33 [(0, 5, true, 53), (1, 0, true, x1)] [(0, false, (s.2.2.2 53 4) - 1), (3, true, s.2.2.2 53 3), (0, true, x1), (3, true, s.2.2.2 53 5)] s)))
      refine hY _ _ _ _ ?_
      obtain ⟨n2, h⟩ := h
      refine Exists.intro n2 (And.intro h.1 ?_)
      refine (And.intro h.2.1 (And.intro h.2.2.1 ?_))
      show Y 34 [(0, 5, true, 53), (1, 0, true, x1)] [(0, true, s.2.2.2 ((s.2.2.2 53 3).toNat) ((s.2.2.2 53 4) - 1)), (0, true, x1), (3, true, s.2.2.2 53 5)] s
      refine hY _ _ _ _ ?_
      obtain ⟨n3, h⟩ := h.2.2.2
      refine Exists.intro n3 (And.intro h.1 ?_)
      refine (And.intro h.2.1 (And.intro h.2.2.1 ?_))
      refine hY _ _ _ _ (hY _ _ _ _ (hY _ _ _ _ (?_ : Y 40 [(0, 5, true, 53), (1, 0, true, x1)] [(0, true, x1), (3, true, (hy_u s.2.2.2 ((s.2.2.2 53 5).toNat) x1 (s.2.2.2 ((s.2.2.2 53 3).toNat) ((s.2.2.2 53 4) - 1))) 53 6)] (sM s (hy_u s.2.2.2 ((s.2.2.2 53 5).toNat) x1 (s.2.2.2 ((s.2.2.2 53 3).toNat) ((s.2.2.2 53 4) - 1)))))))
      refine hY _ _ _ _ (hY _ _ _ _ (?_ : Y 44 [(0, 5, true, 53), (1, 0, true, x1)] [(0, true, (hy_u s.2.2.2 ((s.2.2.2 53 5).toNat) x1 (s.2.2.2 ((s.2.2.2 53 3).toNat) ((s.2.2.2 53 4) - 1))) 53 7), (0, true, x1), (3, true, (hy_u s.2.2.2 ((s.2.2.2 53 5).toNat) x1 (s.2.2.2 ((s.2.2.2 53 3).toNat) ((s.2.2.2 53 4) - 1))) 53 6)] (sM s (hy_u s.2.2.2 ((s.2.2.2 53 5).toNat) x1 (s.2.2.2 ((s.2.2.2 53 3).toNat) ((s.2.2.2 53 4) - 1))))))
      refine hY _ _ _ _ ?_
      obtain ⟨n4, h⟩ := h.2.2.2
      refine Exists.intro n4 (And.intro h.1 ?_)
      refine (And.intro h.2.1 (And.intro h.2.2.1 ?_))
      refine hY _ _ _ _ (?_ : Y 46 [(0, 5, true, 53), (1, 0, true, x1)] [(2, true, 1)] (sM s (hy_u (hy_u s.2.2.2 ((s.2.2.2 53 5).toNat) x1 (s.2.2.2 ((s.2.2.2 53 3).toNat) ((s.2.2.2 53 4) - 1))) (((hy_u s.2.2.2 ((s.2.2.2 53 5).toNat) x1 (s.2.2.2 ((s.2.2.2 53 3).toNat) ((s.2.2.2 53 4) - 1))) 53 6).toNat) x1 ((hy_u s.2.2.2 ((s.2.2.2 53 5).toNat) x1 (s.2.2.2 ((s.2.2.2 53 3).toNat) ((s.2.2.2 53 4) - 1))) 53 7))))
      refine hY _ _ _ _ ?_
      exact hQ 1 (hy_u (hy_u s.2.2.2 ((s.2.2.2 53 5).toNat) x1 (s.2.2.2 ((s.2.2.2 53 3).toNat) ((s.2.2.2 53 4) - 1))) (((hy_u s.2.2.2 ((s.2.2.2 53 5).toNat) x1 (s.2.2.2 ((s.2.2.2 53 3).toNat) ((s.2.2.2 53 4) - 1))) 53 6).toNat) x1 ((hy_u s.2.2.2 ((s.2.2.2 53 5).toNat) x1 (s.2.2.2 ((s.2.2.2 53 3).toNat) ((s.2.2.2 53 4) - 1))) 53 7)) h.2.2.2
    · have h := h.2.2.2 hc
      refine hY _ _ _ _ (?_ : Y 17 [(0, 5, true, 53), (1, 0, true, x1)] [(2, true, 0)] s)
      refine hY _ _ _ _ ?_
      exact hQ 0 s.2.2.2 h
def we_34 : sFf := sEf 2 [(0, 5, 53), (1, 0, 0)] (fun xs s Q => ap1 (fun x1 => wq_34 x1 s.1 s.2.2.2 Q) xs)
theorem we_34_ok : kS dC 1 34 2 (.inl we_34) := sEf_ok (mi := im_m34) rfl rfl rfl (fun R xs s r1 hb => by obtain ⟨x1, rfl, hb⟩ := ap1_ok hb; exact wk_34_0 _ R s x1 (fun x m' hx => ⟨m', rfl, hx⟩) r1 hb)
/-- LM$Arithmetic.evaluate(I)Z -/
def wq_30_131 (x2 : Int) (T : hy_T) (m : hy_m) (Q : Int → hy_m → Prop) : Prop := ((m 53 4) ≤ 0 → ((x2 = 0 → (Q 0 (hy_u m 53 8 0))) ∧ (x2 ≠ 0 → (((m 53 4) ≠ 1 → (Q 0 (hy_u m 53 8 0))) ∧ ((m 53 4) = 1 → (Q 1 (hy_u m 53 8 0))))))) ∧ (0 < (m 53 4) → (∃ n1 : Nat, T.1 (m 53 3).toNat = some (100, n1) ∧ (0 ≤ (0 : Int) ∧ (0 : Int) < (n1 : Int) ∧ ((x2 = 0 → (Q 0 (hy_u m 53 8 (m ((m 53 3).toNat) 0)))) ∧ (x2 ≠ 0 → (((m 53 4) ≠ 1 → (Q 0 (hy_u m 53 8 (m ((m 53 3).toNat) 0)))) ∧ ((m 53 4) = 1 → (Q 1 (hy_u m 53 8 (m ((m 53 3).toNat) 0))))))))))
def wf_30_28 (T : hy_T) (Q : Int → hy_m → Prop) (P28 : Int → Int → hy_m → Prop) (x2 : Int) (x3 : Int) (m : hy_m) : Prop := (x2 = 0 → (wq_30_131 x2 T m Q)) ∧ (x2 ≠ 0 → ((1000000 ≤ x3 → (wq_30_131 x2 T m Q)) ∧ (x3 < 1000000 → (((m 53 2) ≤ 0 → (wq_30_131 x2 T m Q)) ∧ (0 < (m 53 2) → (hy_r 0 ((m 53 2) - 1) ∧ (∃ n1 : Nat, T.1 (m 53 1).toNat = some (100, n1) ∧ (0 ≤ ((m 53 2) - 1) ∧ ((m 53 2) - 1) < (n1 : Int) ∧ (((iSr ((hy_u m 53 2 ((m 53 2) - 1)) ((m 53 1).toNat) ((m 53 2) - 1)) 16) ≠ 0 → (((iSr ((hy_u m 53 2 ((m 53 2) - 1)) ((m 53 1).toNat) ((m 53 2) - 1)) 16) ≠ 1 → (wq_34 (iA ((hy_u m 53 2 ((m 53 2) - 1)) ((m 53 1).toNat) ((m 53 2) - 1)) 65535) T (hy_u m 53 2 ((m 53 2) - 1)) (fun r2 m2 => hy_r 0 (x3 + 1) ∧ (P28 r2 (x3 + 1) m2)))) ∧ ((iSr ((hy_u m 53 2 ((m 53 2) - 1)) ((m 53 1).toNat) ((m 53 2) - 1)) 16) = 1 → (wq_130 (iA ((hy_u m 53 2 ((m 53 2) - 1)) ((m 53 1).toNat) ((m 53 2) - 1)) 65535) T (hy_u m 53 2 ((m 53 2) - 1)) (fun r3 m3 => wq_33 r3 T m3 (fun r4 m4 => hy_r 0 (x3 + 1) ∧ (P28 r4 (x3 + 1) m4))))))) ∧ ((iSr ((hy_u m 53 2 ((m 53 2) - 1)) ((m 53 1).toNat) ((m 53 2) - 1)) 16) = 0 → (wq_31 (iA ((hy_u m 53 2 ((m 53 2) - 1)) ((m 53 1).toNat) ((m 53 2) - 1)) 65535) T (hy_u m 53 2 ((m 53 2) - 1)) (fun r5 m5 => hy_r 0 (x3 + 1) ∧ (P28 r5 (x3 + 1) m5)))))))))))))
def wq_30_28 (x2 : Int) (x3 : Int) (T : hy_T) (m : hy_m) (Q : Int → hy_m → Prop) : Prop := wL2 hy_m (wf_30_28 T Q) x2 x3 m
def wq_30 (x1 : Int) (T : hy_T) (m : hy_m) (Q : Int → hy_m → Prop) : Prop := hy_r 0 ((m 53 7) + 1) ∧ (wq_31 x1 T (hy_u (hy_u (hy_u m 53 7 ((m 53 7) + 1)) 53 2 0) 53 4 0) (fun r1 m1 => wq_30_28 r1 0 T m1 Q))
theorem wc_34_r53_0t (x1 : Int) (s : sS) (R : Int → hy_m → Prop) (h : wq_34 x1 s.1 s.2.2.2 R) : we_34 [(5, true, 53), (0, true, x1)] s R := h
theorem wc_33_r53_1t (x1 : Int) (s : sS) (R : Int → hy_m → Prop) (h : wq_33 x1 s.1 s.2.2.2 R) : we_33 [(5, true, 53), (1, true, x1)] s R := h
theorem wc_31_r53_0t (x1 : Int) (s : sS) (R : Int → hy_m → Prop) (h : wq_31 x1 s.1 s.2.2.2 R) : we_31 [(5, true, 53), (0, true, x1)] s R := h
def cs_30 : List (Nat × Nat × sFS) := [(31, 2, .inl we_31), (33, 2, .inl we_33), (34, 2, .inl we_34), (130, 1, .inl we_130)]
theorem cs_30_ok : kCs dC 3 cs_30 := (kCs_c (Or.inr (Or.inr (Or.inl rfl))) (we_31_ok.deep (by decide)) (kCs_c (Or.inr (Or.inr (Or.inl rfl))) (we_33_ok.deep (by decide)) (kCs_c (Or.inr (Or.inr (Or.inl rfl))) (we_34_ok.deep (by decide)) (kCs_c (Or.inr (Or.inl rfl)) (we_130_ok.deep (by decide)) kCs_n))))
def lb_30_131 (s : sS) (Q : sQ) (R : Int → hy_m → Prop) (x2 : Int) : Nat → Option (sL → sS → Prop) := sLb []
set_option maxRecDepth 30000 in
set_option maxHeartbeats 1000000 in
theorem wk_30_131 (Q : sQ) (R : Int → hy_m → Prop) (s : sS) (x2 : Int) (hQ : ∀ x m', R x m' → Q x (sM s m')) (hr : sRg [(0, 5, 53), (2, 2, 0)] [x2]) (h : wq_30_131 x2 s.1 s.2.2.2 R) : kX dC 3 im_m30 2 131 (sCan [(0, 5, 53), (2, 2, 0)] [x2]) [] s Q := by
  unfold wq_30_131 at h
  refine wz2_ok (cs := cs_30) (wr := []) (lb := lb_30_131 s Q R x2) cs_30_ok kLb_n (okL_can rfl hr) (fun Y hY hl => ?_)
  refine hY _ _ _ _ (hY _ _ _ _ (hY _ _ _ _ (?_ : Y 136 [(0, 5, true, 53), (2, 2, true, x2)] [(0, true, s.2.2.2 53 4), (5, true, 53)] s)))
  refine hY _ _ _ _ ?_
  refine And.intro (fun hc => ?_) (fun hc => ?_)
  · have h := h.1 hc
    refine hY _ _ _ _ (?_ : Y 149 [(0, 5, true, 53), (2, 2, true, x2)] [(2, true, 0), (5, true, 53)] s)
    refine hY _ _ _ _ ?_
    refine hY _ _ _ _ (?_ : Y 153 [(0, 5, true, 53), (2, 2, true, x2)] [(2, true, x2)] (sM s (hy_u s.2.2.2 53 8 0)))
    refine hY _ _ _ _ ?_
    refine And.intro (fun hc => ?_) (fun hc => ?_)
    · have h := h.1 hc
      refine hY _ _ _ _ (?_ : Y 169 [(0, 5, true, 53), (2, 2, true, x2)] [(2, true, 0)] (sM s (hy_u s.2.2.2 53 8 0)))
      refine hY _ _ _ _ ?_
      exact hQ 0 (hy_u s.2.2.2 53 8 0) h
    · have h := h.2 hc
      refine hY _ _ _ _ (hY _ _ _ _ (hY _ _ _ _ (?_ : Y 161 [(0, 5, true, 53), (2, 2, true, x2)] [(2, true, 1), (0, true, s.2.2.2 53 4)] (sM s (hy_u s.2.2.2 53 8 0)))))
      refine hY _ _ _ _ ?_
      refine And.intro (fun hc => ?_) (fun hc => ?_)
      · have h := h.1 hc
        refine hY _ _ _ _ (?_ : Y 169 [(0, 5, true, 53), (2, 2, true, x2)] [(2, true, 0)] (sM s (hy_u s.2.2.2 53 8 0)))
        refine hY _ _ _ _ ?_
        exact hQ 0 (hy_u s.2.2.2 53 8 0) h
      · have h := h.2 hc
        refine hY _ _ _ _ (hY _ _ _ _ (?_ : Y 169 [(0, 5, true, 53), (2, 2, true, x2)] [(2, true, 1)] (sM s (hy_u s.2.2.2 53 8 0))))
        refine hY _ _ _ _ ?_
        exact hQ 1 (hy_u s.2.2.2 53 8 0) h
  · have h := h.2 hc
    refine hY _ _ _ _ (hY _ _ _ _ (hY _ _ _ _ (?_ : Y 144 [(0, 5, true, 53), (2, 2, true, x2)] [(2, true, 0), (3, true, s.2.2.2 53 3), (5, true, 53)] s)))
    refine hY _ _ _ _ ?_
    obtain ⟨n1, h⟩ := h
    refine Exists.intro n1 (And.intro h.1 ?_)
    refine (And.intro h.2.1 (And.intro h.2.2.1 ?_))
    refine hY _ _ _ _ (?_ : Y 149 [(0, 5, true, 53), (2, 2, true, x2)] [(0, true, s.2.2.2 ((s.2.2.2 53 3).toNat) 0), (5, true, 53)] s)
    refine hY _ _ _ _ ?_
    refine hY _ _ _ _ (?_ : Y 153 [(0, 5, true, 53), (2, 2, true, x2)] [(2, true, x2)] (sM s (hy_u s.2.2.2 53 8 (s.2.2.2 ((s.2.2.2 53 3).toNat) 0))))
    refine hY _ _ _ _ ?_
    refine And.intro (fun hc => ?_) (fun hc => ?_)
    · have h := h.2.2.2.1 hc
      refine hY _ _ _ _ (?_ : Y 169 [(0, 5, true, 53), (2, 2, true, x2)] [(2, true, 0)] (sM s (hy_u s.2.2.2 53 8 (s.2.2.2 ((s.2.2.2 53 3).toNat) 0))))
      refine hY _ _ _ _ ?_
      exact hQ 0 (hy_u s.2.2.2 53 8 (s.2.2.2 ((s.2.2.2 53 3).toNat) 0)) h
    · have h := h.2.2.2.2 hc
      refine hY _ _ _ _ (hY _ _ _ _ (hY _ _ _ _ (?_ : Y 161 [(0, 5, true, 53), (2, 2, true, x2)] [(2, true, 1), (0, true, s.2.2.2 53 4)] (sM s (hy_u s.2.2.2 53 8 (s.2.2.2 ((s.2.2.2 53 3).toNat) 0))))))
      refine hY _ _ _ _ ?_
      refine And.intro (fun hc => ?_) (fun hc => ?_)
      · have h := h.1 hc
        refine hY _ _ _ _ (?_ : Y 169 [(0, 5, true, 53), (2, 2, true, x2)] [(2, true, 0)] (sM s (hy_u s.2.2.2 53 8 (s.2.2.2 ((s.2.2.2 53 3).toNat) 0))))
        refine hY _ _ _ _ ?_
        exact hQ 0 (hy_u s.2.2.2 53 8 (s.2.2.2 ((s.2.2.2 53 3).toNat) 0)) h
      · have h := h.2 hc
        refine hY _ _ _ _ (hY _ _ _ _ (?_ : Y 169 [(0, 5, true, 53), (2, 2, true, x2)] [(2, true, 1)] (sM s (hy_u s.2.2.2 53 8 (s.2.2.2 ((s.2.2.2 53 3).toNat) 0)))))
        refine hY _ _ _ _ ?_
        exact hQ 1 (hy_u s.2.2.2 53 8 (s.2.2.2 ((s.2.2.2 53 3).toNat) 0)) h
def lb_30_28 (s : sS) (Q : sQ) (P28 : Int → Int → hy_m → Prop) (R : Int → hy_m → Prop) (x2 : Int) (x3 : Int) : Nat → Option (sL → sS → Prop) := sLb [(131, fun lv t => sG [(0, 5, 53), (2, 2, 0)] lv (ap1 (fun w2 => ∃ m', t = sM s m' ∧ wq_30_131 w2 s.1 m' R))), (28, fun lv t => sG [(0, 5, 53), (2, 2, 0), (3, 0, 0)] lv (ap2 (fun w2 w3 => ∃ m', t = sM s m' ∧ P28 w2 w3 m')))]
set_option maxRecDepth 30000 in
set_option maxHeartbeats 1000000 in
theorem wj_30_28 (Q : sQ) (R : Int → hy_m → Prop) (s : sS) (P28 : Int → Int → hy_m → Prop) (x2 : Int) (x3 : Int) (m : hy_m) (hP28 : ∀ (z2 z3 : Int) (m : hy_m), P28 z2 z3 m → sRg [(0, 5, 53), (2, 2, 0), (3, 0, 0)] [z2, z3] → kX dC 3 im_m30 2 28 (sCan [(0, 5, 53), (2, 2, 0), (3, 0, 0)] [z2, z3]) [] (sM s m) Q) (hQ : ∀ x m', R x m' → Q x (sM s m')) (hr : sRg [(0, 5, 53), (2, 2, 0), (3, 0, 0)] [x2, x3]) (h : wf_30_28 s.1 R P28 x2 x3 m) : kX dC 3 im_m30 2 28 (sCan [(0, 5, 53), (2, 2, 0), (3, 0, 0)] [x2, x3]) [] (sM s m) Q := by
  unfold wf_30_28 at h
  refine wz2_ok (cs := cs_30) (wr := []) (lb := lb_30_28 s Q P28 R x2 x3) cs_30_ok (kLb_c (kLab (Bd := fun xs t => ap1 (fun w2 => ∃ m', t = sM s m' ∧ wq_30_131 w2 s.1 m' R) xs) rfl (fun xs t r1 r2 hb => by obtain ⟨w2, rfl, hb⟩ := ap1_ok hb; obtain ⟨m', rfl, hx⟩ := hb; exact wk_30_131 Q R (sM s m') _ (fun x m'' hy => hQ x m'' hy) r1 hx)) (kLb_c (kLab (Bd := fun xs t => ap2 (fun w2 w3 => ∃ m', t = sM s m' ∧ P28 w2 w3 m') xs) rfl (fun xs t r1 r2 hb => by obtain ⟨w2, w3, rfl, hb⟩ := ap2_ok hb; obtain ⟨m', rfl, hx⟩ := hb; exact hP28 _ _ m' hx r1)) kLb_n)) (okL_can rfl hr) (fun Y hY hl => ?_)
  have l131 := hl 131 _ rfl
  have l28 := hl 28 _ rfl
  refine hY _ _ _ _ (?_ : Y 29 [(0, 5, true, 53), (2, 2, true, x2), (3, 0, true, x3)] [(2, true, x2)] (sM s m))
  refine hY _ _ _ _ ?_
  refine And.intro (fun hc => ?_) (fun hc => ?_)
  · have h := h.1 hc
    show Y 131 [(0, 5, true, 53), (2, 2, true, x2), (3, 0, true, x3)] [] (sM s m)
    refine l131 _ _ ?_
    exact (Exists.intro m (And.intro rfl h))
  · have h := h.2 hc
    refine hY _ _ _ _ (hY _ _ _ _ (?_ : Y 35 [(0, 5, true, 53), (2, 2, true, x2), (3, 0, true, x3)] [(0, true, 1000000), (0, true, x3)] (sM s m)))
    refine hY _ _ _ _ ?_
    refine And.intro (fun hc => ?_) (fun hc => ?_)
    · have h := h.1 hc
      show Y 131 [(0, 5, true, 53), (2, 2, true, x2), (3, 0, true, x3)] [] (sM s m)
      refine l131 _ _ ?_
      exact (Exists.intro m (And.intro rfl h))
    · have h := h.2 hc
      refine hY _ _ _ _ (hY _ _ _ _ (?_ : Y 42 [(0, 5, true, 53), (2, 2, true, x2), (3, 0, true, x3)] [(0, true, m 53 2)] (sM s m)))
      refine hY _ _ _ _ ?_
      refine And.intro (fun hc => ?_) (fun hc => ?_)
      · have h := h.1 hc
        show Y 131 [(0, 5, true, 53), (2, 2, true, x2), (3, 0, true, x3)] [] (sM s m)
        refine l131 _ _ ?_
        exact (Exists.intro m (And.intro rfl h))
      · have h := h.2 hc
        refine hY _ _ _ _ (hY _ _ _ _ (hY _ _ _ _ (?_ : Y 50 [(0, 5, true, 53), (2, 2, true, x2), (3, 0, true, x3)] [(0, true, m 53 2), (5, true, 53)] (sM s m))))
        refine hY _ _ _ _ (hY _ _ _ _ (?_ : Y 52 [(0, 5, true, 53), (2, 2, true, x2), (3, 0, true, x3)] [(0, false, (m 53 2) - 1), (5, true, 53)] (sM s m)))
        refine hY _ _ _ _ ?_
        refine And.intro h.1 ?_
        refine hY _ _ _ _ (hY _ _ _ _ (hY _ _ _ _ (?_ : Y 60 [(0, 5, true, 53), (2, 2, true, x2), (3, 0, true, x3)] [(5, true, 53), (3, true, m 53 1)] (sM s (hy_u m 53 2 ((m 53 2) - 1))))))
        refine hY _ _ _ _ (?_ : Y 63 [(0, 5, true, 53), (2, 2, true, x2), (3, 0, true, x3)] [(0, true, (m 53 2) - 1), (3, true, m 53 1)] (sM s (hy_u m 53 2 ((m 53 2) - 1))))
        refine hY _ _ _ _ ?_
        obtain ⟨n1, h⟩ := h.2
        refine Exists.intro n1 (And.intro h.1 ?_)
        refine (And.intro h.2.1 (And.intro h.2.2.1 ?_))
        refine hY _ _ _ _ (hY _ _ _ _ (hY _ _ _ _ (?_ : Y 70 [(4, 0, true, (hy_u m 53 2 ((m 53 2) - 1)) ((m 53 1).toNat) ((m 53 2) - 1)), (0, 5, true, 53), (2, 2, true, x2), (3, 0, true, x3)] [(0, true, 16), (0, true, (hy_u m 53 2 ((m 53 2) - 1)) ((m 53 1).toNat) ((m 53 2) - 1))] (sM s (hy_u m 53 2 ((m 53 2) - 1))))))
        refine hY _ _ _ _ (?_ : Y 71 [(4, 0, true, (hy_u m 53 2 ((m 53 2) - 1)) ((m 53 1).toNat) ((m 53 2) - 1)), (0, 5, true, 53), (2, 2, true, x2), (3, 0, true, x3)] [(0, true, iSr ((hy_u m 53 2 ((m 53 2) - 1)) ((m 53 1).toNat) ((m 53 2) - 1)) 16)] (sM s (hy_u m 53 2 ((m 53 2) - 1))))
        refine hY _ _ _ _ (hY _ _ _ _ (hY _ _ _ _ (?_ : Y 77 [(5, 0, true, iSr ((hy_u m 53 2 ((m 53 2) - 1)) ((m 53 1).toNat) ((m 53 2) - 1)) 16), (4, 0, true, (hy_u m 53 2 ((m 53 2) - 1)) ((m 53 1).toNat) ((m 53 2) - 1)), (0, 5, true, 53), (2, 2, true, x2), (3, 0, true, x3)] [(0, true, 65535), (0, true, (hy_u m 53 2 ((m 53 2) - 1)) ((m 53 1).toNat) ((m 53 2) - 1))] (sM s (hy_u m 53 2 ((m 53 2) - 1))))))
        refine hY _ _ _ _ (?_ : Y 78 [(5, 0, true, iSr ((hy_u m 53 2 ((m 53 2) - 1)) ((m 53 1).toNat) ((m 53 2) - 1)) 16), (4, 0, true, (hy_u m 53 2 ((m 53 2) - 1)) ((m 53 1).toNat) ((m 53 2) - 1)), (0, 5, true, 53), (2, 2, true, x2), (3, 0, true, x3)] [(0, true, iA ((hy_u m 53 2 ((m 53 2) - 1)) ((m 53 1).toNat) ((m 53 2) - 1)) 65535)] (sM s (hy_u m 53 2 ((m 53 2) - 1))))
        refine hY _ _ _ _ (hY _ _ _ _ (?_ : Y 82 [(6, 0, true, iA ((hy_u m 53 2 ((m 53 2) - 1)) ((m 53 1).toNat) ((m 53 2) - 1)) 65535), (5, 0, true, iSr ((hy_u m 53 2 ((m 53 2) - 1)) ((m 53 1).toNat) ((m 53 2) - 1)) 16), (4, 0, true, (hy_u m 53 2 ((m 53 2) - 1)) ((m 53 1).toNat) ((m 53 2) - 1)), (0, 5, true, 53), (2, 2, true, x2), (3, 0, true, x3)] [(0, true, iSr ((hy_u m 53 2 ((m 53 2) - 1)) ((m 53 1).toNat) ((m 53 2) - 1)) 16)] (sM s (hy_u m 53 2 ((m 53 2) - 1)))))
        refine hY _ _ _ _ ?_
        refine And.intro (fun hc => ?_) (fun hc => ?_)
        · have h := h.2.2.2.1 hc
          refine hY _ _ _ _ (hY _ _ _ _ (?_ : Y 98 [(6, 0, true, iA ((hy_u m 53 2 ((m 53 2) - 1)) ((m 53 1).toNat) ((m 53 2) - 1)) 65535), (5, 0, true, iSr ((hy_u m 53 2 ((m 53 2) - 1)) ((m 53 1).toNat) ((m 53 2) - 1)) 16), (4, 0, true, (hy_u m 53 2 ((m 53 2) - 1)) ((m 53 1).toNat) ((m 53 2) - 1)), (0, 5, true, 53), (2, 2, true, x2), (3, 0, true, x3)] [(2, true, 1), (0, true, iSr ((hy_u m 53 2 ((m 53 2) - 1)) ((m 53 1).toNat) ((m 53 2) - 1)) 16)] (sM s (hy_u m 53 2 ((m 53 2) - 1)))))
          refine hY _ _ _ _ ?_
          refine And.intro (fun hc => ?_) (fun hc => ?_)
          · have h := h.1 hc
            refine hY _ _ _ _ (hY _ _ _ _ (?_ : Y 121 [(6, 0, true, iA ((hy_u m 53 2 ((m 53 2) - 1)) ((m 53 1).toNat) ((m 53 2) - 1)) 65535), (5, 0, true, iSr ((hy_u m 53 2 ((m 53 2) - 1)) ((m 53 1).toNat) ((m 53 2) - 1)) 16), (4, 0, true, (hy_u m 53 2 ((m 53 2) - 1)) ((m 53 1).toNat) ((m 53 2) - 1)), (0, 5, true, 53), (2, 2, true, x2), (3, 0, true, x3)] [(0, true, iA ((hy_u m 53 2 ((m 53 2) - 1)) ((m 53 1).toNat) ((m 53 2) - 1)) 65535), (5, true, 53)] (sM s (hy_u m 53 2 ((m 53 2) - 1)))))
            refine hY _ _ _ _ ?_
            refine Exists.intro _ (And.intro (wc_34_r53_0t (iA ((hy_u m 53 2 ((m 53 2) - 1)) ((m 53 1).toNat) ((m 53 2) - 1)) 65535) _ _ h) (fun r2 m2 h => ?_))
            refine hY _ _ _ _ (hY _ _ _ _ (hY _ _ _ _ (?_ : Y 28 [(3, 0, false, x3 + 1), (2, 2, true, r2), (6, 0, true, iA ((hy_u m 53 2 ((m 53 2) - 1)) ((m 53 1).toNat) ((m 53 2) - 1)) 65535), (5, 0, true, iSr ((hy_u m 53 2 ((m 53 2) - 1)) ((m 53 1).toNat) ((m 53 2) - 1)) 16), (4, 0, true, (hy_u m 53 2 ((m 53 2) - 1)) ((m 53 1).toNat) ((m 53 2) - 1)), (0, 5, true, 53)] [] (sM s m2))))
            refine l28 _ _ ?_
            refine And.intro h.1 ?_
            exact (Exists.intro m2 (And.intro rfl h.2))
          · have h := h.2 hc
            refine hY _ _ _ _ (hY _ _ _ _ (hY _ _ _ _ (?_ : Y 106 [(6, 0, true, iA ((hy_u m 53 2 ((m 53 2) - 1)) ((m 53 1).toNat) ((m 53 2) - 1)) 65535), (5, 0, true, iSr ((hy_u m 53 2 ((m 53 2) - 1)) ((m 53 1).toNat) ((m 53 2) - 1)) 16), (4, 0, true, (hy_u m 53 2 ((m 53 2) - 1)) ((m 53 1).toNat) ((m 53 2) - 1)), (0, 5, true, 53), (2, 2, true, x2), (3, 0, true, x3)] [(5, true, 41), (5, true, 53)] (sM s (hy_u m 53 2 ((m 53 2) - 1))))))
            refine hY _ _ _ _ (?_ : Y 108 [(6, 0, true, iA ((hy_u m 53 2 ((m 53 2) - 1)) ((m 53 1).toNat) ((m 53 2) - 1)) 65535), (5, 0, true, iSr ((hy_u m 53 2 ((m 53 2) - 1)) ((m 53 1).toNat) ((m 53 2) - 1)) 16), (4, 0, true, (hy_u m 53 2 ((m 53 2) - 1)) ((m 53 1).toNat) ((m 53 2) - 1)), (0, 5, true, 53), (2, 2, true, x2), (3, 0, true, x3)] [(0, true, iA ((hy_u m 53 2 ((m 53 2) - 1)) ((m 53 1).toNat) ((m 53 2) - 1)) 65535), (5, true, 41), (5, true, 53)] (sM s (hy_u m 53 2 ((m 53 2) - 1))))
            refine hY _ _ _ _ ?_
            refine Exists.intro _ (And.intro (wc_130_r41_0t (iA ((hy_u m 53 2 ((m 53 2) - 1)) ((m 53 1).toNat) ((m 53 2) - 1)) 65535) _ _ h) (fun r3 m3 h => ?_))
            show Y 111 [(6, 0, true, iA ((hy_u m 53 2 ((m 53 2) - 1)) ((m 53 1).toNat) ((m 53 2) - 1)) 65535), (5, 0, true, iSr ((hy_u m 53 2 ((m 53 2) - 1)) ((m 53 1).toNat) ((m 53 2) - 1)) 16), (4, 0, true, (hy_u m 53 2 ((m 53 2) - 1)) ((m 53 1).toNat) ((m 53 2) - 1)), (0, 5, true, 53), (2, 2, true, x2), (3, 0, true, x3)] [(1, true, r3), (5, true, 53)] (sM s m3)
            refine hY _ _ _ _ ?_
            refine Exists.intro _ (And.intro (wc_33_r53_1t r3 _ _ h) (fun r4 m4 h => ?_))
            refine hY _ _ _ _ (hY _ _ _ _ (hY _ _ _ _ (?_ : Y 128 [(3, 0, false, x3 + 1), (2, 2, true, r4), (6, 0, true, iA ((hy_u m 53 2 ((m 53 2) - 1)) ((m 53 1).toNat) ((m 53 2) - 1)) 65535), (5, 0, true, iSr ((hy_u m 53 2 ((m 53 2) - 1)) ((m 53 1).toNat) ((m 53 2) - 1)) 16), (4, 0, true, (hy_u m 53 2 ((m 53 2) - 1)) ((m 53 1).toNat) ((m 53 2) - 1)), (0, 5, true, 53)] [] (sM s m4))))
            refine hY _ _ _ _ (?_ : Y 28 [(3, 0, false, x3 + 1), (2, 2, true, r4), (6, 0, true, iA ((hy_u m 53 2 ((m 53 2) - 1)) ((m 53 1).toNat) ((m 53 2) - 1)) 65535), (5, 0, true, iSr ((hy_u m 53 2 ((m 53 2) - 1)) ((m 53 1).toNat) ((m 53 2) - 1)) 16), (4, 0, true, (hy_u m 53 2 ((m 53 2) - 1)) ((m 53 1).toNat) ((m 53 2) - 1)), (0, 5, true, 53)] [] (sM s m4))
            refine l28 _ _ ?_
            refine And.intro h.1 ?_
            exact (Exists.intro m4 (And.intro rfl h.2))
        · have h := h.2.2.2.2 hc
          refine hY _ _ _ _ (hY _ _ _ _ (?_ : Y 88 [(6, 0, true, iA ((hy_u m 53 2 ((m 53 2) - 1)) ((m 53 1).toNat) ((m 53 2) - 1)) 65535), (5, 0, true, iSr ((hy_u m 53 2 ((m 53 2) - 1)) ((m 53 1).toNat) ((m 53 2) - 1)) 16), (4, 0, true, (hy_u m 53 2 ((m 53 2) - 1)) ((m 53 1).toNat) ((m 53 2) - 1)), (0, 5, true, 53), (2, 2, true, x2), (3, 0, true, x3)] [(0, true, iA ((hy_u m 53 2 ((m 53 2) - 1)) ((m 53 1).toNat) ((m 53 2) - 1)) 65535), (5, true, 53)] (sM s (hy_u m 53 2 ((m 53 2) - 1)))))
          refine hY _ _ _ _ ?_
          refine Exists.intro _ (And.intro (wc_31_r53_0t (iA ((hy_u m 53 2 ((m 53 2) - 1)) ((m 53 1).toNat) ((m 53 2) - 1)) 65535) _ _ h) (fun r5 m5 h => ?_))
          refine hY _ _ _ _ (hY _ _ _ _ (hY _ _ _ _ (?_ : Y 128 [(3, 0, false, x3 + 1), (2, 2, true, r5), (6, 0, true, iA ((hy_u m 53 2 ((m 53 2) - 1)) ((m 53 1).toNat) ((m 53 2) - 1)) 65535), (5, 0, true, iSr ((hy_u m 53 2 ((m 53 2) - 1)) ((m 53 1).toNat) ((m 53 2) - 1)) 16), (4, 0, true, (hy_u m 53 2 ((m 53 2) - 1)) ((m 53 1).toNat) ((m 53 2) - 1)), (0, 5, true, 53)] [] (sM s m5))))
          refine hY _ _ _ _ (?_ : Y 28 [(3, 0, false, x3 + 1), (2, 2, true, r5), (6, 0, true, iA ((hy_u m 53 2 ((m 53 2) - 1)) ((m 53 1).toNat) ((m 53 2) - 1)) 65535), (5, 0, true, iSr ((hy_u m 53 2 ((m 53 2) - 1)) ((m 53 1).toNat) ((m 53 2) - 1)) 16), (4, 0, true, (hy_u m 53 2 ((m 53 2) - 1)) ((m 53 1).toNat) ((m 53 2) - 1)), (0, 5, true, 53)] [] (sM s m5))
          refine l28 _ _ ?_
          refine And.intro h.1 ?_
          exact (Exists.intro m5 (And.intro rfl h.2))
theorem wk_30_28 (Q : sQ) (R : Int → hy_m → Prop) (s : sS) (x2 : Int) (x3 : Int) (hQ : ∀ x m', R x m' → Q x (sM s m')) (hr : sRg [(0, 5, 53), (2, 2, 0), (3, 0, 0)] [x2, x3]) (h : wq_30_28 x2 x3 s.1 s.2.2.2 R) : kX dC 3 im_m30 2 28 (sCan [(0, 5, 53), (2, 2, 0), (3, 0, 0)] [x2, x3]) [] s Q :=
  h (fun x2 x3 m => sRg [(0, 5, 53), (2, 2, 0), (3, 0, 0)] [x2, x3] → kX dC 3 im_m30 2 28 (sCan [(0, 5, 53), (2, 2, 0), (3, 0, 0)] [x2, x3]) [] (sM s m) Q) (fun x2 x3 m h hr => wj_30_28 Q R s (fun x2 x3 m => sRg [(0, 5, 53), (2, 2, 0), (3, 0, 0)] [x2, x3] → kX dC 3 im_m30 2 28 (sCan [(0, 5, 53), (2, 2, 0), (3, 0, 0)] [x2, x3]) [] (sM s m) Q) x2 x3 m  (fun _ _ _ hp hr => hp hr) hQ hr h) hr
def lb_30_0 (s : sS) (Q : sQ) (R : Int → hy_m → Prop) (x1 : Int) : Nat → Option (sL → sS → Prop) := sLb [(28, fun lv t => sG [(0, 5, 53), (2, 2, 0), (3, 0, 0)] lv (ap2 (fun w2 w3 => ∃ m', t = sM s m' ∧ wq_30_28 w2 w3 s.1 m' R)))]
set_option maxRecDepth 30000 in
set_option maxHeartbeats 1000000 in
theorem wk_30_0 (Q : sQ) (R : Int → hy_m → Prop) (s : sS) (x1 : Int) (hQ : ∀ x m', R x m' → Q x (sM s m')) (hr : sRg [(0, 5, 53), (1, 0, 0)] [x1]) (h : wq_30 x1 s.1 s.2.2.2 R) : kX dC 3 im_m30 2 0 (sCan [(0, 5, 53), (1, 0, 0)] [x1]) [] s Q := by
  unfold wq_30 at h
  refine wz2_ok (cs := cs_30) (wr := []) (lb := lb_30_0 s Q R x1) cs_30_ok (kLb_c (kLab (Bd := fun xs t => ap2 (fun w2 w3 => ∃ m', t = sM s m' ∧ wq_30_28 w2 w3 s.1 m' R) xs) rfl (fun xs t r1 r2 hb => by obtain ⟨w2, w3, rfl, hb⟩ := ap2_ok hb; obtain ⟨m', rfl, hx⟩ := hb; exact wk_30_28 Q R (sM s m') _ _ (fun x m'' hy => hQ x m'' hy) r1 hx)) kLb_n) (okL_can rfl hr) (fun Y hY hl => ?_)
  have l28 := hl 28 _ rfl
  refine hY _ _ _ _ (hY _ _ _ _ (hY _ _ _ _ (?_ : Y 5 [(0, 5, true, 53), (1, 0, true, x1)] [(0, true, s.2.2.2 53 7), (5, true, 53)] s)))
  refine hY _ _ _ _ (hY _ _ _ _ (?_ : Y 7 [(0, 5, true, 53), (1, 0, true, x1)] [(0, false, (s.2.2.2 53 7) + 1), (5, true, 53)] s))
  refine hY _ _ _ _ ?_
  refine And.intro h.1 ?_
  refine hY _ _ _ _ (hY _ _ _ _ (?_ : Y 12 [(0, 5, true, 53), (1, 0, true, x1)] [(2, true, 0), (5, true, 53)] (sM s (hy_u s.2.2.2 53 7 ((s.2.2.2 53 7) + 1)))))
  refine hY _ _ _ _ ?_
  refine hY _ _ _ _ (hY _ _ _ _ (?_ : Y 17 [(0, 5, true, 53), (1, 0, true, x1)] [(2, true, 0), (5, true, 53)] (sM s (hy_u (hy_u s.2.2.2 53 7 ((s.2.2.2 53 7) + 1)) 53 2 0))))
  refine hY _ _ _ _ ?_
  refine hY _ _ _ _ (hY _ _ _ _ (?_ : Y 22 [(0, 5, true, 53), (1, 0, true, x1)] [(0, true, x1), (5, true, 53)] (sM s (hy_u (hy_u (hy_u s.2.2.2 53 7 ((s.2.2.2 53 7) + 1)) 53 2 0) 53 4 0))))
  refine hY _ _ _ _ ?_
  refine Exists.intro _ (And.intro (wc_31_r53_0t x1 _ _ h.2) (fun r1 m1 h => ?_))
  refine hY _ _ _ _ (hY _ _ _ _ (hY _ _ _ _ (?_ : Y 28 [(3, 2, true, 0), (2, 2, true, r1), (0, 5, true, 53), (1, 0, true, x1)] [] (sM s m1))))
  refine l28 _ _ ?_
  exact (Exists.intro m1 (And.intro rfl h))
def we_30 : sFf := sEf 7 [(0, 5, 53), (1, 0, 0)] (fun xs s Q => ap1 (fun x1 => wq_30 x1 s.1 s.2.2.2 Q) xs)
theorem we_30_ok : kS dC 4 30 2 (.inl we_30) := sEf_ok (mi := im_m30) rfl rfl rfl (fun R xs s r1 hb => by obtain ⟨x1, rfl, hb⟩ := ap1_ok hb; exact wk_30_0 _ R s x1 (fun x m' hx => ⟨m', rfl, hx⟩) r1 hb)
/-- LM$Search.compare(II)Z -/
def wq_94 (x1 : Int) (x2 : Int) (T : hy_T) (m : hy_m) (Q : Int → hy_m → Prop) : Prop := wq_30 x1 T m (fun r1 m1 => (r1 ≠ 0 → (wq_30 x2 T m1 (fun r2 m2 => (r2 ≠ 0 → (((m2 53 8) ≤ (m1 53 8) → (Q 0 m2)) ∧ ((m1 53 8) < (m2 53 8) → (Q 1 m2)))) ∧ (r2 = 0 → (wq_88 4 2 T m2 (fun _ m3 => Q 1 m3)))))) ∧ (r1 = 0 → (wq_88 4 2 T m1 (fun _ m4 => Q 1 m4))))
theorem wc_30_r53_0t (x1 : Int) (s : sS) (R : Int → hy_m → Prop) (h : wq_30 x1 s.1 s.2.2.2 R) : we_30 [(5, true, 53), (0, true, x1)] s R := h
theorem wc_88_r36_0t_0t (x1 : Int) (x2 : Int) (s : sS) (R : Int → hy_m → Prop) (h : wq_88 x1 x2 s.1 s.2.2.2 R) : we_88 [(5, true, 36), (0, true, x1), (0, true, x2)] s R := h
def cs_94 : List (Nat × Nat × sFS) := [(30, 2, .inl we_30), (88, 9, .inl we_88)]
theorem cs_94_ok : kCs dC 4 cs_94 := (kCs_c (Or.inr (Or.inr (Or.inl rfl))) (we_30_ok.deep (by decide)) (kCs_c (Or.inr (Or.inr (Or.inr (Or.inr rfl)))) (we_88_ok.deep (by decide)) kCs_n))
def lb_94_0 (s : sS) (Q : sQ) (R : Int → hy_m → Prop) (x1 : Int) (x2 : Int) : Nat → Option (sL → sS → Prop) := sLb []
set_option maxRecDepth 30000 in
set_option maxHeartbeats 1000000 in
theorem wk_94_0 (Q : sQ) (R : Int → hy_m → Prop) (s : sS) (x1 : Int) (x2 : Int) (hQ : ∀ x m', R x m' → Q x (sM s m')) (hr : sRg [(0, 5, 36), (1, 0, 0), (2, 0, 0)] [x1, x2]) (h : wq_94 x1 x2 s.1 s.2.2.2 R) : kX dC 4 im_m94 2 0 (sCan [(0, 5, 36), (1, 0, 0), (2, 0, 0)] [x1, x2]) [] s Q := by
  unfold wq_94 at h
  refine wz2_ok (cs := cs_94) (wr := []) (lb := lb_94_0 s Q R x1 x2) cs_94_ok kLb_n (okL_can rfl hr) (fun Y hY hl => ?_)
  refine hY _ _ _ _ (hY _ _ _ _ (hY _ _ _ _ (?_ : Y 5 [(0, 5, true, 36), (1, 0, true, x1), (2, 0, true, x2)] [(0, true, x1), (5, true, 53)] s)))
  refine hY _ _ _ _ ?_
  refine Exists.intro _ (And.intro (wc_30_r53_0t x1 _ _ h) (fun r1 m1 h => ?_))
  show Y 8 [(0, 5, true, 36), (1, 0, true, x1), (2, 0, true, x2)] [(2, true, r1)] (sM s m1)
  refine hY _ _ _ _ ?_
  refine And.intro (fun hc => ?_) (fun hc => ?_)
  · have h := h.1 hc
    refine hY _ _ _ _ (hY _ _ _ _ (hY _ _ _ _ (?_ : Y 26 [(0, 5, true, 36), (1, 0, true, x1), (2, 0, true, x2)] [(0, true, m1 53 8)] (sM s m1))))
    refine hY _ _ _ _ (hY _ _ _ _ (hY _ _ _ _ (?_ : Y 31 [(3, 0, true, m1 53 8), (0, 5, true, 36), (1, 0, true, x1), (2, 0, true, x2)] [(5, true, 53)] (sM s m1))))
    refine hY _ _ _ _ (?_ : Y 32 [(3, 0, true, m1 53 8), (0, 5, true, 36), (1, 0, true, x1), (2, 0, true, x2)] [(0, true, x2), (5, true, 53)] (sM s m1))
    refine hY _ _ _ _ ?_
    refine Exists.intro _ (And.intro (wc_30_r53_0t x2 _ _ h) (fun r2 m2 h => ?_))
    show Y 35 [(3, 0, true, m1 53 8), (0, 5, true, 36), (1, 0, true, x1), (2, 0, true, x2)] [(2, true, r2)] (sM s m2)
    refine hY _ _ _ _ ?_
    refine And.intro (fun hc => ?_) (fun hc => ?_)
    · have h := h.1 hc
      refine hY _ _ _ _ (hY _ _ _ _ (hY _ _ _ _ (?_ : Y 51 [(3, 0, true, m1 53 8), (0, 5, true, 36), (1, 0, true, x1), (2, 0, true, x2)] [(5, true, 53), (0, true, m1 53 8)] (sM s m2))))
      refine hY _ _ _ _ (?_ : Y 54 [(3, 0, true, m1 53 8), (0, 5, true, 36), (1, 0, true, x1), (2, 0, true, x2)] [(0, true, m2 53 8), (0, true, m1 53 8)] (sM s m2))
      refine hY _ _ _ _ ?_
      refine And.intro (fun hc => ?_) (fun hc => ?_)
      · have h := h.1 hc
        refine hY _ _ _ _ (?_ : Y 62 [(3, 0, true, m1 53 8), (0, 5, true, 36), (1, 0, true, x1), (2, 0, true, x2)] [(2, true, 0)] (sM s m2))
        refine hY _ _ _ _ ?_
        exact hQ 0 m2 h
      · have h := h.2 hc
        refine hY _ _ _ _ (hY _ _ _ _ (?_ : Y 62 [(3, 0, true, m1 53 8), (0, 5, true, 36), (1, 0, true, x1), (2, 0, true, x2)] [(2, true, 1)] (sM s m2)))
        refine hY _ _ _ _ ?_
        exact hQ 1 m2 h
    · have h := h.2 hc
      refine hY _ _ _ _ (hY _ _ _ _ (hY _ _ _ _ (?_ : Y 41 [(3, 0, true, m1 53 8), (0, 5, true, 36), (1, 0, true, x1), (2, 0, true, x2)] [(0, true, 2), (0, true, 4), (5, true, 36)] (sM s m2))))
      refine hY _ _ _ _ ?_
      refine Exists.intro _ (And.intro (wc_88_r36_0t_0t 4 2 _ _ h) (fun r3 m3 h => ?_))
      refine hY _ _ _ _ (?_ : Y 45 [(3, 0, true, m1 53 8), (0, 5, true, 36), (1, 0, true, x1), (2, 0, true, x2)] [(2, true, 1)] (sM s m3))
      refine hY _ _ _ _ ?_
      exact hQ 1 m3 h
  · have h := h.2 hc
    refine hY _ _ _ _ (hY _ _ _ _ (hY _ _ _ _ (?_ : Y 14 [(0, 5, true, 36), (1, 0, true, x1), (2, 0, true, x2)] [(0, true, 2), (0, true, 4), (5, true, 36)] (sM s m1))))
    refine hY _ _ _ _ ?_
    refine Exists.intro _ (And.intro (wc_88_r36_0t_0t 4 2 _ _ h) (fun r4 m4 h => ?_))
    refine hY _ _ _ _ (?_ : Y 18 [(0, 5, true, 36), (1, 0, true, x1), (2, 0, true, x2)] [(2, true, 1)] (sM s m4))
    refine hY _ _ _ _ ?_
    exact hQ 1 m4 h
def we_94 : sFf := sEf 4 [(0, 5, 36), (1, 0, 0), (2, 0, 0)] (fun xs s Q => ap2 (fun x1 x2 => wq_94 x1 x2 s.1 s.2.2.2 Q) xs)
theorem we_94_ok : kS dC 5 94 2 (.inl we_94) := sEf_ok (mi := im_m94) rfl rfl rfl (fun R xs s r1 hb => by obtain ⟨x1, x2, rfl, hb⟩ := ap2_ok hb; exact wk_94_0 _ R s x1 x2 (fun x m' hx => ⟨m', rfl, hx⟩) r1 hb)
/-- LM$Store.keepComputed(II)I -/
def wq_123 (x1 : Int) (x2 : Int) (m : hy_m) (Q : Int → hy_m → Prop) : Prop := hy_r 0 (301 - 1) ∧ (0 ≤ (if 0 < (if (301 - 1) < x1 then (301 - 1) else x1) then (if (301 - 1) < x1 then (301 - 1) else x1) else 0) ∧ (if 0 < (if (301 - 1) < x1 then (301 - 1) else x1) then (if (301 - 1) < x1 then (301 - 1) else x1) else 0) < 301 ∧ (hy_r 0 ((-2) - (if 0 < (if (301 - 1) < x1 then (301 - 1) else x1) then (if (301 - 1) < x1 then (301 - 1) else x1) else 0)) ∧ (Q ((-2) - (if 0 < (if (301 - 1) < x1 then (301 - 1) else x1) then (if (301 - 1) < x1 then (301 - 1) else x1) else 0)) (hy_u m 46 (if 0 < (if (301 - 1) < x1 then (301 - 1) else x1) then (if (301 - 1) < x1 then (301 - 1) else x1) else 0) x2))))
def cs_123 : List (Nat × Nat × sFS) := []
theorem cs_123_ok : kCs dC 0 cs_123 := kCs_n
def lb_123_0 (s : sS) (Q : sQ) (R : Int → hy_m → Prop) (x1 : Int) (x2 : Int) : Nat → Option (sL → sS → Prop) := sLb []
set_option maxRecDepth 30000 in
set_option maxHeartbeats 1000000 in
theorem wk_123_0 (Q : sQ) (R : Int → hy_m → Prop) (s : sS) (x1 : Int) (x2 : Int) (hQ : ∀ x m', R x m' → Q x (sM s m')) (hr : sRg [(0, 5, 41), (1, 0, 0), (2, 0, 0)] [x1, x2]) (h : wq_123 x1 x2 s.2.2.2 R) : kX dC 0 im_m123 0 0 (sCan [(0, 5, 41), (1, 0, 0), (2, 0, 0)] [x1, x2]) [] s Q := by
  unfold wq_123 at h
  refine wz2_ok (cs := cs_123) (wr := []) (lb := lb_123_0 s Q R x1 x2) cs_123_ok kLb_n (okL_can rfl hr) (fun Y hY hl => ?_)
  refine hY _ _ _ _ (hY _ _ _ _ (hY _ _ _ _ (?_ : Y 3 [(0, 5, true, 41), (1, 0, true, x1), (2, 0, true, x2)] [(5, true, 41), (0, true, x1), (2, true, 0)] s)))
  refine hY _ _ _ _ (hY _ _ _ _ (hY _ _ _ _ (?_ : Y 8 [(0, 5, true, 41), (1, 0, true, x1), (2, 0, true, x2)] [(2, true, 1), (0, true, 301), (0, true, x1), (2, true, 0)] s)))
  refine hY _ _ _ _ (?_ : Y 9 [(0, 5, true, 41), (1, 0, true, x1), (2, 0, true, x2)] [(0, false, 301 - 1), (0, true, x1), (2, true, 0)] s)
  refine hY _ _ _ _ ?_
  refine And.intro h.1 ?_
  show Y 12 [(0, 5, true, 41), (1, 0, true, x1), (2, 0, true, x2)] [(0, true, (if (301 - 1) < x1 then (301 - 1) else x1)), (2, true, 0)] s
  refine hY _ _ _ _ ?_
  refine hY _ _ _ _ (hY _ _ _ _ (hY _ _ _ _ (?_ : Y 20 [(3, 0, true, (if 0 < (if (301 - 1) < x1 then (301 - 1) else x1) then (if (301 - 1) < x1 then (301 - 1) else x1) else 0)), (0, 5, true, 41), (1, 0, true, x1), (2, 0, true, x2)] [(5, true, 46)] s)))
  refine hY _ _ _ _ (hY _ _ _ _ (?_ : Y 22 [(3, 0, true, (if 0 < (if (301 - 1) < x1 then (301 - 1) else x1) then (if (301 - 1) < x1 then (301 - 1) else x1) else 0)), (0, 5, true, 41), (1, 0, true, x1), (2, 0, true, x2)] [(0, true, x2), (0, true, (if 0 < (if (301 - 1) < x1 then (301 - 1) else x1) then (if (301 - 1) < x1 then (301 - 1) else x1) else 0)), (5, true, 46)] s))
  refine hY _ _ _ _ ?_
  refine (And.intro h.2.1 (And.intro h.2.2.1 ?_))
  refine hY _ _ _ _ (hY _ _ _ _ (hY _ _ _ _ (?_ : Y 27 [(3, 0, true, (if 0 < (if (301 - 1) < x1 then (301 - 1) else x1) then (if (301 - 1) < x1 then (301 - 1) else x1) else 0)), (0, 5, true, 41), (1, 0, true, x1), (2, 0, true, x2)] [(0, false, (-2) - (if 0 < (if (301 - 1) < x1 then (301 - 1) else x1) then (if (301 - 1) < x1 then (301 - 1) else x1) else 0))] (sM s (hy_u s.2.2.2 46 (if 0 < (if (301 - 1) < x1 then (301 - 1) else x1) then (if (301 - 1) < x1 then (301 - 1) else x1) else 0) x2)))))
  refine hY _ _ _ _ ?_
  refine And.intro h.2.2.2.1 ?_
  exact hQ ((-2) - (if 0 < (if (301 - 1) < x1 then (301 - 1) else x1) then (if (301 - 1) < x1 then (301 - 1) else x1) else 0)) (hy_u s.2.2.2 46 (if 0 < (if (301 - 1) < x1 then (301 - 1) else x1) then (if (301 - 1) < x1 then (301 - 1) else x1) else 0) x2) h.2.2.2.2
def we_123 : sFf := sEf 4 [(0, 5, 41), (1, 0, 0), (2, 0, 0)] (fun xs s Q => ap2 (fun x1 x2 => wq_123 x1 x2 s.2.2.2 Q) xs)
theorem we_123_ok : kS dC 1 123 0 (.inl we_123) := sEf_ok (mi := im_m123) rfl rfl rfl (fun R xs s r1 hb => by obtain ⟨x1, x2, rfl, hb⟩ := ap2_ok hb; exact wk_123_0 _ R s x1 x2 (fun x m' hx => ⟨m', rfl, hx⟩) r1 hb)
/-- LM$Search.assign(II)Z -/
def wq_95 (x1 : Int) (x2 : Int) (T : hy_T) (m : hy_m) (Q : Int → hy_m → Prop) : Prop := wq_30 x2 T m (fun r1 m1 => (r1 ≠ 0 → (wq_123 (m1 36 12) (m1 53 8) m1 (fun r2 m2 => wq_148 x1 r2 38656 T m2 (fun r3 m3 => Q r3 m3)))) ∧ (r1 = 0 → (wq_88 4 2 T m1 (fun _ m4 => Q 1 m4))))
theorem wc_123_r41_0t_0t (x1 : Int) (x2 : Int) (s : sS) (R : Int → hy_m → Prop) (h : wq_123 x1 x2 s.2.2.2 R) : we_123 [(5, true, 41), (0, true, x1), (0, true, x2)] s R := h
theorem wc_148_r47_0t_0t_0t (x1 : Int) (x2 : Int) (x3 : Int) (s : sS) (R : Int → hy_m → Prop) (h : wq_148 x1 x2 x3 s.1 s.2.2.2 R) : we_148 [(5, true, 47), (0, true, x1), (0, true, x2), (0, true, x3)] s R := h
def cs_95 : List (Nat × Nat × sFS) := [(30, 2, .inl we_30), (88, 9, .inl we_88), (123, 0, .inl we_123), (148, 2, .inl we_148)]
theorem cs_95_ok : kCs dC 4 cs_95 := (kCs_c (Or.inr (Or.inr (Or.inl rfl))) (we_30_ok.deep (by decide)) (kCs_c (Or.inr (Or.inr (Or.inr (Or.inr rfl)))) (we_88_ok.deep (by decide)) (kCs_c (Or.inl rfl) (we_123_ok.deep (by decide)) (kCs_c (Or.inr (Or.inr (Or.inl rfl))) (we_148_ok.deep (by decide)) kCs_n))))
def lb_95_0 (s : sS) (Q : sQ) (R : Int → hy_m → Prop) (x1 : Int) (x2 : Int) : Nat → Option (sL → sS → Prop) := sLb []
set_option maxRecDepth 30000 in
set_option maxHeartbeats 1000000 in
theorem wk_95_0 (Q : sQ) (R : Int → hy_m → Prop) (s : sS) (x1 : Int) (x2 : Int) (hQ : ∀ x m', R x m' → Q x (sM s m')) (hr : sRg [(0, 5, 36), (1, 0, 0), (2, 0, 0)] [x1, x2]) (h : wq_95 x1 x2 s.1 s.2.2.2 R) : kX dC 4 im_m95 2 0 (sCan [(0, 5, 36), (1, 0, 0), (2, 0, 0)] [x1, x2]) [] s Q := by
  unfold wq_95 at h
  refine wz2_ok (cs := cs_95) (wr := []) (lb := lb_95_0 s Q R x1 x2) cs_95_ok kLb_n (okL_can rfl hr) (fun Y hY hl => ?_)
  refine hY _ _ _ _ (hY _ _ _ _ (hY _ _ _ _ (?_ : Y 5 [(0, 5, true, 36), (1, 0, true, x1), (2, 0, true, x2)] [(0, true, x2), (5, true, 53)] s)))
  refine hY _ _ _ _ ?_
  refine Exists.intro _ (And.intro (wc_30_r53_0t x2 _ _ h) (fun r1 m1 h => ?_))
  show Y 8 [(0, 5, true, 36), (1, 0, true, x1), (2, 0, true, x2)] [(2, true, r1)] (sM s m1)
  refine hY _ _ _ _ ?_
  refine And.intro (fun hc => ?_) (fun hc => ?_)
  · have h := h.1 hc
    refine hY _ _ _ _ (hY _ _ _ _ (hY _ _ _ _ (?_ : Y 24 [(0, 5, true, 36), (1, 0, true, x1), (2, 0, true, x2)] [(0, true, x1), (5, true, 47)] (sM s m1))))
    refine hY _ _ _ _ (hY _ _ _ _ (hY _ _ _ _ (?_ : Y 29 [(0, 5, true, 36), (1, 0, true, x1), (2, 0, true, x2)] [(5, true, 36), (5, true, 41), (0, true, x1), (5, true, 47)] (sM s m1))))
    refine hY _ _ _ _ (hY _ _ _ _ (hY _ _ _ _ (?_ : Y 36 [(0, 5, true, 36), (1, 0, true, x1), (2, 0, true, x2)] [(5, true, 53), (0, true, m1 36 12), (5, true, 41), (0, true, x1), (5, true, 47)] (sM s m1))))
    refine hY _ _ _ _ (?_ : Y 39 [(0, 5, true, 36), (1, 0, true, x1), (2, 0, true, x2)] [(0, true, m1 53 8), (0, true, m1 36 12), (5, true, 41), (0, true, x1), (5, true, 47)] (sM s m1))
    refine hY _ _ _ _ ?_
    refine Exists.intro _ (And.intro (wc_123_r41_0t_0t (m1 36 12) (m1 53 8) _ _ h) (fun r2 m2 h => ?_))
    refine hY _ _ _ _ (?_ : Y 44 [(0, 5, true, 36), (1, 0, true, x1), (2, 0, true, x2)] [(0, true, 38656), (0, true, r2), (0, true, x1), (5, true, 47)] (sM s m2))
    refine hY _ _ _ _ ?_
    refine Exists.intro _ (And.intro (wc_148_r47_0t_0t_0t x1 r2 38656 _ _ h) (fun r3 m3 h => ?_))
    show Y 47 [(0, 5, true, 36), (1, 0, true, x1), (2, 0, true, x2)] [(2, true, r3)] (sM s m3)
    refine hY _ _ _ _ ?_
    exact hQ r3 m3 h
  · have h := h.2 hc
    refine hY _ _ _ _ (hY _ _ _ _ (hY _ _ _ _ (?_ : Y 14 [(0, 5, true, 36), (1, 0, true, x1), (2, 0, true, x2)] [(0, true, 2), (0, true, 4), (5, true, 36)] (sM s m1))))
    refine hY _ _ _ _ ?_
    refine Exists.intro _ (And.intro (wc_88_r36_0t_0t 4 2 _ _ h) (fun r4 m4 h => ?_))
    refine hY _ _ _ _ (?_ : Y 18 [(0, 5, true, 36), (1, 0, true, x1), (2, 0, true, x2)] [(2, true, 1)] (sM s m4))
    refine hY _ _ _ _ ?_
    exact hQ 1 m4 h
def we_95 : sFf := sEf 3 [(0, 5, 36), (1, 0, 0), (2, 0, 0)] (fun xs s Q => ap2 (fun x1 x2 => wq_95 x1 x2 s.1 s.2.2.2 Q) xs)
theorem we_95_ok : kS dC 5 95 2 (.inl we_95) := sEf_ok (mi := im_m95) rfl rfl rfl (fun R xs s r1 hb => by obtain ⟨x1, x2, rfl, hb⟩ := ap2_ok hb; exact wk_95_0 _ R s x1 x2 (fun x m' hx => ⟨m', rfl, hx⟩) r1 hb)
/-- LM$Choice.<init>()V -/
def wq_37 (x0 : Int) (m : hy_m) (Q : Int → hy_m → Prop) : Prop := x0 ≠ 0 ∧ (Q 0 m)
def cs_37 : List (Nat × Nat × sFS) := []
theorem cs_37_ok : kCs dC 0 cs_37 := kCs_n
def lb_37_0 (s : sS) (Q : sQ) (R : Int → hy_m → Prop) (x0 : Int) : Nat → Option (sL → sS → Prop) := sLb []
set_option maxRecDepth 30000 in
set_option maxHeartbeats 1000000 in
theorem wk_37_0 (Q : sQ) (R : Int → hy_m → Prop) (s : sS) (x0 : Int) (hQ : ∀ x m', R x m' → Q x (sM s m')) (hr : sRg [(0, 3, 0)] [x0]) (h : wq_37 x0 s.2.2.2 R) : kX dC 0 im_m37 9 0 (sCan [(0, 3, 0)] [x0]) [] s Q := by
  unfold wq_37 at h
  refine wz2_ok (cs := cs_37) (wr := []) (lb := lb_37_0 s Q R x0) cs_37_ok kLb_n (okL_can rfl hr) (fun Y hY hl => ?_)
  refine hY _ _ _ _ (?_ : Y 1 [(0, 3, true, x0)] [(3, true, x0)] s)
  refine hY _ _ _ _ ?_
  refine (And.intro h.1 ?_)
  show Y 4 [(0, 3, true, x0)] [] s
  refine hY _ _ _ _ ?_
  exact hQ 0 s.2.2.2 h.2
def we_37 : sFf := sEf 1 [(0, 3, 0)] (fun xs s Q => ap1 (fun x0 => wq_37 x0 s.2.2.2 Q) xs)
theorem we_37_ok : kS dC 1 37 9 (.inl we_37) := sEf_ok (mi := im_m37) rfl rfl rfl (fun R xs s r1 hb => by obtain ⟨x0, rfl, hb⟩ := ap1_ok hb; exact wk_37_0 _ R s x0 (fun x m' hx => ⟨m', rfl, hx⟩) r1 hb)
/-- LM$Search.addChoice(II)V -/
def wq_98_45 (x1 : Int) (x2 : Int) (x3 : Int) (s : sS) (Q : sQ) : Prop := s.1.1 (x3).toNat = some (2, 6) ∧ (s.1.1 (x3).toNat = some (2, 6) ∧ (s.1.1 (x3).toNat = some (2, 6) ∧ (s.1.1 (x3).toNat = some (2, 6) ∧ (s.1.1 (x3).toNat = some (2, 6) ∧ (s.1.1 (x3).toNat = some (2, 6) ∧ (hy_r 0 (((hy_u (hy_u (hy_u (hy_u (hy_u (hy_u s.2.2.2 ((x3).toNat) 0 (s.2.2.2 36 6)) ((x3).toNat) 1 x1) ((x3).toNat) 2 x2) ((x3).toNat) 3 ((hy_u (hy_u (hy_u s.2.2.2 ((x3).toNat) 0 (s.2.2.2 36 6)) ((x3).toNat) 1 x1) ((x3).toNat) 2 x2) 41 3)) ((x3).toNat) 4 ((hy_u (hy_u (hy_u (hy_u s.2.2.2 ((x3).toNat) 0 (s.2.2.2 36 6)) ((x3).toNat) 1 x1) ((x3).toNat) 2 x2) ((x3).toNat) 3 ((hy_u (hy_u (hy_u s.2.2.2 ((x3).toNat) 0 (s.2.2.2 36 6)) ((x3).toNat) 1 x1) ((x3).toNat) 2 x2) 41 3)) 41 6)) ((x3).toNat) 5 ((hy_u (hy_u (hy_u (hy_u (hy_u s.2.2.2 ((x3).toNat) 0 (s.2.2.2 36 6)) ((x3).toNat) 1 x1) ((x3).toNat) 2 x2) ((x3).toNat) 3 ((hy_u (hy_u (hy_u s.2.2.2 ((x3).toNat) 0 (s.2.2.2 36 6)) ((x3).toNat) 1 x1) ((x3).toNat) 2 x2) 41 3)) ((x3).toNat) 4 ((hy_u (hy_u (hy_u (hy_u s.2.2.2 ((x3).toNat) 0 (s.2.2.2 36 6)) ((x3).toNat) 1 x1) ((x3).toNat) 2 x2) ((x3).toNat) 3 ((hy_u (hy_u (hy_u s.2.2.2 ((x3).toNat) 0 (s.2.2.2 36 6)) ((x3).toNat) 1 x1) ((x3).toNat) 2 x2) 41 3)) 41 6)) 36 5)) 36 8) + 1) ∧ (wq_99 (((hy_u (hy_u (hy_u (hy_u (hy_u (hy_u s.2.2.2 ((x3).toNat) 0 (s.2.2.2 36 6)) ((x3).toNat) 1 x1) ((x3).toNat) 2 x2) ((x3).toNat) 3 ((hy_u (hy_u (hy_u s.2.2.2 ((x3).toNat) 0 (s.2.2.2 36 6)) ((x3).toNat) 1 x1) ((x3).toNat) 2 x2) 41 3)) ((x3).toNat) 4 ((hy_u (hy_u (hy_u (hy_u s.2.2.2 ((x3).toNat) 0 (s.2.2.2 36 6)) ((x3).toNat) 1 x1) ((x3).toNat) 2 x2) ((x3).toNat) 3 ((hy_u (hy_u (hy_u s.2.2.2 ((x3).toNat) 0 (s.2.2.2 36 6)) ((x3).toNat) 1 x1) ((x3).toNat) 2 x2) 41 3)) 41 6)) ((x3).toNat) 5 ((hy_u (hy_u (hy_u (hy_u (hy_u s.2.2.2 ((x3).toNat) 0 (s.2.2.2 36 6)) ((x3).toNat) 1 x1) ((x3).toNat) 2 x2) ((x3).toNat) 3 ((hy_u (hy_u (hy_u s.2.2.2 ((x3).toNat) 0 (s.2.2.2 36 6)) ((x3).toNat) 1 x1) ((x3).toNat) 2 x2) 41 3)) ((x3).toNat) 4 ((hy_u (hy_u (hy_u (hy_u s.2.2.2 ((x3).toNat) 0 (s.2.2.2 36 6)) ((x3).toNat) 1 x1) ((x3).toNat) 2 x2) ((x3).toNat) 3 ((hy_u (hy_u (hy_u s.2.2.2 ((x3).toNat) 0 (s.2.2.2 36 6)) ((x3).toNat) 1 x1) ((x3).toNat) 2 x2) 41 3)) 41 6)) 36 5)) 36 8) + 1) s.1 (hy_u (hy_u (hy_u (hy_u (hy_u (hy_u s.2.2.2 ((x3).toNat) 0 (s.2.2.2 36 6)) ((x3).toNat) 1 x1) ((x3).toNat) 2 x2) ((x3).toNat) 3 ((hy_u (hy_u (hy_u s.2.2.2 ((x3).toNat) 0 (s.2.2.2 36 6)) ((x3).toNat) 1 x1) ((x3).toNat) 2 x2) 41 3)) ((x3).toNat) 4 ((hy_u (hy_u (hy_u (hy_u s.2.2.2 ((x3).toNat) 0 (s.2.2.2 36 6)) ((x3).toNat) 1 x1) ((x3).toNat) 2 x2) ((x3).toNat) 3 ((hy_u (hy_u (hy_u s.2.2.2 ((x3).toNat) 0 (s.2.2.2 36 6)) ((x3).toNat) 1 x1) ((x3).toNat) 2 x2) 41 3)) 41 6)) ((x3).toNat) 5 ((hy_u (hy_u (hy_u (hy_u (hy_u s.2.2.2 ((x3).toNat) 0 (s.2.2.2 36 6)) ((x3).toNat) 1 x1) ((x3).toNat) 2 x2) ((x3).toNat) 3 ((hy_u (hy_u (hy_u s.2.2.2 ((x3).toNat) 0 (s.2.2.2 36 6)) ((x3).toNat) 1 x1) ((x3).toNat) 2 x2) 41 3)) ((x3).toNat) 4 ((hy_u (hy_u (hy_u (hy_u s.2.2.2 ((x3).toNat) 0 (s.2.2.2 36 6)) ((x3).toNat) 1 x1) ((x3).toNat) 2 x2) ((x3).toNat) 3 ((hy_u (hy_u (hy_u s.2.2.2 ((x3).toNat) 0 (s.2.2.2 36 6)) ((x3).toNat) 1 x1) ((x3).toNat) 2 x2) 41 3)) 41 6)) 36 5)) (fun _ m1 => Q 0 (s.1, s.2.1, s.2.2.1, m1)))))))))
def wq_98 (x1 : Int) (x2 : Int) (s : sS) (Q : sQ) : Prop := ((s.2.2.2 36 8) < 301 → (0 ≤ (s.2.2.2 36 8) ∧ (s.2.2.2 36 8) < 301 ∧ (((s.2.2.2 38 (s.2.2.2 36 8)) = 0 → ((hy_e s.1 s.2.1 2 6).1 ((s.2.1 : Int)).toNat = some (2, 6) ∧ (wq_37 (s.2.1 : Int) (hy_z s.2.2.2 s.2.1) (fun _ m1 => 0 ≤ (m1 36 8) ∧ (m1 36 8) < 301 ∧ (((s.2.1 : Int) = 0 ∨ ∃ nv, (hy_e s.1 s.2.1 2 6).1 ((s.2.1 : Int)).toNat = some (112 - 110, nv) ∧ 112 < 160) ∧ (wq_98_45 x1 x2 (s.2.1 : Int) (hy_e s.1 s.2.1 2 6, s.2.1 + 1, s.2.2.1 + 6, hy_u m1 38 (m1 36 8) (s.2.1 : Int)) Q)))))) ∧ ((s.2.2.2 38 (s.2.2.2 36 8)) ≠ 0 → (wq_98_45 x1 x2 (s.2.2.2 38 (s.2.2.2 36 8)) s Q))))) ∧ (301 ≤ (s.2.2.2 36 8) → (Q 0 s))
theorem wc_37_3t (x0 : Int) (s : sS) (R : Int → hy_m → Prop) (h : wq_37 x0 s.2.2.2 R) : we_37 [(3, true, x0)] s R := h
def cs_98 : List (Nat × Nat × sFS) := [(37, 9, .inl we_37), (99, 9, .inl we_99)]
theorem cs_98_ok : kCs dC 2 cs_98 := (kCs_c (Or.inr (Or.inr (Or.inr (Or.inr rfl)))) (we_37_ok.deep (by decide)) (kCs_c (Or.inr (Or.inr (Or.inr (Or.inr rfl)))) (we_99_ok.deep (by decide)) kCs_n))
def lb_98_45 (s : sS) (Q : sQ) (x1 : Int) (x2 : Int) (x3 : Int) : Nat → Option (sL → sS → Prop) := sLb []
set_option maxRecDepth 30000 in
set_option maxHeartbeats 1000000 in
theorem wk_98_45 (Q : sQ) (s : sS) (x1 : Int) (x2 : Int) (x3 : Int) (hr : sRg [(0, 5, 36), (1, 0, 0), (2, 0, 0), (3, 3, 0)] [x1, x2, x3]) (h : wq_98_45 x1 x2 x3 s Q) : kX dC 2 im_m98 9 45 (sCan [(0, 5, 36), (1, 0, 0), (2, 0, 0), (3, 3, 0)] [x1, x2, x3]) [] s Q := by
  unfold wq_98_45 at h
  refine wz2_ok (cs := cs_98) (wr := []) (lb := lb_98_45 s Q x1 x2 x3) cs_98_ok kLb_n (okL_can rfl hr) (fun Y hY hl => ?_)
  refine hY _ _ _ _ (hY _ _ _ _ (hY _ _ _ _ (?_ : Y 50 [(0, 5, true, 36), (1, 0, true, x1), (2, 0, true, x2), (3, 3, true, x3)] [(3, true, s.2.2.2 36 6), (3, true, x3)] s)))
  refine hY _ _ _ _ ?_
  refine (And.intro h.1 ?_)
  refine hY _ _ _ _ (hY _ _ _ _ (?_ : Y 55 [(0, 5, true, 36), (1, 0, true, x1), (2, 0, true, x2), (3, 3, true, x3)] [(0, true, x1), (3, true, x3)] (s.1, s.2.1, s.2.2.1, hy_u s.2.2.2 ((x3).toNat) 0 (s.2.2.2 36 6))))
  refine hY _ _ _ _ ?_
  refine (And.intro h.2.1 ?_)
  refine hY _ _ _ _ (hY _ _ _ _ (?_ : Y 60 [(0, 5, true, 36), (1, 0, true, x1), (2, 0, true, x2), (3, 3, true, x3)] [(0, true, x2), (3, true, x3)] (s.1, s.2.1, s.2.2.1, hy_u (hy_u s.2.2.2 ((x3).toNat) 0 (s.2.2.2 36 6)) ((x3).toNat) 1 x1)))
  refine hY _ _ _ _ ?_
  refine (And.intro h.2.2.1 ?_)
  refine hY _ _ _ _ (hY _ _ _ _ (hY _ _ _ _ (?_ : Y 68 [(0, 5, true, 36), (1, 0, true, x1), (2, 0, true, x2), (3, 3, true, x3)] [(5, true, 41), (3, true, x3)] (s.1, s.2.1, s.2.2.1, hy_u (hy_u (hy_u s.2.2.2 ((x3).toNat) 0 (s.2.2.2 36 6)) ((x3).toNat) 1 x1) ((x3).toNat) 2 x2))))
  refine hY _ _ _ _ (?_ : Y 71 [(0, 5, true, 36), (1, 0, true, x1), (2, 0, true, x2), (3, 3, true, x3)] [(0, true, (hy_u (hy_u (hy_u s.2.2.2 ((x3).toNat) 0 (s.2.2.2 36 6)) ((x3).toNat) 1 x1) ((x3).toNat) 2 x2) 41 3), (3, true, x3)] (s.1, s.2.1, s.2.2.1, hy_u (hy_u (hy_u s.2.2.2 ((x3).toNat) 0 (s.2.2.2 36 6)) ((x3).toNat) 1 x1) ((x3).toNat) 2 x2))
  refine hY _ _ _ _ ?_
  refine (And.intro h.2.2.2.1 ?_)
  refine hY _ _ _ _ (hY _ _ _ _ (hY _ _ _ _ (?_ : Y 79 [(0, 5, true, 36), (1, 0, true, x1), (2, 0, true, x2), (3, 3, true, x3)] [(5, true, 41), (3, true, x3)] (s.1, s.2.1, s.2.2.1, hy_u (hy_u (hy_u (hy_u s.2.2.2 ((x3).toNat) 0 (s.2.2.2 36 6)) ((x3).toNat) 1 x1) ((x3).toNat) 2 x2) ((x3).toNat) 3 ((hy_u (hy_u (hy_u s.2.2.2 ((x3).toNat) 0 (s.2.2.2 36 6)) ((x3).toNat) 1 x1) ((x3).toNat) 2 x2) 41 3)))))
  refine hY _ _ _ _ (?_ : Y 82 [(0, 5, true, 36), (1, 0, true, x1), (2, 0, true, x2), (3, 3, true, x3)] [(0, true, (hy_u (hy_u (hy_u (hy_u s.2.2.2 ((x3).toNat) 0 (s.2.2.2 36 6)) ((x3).toNat) 1 x1) ((x3).toNat) 2 x2) ((x3).toNat) 3 ((hy_u (hy_u (hy_u s.2.2.2 ((x3).toNat) 0 (s.2.2.2 36 6)) ((x3).toNat) 1 x1) ((x3).toNat) 2 x2) 41 3)) 41 6), (3, true, x3)] (s.1, s.2.1, s.2.2.1, hy_u (hy_u (hy_u (hy_u s.2.2.2 ((x3).toNat) 0 (s.2.2.2 36 6)) ((x3).toNat) 1 x1) ((x3).toNat) 2 x2) ((x3).toNat) 3 ((hy_u (hy_u (hy_u s.2.2.2 ((x3).toNat) 0 (s.2.2.2 36 6)) ((x3).toNat) 1 x1) ((x3).toNat) 2 x2) 41 3)))
  refine hY _ _ _ _ ?_
  refine (And.intro h.2.2.2.2.1 ?_)
  refine hY _ _ _ _ (hY _ _ _ _ (hY _ _ _ _ (?_ : Y 90 [(0, 5, true, 36), (1, 0, true, x1), (2, 0, true, x2), (3, 3, true, x3)] [(0, true, (hy_u (hy_u (hy_u (hy_u (hy_u s.2.2.2 ((x3).toNat) 0 (s.2.2.2 36 6)) ((x3).toNat) 1 x1) ((x3).toNat) 2 x2) ((x3).toNat) 3 ((hy_u (hy_u (hy_u s.2.2.2 ((x3).toNat) 0 (s.2.2.2 36 6)) ((x3).toNat) 1 x1) ((x3).toNat) 2 x2) 41 3)) ((x3).toNat) 4 ((hy_u (hy_u (hy_u (hy_u s.2.2.2 ((x3).toNat) 0 (s.2.2.2 36 6)) ((x3).toNat) 1 x1) ((x3).toNat) 2 x2) ((x3).toNat) 3 ((hy_u (hy_u (hy_u s.2.2.2 ((x3).toNat) 0 (s.2.2.2 36 6)) ((x3).toNat) 1 x1) ((x3).toNat) 2 x2) 41 3)) 41 6)) 36 5), (3, true, x3)] (s.1, s.2.1, s.2.2.1, hy_u (hy_u (hy_u (hy_u (hy_u s.2.2.2 ((x3).toNat) 0 (s.2.2.2 36 6)) ((x3).toNat) 1 x1) ((x3).toNat) 2 x2) ((x3).toNat) 3 ((hy_u (hy_u (hy_u s.2.2.2 ((x3).toNat) 0 (s.2.2.2 36 6)) ((x3).toNat) 1 x1) ((x3).toNat) 2 x2) 41 3)) ((x3).toNat) 4 ((hy_u (hy_u (hy_u (hy_u s.2.2.2 ((x3).toNat) 0 (s.2.2.2 36 6)) ((x3).toNat) 1 x1) ((x3).toNat) 2 x2) ((x3).toNat) 3 ((hy_u (hy_u (hy_u s.2.2.2 ((x3).toNat) 0 (s.2.2.2 36 6)) ((x3).toNat) 1 x1) ((x3).toNat) 2 x2) 41 3)) 41 6)))))
  refine hY _ _ _ _ ?_
  refine (And.intro h.2.2.2.2.2.1 ?_)
  refine hY _ _ _ _ (hY _ _ _ _ (hY _ _ _ _ (?_ : Y 98 [(0, 5, true, 36), (1, 0, true, x1), (2, 0, true, x2), (3, 3, true, x3)] [(0, true, (hy_u (hy_u (hy_u (hy_u (hy_u (hy_u s.2.2.2 ((x3).toNat) 0 (s.2.2.2 36 6)) ((x3).toNat) 1 x1) ((x3).toNat) 2 x2) ((x3).toNat) 3 ((hy_u (hy_u (hy_u s.2.2.2 ((x3).toNat) 0 (s.2.2.2 36 6)) ((x3).toNat) 1 x1) ((x3).toNat) 2 x2) 41 3)) ((x3).toNat) 4 ((hy_u (hy_u (hy_u (hy_u s.2.2.2 ((x3).toNat) 0 (s.2.2.2 36 6)) ((x3).toNat) 1 x1) ((x3).toNat) 2 x2) ((x3).toNat) 3 ((hy_u (hy_u (hy_u s.2.2.2 ((x3).toNat) 0 (s.2.2.2 36 6)) ((x3).toNat) 1 x1) ((x3).toNat) 2 x2) 41 3)) 41 6)) ((x3).toNat) 5 ((hy_u (hy_u (hy_u (hy_u (hy_u s.2.2.2 ((x3).toNat) 0 (s.2.2.2 36 6)) ((x3).toNat) 1 x1) ((x3).toNat) 2 x2) ((x3).toNat) 3 ((hy_u (hy_u (hy_u s.2.2.2 ((x3).toNat) 0 (s.2.2.2 36 6)) ((x3).toNat) 1 x1) ((x3).toNat) 2 x2) 41 3)) ((x3).toNat) 4 ((hy_u (hy_u (hy_u (hy_u s.2.2.2 ((x3).toNat) 0 (s.2.2.2 36 6)) ((x3).toNat) 1 x1) ((x3).toNat) 2 x2) ((x3).toNat) 3 ((hy_u (hy_u (hy_u s.2.2.2 ((x3).toNat) 0 (s.2.2.2 36 6)) ((x3).toNat) 1 x1) ((x3).toNat) 2 x2) 41 3)) 41 6)) 36 5)) 36 8), (5, true, 36)] (s.1, s.2.1, s.2.2.1, hy_u (hy_u (hy_u (hy_u (hy_u (hy_u s.2.2.2 ((x3).toNat) 0 (s.2.2.2 36 6)) ((x3).toNat) 1 x1) ((x3).toNat) 2 x2) ((x3).toNat) 3 ((hy_u (hy_u (hy_u s.2.2.2 ((x3).toNat) 0 (s.2.2.2 36 6)) ((x3).toNat) 1 x1) ((x3).toNat) 2 x2) 41 3)) ((x3).toNat) 4 ((hy_u (hy_u (hy_u (hy_u s.2.2.2 ((x3).toNat) 0 (s.2.2.2 36 6)) ((x3).toNat) 1 x1) ((x3).toNat) 2 x2) ((x3).toNat) 3 ((hy_u (hy_u (hy_u s.2.2.2 ((x3).toNat) 0 (s.2.2.2 36 6)) ((x3).toNat) 1 x1) ((x3).toNat) 2 x2) 41 3)) 41 6)) ((x3).toNat) 5 ((hy_u (hy_u (hy_u (hy_u (hy_u s.2.2.2 ((x3).toNat) 0 (s.2.2.2 36 6)) ((x3).toNat) 1 x1) ((x3).toNat) 2 x2) ((x3).toNat) 3 ((hy_u (hy_u (hy_u s.2.2.2 ((x3).toNat) 0 (s.2.2.2 36 6)) ((x3).toNat) 1 x1) ((x3).toNat) 2 x2) 41 3)) ((x3).toNat) 4 ((hy_u (hy_u (hy_u (hy_u s.2.2.2 ((x3).toNat) 0 (s.2.2.2 36 6)) ((x3).toNat) 1 x1) ((x3).toNat) 2 x2) ((x3).toNat) 3 ((hy_u (hy_u (hy_u s.2.2.2 ((x3).toNat) 0 (s.2.2.2 36 6)) ((x3).toNat) 1 x1) ((x3).toNat) 2 x2) 41 3)) 41 6)) 36 5)))))
  refine hY _ _ _ _ (hY _ _ _ _ (?_ : Y 100 [(0, 5, true, 36), (1, 0, true, x1), (2, 0, true, x2), (3, 3, true, x3)] [(0, false, ((hy_u (hy_u (hy_u (hy_u (hy_u (hy_u s.2.2.2 ((x3).toNat) 0 (s.2.2.2 36 6)) ((x3).toNat) 1 x1) ((x3).toNat) 2 x2) ((x3).toNat) 3 ((hy_u (hy_u (hy_u s.2.2.2 ((x3).toNat) 0 (s.2.2.2 36 6)) ((x3).toNat) 1 x1) ((x3).toNat) 2 x2) 41 3)) ((x3).toNat) 4 ((hy_u (hy_u (hy_u (hy_u s.2.2.2 ((x3).toNat) 0 (s.2.2.2 36 6)) ((x3).toNat) 1 x1) ((x3).toNat) 2 x2) ((x3).toNat) 3 ((hy_u (hy_u (hy_u s.2.2.2 ((x3).toNat) 0 (s.2.2.2 36 6)) ((x3).toNat) 1 x1) ((x3).toNat) 2 x2) 41 3)) 41 6)) ((x3).toNat) 5 ((hy_u (hy_u (hy_u (hy_u (hy_u s.2.2.2 ((x3).toNat) 0 (s.2.2.2 36 6)) ((x3).toNat) 1 x1) ((x3).toNat) 2 x2) ((x3).toNat) 3 ((hy_u (hy_u (hy_u s.2.2.2 ((x3).toNat) 0 (s.2.2.2 36 6)) ((x3).toNat) 1 x1) ((x3).toNat) 2 x2) 41 3)) ((x3).toNat) 4 ((hy_u (hy_u (hy_u (hy_u s.2.2.2 ((x3).toNat) 0 (s.2.2.2 36 6)) ((x3).toNat) 1 x1) ((x3).toNat) 2 x2) ((x3).toNat) 3 ((hy_u (hy_u (hy_u s.2.2.2 ((x3).toNat) 0 (s.2.2.2 36 6)) ((x3).toNat) 1 x1) ((x3).toNat) 2 x2) 41 3)) 41 6)) 36 5)) 36 8) + 1), (5, true, 36)] (s.1, s.2.1, s.2.2.1, hy_u (hy_u (hy_u (hy_u (hy_u (hy_u s.2.2.2 ((x3).toNat) 0 (s.2.2.2 36 6)) ((x3).toNat) 1 x1) ((x3).toNat) 2 x2) ((x3).toNat) 3 ((hy_u (hy_u (hy_u s.2.2.2 ((x3).toNat) 0 (s.2.2.2 36 6)) ((x3).toNat) 1 x1) ((x3).toNat) 2 x2) 41 3)) ((x3).toNat) 4 ((hy_u (hy_u (hy_u (hy_u s.2.2.2 ((x3).toNat) 0 (s.2.2.2 36 6)) ((x3).toNat) 1 x1) ((x3).toNat) 2 x2) ((x3).toNat) 3 ((hy_u (hy_u (hy_u s.2.2.2 ((x3).toNat) 0 (s.2.2.2 36 6)) ((x3).toNat) 1 x1) ((x3).toNat) 2 x2) 41 3)) 41 6)) ((x3).toNat) 5 ((hy_u (hy_u (hy_u (hy_u (hy_u s.2.2.2 ((x3).toNat) 0 (s.2.2.2 36 6)) ((x3).toNat) 1 x1) ((x3).toNat) 2 x2) ((x3).toNat) 3 ((hy_u (hy_u (hy_u s.2.2.2 ((x3).toNat) 0 (s.2.2.2 36 6)) ((x3).toNat) 1 x1) ((x3).toNat) 2 x2) 41 3)) ((x3).toNat) 4 ((hy_u (hy_u (hy_u (hy_u s.2.2.2 ((x3).toNat) 0 (s.2.2.2 36 6)) ((x3).toNat) 1 x1) ((x3).toNat) 2 x2) ((x3).toNat) 3 ((hy_u (hy_u (hy_u s.2.2.2 ((x3).toNat) 0 (s.2.2.2 36 6)) ((x3).toNat) 1 x1) ((x3).toNat) 2 x2) 41 3)) 41 6)) 36 5))))
  refine hY _ _ _ _ ?_
  refine Exists.intro _ (And.intro (wc_99_r36_0f (((hy_u (hy_u (hy_u (hy_u (hy_u (hy_u s.2.2.2 ((x3).toNat) 0 (s.2.2.2 36 6)) ((x3).toNat) 1 x1) ((x3).toNat) 2 x2) ((x3).toNat) 3 ((hy_u (hy_u (hy_u s.2.2.2 ((x3).toNat) 0 (s.2.2.2 36 6)) ((x3).toNat) 1 x1) ((x3).toNat) 2 x2) 41 3)) ((x3).toNat) 4 ((hy_u (hy_u (hy_u (hy_u s.2.2.2 ((x3).toNat) 0 (s.2.2.2 36 6)) ((x3).toNat) 1 x1) ((x3).toNat) 2 x2) ((x3).toNat) 3 ((hy_u (hy_u (hy_u s.2.2.2 ((x3).toNat) 0 (s.2.2.2 36 6)) ((x3).toNat) 1 x1) ((x3).toNat) 2 x2) 41 3)) 41 6)) ((x3).toNat) 5 ((hy_u (hy_u (hy_u (hy_u (hy_u s.2.2.2 ((x3).toNat) 0 (s.2.2.2 36 6)) ((x3).toNat) 1 x1) ((x3).toNat) 2 x2) ((x3).toNat) 3 ((hy_u (hy_u (hy_u s.2.2.2 ((x3).toNat) 0 (s.2.2.2 36 6)) ((x3).toNat) 1 x1) ((x3).toNat) 2 x2) 41 3)) ((x3).toNat) 4 ((hy_u (hy_u (hy_u (hy_u s.2.2.2 ((x3).toNat) 0 (s.2.2.2 36 6)) ((x3).toNat) 1 x1) ((x3).toNat) 2 x2) ((x3).toNat) 3 ((hy_u (hy_u (hy_u s.2.2.2 ((x3).toNat) 0 (s.2.2.2 36 6)) ((x3).toNat) 1 x1) ((x3).toNat) 2 x2) 41 3)) 41 6)) 36 5)) 36 8) + 1) _ _ h.2.2.2.2.2.2) (fun r1 m1 h => ?_))
  show Y 103 [(0, 5, true, 36), (1, 0, true, x1), (2, 0, true, x2), (3, 3, true, x3)] [] (s.1, s.2.1, s.2.2.1, m1)
  refine hY _ _ _ _ ?_
  exact h
def lb_98_0 (s : sS) (Q : sQ) (x1 : Int) (x2 : Int) : Nat → Option (sL → sS → Prop) := sLb [(45, fun lv t => sG [(0, 5, 36), (1, 0, 0), (2, 0, 0), (3, 3, 0)] lv (ap3 (fun w1 w2 w3 => wq_98_45 w1 w2 w3 t Q)))]
set_option maxRecDepth 30000 in
set_option maxHeartbeats 1000000 in
theorem wk_98_0 (Q : sQ) (s : sS) (x1 : Int) (x2 : Int) (hr : sRg [(0, 5, 36), (1, 0, 0), (2, 0, 0)] [x1, x2]) (h : wq_98 x1 x2 s Q) : kX dC 2 im_m98 9 0 (sCan [(0, 5, 36), (1, 0, 0), (2, 0, 0)] [x1, x2]) [] s Q := by
  unfold wq_98 at h
  refine wz2_ok (cs := cs_98) (wr := []) (lb := lb_98_0 s Q x1 x2) cs_98_ok (kLb_c (kLab (Bd := fun xs t => ap3 (fun w1 w2 w3 => wq_98_45 w1 w2 w3 t Q) xs) rfl (fun xs t r1 r2 hb => by obtain ⟨w1, w2, w3, rfl, hb⟩ := ap3_ok hb; exact wk_98_45 Q t _ _ _ r1 hb)) kLb_n) (okL_can rfl hr) (fun Y hY hl => ?_)
  have l45 := hl 45 _ rfl
  refine hY _ _ _ _ (hY _ _ _ _ (hY _ _ _ _ (?_ : Y 5 [(0, 5, true, 36), (1, 0, true, x1), (2, 0, true, x2)] [(5, true, 36), (0, true, s.2.2.2 36 8)] s)))
  refine hY _ _ _ _ (hY _ _ _ _ (?_ : Y 9 [(0, 5, true, 36), (1, 0, true, x1), (2, 0, true, x2)] [(0, true, 301), (0, true, s.2.2.2 36 8)] s))
  refine hY _ _ _ _ ?_
  refine And.intro (fun hc => ?_) (fun hc => ?_)
  · have h := h.1 hc
    refine hY _ _ _ _ (hY _ _ _ _ (hY _ _ _ _ (?_ : Y 18 [(0, 5, true, 36), (1, 0, true, x1), (2, 0, true, x2)] [(5, true, 36), (5, true, 38)] s)))
    refine hY _ _ _ _ (?_ : Y 21 [(0, 5, true, 36), (1, 0, true, x1), (2, 0, true, x2)] [(0, true, s.2.2.2 36 8), (5, true, 38)] s)
    refine hY _ _ _ _ ?_
    refine (And.intro h.1 (And.intro h.2.1 ?_))
    refine hY _ _ _ _ (hY _ _ _ _ (?_ : Y 24 [(3, 3, true, s.2.2.2 38 (s.2.2.2 36 8)), (0, 5, true, 36), (1, 0, true, x1), (2, 0, true, x2)] [(3, true, s.2.2.2 38 (s.2.2.2 36 8))] s))
    refine hY _ _ _ _ ?_
    refine And.intro (fun hc => ?_) (fun hc => ?_)
    · have h := h.2.2.1 hc
      refine hY _ _ _ _ (hY _ _ _ _ (?_ : Y 31 [(3, 3, true, s.2.2.2 38 (s.2.2.2 36 8)), (0, 5, true, 36), (1, 0, true, x1), (2, 0, true, x2)] [(3, true, (s.2.1 : Int)), (3, true, (s.2.1 : Int))] (hy_e s.1 s.2.1 2 6, s.2.1 + 1, s.2.2.1 + 6, hy_z s.2.2.2 s.2.1)))
      refine hY _ _ _ _ ?_
      refine (And.intro h.1 ?_)
      refine Exists.intro _ (And.intro (wc_37_3t (s.2.1 : Int) _ _ h.2) (fun r1 m1 h => ?_))
      refine hY _ _ _ _ (hY _ _ _ _ (hY _ _ _ _ (?_ : Y 39 [(3, 3, true, (s.2.1 : Int)), (0, 5, true, 36), (1, 0, true, x1), (2, 0, true, x2)] [(5, true, 38)] (hy_e s.1 s.2.1 2 6, s.2.1 + 1, s.2.2.1 + 6, m1))))
      refine hY _ _ _ _ (hY _ _ _ _ (hY _ _ _ _ (?_ : Y 44 [(3, 3, true, (s.2.1 : Int)), (0, 5, true, 36), (1, 0, true, x1), (2, 0, true, x2)] [(3, true, (s.2.1 : Int)), (0, true, m1 36 8), (5, true, 38)] (hy_e s.1 s.2.1 2 6, s.2.1 + 1, s.2.2.1 + 6, m1))))
      refine hY _ _ _ _ ?_
      refine (And.intro h.1 (And.intro h.2.1 ?_))
      refine (And.intro h.2.2.1 ?_)
      show Y 45 [(3, 3, true, (s.2.1 : Int)), (0, 5, true, 36), (1, 0, true, x1), (2, 0, true, x2)] [] (hy_e s.1 s.2.1 2 6, s.2.1 + 1, s.2.2.1 + 6, hy_u m1 38 (m1 36 8) (s.2.1 : Int))
      refine l45 _ _ ?_
      exact h.2.2.2
    · have h := h.2.2.2 hc
      show Y 45 [(3, 3, true, s.2.2.2 38 (s.2.2.2 36 8)), (0, 5, true, 36), (1, 0, true, x1), (2, 0, true, x2)] [] s
      refine l45 _ _ ?_
      exact h
  · have h := h.2 hc
    show Y 12 [(0, 5, true, 36), (1, 0, true, x1), (2, 0, true, x2)] [] s
    refine hY _ _ _ _ ?_
    exact h
def we_98 : sF := sE 4 [(0, 5, 36), (1, 0, 0), (2, 0, 0)] (fun xs s Q => ap2 (fun x1 x2 => wq_98 x1 x2 s Q) xs)
theorem we_98_ok : kS dC 3 98 9 (.inr we_98) := sE_ok (mi := im_m98) rfl rfl rfl (fun Q xs s r1 hb => by obtain ⟨x1, x2, rfl, hb⟩ := ap2_ok hb; exact wk_98_0 Q s x1 x2 r1 hb)
/-- LM$Search.beginNot(I)Z -/
def wq_96 (x1 : Int) (s : sS) (Q : sQ) : Prop := wq_129 x1 s.1 s.2.2.2 (fun r1 m1 => wq_130 x1 s.1 m1 (fun r2 m2 => wq_24 r1 r2 m2 (fun r3 m3 => (r3 ≠ 0 → (wq_98 (-9) 0 (s.1, s.2.1, s.2.2.1, m3) (fun _ s4 => wq_102 (-1) x1 (s4.2.2.2 36 6) (m3 36 8) s4 (fun r5 s5 => Q 1 (s5.1, s5.2.1, s5.2.2.1, hy_u s5.2.2.2 36 6 r5))))) ∧ (r3 = 0 → (wq_88 4 1 s.1 m3 (fun _ m6 => Q 1 (s.1, s.2.1, s.2.2.1, m6)))))))
theorem wc_98_r36_0t_2t (x1 : Int) (x2 : Int) (s : sS) (R : Int → sS → Prop) (h : wq_98 x1 x2 s R) : we_98 [(5, true, 36), (0, true, x1), (2, true, x2)] s R := h
theorem wc_102_r36_0t_0t_3t_0t (x1 : Int) (x2 : Int) (x3 : Int) (x4 : Int) (s : sS) (R : Int → sS → Prop) (h : wq_102 x1 x2 x3 x4 s R) : we_102 [(5, true, 36), (0, true, x1), (0, true, x2), (3, true, x3), (0, true, x4)] s R := h
def cs_96 : List (Nat × Nat × sFS) := [(24, 2, .inl we_24), (88, 9, .inl we_88), (98, 9, .inr we_98), (102, 3, .inr we_102), (129, 0, .inl we_129), (130, 1, .inl we_130)]
theorem cs_96_ok : kCs dC 4 cs_96 := (kCs_c (Or.inr (Or.inr (Or.inl rfl))) (we_24_ok.deep (by decide)) (kCs_c (Or.inr (Or.inr (Or.inr (Or.inr rfl)))) (we_88_ok.deep (by decide)) (kCs_c (Or.inr (Or.inr (Or.inr (Or.inr rfl)))) (we_98_ok.deep (by decide)) (kCs_c (Or.inr (Or.inr (Or.inr (Or.inl rfl)))) (we_102_ok.deep (by decide)) (kCs_c (Or.inl rfl) (we_129_ok.deep (by decide)) (kCs_c (Or.inr (Or.inl rfl)) (we_130_ok.deep (by decide)) kCs_n))))))
def lb_96_0 (s : sS) (Q : sQ) (x1 : Int) : Nat → Option (sL → sS → Prop) := sLb []
set_option maxRecDepth 30000 in
set_option maxHeartbeats 1000000 in
theorem wk_96_0 (Q : sQ) (s : sS) (x1 : Int) (hr : sRg [(0, 5, 36), (1, 0, 0)] [x1]) (h : wq_96 x1 s Q) : kX dC 4 im_m96 2 0 (sCan [(0, 5, 36), (1, 0, 0)] [x1]) [] s Q := by
  unfold wq_96 at h
  refine wz2_ok (cs := cs_96) (wr := []) (lb := lb_96_0 s Q x1) cs_96_ok kLb_n (okL_can rfl hr) (fun Y hY hl => ?_)
  refine hY _ _ _ _ (hY _ _ _ _ (hY _ _ _ _ (?_ : Y 5 [(0, 5, true, 36), (1, 0, true, x1)] [(0, true, x1), (5, true, 41)] s)))
  refine hY _ _ _ _ ?_
  refine Exists.intro _ (And.intro (wc_129_r41_0t x1 _ _ h) (fun r1 m1 h => ?_))
  refine hY _ _ _ _ (hY _ _ _ _ (hY _ _ _ _ (?_ : Y 13 [(0, 5, true, 36), (1, 0, true, x1)] [(0, true, x1), (5, true, 41), (0, true, r1)] (s.1, s.2.1, s.2.2.1, m1))))
  refine hY _ _ _ _ ?_
  refine Exists.intro _ (And.intro (wc_130_r41_0t x1 _ _ h) (fun r2 m2 h => ?_))
  show Y 16 [(0, 5, true, 36), (1, 0, true, x1)] [(1, true, r2), (0, true, r1)] (s.1, s.2.1, s.2.2.1, m2)
  refine hY _ _ _ _ ?_
  refine Exists.intro _ (And.intro (wc_24_0t_1t r1 r2 _ _ h) (fun r3 m3 h => ?_))
  show Y 19 [(0, 5, true, 36), (1, 0, true, x1)] [(2, true, r3)] (s.1, s.2.1, s.2.2.1, m3)
  refine hY _ _ _ _ ?_
  refine And.intro (fun hc => ?_) (fun hc => ?_)
  · have h := h.1 hc
    refine hY _ _ _ _ (hY _ _ _ _ (hY _ _ _ _ (?_ : Y 35 [(2, 0, true, m3 36 8), (0, 5, true, 36), (1, 0, true, x1)] [] (s.1, s.2.1, s.2.2.1, m3))))
    refine hY _ _ _ _ (hY _ _ _ _ (hY _ _ _ _ (?_ : Y 39 [(2, 0, true, m3 36 8), (0, 5, true, 36), (1, 0, true, x1)] [(2, true, 0), (0, true, (-9)), (5, true, 36)] (s.1, s.2.1, s.2.2.1, m3))))
    refine hY _ _ _ _ ?_
    refine Exists.intro _ (And.intro (wc_98_r36_0t_2t (-9) 0 _ _ h) (fun r4 s4 h => ?_))
    refine hY _ _ _ _ (hY _ _ _ _ (hY _ _ _ _ (?_ : Y 45 [(2, 0, true, m3 36 8), (0, 5, true, 36), (1, 0, true, x1)] [(0, true, (-1)), (5, true, 36), (5, true, 36)] s4)))
    refine hY _ _ _ _ (hY _ _ _ _ (hY _ _ _ _ (?_ : Y 50 [(2, 0, true, m3 36 8), (0, 5, true, 36), (1, 0, true, x1)] [(3, true, s4.2.2.2 36 6), (0, true, x1), (0, true, (-1)), (5, true, 36), (5, true, 36)] s4)))
    refine hY _ _ _ _ (?_ : Y 51 [(2, 0, true, m3 36 8), (0, 5, true, 36), (1, 0, true, x1)] [(0, true, m3 36 8), (3, true, s4.2.2.2 36 6), (0, true, x1), (0, true, (-1)), (5, true, 36), (5, true, 36)] s4)
    refine hY _ _ _ _ ?_
    refine Exists.intro _ (And.intro (wc_102_r36_0t_0t_3t_0t (-1) x1 (s4.2.2.2 36 6) (m3 36 8) _ _ h) (fun r5 s5 h => ?_))
    show Y 54 [(2, 0, true, m3 36 8), (0, 5, true, 36), (1, 0, true, x1)] [(3, true, r5), (5, true, 36)] s5
    refine hY _ _ _ _ ?_
    refine hY _ _ _ _ (?_ : Y 58 [(2, 0, true, m3 36 8), (0, 5, true, 36), (1, 0, true, x1)] [(2, true, 1)] (s5.1, s5.2.1, s5.2.2.1, hy_u s5.2.2.2 36 6 r5))
    refine hY _ _ _ _ ?_
    exact h
  · have h := h.2 hc
    refine hY _ _ _ _ (hY _ _ _ _ (hY _ _ _ _ (?_ : Y 25 [(0, 5, true, 36), (1, 0, true, x1)] [(2, true, 1), (0, true, 4), (5, true, 36)] (s.1, s.2.1, s.2.2.1, m3))))
    refine hY _ _ _ _ ?_
    refine Exists.intro _ (And.intro (wc_88_r36_0t_2t 4 1 _ _ h) (fun r6 m6 h => ?_))
    refine hY _ _ _ _ (?_ : Y 29 [(0, 5, true, 36), (1, 0, true, x1)] [(2, true, 1)] (s.1, s.2.1, s.2.2.1, m6))
    refine hY _ _ _ _ ?_
    exact h
def we_96 : sF := sE 3 [(0, 5, 36), (1, 0, 0)] (fun xs s Q => ap1 (fun x1 => wq_96 x1 s Q) xs)
theorem we_96_ok : kS dC 5 96 2 (.inr we_96) := sE_ok (mi := im_m96) rfl rfl rfl (fun Q xs s r1 hb => by obtain ⟨x1, rfl, hb⟩ := ap1_ok hb; exact wk_96_0 Q s x1 r1 hb)
