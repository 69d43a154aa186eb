/-- LM$Clause.firstKey()J -/
def wq_47 (x0 : Int) (T : hy_T) (m : hy_m) (Q : Int → hy_m → Prop) : Prop := T.1 (x0).toNat = some (3, 9) ∧ (wq_45 x0 T m (fun r1 m1 => wq_26 r1 m1 (fun r2 m2 => (r2 ≠ 0 → (T.1 (x0).toNat = some (3, 9) ∧ (T.1 (x0).toNat = some (3, 9) ∧ (wq_42 x0 (m2 ((x0).toNat) 3) 0 T m2 (fun r3 m3 => T.1 (x0).toNat = some (3, 9) ∧ (wq_41 x0 r3 T m3 (fun r4 m4 => Q r4 m4))))))) ∧ (r2 = 0 → (Q 0 m2)))))
def cs_47 : List (Nat × Nat × sFS) := [(26, 0, .inl we_26), (41, 1, .inl we_41), (42, 0, .inl we_42), (45, 1, .inl we_45)]
theorem cs_47_ok : kCs dC 2 cs_47 := (kCs_c (Or.inl rfl) (we_26_ok.deep (by decide)) (kCs_c (Or.inr (Or.inl rfl)) (we_41_ok.deep (by decide)) (kCs_c (Or.inl rfl) (we_42_ok.deep (by decide)) (kCs_c (Or.inr (Or.inl rfl)) (we_45_ok.deep (by decide)) kCs_n))))
def lb_47_0 (s : sS) (Q : sQ) (R : Int → hy_m → Prop) (x0 : Int) : Nat → Option (sL → sS → Prop) := sLb []
set_option maxRecDepth 30000 in
set_option maxHeartbeats 1000000 in
theorem wk_47_0 (Q : sQ) (R : Int → hy_m → Prop) (s : sS) (x0 : Int) (hQ : ∀ x m', R x m' → Q x (sM s m')) (hr : sRg [(0, 3, 0)] [x0]) (h : wq_47 x0 s.1 s.2.2.2 R) : kX dC 2 im_m47 1 0 (sCan [(0, 3, 0)] [x0]) [] s Q := by
  unfold wq_47 at h
  refine wz2_ok (cs := cs_47) (wr := []) (lb := lb_47_0 s Q R x0) cs_47_ok kLb_n (okL_can rfl hr) (fun Y hY hl => ?_)
  refine hY _ _ _ _ (?_ : Y 1 [(0, 3, true, x0)] [(3, true, x0)] s)
  refine hY _ _ _ _ ?_
  refine (And.intro h.1 ?_)
  refine Exists.intro _ (And.intro (wc_45_3t x0 _ _ h.2) (fun r1 m1 h => ?_))
  show Y 4 [(0, 3, true, x0)] [(1, true, r1)] (sM s m1)
  refine hY _ _ _ _ ?_
  refine Exists.intro _ (And.intro (wc_26_1t r1 _ _ h) (fun r2 m2 h => ?_))
  show Y 7 [(0, 3, true, x0)] [(0, true, r2)] (sM s m2)
  refine hY _ _ _ _ ?_
  refine And.intro (fun hc => ?_) (fun hc => ?_)
  · have h := h.1 hc
    refine hY _ _ _ _ (hY _ _ _ _ (hY _ _ _ _ (?_ : Y 17 [(0, 3, true, x0)] [(3, true, x0), (3, true, x0), (3, true, x0)] (sM s m2))))
    refine hY _ _ _ _ ?_
    refine (And.intro h.1 ?_)
    refine hY _ _ _ _ (?_ : Y 21 [(0, 3, true, x0)] [(2, true, 0), (0, true, m2 ((x0).toNat) 3), (3, true, x0), (3, true, x0)] (sM s m2))
    refine hY _ _ _ _ ?_
    refine (And.intro h.2.1 ?_)
    refine Exists.intro _ (And.intro (wc_42_3t_0t_2t x0 (m2 ((x0).toNat) 3) 0 _ _ h.2.2) (fun r3 m3 h => ?_))
    show Y 24 [(0, 3, true, x0)] [(0, true, r3), (3, true, x0)] (sM s m3)
    refine hY _ _ _ _ ?_
    refine (And.intro h.1 ?_)
    refine Exists.intro _ (And.intro (wc_41_3t_0t x0 r3 _ _ h.2) (fun r4 m4 h => ?_))
    show Y 27 [(0, 3, true, x0)] [(1, true, r4)] (sM s m4)
    refine hY _ _ _ _ ?_
    exact hQ r4 m4 h
  · have h := h.2 hc
    refine hY _ _ _ _ (hY _ _ _ _ (?_ : Y 27 [(0, 3, true, x0)] [(1, true, 0)] (sM s m2)))
    refine hY _ _ _ _ ?_
    exact hQ 0 m2 h
def we_47 : sFf := sEf 1 [(0, 3, 0)] (fun xs s Q => ap1 (fun x0 => wq_47 x0 s.1 s.2.2.2 Q) xs)
theorem we_47_ok : kS dC 3 47 1 (.inl we_47) := sEf_ok (mi := im_m47) rfl rfl rfl (fun R xs s r1 hb => by obtain ⟨x0, rfl, hb⟩ := ap1_ok hb; exact wk_47_0 _ R s x0 (fun x m' hx => ⟨m', rfl, hx⟩) r1 hb)
/-- LM.canMatch(IJIJ)Z -/
def wq_25 (x0 : Int) (x1 : Int) (x3 : Int) (x4 : Int) (m : hy_m) (Q : Int → hy_m → Prop) : Prop := (x0 ≤ 1 → (Q 1 m)) ∧ (1 < x0 → ((1 < x3 → ((x0 ≠ x3 → (Q 0 m)) ∧ (x0 = x3 → ((x1 ≠ x4 → (Q 0 m)) ∧ (x1 = x4 → (Q 1 m)))))) ∧ (x3 ≤ 1 → (Q 1 m))))
def cs_25 : List (Nat × Nat × sFS) := []
theorem cs_25_ok : kCs dC 0 cs_25 := kCs_n
def lb_25_0 (s : sS) (Q : sQ) (R : Int → hy_m → Prop) (x0 : Int) (x1 : Int) (x3 : Int) (x4 : Int) : Nat → Option (sL → sS → Prop) := sLb []
set_option maxRecDepth 30000 in
set_option maxHeartbeats 1000000 in
theorem wk_25_0 (Q : sQ) (R : Int → hy_m → Prop) (s : sS) (x0 : Int) (x1 : Int) (x3 : Int) (x4 : Int) (hQ : ∀ x m', R x m' → Q x (sM s m')) (hr : sRg [(0, 0, 0), (1, 1, 0), (3, 0, 0), (4, 1, 0)] [x0, x1, x3, x4]) (h : wq_25 x0 x1 x3 x4 s.2.2.2 R) : kX dC 0 im_m25 2 0 (sCan [(0, 0, 0), (1, 1, 0), (3, 0, 0), (4, 1, 0)] [x0, x1, x3, x4]) [] s Q := by
  unfold wq_25 at h
  refine wz2_ok (cs := cs_25) (wr := []) (lb := lb_25_0 s Q R x0 x1 x3 x4) cs_25_ok kLb_n (okL_can rfl hr) (fun Y hY hl => ?_)
  refine hY _ _ _ _ (hY _ _ _ _ (?_ : Y 2 [(0, 0, true, x0), (1, 1, true, x1), (3, 0, true, x3), (4, 1, true, x4)] [(2, true, 1), (0, true, x0)] s))
  refine hY _ _ _ _ ?_
  refine And.intro (fun hc => ?_) (fun hc => ?_)
  · have h := h.1 hc
    refine hY _ _ _ _ (?_ : Y 11 [(0, 0, true, x0), (1, 1, true, x1), (3, 0, true, x3), (4, 1, true, x4)] [(2, true, 1)] s)
    refine hY _ _ _ _ ?_
    exact hQ 1 s.2.2.2 h
  · have h := h.2 hc
    refine hY _ _ _ _ (hY _ _ _ _ (?_ : Y 7 [(0, 0, true, x0), (1, 1, true, x1), (3, 0, true, x3), (4, 1, true, x4)] [(2, true, 1), (0, true, x3)] s))
    refine hY _ _ _ _ ?_
    refine And.intro (fun hc => ?_) (fun hc => ?_)
    · have h := h.1 hc
      refine hY _ _ _ _ (hY _ _ _ _ (?_ : Y 14 [(0, 0, true, x0), (1, 1, true, x1), (3, 0, true, x3), (4, 1, true, x4)] [(0, true, x3), (0, true, x0)] s))
      refine hY _ _ _ _ ?_
      refine And.intro (fun hc => ?_) (fun hc => ?_)
      · have h := h.1 hc
        refine hY _ _ _ _ (?_ : Y 29 [(0, 0, true, x0), (1, 1, true, x1), (3, 0, true, x3), (4, 1, true, x4)] [(2, true, 0)] s)
        refine hY _ _ _ _ ?_
        exact hQ 0 s.2.2.2 h
      · have h := h.2 hc
        refine hY _ _ _ _ (hY _ _ _ _ (?_ : Y 20 [(0, 0, true, x0), (1, 1, true, x1), (3, 0, true, x3), (4, 1, true, x4)] [(1, true, x4), (1, true, x1)] s))
        refine hY _ _ _ _ ?_
        refine And.intro (fun hc => ?_) (fun hc => ?_)
        · have h := h.1 hc
          refine hY _ _ _ _ (?_ : Y 29 [(0, 0, true, x0), (1, 1, true, x1), (3, 0, true, x3), (4, 1, true, x4)] [(2, true, 0)] s)
          refine hY _ _ _ _ ?_
          exact hQ 0 s.2.2.2 h
        · have h := h.2 hc
          refine hY _ _ _ _ (hY _ _ _ _ (?_ : Y 29 [(0, 0, true, x0), (1, 1, true, x1), (3, 0, true, x3), (4, 1, true, x4)] [(2, true, 1)] s))
          refine hY _ _ _ _ ?_
          exact hQ 1 s.2.2.2 h
    · have h := h.2 hc
      refine hY _ _ _ _ (?_ : Y 11 [(0, 0, true, x0), (1, 1, true, x1), (3, 0, true, x3), (4, 1, true, x4)] [(2, true, 1)] s)
      refine hY _ _ _ _ ?_
      exact hQ 1 s.2.2.2 h
def we_25 : sFf := sEf 6 [(0, 0, 0), (1, 1, 0), (3, 0, 0), (4, 1, 0)] (fun xs s Q => ap4 (fun x0 x1 x3 x4 => wq_25 x0 x1 x3 x4 s.2.2.2 Q) xs)
theorem we_25_ok : kS dC 1 25 2 (.inl we_25) := sEf_ok (mi := im_m25) rfl rfl rfl (fun R xs s r1 hb => by obtain ⟨x0, x1, x3, x4, rfl, hb⟩ := ap4_ok hb; exact wk_25_0 _ R s x0 x1 x3 x4 (fun x m' hx => ⟨m', rfl, hx⟩) r1 hb)
/-- LM$Program.candidates(JIJ)I -/
def wf_60_6 (x0 : Int) (x1 : Int) (x3 : Int) (x4 : Int) (T : hy_T) (Q : Int → hy_m → Prop) (P6 : Int → Int → hy_m → Prop) (x6 : Int) (x7 : Int) (m : hy_m) : Prop := T.1 (x0).toNat = some (5, 3) ∧ (((m ((x0).toNat) 2) ≤ x7 → (Q x6 m)) ∧ (x7 < (m ((x0).toNat) 2) → (T.1 (x0).toNat = some (5, 3) ∧ (∃ t1 n1 : Nat, T.1 (m ((x0).toNat) 1).toNat = some (t1, n1) ∧ 110 ≤ t1 ∧ (0 ≤ x7 ∧ x7 < (n1 : Int) ∧ (T.1 (m ((m ((x0).toNat) 1).toNat) x7).toNat = some (3, 9) ∧ (wq_45 (m ((m ((x0).toNat) 1).toNat) x7) T m (fun r2 m2 => (r2 ≠ x1 → (hy_r 0 (x7 + 1) ∧ (P6 x6 (x7 + 1) m2))) ∧ (r2 = x1 → (T.1 (m ((m ((x0).toNat) 1).toNat) x7).toNat = some (3, 9) ∧ (wq_46 (m ((m ((x0).toNat) 1).toNat) x7) T m2 (fun r3 m3 => T.1 (m ((m ((x0).toNat) 1).toNat) x7).toNat = some (3, 9) ∧ (wq_47 (m ((m ((x0).toNat) 1).toNat) x7) T m3 (fun r4 m4 => wq_25 x3 x4 r3 r4 m4 (fun r5 m5 => (r5 = 0 → (hy_r 0 (x7 + 1) ∧ (P6 x6 (x7 + 1) m5))) ∧ (r5 ≠ 0 → (hy_r 0 (x7 + 1) ∧ (P6 (iO x6 (iSl 1 x7)) (x7 + 1) m5))))))))))))))))))
def wq_60_6 (x0 : Int) (x1 : Int) (x3 : Int) (x4 : Int) (x6 : Int) (x7 : Int) (T : hy_T) (m : hy_m) (Q : Int → hy_m → Prop) : Prop := wL2 hy_m (wf_60_6 x0 x1 x3 x4 T Q) x6 x7 m
def wq_60 (x0 : Int) (x1 : Int) (x3 : Int) (x4 : Int) (T : hy_T) (m : hy_m) (Q : Int → hy_m → Prop) : Prop := wq_60_6 x0 x1 x3 x4 0 0 T m Q
theorem wc_47_3t (x0 : Int) (s : sS) (R : Int → hy_m → Prop) (h : wq_47 x0 s.1 s.2.2.2 R) : we_47 [(3, true, x0)] s R := h
theorem wc_25_0t_1t_0t_1t (x0 : Int) (x1 : Int) (x2 : Int) (x3 : Int) (s : sS) (R : Int → hy_m → Prop) (h : wq_25 x0 x1 x2 x3 s.2.2.2 R) : we_25 [(0, true, x0), (1, true, x1), (0, true, x2), (1, true, x3)] s R := h
def cs_60 : List (Nat × Nat × sFS) := [(25, 2, .inl we_25), (45, 1, .inl we_45), (46, 0, .inl we_46), (47, 1, .inl we_47)]
theorem cs_60_ok : kCs dC 3 cs_60 := (kCs_c (Or.inr (Or.inr (Or.inl rfl))) (we_25_ok.deep (by decide)) (kCs_c (Or.inr (Or.inl rfl)) (we_45_ok.deep (by decide)) (kCs_c (Or.inl rfl) (we_46_ok.deep (by decide)) (kCs_c (Or.inr (Or.inl rfl)) (we_47_ok.deep (by decide)) kCs_n))))
def lb_60_6 (s : sS) (Q : sQ) (P6 : Int → Int → hy_m → Prop) (R : Int → hy_m → Prop) (x0 : Int) (x1 : Int) (x3 : Int) (x4 : Int) (x6 : Int) (x7 : Int) : Nat → Option (sL → sS → Prop) := sLb [(6, fun lv t => sG [(0, 3, 0), (1, 1, 0), (3, 0, 0), (4, 1, 0), (6, 0, 0), (7, 0, 0)] lv (ap6 (fun w0 w1 w3 w4 w6 w7 => ∃ m', t = sM s m' ∧ w0 = x0 ∧ w1 = x1 ∧ w3 = x3 ∧ w4 = x4 ∧ P6 w6 w7 m')))]
set_option maxRecDepth 30000 in
set_option maxHeartbeats 1000000 in
theorem wj_60_6 (Q : sQ) (R : Int → hy_m → Prop) (s : sS) (P6 : Int → Int → hy_m → Prop) (x0 : Int) (x1 : Int) (x3 : Int) (x4 : Int) (x6 : Int) (x7 : Int) (m : hy_m) (hP6 : ∀ (z6 z7 : Int) (m : hy_m), P6 z6 z7 m → sRg [(0, 3, 0), (1, 1, 0), (3, 0, 0), (4, 1, 0), (6, 0, 0), (7, 0, 0)] [x0, x1, x3, x4, z6, z7] → kX dC 3 im_m60 0 6 (sCan [(0, 3, 0), (1, 1, 0), (3, 0, 0), (4, 1, 0), (6, 0, 0), (7, 0, 0)] [x0, x1, x3, x4, z6, z7]) [] (sM s m) Q) (hQ : ∀ x m', R x m' → Q x (sM s m')) (hr : sRg [(0, 3, 0), (1, 1, 0), (3, 0, 0), (4, 1, 0), (6, 0, 0), (7, 0, 0)] [x0, x1, x3, x4, x6, x7]) (h : wf_60_6 x0 x1 x3 x4 s.1 R P6 x6 x7 m) : kX dC 3 im_m60 0 6 (sCan [(0, 3, 0), (1, 1, 0), (3, 0, 0), (4, 1, 0), (6, 0, 0), (7, 0, 0)] [x0, x1, x3, x4, x6, x7]) [] (sM s m) Q := by
  unfold wf_60_6 at h
  refine wz2_ok (cs := cs_60) (wr := []) (lb := lb_60_6 s Q P6 R x0 x1 x3 x4 x6 x7) cs_60_ok (kLb_c (kLab (Bd := fun xs t => ap6 (fun w0 w1 w3 w4 w6 w7 => ∃ m', t = sM s m' ∧ w0 = x0 ∧ w1 = x1 ∧ w3 = x3 ∧ w4 = x4 ∧ P6 w6 w7 m') xs) rfl (fun xs t r1 r2 hb => by obtain ⟨w0, w1, w3, w4, w6, w7, rfl, hb⟩ := ap6_ok hb; obtain ⟨m', rfl, rfl, rfl, rfl, rfl, hx⟩ := hb; exact hP6 _ _ m' hx r1)) kLb_n) (okL_can rfl hr) (fun Y hY hl => ?_)
  have l6 := hl 6 _ rfl
  refine hY _ _ _ _ (hY _ _ _ _ (?_ : Y 9 [(0, 3, true, x0), (1, 1, true, x1), (3, 0, true, x3), (4, 1, true, x4), (6, 0, true, x6), (7, 0, true, x7)] [(3, true, x0), (0, true, x7)] (sM s m)))
  refine hY _ _ _ _ ?_
  refine (And.intro h.1 ?_)
  show Y 12 [(0, 3, true, x0), (1, 1, true, x1), (3, 0, true, x3), (4, 1, true, x4), (6, 0, true, x6), (7, 0, true, x7)] [(0, true, m ((x0).toNat) 2), (0, true, x7)] (sM s m)
  refine hY _ _ _ _ ?_
  refine And.intro (fun hc => ?_) (fun hc => ?_)
  · have h := h.2.1 hc
    refine hY _ _ _ _ (?_ : Y 70 [(0, 3, true, x0), (1, 1, true, x1), (3, 0, true, x3), (4, 1, true, x4), (6, 0, true, x6), (7, 0, true, x7)] [(0, true, x6)] (sM s m))
    refine hY _ _ _ _ ?_
    exact hQ x6 m h
  · have h := h.2.2 hc
    refine hY _ _ _ _ (?_ : Y 16 [(0, 3, true, x0), (1, 1, true, x1), (3, 0, true, x3), (4, 1, true, x4), (6, 0, true, x6), (7, 0, true, x7)] [(3, true, x0)] (sM s m))
    refine hY _ _ _ _ ?_
    refine (And.intro h.1 ?_)
    refine hY _ _ _ _ (?_ : Y 21 [(0, 3, true, x0), (1, 1, true, x1), (3, 0, true, x3), (4, 1, true, x4), (6, 0, true, x6), (7, 0, true, x7)] [(0, true, x7), (3, true, m ((x0).toNat) 1)] (sM s m))
    refine hY _ _ _ _ ?_
    obtain ⟨t1, n1, h⟩ := h.2
    refine Exists.intro t1 (Exists.intro n1 (And.intro h.1 (And.intro h.2.1 ?_)))
    refine (And.intro h.2.2.1 (And.intro h.2.2.2.1 ?_))
    refine hY _ _ _ _ (hY _ _ _ _ (?_ : Y 26 [(8, 3, true, m ((m ((x0).toNat) 1).toNat) x7), (0, 3, true, x0), (1, 1, true, x1), (3, 0, true, x3), (4, 1, true, x4), (6, 0, true, x6), (7, 0, true, x7)] [(3, true, m ((m ((x0).toNat) 1).toNat) x7)] (sM s m)))
    refine hY _ _ _ _ ?_
    refine (And.intro h.2.2.2.2.1 ?_)
    refine Exists.intro _ (And.intro (wc_45_3t (m ((m ((x0).toNat) 1).toNat) x7) _ _ h.2.2.2.2.2) (fun r2 m2 h => ?_))
    refine hY _ _ _ _ (?_ : Y 30 [(8, 3, true, m ((m ((x0).toNat) 1).toNat) x7), (0, 3, true, x0), (1, 1, true, x1), (3, 0, true, x3), (4, 1, true, x4), (6, 0, true, x6), (7, 0, true, x7)] [(1, true, x1), (1, true, r2)] (sM s m2))
    refine hY _ _ _ _ ?_
    refine And.intro (fun hc => ?_) (fun hc => ?_)
    · have h := h.1 hc
      refine hY _ _ _ _ (hY _ _ _ _ (?_ : Y 6 [(7, 0, false, x7 + 1), (8, 3, true, m ((m ((x0).toNat) 1).toNat) x7), (0, 3, true, x0), (1, 1, true, x1), (3, 0, true, x3), (4, 1, true, x4), (6, 0, true, x6)] [] (sM s m2)))
      refine l6 _ _ ?_
      refine And.intro h.1 ?_
      exact (Exists.intro m2 (And.intro rfl (And.intro rfl (And.intro rfl (And.intro rfl (And.intro rfl h.2))))))
    · have h := h.2 hc
      refine hY _ _ _ _ (hY _ _ _ _ (hY _ _ _ _ (?_ : Y 39 [(8, 3, true, m ((m ((x0).toNat) 1).toNat) x7), (0, 3, true, x0), (1, 1, true, x1), (3, 0, true, x3), (4, 1, true, x4), (6, 0, true, x6), (7, 0, true, x7)] [(3, true, m ((m ((x0).toNat) 1).toNat) x7), (1, true, x4), (0, true, x3)] (sM s m2))))
      refine hY _ _ _ _ ?_
      refine (And.intro h.1 ?_)
      refine Exists.intro _ (And.intro (wc_46_3t (m ((m ((x0).toNat) 1).toNat) x7) _ _ h.2) (fun r3 m3 h => ?_))
      refine hY _ _ _ _ (?_ : Y 44 [(8, 3, true, m ((m ((x0).toNat) 1).toNat) x7), (0, 3, true, x0), (1, 1, true, x1), (3, 0, true, x3), (4, 1, true, x4), (6, 0, true, x6), (7, 0, true, x7)] [(3, true, m ((m ((x0).toNat) 1).toNat) x7), (0, true, r3), (1, true, x4), (0, true, x3)] (sM s m3))
      refine hY _ _ _ _ ?_
      refine (And.intro h.1 ?_)
      refine Exists.intro _ (And.intro (wc_47_3t (m ((m ((x0).toNat) 1).toNat) x7) _ _ h.2) (fun r4 m4 h => ?_))
      show Y 47 [(8, 3, true, m ((m ((x0).toNat) 1).toNat) x7), (0, 3, true, x0), (1, 1, true, x1), (3, 0, true, x3), (4, 1, true, x4), (6, 0, true, x6), (7, 0, true, x7)] [(1, true, r4), (0, true, r3), (1, true, x4), (0, true, x3)] (sM s m4)
      refine hY _ _ _ _ ?_
      refine Exists.intro _ (And.intro (wc_25_0t_1t_0t_1t x3 x4 r3 r4 _ _ h) (fun r5 m5 h => ?_))
      show Y 50 [(8, 3, true, m ((m ((x0).toNat) 1).toNat) x7), (0, 3, true, x0), (1, 1, true, x1), (3, 0, true, x3), (4, 1, true, x4), (6, 0, true, x6), (7, 0, true, x7)] [(2, true, r5)] (sM s m5)
      refine hY _ _ _ _ ?_
      refine And.intro (fun hc => ?_) (fun hc => ?_)
      · have h := h.1 hc
        refine hY _ _ _ _ (hY _ _ _ _ (?_ : Y 6 [(7, 0, false, x7 + 1), (8, 3, true, m ((m ((x0).toNat) 1).toNat) x7), (0, 3, true, x0), (1, 1, true, x1), (3, 0, true, x3), (4, 1, true, x4), (6, 0, true, x6)] [] (sM s m5)))
        refine l6 _ _ ?_
        refine And.intro h.1 ?_
        exact (Exists.intro m5 (And.intro rfl (And.intro rfl (And.intro rfl (And.intro rfl (And.intro rfl h.2))))))
      · have h := h.2 hc
        refine hY _ _ _ _ (hY _ _ _ _ (hY _ _ _ _ (?_ : Y 58 [(8, 3, true, m ((m ((x0).toNat) 1).toNat) x7), (0, 3, true, x0), (1, 1, true, x1), (3, 0, true, x3), (4, 1, true, x4), (6, 0, true, x6), (7, 0, true, x7)] [(0, true, x7), (2, true, 1), (0, true, x6)] (sM s m5))))
        refine hY _ _ _ _ (?_ : Y 59 [(8, 3, true, m ((m ((x0).toNat) 1).toNat) x7), (0, 3, true, x0), (1, 1, true, x1), (3, 0, true, x3), (4, 1, true, x4), (6, 0, true, x6), (7, 0, true, x7)] [(0, true, iSl 1 x7), (0, true, x6)] (sM s m5))
        refine hY _ _ _ _ (?_ : Y 60 [(8, 3, true, m ((m ((x0).toNat) 1).toNat) x7), (0, 3, true, x0), (1, 1, true, x1), (3, 0, true, x3), (4, 1, true, x4), (6, 0, true, x6), (7, 0, true, x7)] [(0, true, iO x6 (iSl 1 x7))] (sM s m5))
        refine hY _ _ _ _ (hY _ _ _ _ (hY _ _ _ _ (?_ : Y 6 [(7, 0, false, x7 + 1), (6, 0, true, iO x6 (iSl 1 x7)), (8, 3, true, m ((m ((x0).toNat) 1).toNat) x7), (0, 3, true, x0), (1, 1, true, x1), (3, 0, true, x3), (4, 1, true, x4)] [] (sM s m5))))
        refine l6 _ _ ?_
        refine And.intro h.1 ?_
        exact (Exists.intro m5 (And.intro rfl (And.intro rfl (And.intro rfl (And.intro rfl (And.intro rfl h.2))))))
theorem wk_60_6 (Q : sQ) (R : Int → hy_m → Prop) (s : sS) (x0 : Int) (x1 : Int) (x3 : Int) (x4 : Int) (x6 : Int) (x7 : Int) (hQ : ∀ x m', R x m' → Q x (sM s m')) (hr : sRg [(0, 3, 0), (1, 1, 0), (3, 0, 0), (4, 1, 0), (6, 0, 0), (7, 0, 0)] [x0, x1, x3, x4, x6, x7]) (h : wq_60_6 x0 x1 x3 x4 x6 x7 s.1 s.2.2.2 R) : kX dC 3 im_m60 0 6 (sCan [(0, 3, 0), (1, 1, 0), (3, 0, 0), (4, 1, 0), (6, 0, 0), (7, 0, 0)] [x0, x1, x3, x4, x6, x7]) [] s Q :=
  h (fun x6 x7 m => sRg [(0, 3, 0), (1, 1, 0), (3, 0, 0), (4, 1, 0), (6, 0, 0), (7, 0, 0)] [x0, x1, x3, x4, x6, x7] → kX dC 3 im_m60 0 6 (sCan [(0, 3, 0), (1, 1, 0), (3, 0, 0), (4, 1, 0), (6, 0, 0), (7, 0, 0)] [x0, x1, x3, x4, x6, x7]) [] (sM s m) Q) (fun x6 x7 m h hr => wj_60_6 Q R s (fun x6 x7 m => sRg [(0, 3, 0), (1, 1, 0), (3, 0, 0), (4, 1, 0), (6, 0, 0), (7, 0, 0)] [x0, x1, x3, x4, x6, x7] → kX dC 3 im_m60 0 6 (sCan [(0, 3, 0), (1, 1, 0), (3, 0, 0), (4, 1, 0), (6, 0, 0), (7, 0, 0)] [x0, x1, x3, x4, x6, x7]) [] (sM s m) Q) x0 x1 x3 x4 x6 x7 m  (fun _ _ _ hp hr => hp hr) hQ hr h) hr
def lb_60_0 (s : sS) (Q : sQ) (R : Int → hy_m → Prop) (x0 : Int) (x1 : Int) (x3 : Int) (x4 : Int) : Nat → Option (sL → sS → Prop) := sLb [(6, fun lv t => sG [(0, 3, 0), (1, 1, 0), (3, 0, 0), (4, 1, 0), (6, 0, 0), (7, 0, 0)] lv (ap6 (fun w0 w1 w3 w4 w6 w7 => ∃ m', t = sM s m' ∧ wq_60_6 w0 w1 w3 w4 w6 w7 s.1 m' R)))]
set_option maxRecDepth 30000 in
set_option maxHeartbeats 1000000 in
theorem wk_60_0 (Q : sQ) (R : Int → hy_m → Prop) (s : sS) (x0 : Int) (x1 : Int) (x3 : Int) (x4 : Int) (hQ : ∀ x m', R x m' → Q x (sM s m')) (hr : sRg [(0, 3, 0), (1, 1, 0), (3, 0, 0), (4, 1, 0)] [x0, x1, x3, x4]) (h : wq_60 x0 x1 x3 x4 s.1 s.2.2.2 R) : kX dC 3 im_m60 0 0 (sCan [(0, 3, 0), (1, 1, 0), (3, 0, 0), (4, 1, 0)] [x0, x1, x3, x4]) [] s Q := by
  unfold wq_60 at h
  refine wz2_ok (cs := cs_60) (wr := []) (lb := lb_60_0 s Q R x0 x1 x3 x4) cs_60_ok (kLb_c (kLab (Bd := fun xs t => ap6 (fun w0 w1 w3 w4 w6 w7 => ∃ m', t = sM s m' ∧ wq_60_6 w0 w1 w3 w4 w6 w7 s.1 m' R) xs) rfl (fun xs t r1 r2 hb => by obtain ⟨w0, w1, w3, w4, w6, w7, rfl, hb⟩ := ap6_ok hb; obtain ⟨m', rfl, hx⟩ := hb; exact wk_60_6 Q R (sM s m') _ _ _ _ _ _ (fun x m'' hy => hQ x m'' hy) r1 hx)) kLb_n) (okL_can rfl hr) (fun Y hY hl => ?_)
  have l6 := hl 6 _ rfl
  refine hY _ _ _ _ (hY _ _ _ _ (hY _ _ _ _ (?_ : Y 4 [(6, 2, true, 0), (0, 3, true, x0), (1, 1, true, x1), (3, 0, true, x3), (4, 1, true, x4)] [(2, true, 0)] s)))
  refine hY _ _ _ _ (?_ : Y 6 [(7, 2, true, 0), (6, 2, true, 0), (0, 3, true, x0), (1, 1, true, x1), (3, 0, true, x3), (4, 1, true, x4)] [] s)
  refine l6 _ _ ?_
  exact (Exists.intro s.2.2.2 (And.intro rfl h))
def we_60 : sFf := sEf 9 [(0, 3, 0), (1, 1, 0), (3, 0, 0), (4, 1, 0)] (fun xs s Q => ap4 (fun x0 x1 x3 x4 => wq_60 x0 x1 x3 x4 s.1 s.2.2.2 Q) xs)
theorem we_60_ok : kS dC 4 60 0 (.inl we_60) := sEf_ok (mi := im_m60) rfl rfl rfl (fun R xs s r1 hb => by obtain ⟨x0, x1, x3, x4, rfl, hb⟩ := ap4_ok hb; exact wk_60_0 _ R s x0 x1 x3 x4 (fun x m' hx => ⟨m', rfl, hx⟩) r1 hb)
/-- LM$Program.countOverlaps(I)I -/
def wf_64_15 (x0 : Int) (x2 : Int) (T : hy_T) (Q : Int → hy_m → Prop) (P15 : Int → Int → hy_m → Prop) (x4 : Int) (x5 : Int) (m : hy_m) : Prop := T.1 (x0).toNat = some (5, 3) ∧ (((m ((x0).toNat) 2) ≤ x5 → (Q x4 m)) ∧ (x5 < (m ((x0).toNat) 2) → (T.1 (x0).toNat = some (5, 3) ∧ (∃ t1 n1 : Nat, T.1 (m ((x0).toNat) 1).toNat = some (t1, n1) ∧ 110 ≤ t1 ∧ (0 ≤ x5 ∧ x5 < (n1 : Int) ∧ (T.1 (m ((m ((x0).toNat) 1).toNat) x5).toNat = some (3, 9) ∧ (wq_45 (m ((m ((x0).toNat) 1).toNat) x5) T m (fun r2 m2 => (r2 ≠ x2 → (hy_r 0 (x5 + 1) ∧ (P15 x4 (x5 + 1) m2))) ∧ (r2 = x2 → (T.1 (m ((m ((x0).toNat) 1).toNat) x5).toNat = some (3, 9) ∧ (wq_46 (m ((m ((x0).toNat) 1).toNat) x5) T m2 (fun r3 m3 => T.1 (m ((m ((x0).toNat) 1).toNat) x5).toNat = some (3, 9) ∧ (wq_47 (m ((m ((x0).toNat) 1).toNat) x5) T m3 (fun r4 m4 => T.1 (x0).toNat = some (5, 3) ∧ (wq_60 x0 x2 r3 r4 T m4 (fun r5 m5 => wq_307 (iA r5 ((iSl 1 x5) - 1)) m5 (fun r6 m6 => hy_r 0 (x4 + r6) ∧ (hy_r 0 (x5 + 1) ∧ (P15 (x4 + r6) (x5 + 1) m6)))))))))))))))))))
def wq_64_15 (x0 : Int) (x2 : Int) (x4 : Int) (x5 : Int) (T : hy_T) (m : hy_m) (Q : Int → hy_m → Prop) : Prop := wL2 hy_m (wf_64_15 x0 x2 T Q) x4 x5 m
def wq_64 (x0 : Int) (x1 : Int) (T : hy_T) (m : hy_m) (Q : Int → hy_m → Prop) : Prop := T.1 (x0).toNat = some (5, 3) ∧ (wq_53 x0 x1 T m (fun r1 m1 => T.1 (r1).toNat = some (3, 9) ∧ (wq_45 r1 T m1 (fun r2 m2 => wq_64_15 x0 r2 0 0 T m2 Q))))
theorem wc_60_3t_1t_0t_1t (x0 : Int) (x1 : Int) (x2 : Int) (x3 : Int) (s : sS) (R : Int → hy_m → Prop) (h : wq_60 x0 x1 x2 x3 s.1 s.2.2.2 R) : we_60 [(3, true, x0), (1, true, x1), (0, true, x2), (1, true, x3)] s R := h
def cs_64 : List (Nat × Nat × sFS) := [(45, 1, .inl we_45), (46, 0, .inl we_46), (47, 1, .inl we_47), (53, 3, .inl we_53), (60, 0, .inl we_60), (307, 0, .inl we_307)]
theorem cs_64_ok : kCs dC 4 cs_64 := (kCs_c (Or.inr (Or.inl rfl)) (we_45_ok.deep (by decide)) (kCs_c (Or.inl rfl) (we_46_ok.deep (by decide)) (kCs_c (Or.inr (Or.inl rfl)) (we_47_ok.deep (by decide)) (kCs_c (Or.inr (Or.inr (Or.inr (Or.inl rfl)))) (we_53_ok.deep (by decide)) (kCs_c (Or.inl rfl) (we_60_ok.deep (by decide)) (kCs_c (Or.inl rfl) (we_307_ok.deep (by decide)) kCs_n))))))
def lb_64_15 (s : sS) (Q : sQ) (P15 : Int → Int → hy_m → Prop) (R : Int → hy_m → Prop) (x0 : Int) (x2 : Int) (x4 : Int) (x5 : Int) : Nat → Option (sL → sS → Prop) := sLb [(15, fun lv t => sG [(0, 3, 0), (2, 1, 0), (4, 0, 0), (5, 0, 0)] lv (ap4 (fun w0 w2 w4 w5 => ∃ m', t = sM s m' ∧ w0 = x0 ∧ w2 = x2 ∧ P15 w4 w5 m')))]
set_option maxRecDepth 30000 in
set_option maxHeartbeats 1000000 in
theorem wj_64_15 (Q : sQ) (R : Int → hy_m → Prop) (s : sS) (P15 : Int → Int → hy_m → Prop) (x0 : Int) (x2 : Int) (x4 : Int) (x5 : Int) (m : hy_m) (hP15 : ∀ (z4 z5 : Int) (m : hy_m), P15 z4 z5 m → sRg [(0, 3, 0), (2, 1, 0), (4, 0, 0), (5, 0, 0)] [x0, x2, z4, z5] → kX dC 4 im_m64 0 15 (sCan [(0, 3, 0), (2, 1, 0), (4, 0, 0), (5, 0, 0)] [x0, x2, z4, z5]) [] (sM s m) Q) (hQ : ∀ x m', R x m' → Q x (sM s m')) (hr : sRg [(0, 3, 0), (2, 1, 0), (4, 0, 0), (5, 0, 0)] [x0, x2, x4, x5]) (h : wf_64_15 x0 x2 s.1 R P15 x4 x5 m) : kX dC 4 im_m64 0 15 (sCan [(0, 3, 0), (2, 1, 0), (4, 0, 0), (5, 0, 0)] [x0, x2, x4, x5]) [] (sM s m) Q := by
  unfold wf_64_15 at h
  refine wz2_ok (cs := cs_64) (wr := []) (lb := lb_64_15 s Q P15 R x0 x2 x4 x5) cs_64_ok (kLb_c (kLab (Bd := fun xs t => ap4 (fun w0 w2 w4 w5 => ∃ m', t = sM s m' ∧ w0 = x0 ∧ w2 = x2 ∧ P15 w4 w5 m') xs) rfl (fun xs t r1 r2 hb => by obtain ⟨w0, w2, w4, w5, rfl, hb⟩ := ap4_ok hb; obtain ⟨m', rfl, rfl, rfl, hx⟩ := hb; exact hP15 _ _ m' hx r1)) kLb_n) (okL_can rfl hr) (fun Y hY hl => ?_)
  have l15 := hl 15 _ rfl
  refine hY _ _ _ _ (hY _ _ _ _ (?_ : Y 18 [(0, 3, true, x0), (2, 1, true, x2), (4, 0, true, x4), (5, 0, true, x5)] [(3, true, x0), (0, true, x5)] (sM s m)))
  refine hY _ _ _ _ ?_
  refine (And.intro h.1 ?_)
  show Y 21 [(0, 3, true, x0), (2, 1, true, x2), (4, 0, true, x4), (5, 0, true, x5)] [(0, true, m ((x0).toNat) 2), (0, true, x5)] (sM s m)
  refine hY _ _ _ _ ?_
  refine And.intro (fun hc => ?_) (fun hc => ?_)
  · have h := h.2.1 hc
    refine hY _ _ _ _ (?_ : Y 85 [(0, 3, true, x0), (2, 1, true, x2), (4, 0, true, x4), (5, 0, true, x5)] [(0, true, x4)] (sM s m))
    refine hY _ _ _ _ ?_
    exact hQ x4 m h
  · have h := h.2.2 hc
    refine hY _ _ _ _ (?_ : Y 25 [(0, 3, true, x0), (2, 1, true, x2), (4, 0, true, x4), (5, 0, true, x5)] [(3, true, x0)] (sM s m))
    refine hY _ _ _ _ ?_
    refine (And.intro h.1 ?_)
    refine hY _ _ _ _ (?_ : Y 30 [(0, 3, true, x0), (2, 1, true, x2), (4, 0, true, x4), (5, 0, true, x5)] [(0, true, x5), (3, true, m ((x0).toNat) 1)] (sM s m))
    refine hY _ _ _ _ ?_
    obtain ⟨t1, n1, h⟩ := h.2
    refine Exists.intro t1 (Exists.intro n1 (And.intro h.1 (And.intro h.2.1 ?_)))
    refine (And.intro h.2.2.1 (And.intro h.2.2.2.1 ?_))
    refine hY _ _ _ _ (hY _ _ _ _ (?_ : Y 35 [(6, 3, true, m ((m ((x0).toNat) 1).toNat) x5), (0, 3, true, x0), (2, 1, true, x2), (4, 0, true, x4), (5, 0, true, x5)] [(3, true, m ((m ((x0).toNat) 1).toNat) x5)] (sM s m)))
    refine hY _ _ _ _ ?_
    refine (And.intro h.2.2.2.2.1 ?_)
    refine Exists.intro _ (And.intro (wc_45_3t (m ((m ((x0).toNat) 1).toNat) x5) _ _ h.2.2.2.2.2) (fun r2 m2 h => ?_))
    refine hY _ _ _ _ (?_ : Y 39 [(6, 3, true, m ((m ((x0).toNat) 1).toNat) x5), (0, 3, true, x0), (2, 1, true, x2), (4, 0, true, x4), (5, 0, true, x5)] [(1, true, x2), (1, true, r2)] (sM s m2))
    refine hY _ _ _ _ ?_
    refine And.intro (fun hc => ?_) (fun hc => ?_)
    · have h := h.1 hc
      refine hY _ _ _ _ (hY _ _ _ _ (?_ : Y 15 [(5, 0, false, x5 + 1), (6, 3, true, m ((m ((x0).toNat) 1).toNat) x5), (0, 3, true, x0), (2, 1, true, x2), (4, 0, true, x4)] [] (sM s m2)))
      refine l15 _ _ ?_
      refine And.intro h.1 ?_
      exact (Exists.intro m2 (And.intro rfl (And.intro rfl (And.intro rfl h.2))))
    · have h := h.2 hc
      refine hY _ _ _ _ (hY _ _ _ _ (hY _ _ _ _ (?_ : Y 47 [(6, 3, true, m ((m ((x0).toNat) 1).toNat) x5), (0, 3, true, x0), (2, 1, true, x2), (4, 0, true, x4), (5, 0, true, x5)] [(3, true, m ((m ((x0).toNat) 1).toNat) x5), (1, true, x2), (3, true, x0)] (sM s m2))))
      refine hY _ _ _ _ ?_
      refine (And.intro h.1 ?_)
      refine Exists.intro _ (And.intro (wc_46_3t (m ((m ((x0).toNat) 1).toNat) x5) _ _ h.2) (fun r3 m3 h => ?_))
      refine hY _ _ _ _ (?_ : Y 52 [(6, 3, true, m ((m ((x0).toNat) 1).toNat) x5), (0, 3, true, x0), (2, 1, true, x2), (4, 0, true, x4), (5, 0, true, x5)] [(3, true, m ((m ((x0).toNat) 1).toNat) x5), (0, true, r3), (1, true, x2), (3, true, x0)] (sM s m3))
      refine hY _ _ _ _ ?_
      refine (And.intro h.1 ?_)
      refine Exists.intro _ (And.intro (wc_47_3t (m ((m ((x0).toNat) 1).toNat) x5) _ _ h.2) (fun r4 m4 h => ?_))
      show Y 55 [(6, 3, true, m ((m ((x0).toNat) 1).toNat) x5), (0, 3, true, x0), (2, 1, true, x2), (4, 0, true, x4), (5, 0, true, x5)] [(1, true, r4), (0, true, r3), (1, true, x2), (3, true, x0)] (sM s m4)
      refine hY _ _ _ _ ?_
      refine (And.intro h.1 ?_)
      refine Exists.intro _ (And.intro (wc_60_3t_1t_0t_1t x0 x2 r3 r4 _ _ h.2) (fun r5 m5 h => ?_))
      refine hY _ _ _ _ (hY _ _ _ _ (hY _ _ _ _ (?_ : Y 64 [(7, 0, true, r5), (6, 3, true, m ((m ((x0).toNat) 1).toNat) x5), (0, 3, true, x0), (2, 1, true, x2), (4, 0, true, x4), (5, 0, true, x5)] [(0, true, r5), (0, true, x4)] (sM s m5))))
      refine hY _ _ _ _ (hY _ _ _ _ (?_ : Y 67 [(7, 0, true, r5), (6, 3, true, m ((m ((x0).toNat) 1).toNat) x5), (0, 3, true, x0), (2, 1, true, x2), (4, 0, true, x4), (5, 0, true, x5)] [(0, true, x5), (2, true, 1), (0, true, r5), (0, true, x4)] (sM s m5)))
      refine hY _ _ _ _ (?_ : Y 68 [(7, 0, true, r5), (6, 3, true, m ((m ((x0).toNat) 1).toNat) x5), (0, 3, true, x0), (2, 1, true, x2), (4, 0, true, x4), (5, 0, true, x5)] [(0, true, iSl 1 x5), (0, true, r5), (0, true, x4)] (sM s m5))
      refine hY _ _ _ _ (hY _ _ _ _ (?_ : Y 70 [(7, 0, true, r5), (6, 3, true, m ((m ((x0).toNat) 1).toNat) x5), (0, 3, true, x0), (2, 1, true, x2), (4, 0, true, x4), (5, 0, true, x5)] [(0, false, (iSl 1 x5) - 1), (0, true, r5), (0, true, x4)] (sM s m5)))
      refine hY _ _ _ _ (?_ : Y 71 [(7, 0, true, r5), (6, 3, true, m ((m ((x0).toNat) 1).toNat) x5), (0, 3, true, x0), (2, 1, true, x2), (4, 0, true, x4), (5, 0, true, x5)] [(0, true, iA r5 ((iSl 1 x5) - 1)), (0, true, x4)] (sM s m5))
      refine hY _ _ _ _ ?_
      refine Exists.intro _ (And.intro (wc_307_0t (iA r5 ((iSl 1 x5) - 1)) _ _ h) (fun r6 m6 h => ?_))
      refine hY _ _ _ _ (hY _ _ _ _ (hY _ _ _ _ (?_ : Y 80 [(5, 0, false, x5 + 1), (4, 0, false, x4 + r6), (7, 0, true, r5), (6, 3, true, m ((m ((x0).toNat) 1).toNat) x5), (0, 3, true, x0), (2, 1, true, x2)] [] (sM s m6))))
      refine hY _ _ _ _ (?_ : Y 15 [(5, 0, false, x5 + 1), (4, 0, false, x4 + r6), (7, 0, true, r5), (6, 3, true, m ((m ((x0).toNat) 1).toNat) x5), (0, 3, true, x0), (2, 1, true, x2)] [] (sM s m6))
      refine l15 _ _ ?_
      refine And.intro h.1 ?_
      refine And.intro h.2.1 ?_
      exact (Exists.intro m6 (And.intro rfl (And.intro rfl (And.intro rfl h.2.2))))
theorem wk_64_15 (Q : sQ) (R : Int → hy_m → Prop) (s : sS) (x0 : Int) (x2 : Int) (x4 : Int) (x5 : Int) (hQ : ∀ x m', R x m' → Q x (sM s m')) (hr : sRg [(0, 3, 0), (2, 1, 0), (4, 0, 0), (5, 0, 0)] [x0, x2, x4, x5]) (h : wq_64_15 x0 x2 x4 x5 s.1 s.2.2.2 R) : kX dC 4 im_m64 0 15 (sCan [(0, 3, 0), (2, 1, 0), (4, 0, 0), (5, 0, 0)] [x0, x2, x4, x5]) [] s Q :=
  h (fun x4 x5 m => sRg [(0, 3, 0), (2, 1, 0), (4, 0, 0), (5, 0, 0)] [x0, x2, x4, x5] → kX dC 4 im_m64 0 15 (sCan [(0, 3, 0), (2, 1, 0), (4, 0, 0), (5, 0, 0)] [x0, x2, x4, x5]) [] (sM s m) Q) (fun x4 x5 m h hr => wj_64_15 Q R s (fun x4 x5 m => sRg [(0, 3, 0), (2, 1, 0), (4, 0, 0), (5, 0, 0)] [x0, x2, x4, x5] → kX dC 4 im_m64 0 15 (sCan [(0, 3, 0), (2, 1, 0), (4, 0, 0), (5, 0, 0)] [x0, x2, x4, x5]) [] (sM s m) Q) x0 x2 x4 x5 m  (fun _ _ _ hp hr => hp hr) hQ hr h) hr
def lb_64_0 (s : sS) (Q : sQ) (R : Int → hy_m → Prop) (x0 : Int) (x1 : Int) : Nat → Option (sL → sS → Prop) := sLb [(15, fun lv t => sG [(0, 3, 0), (2, 1, 0), (4, 0, 0), (5, 0, 0)] lv (ap4 (fun w0 w2 w4 w5 => ∃ m', t = sM s m' ∧ wq_64_15 w0 w2 w4 w5 s.1 m' R)))]
set_option maxRecDepth 30000 in
set_option maxHeartbeats 1000000 in
theorem wk_64_0 (Q : sQ) (R : Int → hy_m → Prop) (s : sS) (x0 : Int) (x1 : Int) (hQ : ∀ x m', R x m' → Q x (sM s m')) (hr : sRg [(0, 3, 0), (1, 0, 0)] [x0, x1]) (h : wq_64 x0 x1 s.1 s.2.2.2 R) : kX dC 4 im_m64 0 0 (sCan [(0, 3, 0), (1, 0, 0)] [x0, x1]) [] s Q := by
  unfold wq_64 at h
  refine wz2_ok (cs := cs_64) (wr := []) (lb := lb_64_0 s Q R x0 x1) cs_64_ok (kLb_c (kLab (Bd := fun xs t => ap4 (fun w0 w2 w4 w5 => ∃ m', t = sM s m' ∧ wq_64_15 w0 w2 w4 w5 s.1 m' R) xs) rfl (fun xs t r1 r2 hb => by obtain ⟨w0, w2, w4, w5, rfl, hb⟩ := ap4_ok hb; obtain ⟨m', rfl, hx⟩ := hb; exact wk_64_15 Q R (sM s m') _ _ _ _ (fun x m'' hy => hQ x m'' hy) r1 hx)) kLb_n) (okL_can rfl hr) (fun Y hY hl => ?_)
  have l15 := hl 15 _ rfl
  refine hY _ _ _ _ (hY _ _ _ _ (?_ : Y 2 [(0, 3, true, x0), (1, 0, true, x1)] [(0, true, x1), (3, true, x0)] s))
  refine hY _ _ _ _ ?_
  refine (And.intro h.1 ?_)
  refine Exists.intro _ (And.intro (wc_53_3t_0t x0 x1 _ _ h.2) (fun r1 m1 h => ?_))
  show Y 5 [(0, 3, true, x0), (1, 0, true, x1)] [(3, true, r1)] (sM s m1)
  refine hY _ _ _ _ ?_
  refine (And.intro h.1 ?_)
  refine Exists.intro _ (And.intro (wc_45_3t r1 _ _ h.2) (fun r2 m2 h => ?_))
  refine hY _ _ _ _ (hY _ _ _ _ (hY _ _ _ _ (?_ : Y 12 [(4, 2, true, 0), (2, 1, true, r2), (0, 3, true, x0), (1, 0, true, x1)] [] (sM s m2))))
  refine hY _ _ _ _ (hY _ _ _ _ (?_ : Y 15 [(5, 2, true, 0), (4, 2, true, 0), (2, 1, true, r2), (0, 3, true, x0), (1, 0, true, x1)] [] (sM s m2)))
  refine l15 _ _ ?_
  exact (Exists.intro m2 (And.intro rfl h))
def we_64 : sFf := sEf 8 [(0, 3, 0), (1, 0, 0)] (fun xs s Q => ap2 (fun x0 x1 => wq_64 x0 x1 s.1 s.2.2.2 Q) xs)
theorem we_64_ok : kS dC 5 64 0 (.inl we_64) := sEf_ok (mi := im_m64) rfl rfl rfl (fun R xs s r1 hb => by obtain ⟨x0, x1, rfl, hb⟩ := ap2_ok hb; exact wk_64_0 _ R s x0 x1 (fun x m' hx => ⟨m', rfl, hx⟩) r1 hb)
/-- LM.overlaps(I)I -/
def wq_11 (x1 : Int) (T : hy_T) (m : hy_m) (Q : Int → hy_m → Prop) : Prop := wq_52 21 x1 T m (fun r1 m1 => (r1 = 0 → (Q (-1) m1)) ∧ (r1 ≠ 0 → (wq_64 21 x1 T m1 (fun r2 m2 => Q r2 m2))))
theorem wc_64_r21_0t (x1 : Int) (s : sS) (R : Int → hy_m → Prop) (h : wq_64 21 x1 s.1 s.2.2.2 R) : we_64 [(5, true, 21), (0, true, x1)] s R := h
def cs_11 : List (Nat × Nat × sFS) := [(52, 2, .inl we_52), (64, 0, .inl we_64)]
theorem cs_11_ok : kCs dC 5 cs_11 := (kCs_c (Or.inr (Or.inr (Or.inl rfl))) (we_52_ok.deep (by decide)) (kCs_c (Or.inl rfl) (we_64_ok.deep (by decide)) kCs_n))
def lb_11_0 (s : sS) (Q : sQ) (R : Int → hy_m → Prop) (x1 : Int) : Nat → Option (sL → sS → Prop) := sLb []
set_option maxRecDepth 30000 in
set_option maxHeartbeats 1000000 in
theorem wk_11_0 (Q : sQ) (R : Int → hy_m → Prop) (s : sS) (x1 : Int) (hQ : ∀ x m', R x m' → Q x (sM s m')) (hr : sRg [(0, 5, 1), (1, 0, 0)] [x1]) (h : wq_11 x1 s.1 s.2.2.2 R) : kX dC 5 im_m11 0 0 (sCan [(0, 5, 1), (1, 0, 0)] [x1]) [] s Q := by
  unfold wq_11 at h
  refine wz2_ok (cs := cs_11) (wr := []) (lb := lb_11_0 s Q R x1) cs_11_ok kLb_n (okL_can rfl hr) (fun Y hY hl => ?_)
  refine hY _ _ _ _ (hY _ _ _ _ (hY _ _ _ _ (?_ : Y 5 [(0, 5, true, 1), (1, 0, true, x1)] [(0, true, x1), (5, true, 21)] s)))
  refine hY _ _ _ _ ?_
  refine Exists.intro _ (And.intro (wc_52_r21_0t x1 _ _ h) (fun r1 m1 h => ?_))
  show Y 8 [(0, 5, true, 1), (1, 0, true, x1)] [(2, true, r1)] (sM s m1)
  refine hY _ _ _ _ ?_
  refine And.intro (fun hc => ?_) (fun hc => ?_)
  · have h := h.1 hc
    refine hY _ _ _ _ (?_ : Y 23 [(0, 5, true, 1), (1, 0, true, x1)] [(0, true, (-1))] (sM s m1))
    refine hY _ _ _ _ ?_
    exact hQ (-1) m1 h
  · have h := h.2 hc
    refine hY _ _ _ _ (hY _ _ _ _ (hY _ _ _ _ (?_ : Y 16 [(0, 5, true, 1), (1, 0, true, x1)] [(0, true, x1), (5, true, 21)] (sM s m1))))
    refine hY _ _ _ _ ?_
    refine Exists.intro _ (And.intro (wc_64_r21_0t x1 _ _ h) (fun r2 m2 h => ?_))
    refine hY _ _ _ _ (?_ : Y 23 [(0, 5, true, 1), (1, 0, true, x1)] [(0, true, r2)] (sM s m2))
    refine hY _ _ _ _ ?_
    exact hQ r2 m2 h
def we_11 : sFf := sEf 2 [(0, 5, 1), (1, 0, 0)] (fun xs s Q => ap1 (fun x1 => wq_11 x1 s.1 s.2.2.2 Q) xs)
theorem we_11_ok : kS dC 6 11 0 (.inl we_11) := sEf_ok (mi := im_m11) rfl rfl rfl (fun R xs s r1 hb => by obtain ⟨x1, rfl, hb⟩ := ap1_ok hb; exact wk_11_0 _ R s x1 (fun x m' hx => ⟨m', rfl, hx⟩) r1 hb)
/-- LM$Program.calledBy(I)I -/
def wf_66_34 (P4 : Int → Int → hy_m → Prop) (x0 : Int) (x1 : Int) (x3 : Int) (x4 : Int) (T : hy_T) (Q : Int → hy_m → Prop) (P34 : Int → Int → hy_m → Prop) (x2 : Int) (x5 : Int) (m : hy_m) : Prop := ∃ t1 n1 : Nat, T.1 (x4).toNat = some (t1, n1) ∧ 99 ≤ t1 ∧ (((n1 : Int) ≤ x5 → (hy_r 0 (x3 + 1) ∧ (P4 x2 (x3 + 1) m))) ∧ (x5 < (n1 : Int) → (∃ n2 : Nat, T.1 (x4).toNat = some (101, n2) ∧ (0 ≤ x5 ∧ x5 < (n2 : Int) ∧ (T.1 (x0).toNat = some (5, 3) ∧ (wq_59 x0 (m ((x4).toNat) x5) T m (fun r3 m3 => hy_r 0 (x5 + 1) ∧ (P34 (iO x2 r3) (x5 + 1) m3))))))))
def wq_66_34 (P4 : Int → Int → hy_m → Prop) (x0 : Int) (x1 : Int) (x2 : Int) (x3 : Int) (x4 : Int) (x5 : Int) (T : hy_T) (m : hy_m) (Q : Int → hy_m → Prop) : Prop := wL2 hy_m (wf_66_34 P4 x0 x1 x3 x4 T Q) x2 x5 m
def wf_66_4 (x0 : Int) (x1 : Int) (T : hy_T) (Q : Int → hy_m → Prop) (P4 : Int → Int → hy_m → Prop) (x2 : Int) (x3 : Int) (m : hy_m) : Prop := T.1 (x0).toNat = some (5, 3) ∧ (((m ((x0).toNat) 2) ≤ x3 → (Q x2 m)) ∧ (x3 < (m ((x0).toNat) 2) → (((iA x1 (iSl 1 x3)) = 0 → (hy_r 0 (x3 + 1) ∧ (P4 x2 (x3 + 1) m))) ∧ ((iA x1 (iSl 1 x3)) ≠ 0 → (T.1 (x0).toNat = some (5, 3) ∧ (∃ t1 n1 : Nat, T.1 (m ((x0).toNat) 1).toNat = some (t1, n1) ∧ 110 ≤ t1 ∧ (0 ≤ x3 ∧ x3 < (n1 : Int) ∧ (T.1 (m ((m ((x0).toNat) 1).toNat) x3).toNat = some (3, 9) ∧ (wq_66_34 P4 x0 x1 x2 x3 (m ((m ((m ((x0).toNat) 1).toNat) x3).toNat) 7) 0 T m Q)))))))))
def wq_66_4 (x0 : Int) (x1 : Int) (x2 : Int) (x3 : Int) (T : hy_T) (m : hy_m) (Q : Int → hy_m → Prop) : Prop := wL2 hy_m (wf_66_4 x0 x1 T Q) x2 x3 m
def wq_66 (x0 : Int) (x1 : Int) (T : hy_T) (m : hy_m) (Q : Int → hy_m → Prop) : Prop := wq_66_4 x0 x1 0 0 T m Q
def cs_66 : List (Nat × Nat × sFS) := [(59, 0, .inl we_59)]
theorem cs_66_ok : kCs dC 3 cs_66 := (kCs_c (Or.inl rfl) (we_59_ok.deep (by decide)) kCs_n)
def lb_66_34 (s : sS) (Q : sQ) (P4 : Int → Int → hy_m → Prop) (P34 : Int → Int → hy_m → Prop) (R : Int → hy_m → Prop) (x0 : Int) (x1 : Int) (x2 : Int) (x3 : Int) (x4 : Int) (x5 : Int) : Nat → Option (sL → sS → Prop) := sLb [(4, fun lv t => sG [(0, 3, 0), (1, 0, 0), (2, 0, 0), (3, 0, 0)] lv (ap4 (fun w0 w1 w2 w3 => ∃ m', t = sM s m' ∧ w0 = x0 ∧ w1 = x1 ∧ P4 w2 w3 m'))), (34, fun lv t => sG [(0, 3, 0), (1, 0, 0), (2, 0, 0), (3, 0, 0), (4, 3, 0), (5, 0, 0)] lv (ap6 (fun w0 w1 w2 w3 w4 w5 => ∃ m', t = sM s m' ∧ w0 = x0 ∧ w1 = x1 ∧ w3 = x3 ∧ w4 = x4 ∧ P34 w2 w5 m')))]
set_option maxRecDepth 30000 in
set_option maxHeartbeats 1000000 in
theorem wj_66_34 (Q : sQ) (R : Int → hy_m → Prop) (s : sS) (P4 : Int → Int → hy_m → Prop) (P34 : Int → Int → hy_m → Prop) (x0 : Int) (x1 : Int) (x2 : Int) (x3 : Int) (x4 : Int) (x5 : Int) (m : hy_m) (hP4 : ∀ (z2 z3 : Int) (m : hy_m), P4 z2 z3 m → sRg [(0, 3, 0), (1, 0, 0), (2, 0, 0), (3, 0, 0)] [x0, x1, z2, z3] → kX dC 3 im_m66 0 4 (sCan [(0, 3, 0), (1, 0, 0), (2, 0, 0), (3, 0, 0)] [x0, x1, z2, z3]) [] (sM s m) Q) (hP34 : ∀ (z2 z5 : Int) (m : hy_m), P34 z2 z5 m → sRg [(0, 3, 0), (1, 0, 0), (2, 0, 0), (3, 0, 0), (4, 3, 0), (5, 0, 0)] [x0, x1, z2, x3, x4, z5] → kX dC 3 im_m66 0 34 (sCan [(0, 3, 0), (1, 0, 0), (2, 0, 0), (3, 0, 0), (4, 3, 0), (5, 0, 0)] [x0, x1, z2, x3, x4, z5]) [] (sM s m) Q) (hQ : ∀ x m', R x m' → Q x (sM s m')) (hr : sRg [(0, 3, 0), (1, 0, 0), (2, 0, 0), (3, 0, 0), (4, 3, 0), (5, 0, 0)] [x0, x1, x2, x3, x4, x5]) (h : wf_66_34 P4 x0 x1 x3 x4 s.1 R P34 x2 x5 m) : kX dC 3 im_m66 0 34 (sCan [(0, 3, 0), (1, 0, 0), (2, 0, 0), (3, 0, 0), (4, 3, 0), (5, 0, 0)] [x0, x1, x2, x3, x4, x5]) [] (sM s m) Q := by
  unfold wf_66_34 at h
  refine wz2_ok (cs := cs_66) (wr := []) (lb := lb_66_34 s Q P4 P34 R x0 x1 x2 x3 x4 x5) cs_66_ok (kLb_c (kLab (Bd := fun xs t => ap4 (fun w0 w1 w2 w3 => ∃ m', t = sM s m' ∧ w0 = x0 ∧ w1 = x1 ∧ P4 w2 w3 m') xs) rfl (fun xs t r1 r2 hb => by obtain ⟨w0, w1, w2, w3, rfl, hb⟩ := ap4_ok hb; obtain ⟨m', rfl, rfl, rfl, hx⟩ := hb; exact hP4 _ _ m' hx r1)) (kLb_c (kLab (Bd := fun xs t => ap6 (fun w0 w1 w2 w3 w4 w5 => ∃ m', t = sM s m' ∧ w0 = x0 ∧ w1 = x1 ∧ w3 = x3 ∧ w4 = x4 ∧ P34 w2 w5 m') xs) rfl (fun xs t r1 r2 hb => by obtain ⟨w0, w1, w2, w3, w4, w5, rfl, hb⟩ := ap6_ok hb; obtain ⟨m', rfl, rfl, rfl, rfl, rfl, hx⟩ := hb; exact hP34 _ _ m' hx r1)) kLb_n)) (okL_can rfl hr) (fun Y hY hl => ?_)
  have l4 := hl 4 _ rfl
  have l34 := hl 34 _ rfl
  refine hY _ _ _ _ (hY _ _ _ _ (?_ : Y 38 [(0, 3, true, x0), (1, 0, true, x1), (2, 0, true, x2), (3, 0, true, x3), (4, 3, true, x4), (5, 0, true, x5)] [(3, true, x4), (0, true, x5)] (sM s m)))
  refine hY _ _ _ _ ?_
  obtain ⟨t1, n1, h⟩ := h
  refine Exists.intro t1 (Exists.intro n1 (And.intro h.1 (And.intro h.2.1 ?_)))
  show Y 39 [(0, 3, true, x0), (1, 0, true, x1), (2, 0, true, x2), (3, 0, true, x3), (4, 3, true, x4), (5, 0, true, x5)] [(0, true, (n1 : Int)), (0, true, x5)] (sM s m)
  refine hY _ _ _ _ ?_
  refine And.intro (fun hc => ?_) (fun hc => ?_)
  · have h := h.2.2.1 hc
    refine hY _ _ _ _ (hY _ _ _ _ (?_ : Y 4 [(3, 0, false, x3 + 1), (0, 3, true, x0), (1, 0, true, x1), (2, 0, true, x2), (4, 3, true, x4), (5, 0, true, x5)] [] (sM s m)))
    refine l4 _ _ ?_
    refine And.intro h.1 ?_
    exact (Exists.intro m (And.intro rfl (And.intro rfl (And.intro rfl h.2))))
  · have h := h.2.2.2 hc
    refine hY _ _ _ _ (hY _ _ _ _ (hY _ _ _ _ (?_ : Y 46 [(0, 3, true, x0), (1, 0, true, x1), (2, 0, true, x2), (3, 0, true, x3), (4, 3, true, x4), (5, 0, true, x5)] [(3, true, x4), (3, true, x0), (0, true, x2)] (sM s m))))
    refine hY _ _ _ _ (?_ : Y 48 [(0, 3, true, x0), (1, 0, true, x1), (2, 0, true, x2), (3, 0, true, x3), (4, 3, true, x4), (5, 0, true, x5)] [(0, true, x5), (3, true, x4), (3, true, x0), (0, true, x2)] (sM s m))
    refine hY _ _ _ _ ?_
    obtain ⟨n2, h⟩ := h
    refine Exists.intro n2 (And.intro h.1 ?_)
    refine (And.intro h.2.1 (And.intro h.2.2.1 ?_))
    show Y 49 [(0, 3, true, x0), (1, 0, true, x1), (2, 0, true, x2), (3, 0, true, x3), (4, 3, true, x4), (5, 0, true, x5)] [(1, true, m ((x4).toNat) x5), (3, true, x0), (0, true, x2)] (sM s m)
    refine hY _ _ _ _ ?_
    refine (And.intro h.2.2.2.1 ?_)
    refine Exists.intro _ (And.intro (wc_59_3t_1t x0 (m ((x4).toNat) x5) _ _ h.2.2.2.2) (fun r3 m3 h => ?_))
    show Y 52 [(0, 3, true, x0), (1, 0, true, x1), (2, 0, true, x2), (3, 0, true, x3), (4, 3, true, x4), (5, 0, true, x5)] [(0, true, r3), (0, true, x2)] (sM s m3)
    refine hY _ _ _ _ (?_ : Y 53 [(0, 3, true, x0), (1, 0, true, x1), (2, 0, true, x2), (3, 0, true, x3), (4, 3, true, x4), (5, 0, true, x5)] [(0, true, iO x2 r3)] (sM s m3))
    refine hY _ _ _ _ (hY _ _ _ _ (hY _ _ _ _ (?_ : Y 34 [(5, 0, false, x5 + 1), (2, 0, true, iO x2 r3), (0, 3, true, x0), (1, 0, true, x1), (3, 0, true, x3), (4, 3, true, x4)] [] (sM s m3))))
    refine l34 _ _ ?_
    refine And.intro h.1 ?_
    exact (Exists.intro m3 (And.intro rfl (And.intro rfl (And.intro rfl (And.intro rfl (And.intro rfl h.2))))))
theorem wk_66_34 (Q : sQ) (R : Int → hy_m → Prop) (s : sS) (P4 : Int → Int → hy_m → Prop) (x0 : Int) (x1 : Int) (x2 : Int) (x3 : Int) (x4 : Int) (x5 : Int) (hP4 : ∀ (z2 z3 : Int) (m : hy_m), P4 z2 z3 m → sRg [(0, 3, 0), (1, 0, 0), (2, 0, 0), (3, 0, 0)] [x0, x1, z2, z3] → kX dC 3 im_m66 0 4 (sCan [(0, 3, 0), (1, 0, 0), (2, 0, 0), (3, 0, 0)] [x0, x1, z2, z3]) [] (sM s m) Q) (hQ : ∀ x m', R x m' → Q x (sM s m')) (hr : sRg [(0, 3, 0), (1, 0, 0), (2, 0, 0), (3, 0, 0), (4, 3, 0), (5, 0, 0)] [x0, x1, x2, x3, x4, x5]) (h : wq_66_34 P4 x0 x1 x2 x3 x4 x5 s.1 s.2.2.2 R) : kX dC 3 im_m66 0 34 (sCan [(0, 3, 0), (1, 0, 0), (2, 0, 0), (3, 0, 0), (4, 3, 0), (5, 0, 0)] [x0, x1, x2, x3, x4, x5]) [] s Q :=
  h (fun x2 x5 m => sRg [(0, 3, 0), (1, 0, 0), (2, 0, 0), (3, 0, 0), (4, 3, 0), (5, 0, 0)] [x0, x1, x2, x3, x4, x5] → kX dC 3 im_m66 0 34 (sCan [(0, 3, 0), (1, 0, 0), (2, 0, 0), (3, 0, 0), (4, 3, 0), (5, 0, 0)] [x0, x1, x2, x3, x4, x5]) [] (sM s m) Q) (fun x2 x5 m h hr => wj_66_34 Q R s P4 (fun x2 x5 m => sRg [(0, 3, 0), (1, 0, 0), (2, 0, 0), (3, 0, 0), (4, 3, 0), (5, 0, 0)] [x0, x1, x2, x3, x4, x5] → kX dC 3 im_m66 0 34 (sCan [(0, 3, 0), (1, 0, 0), (2, 0, 0), (3, 0, 0), (4, 3, 0), (5, 0, 0)] [x0, x1, x2, x3, x4, x5]) [] (sM s m) Q) x0 x1 x2 x3 x4 x5 m  hP4 (fun _ _ _ hp hr => hp hr) hQ hr h) hr
def lb_66_4 (s : sS) (Q : sQ) (P4 : Int → Int → hy_m → Prop) (R : Int → hy_m → Prop) (x0 : Int) (x1 : Int) (x2 : Int) (x3 : Int) : Nat → Option (sL → sS → Prop) := sLb [(34, fun lv t => sG [(0, 3, 0), (1, 0, 0), (2, 0, 0), (3, 0, 0), (4, 3, 0), (5, 0, 0)] lv (ap6 (fun w0 w1 w2 w3 w4 w5 => ∃ m', t = sM s m' ∧ w0 = x0 ∧ w1 = x1 ∧ wq_66_34 P4 w0 w1 w2 w3 w4 w5 s.1 m' R))), (4, fun lv t => sG [(0, 3, 0), (1, 0, 0), (2, 0, 0), (3, 0, 0)] lv (ap4 (fun w0 w1 w2 w3 => ∃ m', t = sM s m' ∧ w0 = x0 ∧ w1 = x1 ∧ P4 w2 w3 m')))]
set_option maxRecDepth 30000 in
set_option maxHeartbeats 1000000 in
theorem wj_66_4 (Q : sQ) (R : Int → hy_m → Prop) (s : sS) (P4 : Int → Int → hy_m → Prop) (x0 : Int) (x1 : Int) (x2 : Int) (x3 : Int) (m : hy_m) (hP4 : ∀ (z2 z3 : Int) (m : hy_m), P4 z2 z3 m → sRg [(0, 3, 0), (1, 0, 0), (2, 0, 0), (3, 0, 0)] [x0, x1, z2, z3] → kX dC 3 im_m66 0 4 (sCan [(0, 3, 0), (1, 0, 0), (2, 0, 0), (3, 0, 0)] [x0, x1, z2, z3]) [] (sM s m) Q) (hQ : ∀ x m', R x m' → Q x (sM s m')) (hr : sRg [(0, 3, 0), (1, 0, 0), (2, 0, 0), (3, 0, 0)] [x0, x1, x2, x3]) (h : wf_66_4 x0 x1 s.1 R P4 x2 x3 m) : kX dC 3 im_m66 0 4 (sCan [(0, 3, 0), (1, 0, 0), (2, 0, 0), (3, 0, 0)] [x0, x1, x2, x3]) [] (sM s m) Q := by
  unfold wf_66_4 at h
  refine wz2_ok (cs := cs_66) (wr := []) (lb := lb_66_4 s Q P4 R x0 x1 x2 x3) cs_66_ok (kLb_c (kLab (Bd := fun xs t => ap6 (fun w0 w1 w2 w3 w4 w5 => ∃ m', t = sM s m' ∧ w0 = x0 ∧ w1 = x1 ∧ wq_66_34 P4 w0 w1 w2 w3 w4 w5 s.1 m' R) xs) rfl (fun xs t r1 r2 hb => by obtain ⟨w0, w1, w2, w3, w4, w5, rfl, hb⟩ := ap6_ok hb; obtain ⟨m', rfl, rfl, rfl, hx⟩ := hb; exact wk_66_34 Q R (sM s m') P4 _ _ _ _ _ _ hP4 (fun x m'' hy => hQ x m'' hy) r1 hx)) (kLb_c (kLab (Bd := fun xs t => ap4 (fun w0 w1 w2 w3 => ∃ m', t = sM s m' ∧ w0 = x0 ∧ w1 = x1 ∧ P4 w2 w3 m') xs) rfl (fun xs t r1 r2 hb => by obtain ⟨w0, w1, w2, w3, rfl, hb⟩ := ap4_ok hb; obtain ⟨m', rfl, rfl, rfl, hx⟩ := hb; exact hP4 _ _ m' hx r1)) kLb_n)) (okL_can rfl hr) (fun Y hY hl => ?_)
  have l34 := hl 34 _ rfl
  have l4 := hl 4 _ rfl
  refine hY _ _ _ _ (hY _ _ _ _ (?_ : Y 6 [(0, 3, true, x0), (1, 0, true, x1), (2, 0, true, x2), (3, 0, true, x3)] [(3, true, x0), (0, true, x3)] (sM s m)))
  refine hY _ _ _ _ ?_
  refine (And.intro h.1 ?_)
  show Y 9 [(0, 3, true, x0), (1, 0, true, x1), (2, 0, true, x2), (3, 0, true, x3)] [(0, true, m ((x0).toNat) 2), (0, true, x3)] (sM s m)
  refine hY _ _ _ _ ?_
  refine And.intro (fun hc => ?_) (fun hc => ?_)
  · have h := h.2.1 hc
    refine hY _ _ _ _ (?_ : Y 67 [(0, 3, true, x0), (1, 0, true, x1), (2, 0, true, x2), (3, 0, true, x3)] [(0, true, x2)] (sM s m))
    refine hY _ _ _ _ ?_
    exact hQ x2 m h
  · have h := h.2.2 hc
    refine hY _ _ _ _ (hY _ _ _ _ (hY _ _ _ _ (?_ : Y 15 [(0, 3, true, x0), (1, 0, true, x1), (2, 0, true, x2), (3, 0, true, x3)] [(0, true, x3), (2, true, 1), (0, true, x1)] (sM s m))))
    refine hY _ _ _ _ (?_ : Y 16 [(0, 3, true, x0), (1, 0, true, x1), (2, 0, true, x2), (3, 0, true, x3)] [(0, true, iSl 1 x3), (0, true, x1)] (sM s m))
    refine hY _ _ _ _ (?_ : Y 17 [(0, 3, true, x0), (1, 0, true, x1), (2, 0, true, x2), (3, 0, true, x3)] [(0, true, iA x1 (iSl 1 x3))] (sM s m))
    refine hY _ _ _ _ ?_
    refine And.intro (fun hc => ?_) (fun hc => ?_)
    · have h := h.1 hc
      refine hY _ _ _ _ (hY _ _ _ _ (?_ : Y 4 [(3, 0, false, x3 + 1), (0, 3, true, x0), (1, 0, true, x1), (2, 0, true, x2)] [] (sM s m)))
      refine l4 _ _ ?_
      refine And.intro h.1 ?_
      exact (Exists.intro m (And.intro rfl (And.intro rfl (And.intro rfl h.2))))
    · have h := h.2 hc
      refine hY _ _ _ _ (?_ : Y 21 [(0, 3, true, x0), (1, 0, true, x1), (2, 0, true, x2), (3, 0, true, x3)] [(3, true, x0)] (sM s m))
      refine hY _ _ _ _ ?_
      refine (And.intro h.1 ?_)
      refine hY _ _ _ _ (?_ : Y 25 [(0, 3, true, x0), (1, 0, true, x1), (2, 0, true, x2), (3, 0, true, x3)] [(0, true, x3), (3, true, m ((x0).toNat) 1)] (sM s m))
      refine hY _ _ _ _ ?_
      obtain ⟨t1, n1, h⟩ := h.2
      refine Exists.intro t1 (Exists.intro n1 (And.intro h.1 (And.intro h.2.1 ?_)))
      refine (And.intro h.2.2.1 (And.intro h.2.2.2.1 ?_))
      show Y 26 [(0, 3, true, x0), (1, 0, true, x1), (2, 0, true, x2), (3, 0, true, x3)] [(3, true, m ((m ((x0).toNat) 1).toNat) x3)] (sM s m)
      refine hY _ _ _ _ ?_
      refine (And.intro h.2.2.2.2.1 ?_)
      refine hY _ _ _ _ (hY _ _ _ _ (hY _ _ _ _ (?_ : Y 34 [(5, 2, true, 0), (4, 3, true, m ((m ((m ((x0).toNat) 1).toNat) x3).toNat) 7), (0, 3, true, x0), (1, 0, true, x1), (2, 0, true, x2), (3, 0, true, x3)] [] (sM s m))))
      refine l34 _ _ ?_
      exact (Exists.intro m (And.intro rfl (And.intro rfl (And.intro rfl h.2.2.2.2.2))))
theorem wk_66_4 (Q : sQ) (R : Int → hy_m → Prop) (s : sS) (x0 : Int) (x1 : Int) (x2 : Int) (x3 : Int) (hQ : ∀ x m', R x m' → Q x (sM s m')) (hr : sRg [(0, 3, 0), (1, 0, 0), (2, 0, 0), (3, 0, 0)] [x0, x1, x2, x3]) (h : wq_66_4 x0 x1 x2 x3 s.1 s.2.2.2 R) : kX dC 3 im_m66 0 4 (sCan [(0, 3, 0), (1, 0, 0), (2, 0, 0), (3, 0, 0)] [x0, x1, x2, x3]) [] s Q :=
  h (fun x2 x3 m => sRg [(0, 3, 0), (1, 0, 0), (2, 0, 0), (3, 0, 0)] [x0, x1, x2, x3] → kX dC 3 im_m66 0 4 (sCan [(0, 3, 0), (1, 0, 0), (2, 0, 0), (3, 0, 0)] [x0, x1, x2, x3]) [] (sM s m) Q) (fun x2 x3 m h hr => wj_66_4 Q R s (fun x2 x3 m => sRg [(0, 3, 0), (1, 0, 0), (2, 0, 0), (3, 0, 0)] [x0, x1, x2, x3] → kX dC 3 im_m66 0 4 (sCan [(0, 3, 0), (1, 0, 0), (2, 0, 0), (3, 0, 0)] [x0, x1, x2, x3]) [] (sM s m) Q) x0 x1 x2 x3 m  (fun _ _ _ hp hr => hp hr) hQ hr h) hr
def lb_66_0 (s : sS) (Q : sQ) (R : Int → hy_m → Prop) (x0 : Int) (x1 : Int) : Nat → Option (sL → sS → Prop) := sLb [(4, fun lv t => sG [(0, 3, 0), (1, 0, 0), (2, 0, 0), (3, 0, 0)] lv (ap4 (fun w0 w1 w2 w3 => ∃ m', t = sM s m' ∧ wq_66_4 w0 w1 w2 w3 s.1 m' R)))]
set_option maxRecDepth 30000 in
set_option maxHeartbeats 1000000 in
theorem wk_66_0 (Q : sQ) (R : Int → hy_m → Prop) (s : sS) (x0 : Int) (x1 : Int) (hQ : ∀ x m', R x m' → Q x (sM s m')) (hr : sRg [(0, 3, 0), (1, 0, 0)] [x0, x1]) (h : wq_66 x0 x1 s.1 s.2.2.2 R) : kX dC 3 im_m66 0 0 (sCan [(0, 3, 0), (1, 0, 0)] [x0, x1]) [] s Q := by
  unfold wq_66 at h
  refine wz2_ok (cs := cs_66) (wr := []) (lb := lb_66_0 s Q R x0 x1) cs_66_ok (kLb_c (kLab (Bd := fun xs t => ap4 (fun w0 w1 w2 w3 => ∃ m', t = sM s m' ∧ wq_66_4 w0 w1 w2 w3 s.1 m' R) xs) rfl (fun xs t r1 r2 hb => by obtain ⟨w0, w1, w2, w3, rfl, hb⟩ := ap4_ok hb; obtain ⟨m', rfl, hx⟩ := hb; exact wk_66_4 Q R (sM s m') _ _ _ _ (fun x m'' hy => hQ x m'' hy) r1 hx)) kLb_n) (okL_can rfl hr) (fun Y hY hl => ?_)
  have l4 := hl 4 _ rfl
  refine hY _ _ _ _ (hY _ _ _ _ (hY _ _ _ _ (?_ : Y 3 [(2, 2, true, 0), (0, 3, true, x0), (1, 0, true, x1)] [(2, true, 0)] s)))
  refine hY _ _ _ _ (?_ : Y 4 [(3, 2, true, 0), (2, 2, true, 0), (0, 3, true, x0), (1, 0, true, x1)] [] s)
  refine l4 _ _ ?_
  exact (Exists.intro s.2.2.2 (And.intro rfl h))
def we_66 : sFf := sEf 6 [(0, 3, 0), (1, 0, 0)] (fun xs s Q => ap2 (fun x0 x1 => wq_66 x0 x1 s.1 s.2.2.2 Q) xs)
theorem we_66_ok : kS dC 4 66 0 (.inl we_66) := sEf_ok (mi := im_m66) rfl rfl rfl (fun R xs s r1 hb => by obtain ⟨x0, x1, rfl, hb⟩ := ap2_ok hb; exact wk_66_0 _ R s x0 x1 (fun x m' hx => ⟨m', rfl, hx⟩) r1 hb)
/-- LM$Program.stepsBetween(II)I -/
def wf_65_19 (x0 : Int) (x2 : Int) (T : hy_T) (Q : Int → hy_m → Prop) (P19 : Int → Int → Int → hy_m → Prop) (x3 : Int) (x4 : Int) (x5 : Int) (m : hy_m) : Prop := (20 < x5 → (Q (-9) m)) ∧ (x5 ≤ 20 → ((x4 = 0 → (Q (-9) m)) ∧ (x4 ≠ 0 → (T.1 (x0).toNat = some (5, 3) ∧ (wq_66 x0 x4 T m (fun r1 m1 => ((iA r1 (iSl 1 x2)) = 0 → (hy_r 0 (x5 + 1) ∧ (P19 (iO x3 r1) (iA r1 (iX x3 (-1))) (x5 + 1) m1))) ∧ ((iA r1 (iSl 1 x2)) ≠ 0 → (Q x5 m1))))))))
def wq_65_19 (x0 : Int) (x2 : Int) (x3 : Int) (x4 : Int) (x5 : Int) (T : hy_T) (m : hy_m) (Q : Int → hy_m → Prop) : Prop := wL3 hy_m (wf_65_19 x0 x2 T Q) x3 x4 x5 m
def wq_65 (x0 : Int) (x1 : Int) (x2 : Int) (T : hy_T) (m : hy_m) (Q : Int → hy_m → Prop) : Prop := T.1 (x0).toNat = some (5, 3) ∧ (wq_53 x0 x1 T m (fun r1 m1 => T.1 (r1).toNat = some (3, 9) ∧ (wq_45 r1 T m1 (fun r2 m2 => T.1 (x0).toNat = some (5, 3) ∧ (wq_59 x0 r2 T m2 (fun r3 m3 => wq_65_19 x0 x2 0 r3 1 T m3 Q))))))
theorem wc_66_3t_0t (x0 : Int) (x1 : Int) (s : sS) (R : Int → hy_m → Prop) (h : wq_66 x0 x1 s.1 s.2.2.2 R) : we_66 [(3, true, x0), (0, true, x1)] s R := h
def cs_65 : List (Nat × Nat × sFS) := [(45, 1, .inl we_45), (53, 3, .inl we_53), (59, 0, .inl we_59), (66, 0, .inl we_66)]
theorem cs_65_ok : kCs dC 4 cs_65 := (kCs_c (Or.inr (Or.inl rfl)) (we_45_ok.deep (by decide)) (kCs_c (Or.inr (Or.inr (Or.inr (Or.inl rfl)))) (we_53_ok.deep (by decide)) (kCs_c (Or.inl rfl) (we_59_ok.deep (by decide)) (kCs_c (Or.inl rfl) (we_66_ok.deep (by decide)) kCs_n))))
def lb_65_19 (s : sS) (Q : sQ) (P19 : Int → Int → Int → hy_m → Prop) (R : Int → hy_m → Prop) (x0 : Int) (x2 : Int) (x3 : Int) (x4 : Int) (x5 : Int) : Nat → Option (sL → sS → Prop) := sLb [(19, fun lv t => sG [(0, 3, 0), (2, 0, 0), (3, 0, 0), (4, 0, 0), (5, 0, 0)] lv (ap5 (fun w0 w2 w3 w4 w5 => ∃ m', t = sM s m' ∧ w0 = x0 ∧ w2 = x2 ∧ P19 w3 w4 w5 m')))]
set_option maxRecDepth 30000 in
set_option maxHeartbeats 1000000 in
theorem wj_65_19 (Q : sQ) (R : Int → hy_m → Prop) (s : sS) (P19 : Int → Int → Int → hy_m → Prop) (x0 : Int) (x2 : Int) (x3 : Int) (x4 : Int) (x5 : Int) (m : hy_m) (hP19 : ∀ (z3 z4 z5 : Int) (m : hy_m), P19 z3 z4 z5 m → sRg [(0, 3, 0), (2, 0, 0), (3, 0, 0), (4, 0, 0), (5, 0, 0)] [x0, x2, z3, z4, z5] → kX dC 4 im_m65 0 19 (sCan [(0, 3, 0), (2, 0, 0), (3, 0, 0), (4, 0, 0), (5, 0, 0)] [x0, x2, z3, z4, z5]) [] (sM s m) Q) (hQ : ∀ x m', R x m' → Q x (sM s m')) (hr : sRg [(0, 3, 0), (2, 0, 0), (3, 0, 0), (4, 0, 0), (5, 0, 0)] [x0, x2, x3, x4, x5]) (h : wf_65_19 x0 x2 s.1 R P19 x3 x4 x5 m) : kX dC 4 im_m65 0 19 (sCan [(0, 3, 0), (2, 0, 0), (3, 0, 0), (4, 0, 0), (5, 0, 0)] [x0, x2, x3, x4, x5]) [] (sM s m) Q := by
  unfold wf_65_19 at h
  refine wz2_ok (cs := cs_65) (wr := []) (lb := lb_65_19 s Q P19 R x0 x2 x3 x4 x5) cs_65_ok (kLb_c (kLab (Bd := fun xs t => ap5 (fun w0 w2 w3 w4 w5 => ∃ m', t = sM s m' ∧ w0 = x0 ∧ w2 = x2 ∧ P19 w3 w4 w5 m') xs) rfl (fun xs t r1 r2 hb => by obtain ⟨w0, w2, w3, w4, w5, rfl, hb⟩ := ap5_ok hb; obtain ⟨m', rfl, rfl, rfl, hx⟩ := hb; exact hP19 _ _ _ m' hx r1)) kLb_n) (okL_can rfl hr) (fun Y hY hl => ?_)
  have l19 := hl 19 _ rfl
  refine hY _ _ _ _ (hY _ _ _ _ (?_ : Y 23 [(0, 3, true, x0), (2, 0, true, x2), (3, 0, true, x3), (4, 0, true, x4), (5, 0, true, x5)] [(0, true, 20), (0, true, x5)] (sM s m)))
  refine hY _ _ _ _ ?_
  refine And.intro (fun hc => ?_) (fun hc => ?_)
  · have h := h.1 hc
    refine hY _ _ _ _ (?_ : Y 72 [(0, 3, true, x0), (2, 0, true, x2), (3, 0, true, x3), (4, 0, true, x4), (5, 0, true, x5)] [(0, true, (-9))] (sM s m))
    refine hY _ _ _ _ ?_
    exact hQ (-9) m h
  · have h := h.2 hc
    refine hY _ _ _ _ (?_ : Y 28 [(0, 3, true, x0), (2, 0, true, x2), (3, 0, true, x3), (4, 0, true, x4), (5, 0, true, x5)] [(0, true, x4)] (sM s m))
    refine hY _ _ _ _ ?_
    refine And.intro (fun hc => ?_) (fun hc => ?_)
    · have h := h.1 hc
      refine hY _ _ _ _ (?_ : Y 72 [(0, 3, true, x0), (2, 0, true, x2), (3, 0, true, x3), (4, 0, true, x4), (5, 0, true, x5)] [(0, true, (-9))] (sM s m))
      refine hY _ _ _ _ ?_
      exact hQ (-9) m h
    · have h := h.2 hc
      refine hY _ _ _ _ (hY _ _ _ _ (?_ : Y 34 [(0, 3, true, x0), (2, 0, true, x2), (3, 0, true, x3), (4, 0, true, x4), (5, 0, true, x5)] [(0, true, x4), (3, true, x0)] (sM s m)))
      refine hY _ _ _ _ ?_
      refine (And.intro h.1 ?_)
      refine Exists.intro _ (And.intro (wc_66_3t_0t x0 x4 _ _ h.2) (fun r1 m1 h => ?_))
      refine hY _ _ _ _ (hY _ _ _ _ (hY _ _ _ _ (?_ : Y 42 [(6, 0, true, r1), (0, 3, true, x0), (2, 0, true, x2), (3, 0, true, x3), (4, 0, true, x4), (5, 0, true, x5)] [(2, true, 1), (0, true, r1)] (sM s m1))))
      refine hY _ _ _ _ (?_ : Y 43 [(6, 0, true, r1), (0, 3, true, x0), (2, 0, true, x2), (3, 0, true, x3), (4, 0, true, x4), (5, 0, true, x5)] [(0, true, x2), (2, true, 1), (0, true, r1)] (sM s m1))
      refine hY _ _ _ _ (?_ : Y 44 [(6, 0, true, r1), (0, 3, true, x0), (2, 0, true, x2), (3, 0, true, x3), (4, 0, true, x4), (5, 0, true, x5)] [(0, true, iSl 1 x2), (0, true, r1)] (sM s m1))
      refine hY _ _ _ _ (?_ : Y 45 [(6, 0, true, r1), (0, 3, true, x0), (2, 0, true, x2), (3, 0, true, x3), (4, 0, true, x4), (5, 0, true, x5)] [(0, true, iA r1 (iSl 1 x2))] (sM s m1))
      refine hY _ _ _ _ ?_
      refine And.intro (fun hc => ?_) (fun hc => ?_)
      · have h := h.1 hc
        refine hY _ _ _ _ (hY _ _ _ _ (hY _ _ _ _ (?_ : Y 55 [(6, 0, true, r1), (0, 3, true, x0), (2, 0, true, x2), (3, 0, true, x3), (4, 0, true, x4), (5, 0, true, x5)] [(0, true, (-1)), (0, true, x3), (0, true, r1)] (sM s m1))))
        refine hY _ _ _ _ (?_ : Y 56 [(6, 0, true, r1), (0, 3, true, x0), (2, 0, true, x2), (3, 0, true, x3), (4, 0, true, x4), (5, 0, true, x5)] [(0, true, iX x3 (-1)), (0, true, r1)] (sM s m1))
        refine hY _ _ _ _ (?_ : Y 57 [(6, 0, true, r1), (0, 3, true, x0), (2, 0, true, x2), (3, 0, true, x3), (4, 0, true, x4), (5, 0, true, x5)] [(0, true, iA r1 (iX x3 (-1)))] (sM s m1))
        refine hY _ _ _ _ (hY _ _ _ _ (hY _ _ _ _ (?_ : Y 62 [(4, 0, true, iA r1 (iX x3 (-1))), (6, 0, true, r1), (0, 3, true, x0), (2, 0, true, x2), (3, 0, true, x3), (5, 0, true, x5)] [(0, true, r1), (0, true, x3)] (sM s m1))))
        refine hY _ _ _ _ (?_ : Y 63 [(4, 0, true, iA r1 (iX x3 (-1))), (6, 0, true, r1), (0, 3, true, x0), (2, 0, true, x2), (3, 0, true, x3), (5, 0, true, x5)] [(0, true, iO x3 r1)] (sM s m1))
        refine hY _ _ _ _ (hY _ _ _ _ (hY _ _ _ _ (?_ : Y 19 [(5, 0, false, x5 + 1), (3, 0, true, iO x3 r1), (4, 0, true, iA r1 (iX x3 (-1))), (6, 0, true, r1), (0, 3, true, x0), (2, 0, true, x2)] [] (sM s m1))))
        refine l19 _ _ ?_
        refine And.intro h.1 ?_
        exact (Exists.intro m1 (And.intro rfl (And.intro rfl (And.intro rfl h.2))))
      · have h := h.2 hc
        refine hY _ _ _ _ (?_ : Y 50 [(6, 0, true, r1), (0, 3, true, x0), (2, 0, true, x2), (3, 0, true, x3), (4, 0, true, x4), (5, 0, true, x5)] [(0, true, x5)] (sM s m1))
        refine hY _ _ _ _ ?_
        exact hQ x5 m1 h
theorem wk_65_19 (Q : sQ) (R : Int → hy_m → Prop) (s : sS) (x0 : Int) (x2 : Int) (x3 : Int) (x4 : Int) (x5 : Int) (hQ : ∀ x m', R x m' → Q x (sM s m')) (hr : sRg [(0, 3, 0), (2, 0, 0), (3, 0, 0), (4, 0, 0), (5, 0, 0)] [x0, x2, x3, x4, x5]) (h : wq_65_19 x0 x2 x3 x4 x5 s.1 s.2.2.2 R) : kX dC 4 im_m65 0 19 (sCan [(0, 3, 0), (2, 0, 0), (3, 0, 0), (4, 0, 0), (5, 0, 0)] [x0, x2, x3, x4, x5]) [] s Q :=
  h (fun x3 x4 x5 m => sRg [(0, 3, 0), (2, 0, 0), (3, 0, 0), (4, 0, 0), (5, 0, 0)] [x0, x2, x3, x4, x5] → kX dC 4 im_m65 0 19 (sCan [(0, 3, 0), (2, 0, 0), (3, 0, 0), (4, 0, 0), (5, 0, 0)] [x0, x2, x3, x4, x5]) [] (sM s m) Q) (fun x3 x4 x5 m h hr => wj_65_19 Q R s (fun x3 x4 x5 m => sRg [(0, 3, 0), (2, 0, 0), (3, 0, 0), (4, 0, 0), (5, 0, 0)] [x0, x2, x3, x4, x5] → kX dC 4 im_m65 0 19 (sCan [(0, 3, 0), (2, 0, 0), (3, 0, 0), (4, 0, 0), (5, 0, 0)] [x0, x2, x3, x4, x5]) [] (sM s m) Q) x0 x2 x3 x4 x5 m  (fun _ _ _ _ hp hr => hp hr) hQ hr h) hr
def lb_65_0 (s : sS) (Q : sQ) (R : Int → hy_m → Prop) (x0 : Int) (x1 : Int) (x2 : Int) : Nat → Option (sL → sS → Prop) := sLb [(19, fun lv t => sG [(0, 3, 0), (2, 0, 0), (3, 0, 0), (4, 0, 0), (5, 0, 0)] lv (ap5 (fun w0 w2 w3 w4 w5 => ∃ m', t = sM s m' ∧ wq_65_19 w0 w2 w3 w4 w5 s.1 m' R)))]
set_option maxRecDepth 30000 in
set_option maxHeartbeats 1000000 in
theorem wk_65_0 (Q : sQ) (R : Int → hy_m → Prop) (s : sS) (x0 : Int) (x1 : Int) (x2 : Int) (hQ : ∀ x m', R x m' → Q x (sM s m')) (hr : sRg [(0, 3, 0), (1, 0, 0), (2, 0, 0)] [x0, x1, x2]) (h : wq_65 x0 x1 x2 s.1 s.2.2.2 R) : kX dC 4 im_m65 0 0 (sCan [(0, 3, 0), (1, 0, 0), (2, 0, 0)] [x0, x1, x2]) [] s Q := by
  unfold wq_65 at h
  refine wz2_ok (cs := cs_65) (wr := []) (lb := lb_65_0 s Q R x0 x1 x2) cs_65_ok (kLb_c (kLab (Bd := fun xs t => ap5 (fun w0 w2 w3 w4 w5 => ∃ m', t = sM s m' ∧ wq_65_19 w0 w2 w3 w4 w5 s.1 m' R) xs) rfl (fun xs t r1 r2 hb => by obtain ⟨w0, w2, w3, w4, w5, rfl, hb⟩ := ap5_ok hb; obtain ⟨m', rfl, hx⟩ := hb; exact wk_65_19 Q R (sM s m') _ _ _ _ _ (fun x m'' hy => hQ x m'' hy) r1 hx)) kLb_n) (okL_can rfl hr) (fun Y hY hl => ?_)
  have l19 := hl 19 _ rfl
  refine hY _ _ _ _ (hY _ _ _ _ (hY _ _ _ _ (?_ : Y 3 [(3, 2, true, 0), (0, 3, true, x0), (1, 0, true, x1), (2, 0, true, x2)] [(3, true, x0)] s)))
  refine hY _ _ _ _ (hY _ _ _ _ (?_ : Y 5 [(3, 2, true, 0), (0, 3, true, x0), (1, 0, true, x1), (2, 0, true, x2)] [(0, true, x1), (3, true, x0), (3, true, x0)] s))
  refine hY _ _ _ _ ?_
  refine (And.intro h.1 ?_)
  refine Exists.intro _ (And.intro (wc_53_3t_0t x0 x1 _ _ h.2) (fun r1 m1 h => ?_))
  show Y 8 [(3, 2, true, 0), (0, 3, true, x0), (1, 0, true, x1), (2, 0, true, x2)] [(3, true, r1), (3, true, x0)] (sM s m1)
  refine hY _ _ _ _ ?_
  refine (And.intro h.1 ?_)
  refine Exists.intro _ (And.intro (wc_45_3t r1 _ _ h.2) (fun r2 m2 h => ?_))
  show Y 11 [(3, 2, true, 0), (0, 3, true, x0), (1, 0, true, x1), (2, 0, true, x2)] [(1, true, r2), (3, true, x0)] (sM s m2)
  refine hY _ _ _ _ ?_
  refine (And.intro h.1 ?_)
  refine Exists.intro _ (And.intro (wc_59_3t_1t x0 r2 _ _ h.2) (fun r3 m3 h => ?_))
  refine hY _ _ _ _ (hY _ _ _ _ (hY _ _ _ _ (?_ : Y 19 [(5, 2, true, 1), (4, 0, true, r3), (3, 2, true, 0), (0, 3, true, x0), (1, 0, true, x1), (2, 0, true, x2)] [] (sM s m3))))
  refine l19 _ _ ?_
  exact (Exists.intro m3 (And.intro rfl h))
def we_65 : sFf := sEf 7 [(0, 3, 0), (1, 0, 0), (2, 0, 0)] (fun xs s Q => ap3 (fun x0 x1 x2 => wq_65 x0 x1 x2 s.1 s.2.2.2 Q) xs)
theorem we_65_ok : kS dC 5 65 0 (.inl we_65) := sEf_ok (mi := im_m65) rfl rfl rfl (fun R xs s r1 hb => by obtain ⟨x0, x1, x2, rfl, hb⟩ := ap3_ok hb; exact wk_65_0 _ R s x0 x1 x2 (fun x m' hx => ⟨m', rfl, hx⟩) r1 hb)
/-- LM.reaches(II)I -/
def wq_12 (x1 : Int) (x2 : Int) (T : hy_T) (m : hy_m) (Q : Int → hy_m → Prop) : Prop := wq_52 21 x1 T m (fun r1 m1 => (r1 = 0 → (Q (-1) m1)) ∧ (r1 ≠ 0 → (wq_52 21 x2 T m1 (fun r2 m2 => (r2 = 0 → (Q (-1) m2)) ∧ (r2 ≠ 0 → (wq_65 21 x1 x2 T m2 (fun r3 m3 => Q r3 m3)))))))
theorem wc_65_r21_0t_0t (x1 : Int) (x2 : Int) (s : sS) (R : Int → hy_m → Prop) (h : wq_65 21 x1 x2 s.1 s.2.2.2 R) : we_65 [(5, true, 21), (0, true, x1), (0, true, x2)] s R := h
def cs_12 : List (Nat × Nat × sFS) := [(52, 2, .inl we_52), (65, 0, .inl we_65)]
theorem cs_12_ok : kCs dC 5 cs_12 := (kCs_c (Or.inr (Or.inr (Or.inl rfl))) (we_52_ok.deep (by decide)) (kCs_c (Or.inl rfl) (we_65_ok.deep (by decide)) kCs_n))
def lb_12_0 (s : sS) (Q : sQ) (R : Int → hy_m → Prop) (x1 : Int) (x2 : Int) : Nat → Option (sL → sS → Prop) := sLb []
set_option maxRecDepth 30000 in
set_option maxHeartbeats 1000000 in
theorem wk_12_0 (Q : sQ) (R : Int → hy_m → Prop) (s : sS) (x1 : Int) (x2 : Int) (hQ : ∀ x m', R x m' → Q x (sM s m')) (hr : sRg [(0, 5, 1), (1, 0, 0), (2, 0, 0)] [x1, x2]) (h : wq_12 x1 x2 s.1 s.2.2.2 R) : kX dC 5 im_m12 0 0 (sCan [(0, 5, 1), (1, 0, 0), (2, 0, 0)] [x1, x2]) [] s Q := by
  unfold wq_12 at h
  refine wz2_ok (cs := cs_12) (wr := []) (lb := lb_12_0 s Q R x1 x2) cs_12_ok kLb_n (okL_can rfl hr) (fun Y hY hl => ?_)
  refine hY _ _ _ _ (hY _ _ _ _ (hY _ _ _ _ (?_ : Y 5 [(0, 5, true, 1), (1, 0, true, x1), (2, 0, true, x2)] [(0, true, x1), (5, true, 21)] s)))
  refine hY _ _ _ _ ?_
  refine Exists.intro _ (And.intro (wc_52_r21_0t x1 _ _ h) (fun r1 m1 h => ?_))
  show Y 8 [(0, 5, true, 1), (1, 0, true, x1), (2, 0, true, x2)] [(2, true, r1)] (sM s m1)
  refine hY _ _ _ _ ?_
  refine And.intro (fun hc => ?_) (fun hc => ?_)
  · have h := h.1 hc
    refine hY _ _ _ _ (?_ : Y 35 [(0, 5, true, 1), (1, 0, true, x1), (2, 0, true, x2)] [(0, true, (-1))] (sM s m1))
    refine hY _ _ _ _ ?_
    exact hQ (-1) m1 h
  · have h := h.2 hc
    refine hY _ _ _ _ (hY _ _ _ _ (hY _ _ _ _ (?_ : Y 16 [(0, 5, true, 1), (1, 0, true, x1), (2, 0, true, x2)] [(0, true, x2), (5, true, 21)] (sM s m1))))
    refine hY _ _ _ _ ?_
    refine Exists.intro _ (And.intro (wc_52_r21_0t x2 _ _ h) (fun r2 m2 h => ?_))
    show Y 19 [(0, 5, true, 1), (1, 0, true, x1), (2, 0, true, x2)] [(2, true, r2)] (sM s m2)
    refine hY _ _ _ _ ?_
    refine And.intro (fun hc => ?_) (fun hc => ?_)
    · have h := h.1 hc
      refine hY _ _ _ _ (?_ : Y 35 [(0, 5, true, 1), (1, 0, true, x1), (2, 0, true, x2)] [(0, true, (-1))] (sM s m2))
      refine hY _ _ _ _ ?_
      exact hQ (-1) m2 h
    · have h := h.2 hc
      refine hY _ _ _ _ (hY _ _ _ _ (hY _ _ _ _ (?_ : Y 27 [(0, 5, true, 1), (1, 0, true, x1), (2, 0, true, x2)] [(0, true, x1), (5, true, 21)] (sM s m2))))
      refine hY _ _ _ _ (?_ : Y 28 [(0, 5, true, 1), (1, 0, true, x1), (2, 0, true, x2)] [(0, true, x2), (0, true, x1), (5, true, 21)] (sM s m2))
      refine hY _ _ _ _ ?_
      refine Exists.intro _ (And.intro (wc_65_r21_0t_0t x1 x2 _ _ h) (fun r3 m3 h => ?_))
      refine hY _ _ _ _ (?_ : Y 35 [(0, 5, true, 1), (1, 0, true, x1), (2, 0, true, x2)] [(0, true, r3)] (sM s m3))
      refine hY _ _ _ _ ?_
      exact hQ r3 m3 h
def we_12 : sFf := sEf 3 [(0, 5, 1), (1, 0, 0), (2, 0, 0)] (fun xs s Q => ap2 (fun x1 x2 => wq_12 x1 x2 s.1 s.2.2.2 Q) xs)
theorem we_12_ok : kS dC 6 12 0 (.inl we_12) := sEf_ok (mi := im_m12) rfl rfl rfl (fun R xs s r1 hb => by obtain ⟨x1, x2, rfl, hb⟩ := ap2_ok hb; exact wk_12_0 _ R s x1 x2 (fun x m' hx => ⟨m', rfl, hx⟩) r1 hb)
/-- java/util/Arrays.fill([II)V -/
def wf_308_5 (x0 : Int) (x1 : Int) (x3 : Int) (T : hy_T) (Q : Int → hy_m → Prop) (P5 : Int → hy_m → Prop) (x2 : Int) (m : hy_m) : Prop := (x3 ≤ x2 → (Q 0 m)) ∧ (x2 < x3 → (∃ n1 : Nat, T.1 (x0).toNat = some (100, n1) ∧ (0 ≤ x2 ∧ x2 < (n1 : Int) ∧ (hy_r 0 (x2 + 1) ∧ (P5 (x2 + 1) (hy_u m ((x0).toNat) x2 x1))))))
def wq_308_5 (x0 : Int) (x1 : Int) (x2 : Int) (x3 : Int) (T : hy_T) (m : hy_m) (Q : Int → hy_m → Prop) : Prop := wL1 hy_m (wf_308_5 x0 x1 x3 T Q) x2 m
def wq_308 (x0 : Int) (x1 : Int) (T : hy_T) (m : hy_m) (Q : Int → hy_m → Prop) : Prop := ∃ t1 n1 : Nat, T.1 (x0).toNat = some (t1, n1) ∧ 99 ≤ t1 ∧ (wq_308_5 x0 x1 0 (n1 : Int) T m Q)
def cs_308 : List (Nat × Nat × sFS) := []
theorem cs_308_ok : kCs dC 0 cs_308 := kCs_n
def lb_308_5 (s : sS) (Q : sQ) (P5 : Int → hy_m → Prop) (R : Int → hy_m → Prop) (x0 : Int) (x1 : Int) (x2 : Int) (x3 : Int) : Nat → Option (sL → sS → Prop) := sLb [(5, fun lv t => sG [(0, 3, 0), (1, 0, 0), (2, 0, 0), (3, 0, 0)] lv (ap4 (fun w0 w1 w2 w3 => ∃ m', t = sM s m' ∧ w0 = x0 ∧ w1 = x1 ∧ w3 = x3 ∧ P5 w2 m')))]
set_option maxRecDepth 30000 in
set_option maxHeartbeats 1000000 in
theorem wj_308_5 (Q : sQ) (R : Int → hy_m → Prop) (s : sS) (P5 : Int → hy_m → Prop) (x0 : Int) (x1 : Int) (x2 : Int) (x3 : Int) (m : hy_m) (hP5 : ∀ (z2 : Int) (m : hy_m), P5 z2 m → sRg [(0, 3, 0), (1, 0, 0), (2, 0, 0), (3, 0, 0)] [x0, x1, z2, x3] → kX dC 0 im_m308 9 5 (sCan [(0, 3, 0), (1, 0, 0), (2, 0, 0), (3, 0, 0)] [x0, x1, z2, x3]) [] (sM s m) Q) (hQ : ∀ x m', R x m' → Q x (sM s m')) (hr : sRg [(0, 3, 0), (1, 0, 0), (2, 0, 0), (3, 0, 0)] [x0, x1, x2, x3]) (h : wf_308_5 x0 x1 x3 s.1 R P5 x2 m) : kX dC 0 im_m308 9 5 (sCan [(0, 3, 0), (1, 0, 0), (2, 0, 0), (3, 0, 0)] [x0, x1, x2, x3]) [] (sM s m) Q := by
  unfold wf_308_5 at h
  refine wz2_ok (cs := cs_308) (wr := []) (lb := lb_308_5 s Q P5 R x0 x1 x2 x3) cs_308_ok (kLb_c (kLab (Bd := fun xs t => ap4 (fun w0 w1 w2 w3 => ∃ m', t = sM s m' ∧ w0 = x0 ∧ w1 = x1 ∧ w3 = x3 ∧ P5 w2 m') xs) rfl (fun xs t r1 r2 hb => by obtain ⟨w0, w1, w2, w3, rfl, hb⟩ := ap4_ok hb; obtain ⟨m', rfl, rfl, rfl, rfl, hx⟩ := hb; exact hP5 _ m' hx r1)) kLb_n) (okL_can rfl hr) (fun Y hY hl => ?_)
  have l5 := hl 5 _ rfl
  refine hY _ _ _ _ (hY _ _ _ _ (?_ : Y 7 [(0, 3, true, x0), (1, 0, true, x1), (2, 0, true, x2), (3, 0, true, x3)] [(0, true, x3), (0, true, x2)] (sM s m)))
  refine hY _ _ _ _ ?_
  refine And.intro (fun hc => ?_) (fun hc => ?_)
  · have h := h.1 hc
    show Y 20 [(0, 3, true, x0), (1, 0, true, x1), (2, 0, true, x2), (3, 0, true, x3)] [] (sM s m)
    refine hY _ _ _ _ ?_
    exact hQ 0 m h
  · have h := h.2 hc
    refine hY _ _ _ _ (hY _ _ _ _ (hY _ _ _ _ (?_ : Y 13 [(0, 3, true, x0), (1, 0, true, x1), (2, 0, true, x2), (3, 0, true, x3)] [(0, true, x1), (0, true, x2), (3, true, x0)] (sM s m))))
    refine hY _ _ _ _ ?_
    obtain ⟨n1, h⟩ := h
    refine Exists.intro n1 (And.intro h.1 ?_)
    refine (And.intro h.2.1 (And.intro h.2.2.1 ?_))
    refine hY _ _ _ _ (hY _ _ _ _ (?_ : Y 5 [(2, 0, false, x2 + 1), (0, 3, true, x0), (1, 0, true, x1), (3, 0, true, x3)] [] (sM s (hy_u m ((x0).toNat) x2 x1))))
    refine l5 _ _ ?_
    refine And.intro h.2.2.2.1 ?_
    exact (Exists.intro (hy_u m ((x0).toNat) x2 x1) (And.intro rfl (And.intro rfl (And.intro rfl (And.intro rfl h.2.2.2.2)))))
theorem wk_308_5 (Q : sQ) (R : Int → hy_m → Prop) (s : sS) (x0 : Int) (x1 : Int) (x2 : Int) (x3 : Int) (hQ : ∀ x m', R x m' → Q x (sM s m')) (hr : sRg [(0, 3, 0), (1, 0, 0), (2, 0, 0), (3, 0, 0)] [x0, x1, x2, x3]) (h : wq_308_5 x0 x1 x2 x3 s.1 s.2.2.2 R) : kX dC 0 im_m308 9 5 (sCan [(0, 3, 0), (1, 0, 0), (2, 0, 0), (3, 0, 0)] [x0, x1, x2, x3]) [] s Q :=
  h (fun x2 m => sRg [(0, 3, 0), (1, 0, 0), (2, 0, 0), (3, 0, 0)] [x0, x1, x2, x3] → kX dC 0 im_m308 9 5 (sCan [(0, 3, 0), (1, 0, 0), (2, 0, 0), (3, 0, 0)] [x0, x1, x2, x3]) [] (sM s m) Q) (fun x2 m h hr => wj_308_5 Q R s (fun x2 m => sRg [(0, 3, 0), (1, 0, 0), (2, 0, 0), (3, 0, 0)] [x0, x1, x2, x3] → kX dC 0 im_m308 9 5 (sCan [(0, 3, 0), (1, 0, 0), (2, 0, 0), (3, 0, 0)] [x0, x1, x2, x3]) [] (sM s m) Q) x0 x1 x2 x3 m  (fun _ _ hp hr => hp hr) hQ hr h) hr
def lb_308_0 (s : sS) (Q : sQ) (R : Int → hy_m → Prop) (x0 : Int) (x1 : Int) : Nat → Option (sL → sS → Prop) := sLb [(5, fun lv t => sG [(0, 3, 0), (1, 0, 0), (2, 0, 0), (3, 0, 0)] lv (ap4 (fun w0 w1 w2 w3 => ∃ m', t = sM s m' ∧ wq_308_5 w0 w1 w2 w3 s.1 m' R)))]
set_option maxRecDepth 30000 in
set_option maxHeartbeats 1000000 in
theorem wk_308_0 (Q : sQ) (R : Int → hy_m → Prop) (s : sS) (x0 : Int) (x1 : Int) (hQ : ∀ x m', R x m' → Q x (sM s m')) (hr : sRg [(0, 3, 0), (1, 0, 0)] [x0, x1]) (h : wq_308 x0 x1 s.1 s.2.2.2 R) : kX dC 0 im_m308 9 0 (sCan [(0, 3, 0), (1, 0, 0)] [x0, x1]) [] s Q := by
  unfold wq_308 at h
  refine wz2_ok (cs := cs_308) (wr := []) (lb := lb_308_0 s Q R x0 x1) cs_308_ok (kLb_c (kLab (Bd := fun xs t => ap4 (fun w0 w1 w2 w3 => ∃ m', t = sM s m' ∧ wq_308_5 w0 w1 w2 w3 s.1 m' R) xs) rfl (fun xs t r1 r2 hb => by obtain ⟨w0, w1, w2, w3, rfl, hb⟩ := ap4_ok hb; obtain ⟨m', rfl, hx⟩ := hb; exact wk_308_5 Q R (sM s m') _ _ _ _ (fun x m'' hy => hQ x m'' hy) r1 hx)) kLb_n) (okL_can rfl hr) (fun Y hY hl => ?_)
  have l5 := hl 5 _ rfl
  refine hY _ _ _ _ (hY _ _ _ _ (hY _ _ _ _ (?_ : Y 3 [(2, 2, true, 0), (0, 3, true, x0), (1, 0, true, x1)] [(3, true, x0)] s)))
  refine hY _ _ _ _ ?_
  obtain ⟨t1, n1, h⟩ := h
  refine Exists.intro t1 (Exists.intro n1 (And.intro h.1 (And.intro h.2.1 ?_)))
  refine hY _ _ _ _ (?_ : Y 5 [(3, 0, true, (n1 : Int)), (2, 2, true, 0), (0, 3, true, x0), (1, 0, true, x1)] [] s)
  refine l5 _ _ ?_
  exact (Exists.intro s.2.2.2 (And.intro rfl h.2.2))
def we_308 : sFf := sEf 4 [(0, 3, 0), (1, 0, 0)] (fun xs s Q => ap2 (fun x0 x1 => wq_308 x0 x1 s.1 s.2.2.2 Q) xs)
theorem we_308_ok : kS dC 1 308 9 (.inl we_308) := sEf_ok (mi := im_m308) rfl rfl rfl (fun R xs s r1 hb => by obtain ⟨x0, x1, rfl, hb⟩ := ap2_ok hb; exact wk_308_0 _ R s x0 x1 (fun x m' hx => ⟨m', rfl, hx⟩) r1 hb)
/-- LM$Frame.<init>()V -/
def wq_50 (x0 : Int) (m : hy_m) (Q : Int → hy_m → Prop) : Prop := x0 ≠ 0 ∧ (Q 0 m)
def cs_50 : List (Nat × Nat × sFS) := []
theorem cs_50_ok : kCs dC 0 cs_50 := kCs_n
def lb_50_0 (s : sS) (Q : sQ) (R : Int → hy_m → Prop) (x0 : Int) : Nat → Option (sL → sS → Prop) := sLb []
set_option maxRecDepth 30000 in
set_option maxHeartbeats 1000000 in
theorem wk_50_0 (Q : sQ) (R : Int → hy_m → Prop) (s : sS) (x0 : Int) (hQ : ∀ x m', R x m' → Q x (sM s m')) (hr : sRg [(0, 3, 0)] [x0]) (h : wq_50 x0 s.2.2.2 R) : kX dC 0 im_m50 9 0 (sCan [(0, 3, 0)] [x0]) [] s Q := by
  unfold wq_50 at h
  refine wz2_ok (cs := cs_50) (wr := []) (lb := lb_50_0 s Q R x0) cs_50_ok kLb_n (okL_can rfl hr) (fun Y hY hl => ?_)
  refine hY _ _ _ _ (?_ : Y 1 [(0, 3, true, x0)] [(3, true, x0)] s)
  refine hY _ _ _ _ ?_
  refine (And.intro h.1 ?_)
  show Y 4 [(0, 3, true, x0)] [] s
  refine hY _ _ _ _ ?_
  exact hQ 0 s.2.2.2 h.2
def we_50 : sFf := sEf 1 [(0, 3, 0)] (fun xs s Q => ap1 (fun x0 => wq_50 x0 s.2.2.2 Q) xs)
theorem we_50_ok : kS dC 1 50 9 (.inl we_50) := sEf_ok (mi := im_m50) rfl rfl rfl (fun R xs s r1 hb => by obtain ⟨x0, rfl, hb⟩ := ap1_ok hb; exact wk_50_0 _ R s x0 (fun x m' hx => ⟨m', rfl, hx⟩) r1 hb)
/-- LM$Search.newFrame(IILLogicMachine$Frame;I)LLogicMachine$Frame; -/
def wq_102_48 (x1 : Int) (x2 : Int) (x3 : Int) (x4 : Int) (x6 : Int) (s : sS) (Q : sQ) : Prop := hy_r 0 ((s.2.2.2 36 5) + 1) ∧ (s.1.1 (x6).toNat = some (4, 5) ∧ (s.1.1 (x6).toNat = some (4, 5) ∧ (s.1.1 (x6).toNat = some (4, 5) ∧ (s.1.1 (x6).toNat = some (4, 5) ∧ ((x3 = 0 → (s.1.1 (x6).toNat = some (4, 5) ∧ (Q x6 (s.1, s.2.1, s.2.2.1, hy_u (hy_u (hy_u (hy_u (hy_u (hy_u s.2.2.2 36 5 ((s.2.2.2 36 5) + 1)) ((x6).toNat) 0 x1) ((x6).toNat) 1 x2) ((x6).toNat) 2 x3) ((x6).toNat) 3 x4) ((x6).toNat) 4 1)))) ∧ (x3 ≠ 0 → (s.1.1 (x3).toNat = some (4, 5) ∧ (s.1.1 (x6).toNat = some (4, 5) ∧ (hy_r 0 (((hy_u (hy_u (hy_u (hy_u (hy_u s.2.2.2 36 5 ((s.2.2.2 36 5) + 1)) ((x6).toNat) 0 x1) ((x6).toNat) 1 x2) ((x6).toNat) 2 x3) ((x6).toNat) 3 x4) ((x3).toNat) 4) + 1) ∧ (Q x6 (s.1, s.2.1, s.2.2.1, hy_u (hy_u (hy_u (hy_u (hy_u (hy_u s.2.2.2 36 5 ((s.2.2.2 36 5) + 1)) ((x6).toNat) 0 x1) ((x6).toNat) 1 x2) ((x6).toNat) 2 x3) ((x6).toNat) 3 x4) ((x6).toNat) 4 (((hy_u (hy_u (hy_u (hy_u (hy_u s.2.2.2 36 5 ((s.2.2.2 36 5) + 1)) ((x6).toNat) 0 x1) ((x6).toNat) 1 x2) ((x6).toNat) 2 x3) ((x6).toNat) 3 x4) ((x3).toNat) 4) + 1))))))))))))
def wq_102 (x1 : Int) (x2 : Int) (x3 : Int) (x4 : Int) (s : sS) (Q : sQ) : Prop := hy_r 0 (602 - 1) ∧ (0 ≤ (if (602 - 1) < (s.2.2.2 36 5) then (602 - 1) else (s.2.2.2 36 5)) ∧ (if (602 - 1) < (s.2.2.2 36 5) then (602 - 1) else (s.2.2.2 36 5)) < 602 ∧ (((s.2.2.2 37 (if (602 - 1) < (s.2.2.2 36 5) then (602 - 1) else (s.2.2.2 36 5))) = 0 → ((hy_e s.1 s.2.1 4 5).1 ((s.2.1 : Int)).toNat = some (4, 5) ∧ (wq_50 (s.2.1 : Int) (hy_z s.2.2.2 s.2.1) (fun _ m1 => 0 ≤ (if (602 - 1) < (s.2.2.2 36 5) then (602 - 1) else (s.2.2.2 36 5)) ∧ (if (602 - 1) < (s.2.2.2 36 5) then (602 - 1) else (s.2.2.2 36 5)) < 602 ∧ (((s.2.1 : Int) = 0 ∨ ∃ nv, (hy_e s.1 s.2.1 4 5).1 ((s.2.1 : Int)).toNat = some (114 - 110, nv) ∧ 114 < 160) ∧ (wq_102_48 x1 x2 x3 x4 (s.2.1 : Int) (hy_e s.1 s.2.1 4 5, s.2.1 + 1, s.2.2.1 + 5, hy_u m1 37 (if (602 - 1) < (s.2.2.2 36 5) then (602 - 1) else (s.2.2.2 36 5)) (s.2.1 : Int)) Q)))))) ∧ ((s.2.2.2 37 (if (602 - 1) < (s.2.2.2 36 5) then (602 - 1) else (s.2.2.2 36 5))) ≠ 0 → (wq_102_48 x1 x2 x3 x4 (s.2.2.2 37 (if (602 - 1) < (s.2.2.2 36 5) then (602 - 1) else (s.2.2.2 36 5))) s Q))))
theorem wc_50_3t (x0 : Int) (s : sS) (R : Int → hy_m → Prop) (h : wq_50 x0 s.2.2.2 R) : we_50 [(3, true, x0)] s R := h
def cs_102 : List (Nat × Nat × sFS) := [(50, 9, .inl we_50)]
theorem cs_102_ok : kCs dC 1 cs_102 := (kCs_c (Or.inr (Or.inr (Or.inr (Or.inr rfl)))) (we_50_ok.deep (by decide)) kCs_n)
def lb_102_48 (s : sS) (Q : sQ) (x1 : Int) (x2 : Int) (x3 : Int) (x4 : Int) (x6 : Int) : Nat → Option (sL → sS → Prop) := sLb []
set_option maxRecDepth 30000 in
set_option maxHeartbeats 1000000 in
theorem wk_102_48 (Q : sQ) (s : sS) (x1 : Int) (x2 : Int) (x3 : Int) (x4 : Int) (x6 : Int) (hr : sRg [(0, 5, 36), (1, 0, 0), (2, 0, 0), (3, 3, 0), (4, 0, 0), (6, 3, 0)] [x1, x2, x3, x4, x6]) (h : wq_102_48 x1 x2 x3 x4 x6 s Q) : kX dC 1 im_m102 3 48 (sCan [(0, 5, 36), (1, 0, 0), (2, 0, 0), (3, 3, 0), (4, 0, 0), (6, 3, 0)] [x1, x2, x3, x4, x6]) [] s Q := by
  unfold wq_102_48 at h
  refine wz2_ok (cs := cs_102) (wr := []) (lb := lb_102_48 s Q x1 x2 x3 x4 x6) cs_102_ok kLb_n (okL_can rfl hr) (fun Y hY hl => ?_)
  refine hY _ _ _ _ (hY _ _ _ _ (hY _ _ _ _ (?_ : Y 53 [(0, 5, true, 36), (1, 0, true, x1), (2, 0, true, x2), (3, 3, true, x3), (4, 0, true, x4), (6, 3, true, x6)] [(0, true, s.2.2.2 36 5), (5, true, 36)] s)))
  refine hY _ _ _ _ (hY _ _ _ _ (?_ : Y 55 [(0, 5, true, 36), (1, 0, true, x1), (2, 0, true, x2), (3, 3, true, x3), (4, 0, true, x4), (6, 3, true, x6)] [(0, false, (s.2.2.2 36 5) + 1), (5, true, 36)] s))
  refine hY _ _ _ _ ?_
  refine And.intro h.1 ?_
  refine hY _ _ _ _ (hY _ _ _ _ (?_ : Y 61 [(0, 5, true, 36), (1, 0, true, x1), (2, 0, true, x2), (3, 3, true, x3), (4, 0, true, x4), (6, 3, true, x6)] [(0, true, x1), (3, true, x6)] (s.1, s.2.1, s.2.2.1, hy_u s.2.2.2 36 5 ((s.2.2.2 36 5) + 1))))
  refine hY _ _ _ _ ?_
  refine (And.intro h.2.1 ?_)
  refine hY _ _ _ _ (hY _ _ _ _ (?_ : Y 67 [(0, 5, true, 36), (1, 0, true, x1), (2, 0, true, x2), (3, 3, true, x3), (4, 0, true, x4), (6, 3, true, x6)] [(0, true, x2), (3, true, x6)] (s.1, s.2.1, s.2.2.1, hy_u (hy_u s.2.2.2 36 5 ((s.2.2.2 36 5) + 1)) ((x6).toNat) 0 x1)))
  refine hY _ _ _ _ ?_
  refine (And.intro h.2.2.1 ?_)
  refine hY _ _ _ _ (hY _ _ _ _ (?_ : Y 73 [(0, 5, true, 36), (1, 0, true, x1), (2, 0, true, x2), (3, 3, true, x3), (4, 0, true, x4), (6, 3, true, x6)] [(3, true, x3), (3, true, x6)] (s.1, s.2.1, s.2.2.1, hy_u (hy_u (hy_u s.2.2.2 36 5 ((s.2.2.2 36 5) + 1)) ((x6).toNat) 0 x1) ((x6).toNat) 1 x2)))
  refine hY _ _ _ _ ?_
  refine (And.intro h.2.2.2.1 ?_)
  refine hY _ _ _ _ (hY _ _ _ _ (?_ : Y 80 [(0, 5, true, 36), (1, 0, true, x1), (2, 0, true, x2), (3, 3, true, x3), (4, 0, true, x4), (6, 3, true, x6)] [(0, true, x4), (3, true, x6)] (s.1, s.2.1, s.2.2.1, hy_u (hy_u (hy_u (hy_u s.2.2.2 36 5 ((s.2.2.2 36 5) + 1)) ((x6).toNat) 0 x1) ((x6).toNat) 1 x2) ((x6).toNat) 2 x3)))
  refine hY _ _ _ _ ?_
  refine (And.intro h.2.2.2.2.1 ?_)
  refine hY _ _ _ _ (hY _ _ _ _ (?_ : Y 86 [(0, 5, true, 36), (1, 0, true, x1), (2, 0, true, x2), (3, 3, true, x3), (4, 0, true, x4), (6, 3, true, x6)] [(3, true, x3), (3, true, x6)] (s.1, s.2.1, s.2.2.1, hy_u (hy_u (hy_u (hy_u (hy_u s.2.2.2 36 5 ((s.2.2.2 36 5) + 1)) ((x6).toNat) 0 x1) ((x6).toNat) 1 x2) ((x6).toNat) 2 x3) ((x6).toNat) 3 x4)))
  refine hY _ _ _ _ ?_
  refine And.intro (fun hc => ?_) (fun hc => ?_)
  · have h := h.2.2.2.2.2.1 hc
    refine hY _ _ _ _ (hY _ _ _ _ (?_ : Y 99 [(0, 5, true, 36), (1, 0, true, x1), (2, 0, true, x2), (3, 3, true, x3), (4, 0, true, x4), (6, 3, true, x6)] [(2, true, 1), (3, true, x6)] (s.1, s.2.1, s.2.2.1, hy_u (hy_u (hy_u (hy_u (hy_u s.2.2.2 36 5 ((s.2.2.2 36 5) + 1)) ((x6).toNat) 0 x1) ((x6).toNat) 1 x2) ((x6).toNat) 2 x3) ((x6).toNat) 3 x4)))
    refine hY _ _ _ _ ?_
    refine (And.intro h.1 ?_)
    refine hY _ _ _ _ (?_ : Y 104 [(0, 5, true, 36), (1, 0, true, x1), (2, 0, true, x2), (3, 3, true, x3), (4, 0, true, x4), (6, 3, true, x6)] [(3, true, x6)] (s.1, s.2.1, s.2.2.1, hy_u (hy_u (hy_u (hy_u (hy_u (hy_u s.2.2.2 36 5 ((s.2.2.2 36 5) + 1)) ((x6).toNat) 0 x1) ((x6).toNat) 1 x2) ((x6).toNat) 2 x3) ((x6).toNat) 3 x4) ((x6).toNat) 4 1))
    refine hY _ _ _ _ ?_
    exact h.2
  · have h := h.2.2.2.2.2.2 hc
    refine hY _ _ _ _ (?_ : Y 94 [(0, 5, true, 36), (1, 0, true, x1), (2, 0, true, x2), (3, 3, true, x3), (4, 0, true, x4), (6, 3, true, x6)] [(3, true, x3), (3, true, x6)] (s.1, s.2.1, s.2.2.1, hy_u (hy_u (hy_u (hy_u (hy_u s.2.2.2 36 5 ((s.2.2.2 36 5) + 1)) ((x6).toNat) 0 x1) ((x6).toNat) 1 x2) ((x6).toNat) 2 x3) ((x6).toNat) 3 x4))
    refine hY _ _ _ _ ?_
    refine (And.intro h.1 ?_)
    refine hY _ _ _ _ (hY _ _ _ _ (?_ : Y 99 [(0, 5, true, 36), (1, 0, true, x1), (2, 0, true, x2), (3, 3, true, x3), (4, 0, true, x4), (6, 3, true, x6)] [(0, false, ((hy_u (hy_u (hy_u (hy_u (hy_u s.2.2.2 36 5 ((s.2.2.2 36 5) + 1)) ((x6).toNat) 0 x1) ((x6).toNat) 1 x2) ((x6).toNat) 2 x3) ((x6).toNat) 3 x4) ((x3).toNat) 4) + 1), (3, true, x6)] (s.1, s.2.1, s.2.2.1, hy_u (hy_u (hy_u (hy_u (hy_u s.2.2.2 36 5 ((s.2.2.2 36 5) + 1)) ((x6).toNat) 0 x1) ((x6).toNat) 1 x2) ((x6).toNat) 2 x3) ((x6).toNat) 3 x4)))
    refine hY _ _ _ _ ?_
    refine (And.intro h.2.1 ?_)
    refine And.intro h.2.2.1 ?_
    refine hY _ _ _ _ (?_ : Y 104 [(0, 5, true, 36), (1, 0, true, x1), (2, 0, true, x2), (3, 3, true, x3), (4, 0, true, x4), (6, 3, true, x6)] [(3, true, x6)] (s.1, s.2.1, s.2.2.1, hy_u (hy_u (hy_u (hy_u (hy_u (hy_u s.2.2.2 36 5 ((s.2.2.2 36 5) + 1)) ((x6).toNat) 0 x1) ((x6).toNat) 1 x2) ((x6).toNat) 2 x3) ((x6).toNat) 3 x4) ((x6).toNat) 4 (((hy_u (hy_u (hy_u (hy_u (hy_u s.2.2.2 36 5 ((s.2.2.2 36 5) + 1)) ((x6).toNat) 0 x1) ((x6).toNat) 1 x2) ((x6).toNat) 2 x3) ((x6).toNat) 3 x4) ((x3).toNat) 4) + 1)))
    refine hY _ _ _ _ ?_
    exact h.2.2.2
def lb_102_0 (s : sS) (Q : sQ) (x1 : Int) (x2 : Int) (x3 : Int) (x4 : Int) : Nat → Option (sL → sS → Prop) := sLb [(48, fun lv t => sG [(0, 5, 36), (1, 0, 0), (2, 0, 0), (3, 3, 0), (4, 0, 0), (6, 3, 0)] lv (ap5 (fun w1 w2 w3 w4 w6 => wq_102_48 w1 w2 w3 w4 w6 t Q)))]
set_option maxRecDepth 30000 in
set_option maxHeartbeats 1000000 in
theorem wk_102_0 (Q : sQ) (s : sS) (x1 : Int) (x2 : Int) (x3 : Int) (x4 : Int) (hr : sRg [(0, 5, 36), (1, 0, 0), (2, 0, 0), (3, 3, 0), (4, 0, 0)] [x1, x2, x3, x4]) (h : wq_102 x1 x2 x3 x4 s Q) : kX dC 1 im_m102 3 0 (sCan [(0, 5, 36), (1, 0, 0), (2, 0, 0), (3, 3, 0), (4, 0, 0)] [x1, x2, x3, x4]) [] s Q := by
  unfold wq_102 at h
  refine wz2_ok (cs := cs_102) (wr := []) (lb := lb_102_0 s Q x1 x2 x3 x4) cs_102_ok (kLb_c (kLab (Bd := fun xs t => ap5 (fun w1 w2 w3 w4 w6 => wq_102_48 w1 w2 w3 w4 w6 t Q) xs) rfl (fun xs t r1 r2 hb => by obtain ⟨w1, w2, w3, w4, w6, rfl, hb⟩ := ap5_ok hb; exact wk_102_48 Q t _ _ _ _ _ r1 hb)) kLb_n) (okL_can rfl hr) (fun Y hY hl => ?_)
  have l48 := hl 48 _ rfl
  refine hY _ _ _ _ (hY _ _ _ _ (hY _ _ _ _ (?_ : Y 5 [(0, 5, true, 36), (1, 0, true, x1), (2, 0, true, x2), (3, 3, true, x3), (4, 0, true, x4)] [(5, true, 36), (0, true, s.2.2.2 36 5)] s)))
  refine hY _ _ _ _ (hY _ _ _ _ (hY _ _ _ _ (?_ : Y 10 [(0, 5, true, 36), (1, 0, true, x1), (2, 0, true, x2), (3, 3, true, x3), (4, 0, true, x4)] [(2, true, 1), (0, true, 602), (0, true, s.2.2.2 36 5)] s)))
  refine hY _ _ _ _ (?_ : Y 11 [(0, 5, true, 36), (1, 0, true, x1), (2, 0, true, x2), (3, 3, true, x3), (4, 0, true, x4)] [(0, false, 602 - 1), (0, true, s.2.2.2 36 5)] s)
  refine hY _ _ _ _ ?_
  refine And.intro h.1 ?_
  refine hY _ _ _ _ (hY _ _ _ _ (hY _ _ _ _ (?_ : Y 20 [(5, 0, true, (if (602 - 1) < (s.2.2.2 36 5) then (602 - 1) else (s.2.2.2 36 5))), (0, 5, true, 36), (1, 0, true, x1), (2, 0, true, x2), (3, 3, true, x3), (4, 0, true, x4)] [(5, true, 37)] s)))
  refine hY _ _ _ _ (?_ : Y 22 [(5, 0, true, (if (602 - 1) < (s.2.2.2 36 5) then (602 - 1) else (s.2.2.2 36 5))), (0, 5, true, 36), (1, 0, true, x1), (2, 0, true, x2), (3, 3, true, x3), (4, 0, true, x4)] [(0, true, (if (602 - 1) < (s.2.2.2 36 5) then (602 - 1) else (s.2.2.2 36 5))), (5, true, 37)] s)
  refine hY _ _ _ _ ?_
  refine (And.intro h.2.1 (And.intro h.2.2.1 ?_))
  refine hY _ _ _ _ (hY _ _ _ _ (?_ : Y 27 [(6, 3, true, s.2.2.2 37 (if (602 - 1) < (s.2.2.2 36 5) then (602 - 1) else (s.2.2.2 36 5))), (5, 0, true, (if (602 - 1) < (s.2.2.2 36 5) then (602 - 1) else (s.2.2.2 36 5))), (0, 5, true, 36), (1, 0, true, x1), (2, 0, true, x2), (3, 3, true, x3), (4, 0, true, x4)] [(3, true, s.2.2.2 37 (if (602 - 1) < (s.2.2.2 36 5) then (602 - 1) else (s.2.2.2 36 5)))] s))
  refine hY _ _ _ _ ?_
  refine And.intro (fun hc => ?_) (fun hc => ?_)
  · have h := h.2.2.2.1 hc
    refine hY _ _ _ _ (hY _ _ _ _ (?_ : Y 34 [(6, 3, true, s.2.2.2 37 (if (602 - 1) < (s.2.2.2 36 5) then (602 - 1) else (s.2.2.2 36 5))), (5, 0, true, (if (602 - 1) < (s.2.2.2 36 5) then (602 - 1) else (s.2.2.2 36 5))), (0, 5, true, 36), (1, 0, true, x1), (2, 0, true, x2), (3, 3, true, x3), (4, 0, true, x4)] [(3, true, (s.2.1 : Int)), (3, true, (s.2.1 : Int))] (hy_e s.1 s.2.1 4 5, s.2.1 + 1, s.2.2.1 + 5, hy_z s.2.2.2 s.2.1)))
    refine hY _ _ _ _ ?_
    refine (And.intro h.1 ?_)
    refine Exists.intro _ (And.intro (wc_50_3t (s.2.1 : Int) _ _ h.2) (fun r1 m1 h => ?_))
    refine hY _ _ _ _ (hY _ _ _ _ (hY _ _ _ _ (?_ : Y 43 [(6, 3, true, (s.2.1 : Int)), (5, 0, true, (if (602 - 1) < (s.2.2.2 36 5) then (602 - 1) else (s.2.2.2 36 5))), (0, 5, true, 36), (1, 0, true, x1), (2, 0, true, x2), (3, 3, true, x3), (4, 0, true, x4)] [(5, true, 37)] (hy_e s.1 s.2.1 4 5, s.2.1 + 1, s.2.2.1 + 5, m1))))
    refine hY _ _ _ _ (hY _ _ _ _ (?_ : Y 47 [(6, 3, true, (s.2.1 : Int)), (5, 0, true, (if (602 - 1) < (s.2.2.2 36 5) then (602 - 1) else (s.2.2.2 36 5))), (0, 5, true, 36), (1, 0, true, x1), (2, 0, true, x2), (3, 3, true, x3), (4, 0, true, x4)] [(3, true, (s.2.1 : Int)), (0, true, (if (602 - 1) < (s.2.2.2 36 5) then (602 - 1) else (s.2.2.2 36 5))), (5, true, 37)] (hy_e s.1 s.2.1 4 5, s.2.1 + 1, s.2.2.1 + 5, m1)))
    refine hY _ _ _ _ ?_
    refine (And.intro h.1 (And.intro h.2.1 ?_))
    refine (And.intro h.2.2.1 ?_)
    show Y 48 [(6, 3, true, (s.2.1 : Int)), (5, 0, true, (if (602 - 1) < (s.2.2.2 36 5) then (602 - 1) else (s.2.2.2 36 5))), (0, 5, true, 36), (1, 0, true, x1), (2, 0, true, x2), (3, 3, true, x3), (4, 0, true, x4)] [] (hy_e s.1 s.2.1 4 5, s.2.1 + 1, s.2.2.1 + 5, hy_u m1 37 (if (602 - 1) < (s.2.2.2 36 5) then (602 - 1) else (s.2.2.2 36 5)) (s.2.1 : Int))
    refine l48 _ _ ?_
    exact h.2.2.2
  · have h := h.2.2.2.2 hc
    show Y 48 [(6, 3, true, s.2.2.2 37 (if (602 - 1) < (s.2.2.2 36 5) then (602 - 1) else (s.2.2.2 36 5))), (5, 0, true, (if (602 - 1) < (s.2.2.2 36 5) then (602 - 1) else (s.2.2.2 36 5))), (0, 5, true, 36), (1, 0, true, x1), (2, 0, true, x2), (3, 3, true, x3), (4, 0, true, x4)] [] s
    refine l48 _ _ ?_
    exact h
def we_102 : sF := sE 7 [(0, 5, 36), (1, 0, 0), (2, 0, 0), (3, 3, 0), (4, 0, 0)] (fun xs s Q => ap4 (fun x1 x2 x3 x4 => wq_102 x1 x2 x3 x4 s Q) xs)
theorem we_102_ok : kS dC 2 102 3 (.inr we_102) := sE_ok (mi := im_m102) rfl rfl rfl (fun Q xs s r1 hb => by obtain ⟨x1, x2, x3, x4, rfl, hb⟩ := ap4_ok hb; exact wk_102_0 Q s x1 x2 x3 x4 r1 hb)
/-- LM$Search.begin(LLogicMachine$Clause;)V -/
def wq_86 (x1 : Int) (s : sS) (Q : sQ) : Prop := wq_87 s.1 s.2.2.2 (fun _ m1 => wq_308 39 0 s.1 (hy_u (hy_u (hy_u (hy_u (hy_u (hy_u (hy_u m1 36 10 1) 36 11 0) 36 12 0) 36 13 0) 36 14 0) 36 15 0) 36 16 0) (fun _ m2 => wq_308 40 0 s.1 m2 (fun _ m3 => wq_118 0 x1 (-9) s.1 m3 (fun r4 m4 => wq_102 0 0 0 0 (s.1, s.2.1, s.2.2.1, m4) (fun r5 s5 => Q 0 (s5.1, s5.2.1, s5.2.2.1, hy_u s5.2.2.2 36 6 r5))))))
theorem wc_308_r39_2t (x1 : Int) (s : sS) (R : Int → hy_m → Prop) (h : wq_308 39 x1 s.1 s.2.2.2 R) : we_308 [(5, true, 39), (2, true, x1)] s R := h
theorem wc_308_r40_2t (x1 : Int) (s : sS) (R : Int → hy_m → Prop) (h : wq_308 40 x1 s.1 s.2.2.2 R) : we_308 [(5, true, 40), (2, true, x1)] s R := h
theorem wc_102_r36_2t_2t_3t_2t (x1 : Int) (x2 : Int) (x3 : Int) (x4 : Int) (s : sS) (R : Int → sS → Prop) (h : wq_102 x1 x2 x3 x4 s R) : we_102 [(5, true, 36), (2, true, x1), (2, true, x2), (3, true, x3), (2, true, x4)] s R := h
def cs_86 : List (Nat × Nat × sFS) := [(87, 9, .inl we_87), (102, 3, .inr we_102), (118, 0, .inl we_118), (308, 9, .inl we_308)]
theorem cs_86_ok : kCs dC 5 cs_86 := (kCs_c (Or.inr (Or.inr (Or.inr (Or.inr rfl)))) (we_87_ok.deep (by decide)) (kCs_c (Or.inr (Or.inr (Or.inr (Or.inl rfl)))) (we_102_ok.deep (by decide)) (kCs_c (Or.inl rfl) (we_118_ok.deep (by decide)) (kCs_c (Or.inr (Or.inr (Or.inr (Or.inr rfl)))) (we_308_ok.deep (by decide)) kCs_n))))
def lb_86_0 (s : sS) (Q : sQ) (x1 : Int) : Nat → Option (sL → sS → Prop) := sLb []
set_option maxRecDepth 30000 in
set_option maxHeartbeats 1000000 in
theorem wk_86_0 (Q : sQ) (s : sS) (x1 : Int) (hr : sRg [(0, 5, 36), (1, 3, 0)] [x1]) (h : wq_86 x1 s Q) : kX dC 5 im_m86 9 0 (sCan [(0, 5, 36), (1, 3, 0)] [x1]) [] s Q := by
  unfold wq_86 at h
  refine wz2_ok (cs := cs_86) (wr := []) (lb := lb_86_0 s Q x1) cs_86_ok kLb_n (okL_can rfl hr) (fun Y hY hl => ?_)
  refine hY _ _ _ _ (?_ : Y 1 [(0, 5, true, 36), (1, 3, true, x1)] [(5, true, 36)] s)
  refine hY _ _ _ _ ?_
  refine Exists.intro _ (And.intro (wc_87_r36 _ _ h) (fun r1 m1 h => ?_))
  refine hY _ _ _ _ (hY _ _ _ _ (?_ : Y 6 [(0, 5, true, 36), (1, 3, true, x1)] [(2, true, 1), (5, true, 36)] (s.1, s.2.1, s.2.2.1, m1)))
  refine hY _ _ _ _ ?_
  refine hY _ _ _ _ (hY _ _ _ _ (?_ : Y 11 [(0, 5, true, 36), (1, 3, true, x1)] [(2, true, 0), (5, true, 36)] (s.1, s.2.1, s.2.2.1, hy_u m1 36 10 1)))
  refine hY _ _ _ _ ?_
  refine hY _ _ _ _ (hY _ _ _ _ (?_ : Y 16 [(0, 5, true, 36), (1, 3, true, x1)] [(2, true, 0), (5, true, 36)] (s.1, s.2.1, s.2.2.1, hy_u (hy_u m1 36 10 1) 36 11 0)))
  refine hY _ _ _ _ ?_
  refine hY _ _ _ _ (hY _ _ _ _ (?_ : Y 21 [(0, 5, true, 36), (1, 3, true, x1)] [(2, true, 0), (5, true, 36)] (s.1, s.2.1, s.2.2.1, hy_u (hy_u (hy_u m1 36 10 1) 36 11 0) 36 12 0)))
  refine hY _ _ _ _ ?_
  refine hY _ _ _ _ (hY _ _ _ _ (?_ : Y 26 [(0, 5, true, 36), (1, 3, true, x1)] [(2, true, 0), (5, true, 36)] (s.1, s.2.1, s.2.2.1, hy_u (hy_u (hy_u (hy_u m1 36 10 1) 36 11 0) 36 12 0) 36 13 0)))
  refine hY _ _ _ _ ?_
  refine hY _ _ _ _ (hY _ _ _ _ (?_ : Y 31 [(0, 5, true, 36), (1, 3, true, x1)] [(2, true, 0), (5, true, 36)] (s.1, s.2.1, s.2.2.1, hy_u (hy_u (hy_u (hy_u (hy_u m1 36 10 1) 36 11 0) 36 12 0) 36 13 0) 36 14 0)))
  refine hY _ _ _ _ ?_
  refine hY _ _ _ _ (hY _ _ _ _ (?_ : Y 36 [(0, 5, true, 36), (1, 3, true, x1)] [(2, true, 0), (5, true, 36)] (s.1, s.2.1, s.2.2.1, hy_u (hy_u (hy_u (hy_u (hy_u (hy_u m1 36 10 1) 36 11 0) 36 12 0) 36 13 0) 36 14 0) 36 15 0)))
  refine hY _ _ _ _ ?_
  refine hY _ _ _ _ (hY _ _ _ _ (hY _ _ _ _ (?_ : Y 44 [(0, 5, true, 36), (1, 3, true, x1)] [(2, true, 0), (5, true, 39)] (s.1, s.2.1, s.2.2.1, hy_u (hy_u (hy_u (hy_u (hy_u (hy_u (hy_u m1 36 10 1) 36 11 0) 36 12 0) 36 13 0) 36 14 0) 36 15 0) 36 16 0))))
  refine hY _ _ _ _ ?_
  refine Exists.intro _ (And.intro (wc_308_r39_2t 0 _ _ h) (fun r2 m2 h => ?_))
  refine hY _ _ _ _ (hY _ _ _ _ (hY _ _ _ _ (?_ : Y 52 [(0, 5, true, 36), (1, 3, true, x1)] [(2, true, 0), (5, true, 40)] (s.1, s.2.1, s.2.2.1, m2))))
  refine hY _ _ _ _ ?_
  refine Exists.intro _ (And.intro (wc_308_r40_2t 0 _ _ h) (fun r3 m3 h => ?_))
  refine hY _ _ _ _ (hY _ _ _ _ (hY _ _ _ _ (?_ : Y 60 [(0, 5, true, 36), (1, 3, true, x1)] [(2, true, 0), (5, true, 41)] (s.1, s.2.1, s.2.2.1, m3))))
  refine hY _ _ _ _ (hY _ _ _ _ (?_ : Y 63 [(0, 5, true, 36), (1, 3, true, x1)] [(0, true, (-9)), (3, true, x1), (2, true, 0), (5, true, 41)] (s.1, s.2.1, s.2.2.1, m3)))
  refine hY _ _ _ _ ?_
  refine Exists.intro _ (And.intro (wc_118_r41_2t_3t_0t 0 x1 (-9) _ _ h) (fun r4 m4 h => ?_))
  refine hY _ _ _ _ (hY _ _ _ _ (hY _ _ _ _ (?_ : Y 69 [(0, 5, true, 36), (1, 3, true, x1)] [(5, true, 36), (5, true, 36)] (s.1, s.2.1, s.2.2.1, m4))))
  refine hY _ _ _ _ (hY _ _ _ _ (hY _ _ _ _ (?_ : Y 72 [(0, 5, true, 36), (1, 3, true, x1)] [(3, true, 0), (2, true, 0), (2, true, 0), (5, true, 36), (5, true, 36)] (s.1, s.2.1, s.2.2.1, m4))))
  refine hY _ _ _ _ (?_ : Y 73 [(0, 5, true, 36), (1, 3, true, x1)] [(2, true, 0), (3, true, 0), (2, true, 0), (2, true, 0), (5, true, 36), (5, true, 36)] (s.1, s.2.1, s.2.2.1, m4))
  refine hY _ _ _ _ ?_
  refine Exists.intro _ (And.intro (wc_102_r36_2t_2t_3t_2t 0 0 0 0 _ _ h) (fun r5 s5 h => ?_))
  show Y 76 [(0, 5, true, 36), (1, 3, true, x1)] [(3, true, r5), (5, true, 36)] s5
  refine hY _ _ _ _ ?_
  show Y 79 [(0, 5, true, 36), (1, 3, true, x1)] [] (s5.1, s5.2.1, s5.2.2.1, hy_u s5.2.2.2 36 6 r5)
  refine hY _ _ _ _ ?_
  exact h
def we_86 : sF := sE 2 [(0, 5, 36), (1, 3, 0)] (fun xs s Q => ap1 (fun x1 => wq_86 x1 s Q) xs)
theorem we_86_ok : kS dC 6 86 9 (.inr we_86) := sE_ok (mi := im_m86) rfl rfl rfl (fun Q xs s r1 hb => by obtain ⟨x1, rfl, hb⟩ := ap1_ok hb; exact wk_86_0 Q s x1 r1 hb)
/-- LM.ask()I -/
def wq_13 (s : sS) (Q : sQ) : Prop := wq_69 s.2.2.2 (fun r1 m1 => (r1 = (-9) → ((hy_e s.1 s.2.1 3 9).1 ((s.2.1 : Int)).toNat = some (3, 9) ∧ (wq_39 (s.2.1 : Int) 4 (hy_e s.1 s.2.1 3 9, s.2.1 + 1, s.2.2.1 + 9, hy_z m1 s.2.1) (fun _ s2 => wq_86 (s.2.1 : Int) s2 (fun _ s3 => s3.1.1 ((s.2.1 : Int)).toNat = some (3, 9) ∧ (∃ t4 n4 : Nat, s3.1.1 (s3.2.2.2 (((s.2.1 : Int)).toNat) 4).toNat = some (t4, n4) ∧ 99 ≤ t4 ∧ (Q (n4 : Int) s3))))))) ∧ (r1 ≠ (-9) → (Q (-2) (s.1, s.2.1, s.2.2.1, m1))))
theorem wc_86_r36_3t (x1 : Int) (s : sS) (R : Int → sS → Prop) (h : wq_86 x1 s R) : we_86 [(5, true, 36), (3, true, x1)] s R := h
def cs_13 : List (Nat × Nat × sFS) := [(39, 9, .inr we_39), (69, 0, .inl we_69), (86, 9, .inr we_86)]
theorem cs_13_ok : kCs dC 7 cs_13 := (kCs_c (Or.inr (Or.inr (Or.inr (Or.inr rfl)))) (we_39_ok.deep (by decide)) (kCs_c (Or.inl rfl) (we_69_ok.deep (by decide)) (kCs_c (Or.inr (Or.inr (Or.inr (Or.inr rfl)))) (we_86_ok.deep (by decide)) kCs_n)))
def lb_13_0 (s : sS) (Q : sQ) : Nat → Option (sL → sS → Prop) := sLb []
set_option maxRecDepth 30000 in
set_option maxHeartbeats 1000000 in
theorem wk_13_0 (Q : sQ) (s : sS) (hr : sRg [(0, 5, 1)] []) (h : wq_13 s Q) : kX dC 7 im_m13 0 0 (sCan [(0, 5, 1)] []) [] s Q := by
  unfold wq_13 at h
  refine wz2_ok (cs := cs_13) (wr := []) (lb := lb_13_0 s Q) cs_13_ok kLb_n (okL_can rfl hr) (fun Y hY hl => ?_)
  refine hY _ _ _ _ (hY _ _ _ _ (?_ : Y 4 [(0, 5, true, 1)] [(5, true, 4)] s))
  refine hY _ _ _ _ ?_
  refine Exists.intro _ (And.intro (wc_69_r4 _ _ h) (fun r1 m1 h => ?_))
  refine hY _ _ _ _ (?_ : Y 9 [(0, 5, true, 1)] [(0, true, (-9)), (0, true, r1)] (s.1, s.2.1, s.2.2.1, m1))
  refine hY _ _ _ _ ?_
  refine And.intro (fun hc => ?_) (fun hc => ?_)
  · have h := h.1 hc
    refine hY _ _ _ _ (hY _ _ _ _ (hY _ _ _ _ (?_ : Y 20 [(0, 5, true, 1)] [(5, true, 1), (3, true, (s.2.1 : Int)), (3, true, (s.2.1 : Int))] (hy_e s.1 s.2.1 3 9, s.2.1 + 1, s.2.2.1 + 9, hy_z m1 s.2.1))))
    refine hY _ _ _ _ (?_ : Y 23 [(0, 5, true, 1)] [(5, true, 4), (3, true, (s.2.1 : Int)), (3, true, (s.2.1 : Int))] (hy_e s.1 s.2.1 3 9, s.2.1 + 1, s.2.2.1 + 9, hy_z m1 s.2.1))
    refine hY _ _ _ _ ?_
    refine (And.intro h.1 ?_)
    refine Exists.intro _ (And.intro (wc_39_3t_r4 (s.2.1 : Int) _ _ h.2) (fun r2 s2 h => ?_))
    refine hY _ _ _ _ (hY _ _ _ _ (hY _ _ _ _ (?_ : Y 31 [(1, 3, true, (s.2.1 : Int)), (0, 5, true, 1)] [(5, true, 36)] s2)))
    refine hY _ _ _ _ (?_ : Y 32 [(1, 3, true, (s.2.1 : Int)), (0, 5, true, 1)] [(3, true, (s.2.1 : Int)), (5, true, 36)] s2)
    refine hY _ _ _ _ ?_
    refine Exists.intro _ (And.intro (wc_86_r36_3t (s.2.1 : Int) _ _ h) (fun r3 s3 h => ?_))
    refine hY _ _ _ _ (?_ : Y 36 [(1, 3, true, (s.2.1 : Int)), (0, 5, true, 1)] [(3, true, (s.2.1 : Int))] s3)
    refine hY _ _ _ _ ?_
    refine (And.intro h.1 ?_)
    show Y 39 [(1, 3, true, (s.2.1 : Int)), (0, 5, true, 1)] [(3, true, s3.2.2.2 (((s.2.1 : Int)).toNat) 4)] s3
    refine hY _ _ _ _ ?_
    obtain ⟨t4, n4, h⟩ := h.2
    refine Exists.intro t4 (Exists.intro n4 (And.intro h.1 (And.intro h.2.1 ?_)))
    show Y 40 [(1, 3, true, (s.2.1 : Int)), (0, 5, true, 1)] [(0, true, (n4 : Int))] s3
    refine hY _ _ _ _ ?_
    exact h.2.2
  · have h := h.2 hc
    refine hY _ _ _ _ (?_ : Y 14 [(0, 5, true, 1)] [(0, true, (-2))] (s.1, s.2.1, s.2.2.1, m1))
    refine hY _ _ _ _ ?_
    exact h
def we_13 : sF := sE 2 [(0, 5, 1)] (fun xs s Q => ap0 (wq_13 s Q) xs)
theorem we_13_ok : kS dC 8 13 0 (.inr we_13) := sE_ok (mi := im_m13) rfl rfl rfl (fun Q xs s r1 hb => by obtain ⟨rfl, hb⟩ := ap0_ok hb; exact wk_13_0 Q s r1 hb)
/-- LM$Search.choiceAt(I)LLogicMachine$Choice; -/
def wq_110 (x1 : Int) (m : hy_m) (Q : Int → hy_m → Prop) : Prop := (x1 < 0 → (Q 0 m)) ∧ (0 ≤ x1 → (hy_r 0 (((m 36 8) - 1) - x1) ∧ (((((m 36 8) - 1) - x1) < 0 → (Q 0 m)) ∧ (0 ≤ (((m 36 8) - 1) - x1) → (hy_r 0 (((m 36 8) - 1) - x1) ∧ (((((m 36 8) - 1) - x1) < 301 → (0 ≤ (((m 36 8) - 1) - x1) ∧ (((m 36 8) - 1) - x1) < 301 ∧ (Q (m 38 (((m 36 8) - 1) - x1)) m))) ∧ (301 ≤ (((m 36 8) - 1) - x1) → (Q 0 m))))))))
def cs_110 : List (Nat × Nat × sFS) := []
theorem cs_110_ok : kCs dC 0 cs_110 := kCs_n
def lb_110_0 (s : sS) (Q : sQ) (R : Int → hy_m → Prop) (x1 : Int) : Nat → Option (sL → sS → Prop) := sLb []
set_option maxRecDepth 30000 in
set_option maxHeartbeats 1000000 in
theorem wk_110_0 (Q : sQ) (R : Int → hy_m → Prop) (s : sS) (x1 : Int) (hQ : ∀ x m', R x m' → Q x (sM s m')) (hr : sRg [(0, 5, 36), (1, 0, 0)] [x1]) (h : wq_110 x1 s.2.2.2 R) : kX dC 0 im_m110 3 0 (sCan [(0, 5, 36), (1, 0, 0)] [x1]) [] s Q := by
  unfold wq_110 at h
  refine wz2_ok (cs := cs_110) (wr := []) (lb := lb_110_0 s Q R x1) cs_110_ok kLb_n (okL_can rfl hr) (fun Y hY hl => ?_)
  refine hY _ _ _ _ (hY _ _ _ _ (hY _ _ _ _ (?_ : Y 5 [(0, 5, true, 36), (1, 0, true, x1)] [(2, true, 1), (0, true, s.2.2.2 36 8)] s)))
  refine hY _ _ _ _ (hY _ _ _ _ (hY _ _ _ _ (?_ : Y 8 [(0, 5, true, 36), (1, 0, true, x1)] [(0, false, ((s.2.2.2 36 8) - 1) - x1)] s)))
  refine hY _ _ _ _ (hY _ _ _ _ (?_ : Y 10 [(2, 0, false, ((s.2.2.2 36 8) - 1) - x1), (0, 5, true, 36), (1, 0, true, x1)] [(0, true, x1)] s))
  refine hY _ _ _ _ ?_
  refine And.intro (fun hc => ?_) (fun hc => ?_)
  · have h := h.1 hc
    refine hY _ _ _ _ (hY _ _ _ _ (?_ : Y 36 [(2, 0, false, ((s.2.2.2 36 8) - 1) - x1), (0, 5, true, 36), (1, 0, true, x1)] [(3, true, 0)] s))
    refine hY _ _ _ _ ?_
    exact hQ 0 s.2.2.2 h
  · have h := h.2 hc
    refine hY _ _ _ _ (?_ : Y 14 [(2, 0, false, ((s.2.2.2 36 8) - 1) - x1), (0, 5, true, 36), (1, 0, true, x1)] [(0, false, ((s.2.2.2 36 8) - 1) - x1)] s)
    refine hY _ _ _ _ ?_
    refine And.intro h.1 ?_
    refine And.intro (fun hc => ?_) (fun hc => ?_)
    · have h := h.2.1 hc
      refine hY _ _ _ _ (hY _ _ _ _ (?_ : Y 36 [(2, 0, false, ((s.2.2.2 36 8) - 1) - x1), (0, 5, true, 36), (1, 0, true, x1)] [(3, true, 0)] s))
      refine hY _ _ _ _ ?_
      exact hQ 0 s.2.2.2 h
    · have h := h.2.2 hc
      refine hY _ _ _ _ (hY _ _ _ _ (hY _ _ _ _ (?_ : Y 22 [(2, 0, false, ((s.2.2.2 36 8) - 1) - x1), (0, 5, true, 36), (1, 0, true, x1)] [(5, true, 38), (0, false, ((s.2.2.2 36 8) - 1) - x1)] s)))
      refine hY _ _ _ _ (?_ : Y 23 [(2, 0, false, ((s.2.2.2 36 8) - 1) - x1), (0, 5, true, 36), (1, 0, true, x1)] [(0, true, 301), (0, false, ((s.2.2.2 36 8) - 1) - x1)] s)
      refine hY _ _ _ _ ?_
      refine And.intro h.1 ?_
      refine And.intro (fun hc => ?_) (fun hc => ?_)
      · have h := h.2.1 hc
        refine hY _ _ _ _ (hY _ _ _ _ (hY _ _ _ _ (?_ : Y 35 [(2, 0, false, ((s.2.2.2 36 8) - 1) - x1), (0, 5, true, 36), (1, 0, true, x1)] [(0, false, ((s.2.2.2 36 8) - 1) - x1), (5, true, 38)] s)))
        refine hY _ _ _ _ ?_
        refine (And.intro h.1 (And.intro h.2.1 ?_))
        show Y 36 [(2, 0, false, ((s.2.2.2 36 8) - 1) - x1), (0, 5, true, 36), (1, 0, true, x1)] [(3, true, s.2.2.2 38 (((s.2.2.2 36 8) - 1) - x1))] s
        refine hY _ _ _ _ ?_
        exact hQ (s.2.2.2 38 (((s.2.2.2 36 8) - 1) - x1)) s.2.2.2 h.2.2
      · have h := h.2.2 hc
        refine hY _ _ _ _ (hY _ _ _ _ (?_ : Y 36 [(2, 0, false, ((s.2.2.2 36 8) - 1) - x1), (0, 5, true, 36), (1, 0, true, x1)] [(3, true, 0)] s))
        refine hY _ _ _ _ ?_
        exact hQ 0 s.2.2.2 h
def we_110 : sFf := sEf 3 [(0, 5, 36), (1, 0, 0)] (fun xs s Q => ap1 (fun x1 => wq_110 x1 s.2.2.2 Q) xs)
theorem we_110_ok : kS dC 1 110 3 (.inl we_110) := sEf_ok (mi := im_m110) rfl rfl rfl (fun R xs s r1 hb => by obtain ⟨x1, rfl, hb⟩ := ap1_ok hb; exact wk_110_0 _ R s x1 (fun x m' hx => ⟨m', rfl, hx⟩) r1 hb)
/-- LM$Store.goBack(II)V -/
def wf_121_0 (x1 : Int) (x2 : Int) (T : hy_T) (Q : Int → hy_m → Prop) (P0 : hy_m → Prop) (m : hy_m) : Prop := ((m 41 6) ≤ x2 → (Q 0 (hy_u m 41 3 x1))) ∧ (x2 < (m 41 6) → (((m 41 6) ≤ 0 → (Q 0 (hy_u m 41 3 x1))) ∧ (0 < (m 41 6) → (hy_r 0 ((m 41 6) - 1) ∧ (∃ n1 : Nat, T.1 (m 41 5).toNat = some (100, n1) ∧ (0 ≤ ((m 41 6) - 1) ∧ ((m 41 6) - 1) < (n1 : Int) ∧ (∃ n2 : Nat, T.1 (m 41 4).toNat = some (100, n2) ∧ (0 ≤ ((hy_u m 41 6 ((m 41 6) - 1)) ((m 41 5).toNat) ((m 41 6) - 1)) ∧ ((hy_u m 41 6 ((m 41 6) - 1)) ((m 41 5).toNat) ((m 41 6) - 1)) < (n2 : Int) ∧ (P0 (hy_u (hy_u m 41 6 ((m 41 6) - 1)) ((m 41 4).toNat) ((hy_u m 41 6 ((m 41 6) - 1)) ((m 41 5).toNat) ((m 41 6) - 1)) (-1)))))))))))
def wq_121 (x1 : Int) (x2 : Int) (T : hy_T) (m : hy_m) (Q : Int → hy_m → Prop) : Prop := wL0 hy_m (wf_121_0 x1 x2 T Q) m
def cs_121 : List (Nat × Nat × sFS) := []
theorem cs_121_ok : kCs dC 0 cs_121 := kCs_n
def lb_121_0 (s : sS) (Q : sQ) (P0 : hy_m → Prop) (R : Int → hy_m → Prop) (x1 : Int) (x2 : Int) : Nat → Option (sL → sS → Prop) := sLb [(0, fun lv t => sG [(0, 5, 41), (1, 0, 0), (2, 0, 0)] lv (ap2 (fun w1 w2 => ∃ m', t = sM s m' ∧ w1 = x1 ∧ w2 = x2 ∧ P0 m')))]
set_option maxRecDepth 30000 in
set_option maxHeartbeats 1000000 in
theorem wj_121_0 (Q : sQ) (R : Int → hy_m → Prop) (s : sS) (P0 : hy_m → Prop) (x1 : Int) (x2 : Int) (m : hy_m) (hP0 : ∀ (m : hy_m), P0 m → sRg [(0, 5, 41), (1, 0, 0), (2, 0, 0)] [x1, x2] → kX dC 0 im_m121 9 0 (sCan [(0, 5, 41), (1, 0, 0), (2, 0, 0)] [x1, x2]) [] (sM s m) Q) (hQ : ∀ x m', R x m' → Q x (sM s m')) (hr : sRg [(0, 5, 41), (1, 0, 0), (2, 0, 0)] [x1, x2]) (h : wf_121_0 x1 x2 s.1 R P0 m) : kX dC 0 im_m121 9 0 (sCan [(0, 5, 41), (1, 0, 0), (2, 0, 0)] [x1, x2]) [] (sM s m) Q := by
  unfold wf_121_0 at h
  refine wz2_ok (cs := cs_121) (wr := []) (lb := lb_121_0 s Q P0 R x1 x2) cs_121_ok (kLb_c (kLab (Bd := fun xs t => ap2 (fun w1 w2 => ∃ m', t = sM s m' ∧ w1 = x1 ∧ w2 = x2 ∧ P0 m') xs) rfl (fun xs t r1 r2 hb => by obtain ⟨w1, w2, rfl, hb⟩ := ap2_ok hb; obtain ⟨m', rfl, rfl, rfl, hx⟩ := hb; exact hP0 m' hx r1)) kLb_n) (okL_can rfl hr) (fun Y hY hl => ?_)
  have l0 := hl 0 _ rfl
  refine hY _ _ _ _ (hY _ _ _ _ (hY _ _ _ _ (?_ : Y 5 [(0, 5, true, 41), (1, 0, true, x1), (2, 0, true, x2)] [(0, true, x2), (0, true, m 41 6)] (sM s m))))
  refine hY _ _ _ _ ?_
  refine And.intro (fun hc => ?_) (fun hc => ?_)
  · have h := h.1 hc
    refine hY _ _ _ _ (hY _ _ _ _ (?_ : Y 45 [(0, 5, true, 41), (1, 0, true, x1), (2, 0, true, x2)] [(0, true, x1), (5, true, 41)] (sM s m)))
    refine hY _ _ _ _ ?_
    show Y 48 [(0, 5, true, 41), (1, 0, true, x1), (2, 0, true, x2)] [] (sM s (hy_u m 41 3 x1))
    refine hY _ _ _ _ ?_
    exact hQ 0 (hy_u m 41 3 x1) h
  · have h := h.2 hc
    refine hY _ _ _ _ (hY _ _ _ _ (?_ : Y 12 [(0, 5, true, 41), (1, 0, true, x1), (2, 0, true, x2)] [(0, true, m 41 6)] (sM s m)))
    refine hY _ _ _ _ ?_
    refine And.intro (fun hc => ?_) (fun hc => ?_)
    · have h := h.1 hc
      refine hY _ _ _ _ (hY _ _ _ _ (?_ : Y 45 [(0, 5, true, 41), (1, 0, true, x1), (2, 0, true, x2)] [(0, true, x1), (5, true, 41)] (sM s m)))
      refine hY _ _ _ _ ?_
      show Y 48 [(0, 5, true, 41), (1, 0, true, x1), (2, 0, true, x2)] [] (sM s (hy_u m 41 3 x1))
      refine hY _ _ _ _ ?_
      exact hQ 0 (hy_u m 41 3 x1) h
    · have h := h.2 hc
      refine hY _ _ _ _ (hY _ _ _ _ (hY _ _ _ _ (?_ : Y 20 [(0, 5, true, 41), (1, 0, true, x1), (2, 0, true, x2)] [(0, true, m 41 6), (5, true, 41)] (sM s m))))
      refine hY _ _ _ _ (hY _ _ _ _ (?_ : Y 22 [(0, 5, true, 41), (1, 0, true, x1), (2, 0, true, x2)] [(0, false, (m 41 6) - 1), (5, true, 41)] (sM s m)))
      refine hY _ _ _ _ ?_
      refine And.intro h.1 ?_
      refine hY _ _ _ _ (hY _ _ _ _ (hY _ _ _ _ (?_ : Y 30 [(0, 5, true, 41), (1, 0, true, x1), (2, 0, true, x2)] [(5, true, 41), (3, true, m 41 4)] (sM s (hy_u m 41 6 ((m 41 6) - 1))))))
      refine hY _ _ _ _ (hY _ _ _ _ (hY _ _ _ _ (?_ : Y 37 [(0, 5, true, 41), (1, 0, true, x1), (2, 0, true, x2)] [(0, true, (m 41 6) - 1), (3, true, m 41 5), (3, true, m 41 4)] (sM s (hy_u m 41 6 ((m 41 6) - 1))))))
      refine hY _ _ _ _ ?_
      obtain ⟨n1, h⟩ := h.2
      refine Exists.intro n1 (And.intro h.1 ?_)
      refine (And.intro h.2.1 (And.intro h.2.2.1 ?_))
      refine hY _ _ _ _ (?_ : Y 39 [(0, 5, true, 41), (1, 0, true, x1), (2, 0, true, x2)] [(0, true, (-1)), (0, true, (hy_u m 41 6 ((m 41 6) - 1)) ((m 41 5).toNat) ((m 41 6) - 1)), (3, true, m 41 4)] (sM s (hy_u m 41 6 ((m 41 6) - 1))))
      refine hY _ _ _ _ ?_
      obtain ⟨n2, h⟩ := h.2.2.2
      refine Exists.intro n2 (And.intro h.1 ?_)
      refine (And.intro h.2.1 (And.intro h.2.2.1 ?_))
      refine hY _ _ _ _ (?_ : Y 0 [(0, 5, true, 41), (1, 0, true, x1), (2, 0, true, x2)] [] (sM s (hy_u (hy_u m 41 6 ((m 41 6) - 1)) ((m 41 4).toNat) ((hy_u m 41 6 ((m 41 6) - 1)) ((m 41 5).toNat) ((m 41 6) - 1)) (-1))))
      refine l0 _ _ ?_
      exact (Exists.intro (hy_u (hy_u m 41 6 ((m 41 6) - 1)) ((m 41 4).toNat) ((hy_u m 41 6 ((m 41 6) - 1)) ((m 41 5).toNat) ((m 41 6) - 1)) (-1)) (And.intro rfl (And.intro rfl (And.intro rfl h.2.2.2))))
theorem wk_121_0 (Q : sQ) (R : Int → hy_m → Prop) (s : sS) (x1 : Int) (x2 : Int) (hQ : ∀ x m', R x m' → Q x (sM s m')) (hr : sRg [(0, 5, 41), (1, 0, 0), (2, 0, 0)] [x1, x2]) (h : wq_121 x1 x2 s.1 s.2.2.2 R) : kX dC 0 im_m121 9 0 (sCan [(0, 5, 41), (1, 0, 0), (2, 0, 0)] [x1, x2]) [] s Q :=
  h (fun m => sRg [(0, 5, 41), (1, 0, 0), (2, 0, 0)] [x1, x2] → kX dC 0 im_m121 9 0 (sCan [(0, 5, 41), (1, 0, 0), (2, 0, 0)] [x1, x2]) [] (sM s m) Q) (fun m h hr => wj_121_0 Q R s (fun m => sRg [(0, 5, 41), (1, 0, 0), (2, 0, 0)] [x1, x2] → kX dC 0 im_m121 9 0 (sCan [(0, 5, 41), (1, 0, 0), (2, 0, 0)] [x1, x2]) [] (sM s m) Q) x1 x2 m  (fun _ hp hr => hp hr) hQ hr h) hr
def we_121 : sFf := sEf 3 [(0, 5, 41), (1, 0, 0), (2, 0, 0)] (fun xs s Q => ap2 (fun x1 x2 => wq_121 x1 x2 s.1 s.2.2.2 Q) xs)
theorem we_121_ok : kS dC 1 121 9 (.inl we_121) := sEf_ok (mi := im_m121) rfl rfl rfl (fun R xs s r1 hb => by obtain ⟨x1, x2, rfl, hb⟩ := ap2_ok hb; exact wk_121_0 _ R s x1 x2 (fun x m' hx => ⟨m', rfl, hx⟩) r1 hb)
/-- LM$Search.keepChoices(I)V -/
def wq_99 (x1 : Int) (T : hy_T) (m : hy_m) (Q : Int → hy_m → Prop) : Prop := wq_110 0 (hy_u m 36 8 x1) (fun r1 m1 => (r1 = 0 → (Q 0 (hy_u m1 41 7 0))) ∧ (r1 ≠ 0 → (T.1 (r1).toNat = some (2, 6) ∧ (Q 0 (hy_u m1 41 7 (m1 ((r1).toNat) 3))))))
theorem wc_110_r36_2t (x1 : Int) (s : sS) (R : Int → hy_m → Prop) (h : wq_110 x1 s.2.2.2 R) : we_110 [(5, true, 36), (2, true, x1)] s R := h
def cs_99 : List (Nat × Nat × sFS) := [(110, 3, .inl we_110)]
theorem cs_99_ok : kCs dC 1 cs_99 := (kCs_c (Or.inr (Or.inr (Or.inr (Or.inl rfl)))) (we_110_ok.deep (by decide)) kCs_n)
def lb_99_0 (s : sS) (Q : sQ) (R : Int → hy_m → Prop) (x1 : Int) : Nat → Option (sL → sS → Prop) := sLb []
set_option maxRecDepth 30000 in
set_option maxHeartbeats 1000000 in
theorem wk_99_0 (Q : sQ) (R : Int → hy_m → Prop) (s : sS) (x1 : Int) (hQ : ∀ x m', R x m' → Q x (sM s m')) (hr : sRg [(0, 5, 36), (1, 0, 0)] [x1]) (h : wq_99 x1 s.1 s.2.2.2 R) : kX dC 1 im_m99 9 0 (sCan [(0, 5, 36), (1, 0, 0)] [x1]) [] s Q := by
  unfold wq_99 at h
  refine wz2_ok (cs := cs_99) (wr := []) (lb := lb_99_0 s Q R x1) cs_99_ok kLb_n (okL_can rfl hr) (fun Y hY hl => ?_)
  refine hY _ _ _ _ (hY _ _ _ _ (?_ : Y 2 [(0, 5, true, 36), (1, 0, true, x1)] [(0, true, x1), (5, true, 36)] s))
  refine hY _ _ _ _ ?_
  refine hY _ _ _ _ (hY _ _ _ _ (?_ : Y 7 [(0, 5, true, 36), (1, 0, true, x1)] [(2, true, 0), (5, true, 36)] (sM s (hy_u s.2.2.2 36 8 x1))))
  refine hY _ _ _ _ ?_
  refine Exists.intro _ (And.intro (wc_110_r36_2t 0 _ _ h) (fun r1 m1 h => ?_))
  refine hY _ _ _ _ (hY _ _ _ _ (hY _ _ _ _ (?_ : Y 15 [(2, 3, true, r1), (0, 5, true, 36), (1, 0, true, x1)] [(5, true, 41)] (sM s m1))))
  refine hY _ _ _ _ (?_ : Y 16 [(2, 3, true, r1), (0, 5, true, 36), (1, 0, true, x1)] [(3, true, r1), (5, true, 41)] (sM s m1))
  refine hY _ _ _ _ ?_
  refine And.intro (fun hc => ?_) (fun hc => ?_)
  · have h := h.1 hc
    refine hY _ _ _ _ (hY _ _ _ _ (?_ : Y 27 [(2, 3, true, r1), (0, 5, true, 36), (1, 0, true, x1)] [(2, true, 0), (5, true, 41)] (sM s m1)))
    refine hY _ _ _ _ ?_
    show Y 30 [(2, 3, true, r1), (0, 5, true, 36), (1, 0, true, x1)] [] (sM s (hy_u m1 41 7 0))
    refine hY _ _ _ _ ?_
    exact hQ 0 (hy_u m1 41 7 0) h
  · have h := h.2 hc
    refine hY _ _ _ _ (?_ : Y 24 [(2, 3, true, r1), (0, 5, true, 36), (1, 0, true, x1)] [(3, true, r1), (5, true, 41)] (sM s m1))
    refine hY _ _ _ _ ?_
    refine (And.intro h.1 ?_)
    show Y 27 [(2, 3, true, r1), (0, 5, true, 36), (1, 0, true, x1)] [(0, true, m1 ((r1).toNat) 3), (5, true, 41)] (sM s m1)
    refine hY _ _ _ _ ?_
    show Y 30 [(2, 3, true, r1), (0, 5, true, 36), (1, 0, true, x1)] [] (sM s (hy_u m1 41 7 (m1 ((r1).toNat) 3)))
    refine hY _ _ _ _ ?_
    exact hQ 0 (hy_u m1 41 7 (m1 ((r1).toNat) 3)) h.2
def we_99 : sFf := sEf 3 [(0, 5, 36), (1, 0, 0)] (fun xs s Q => ap1 (fun x1 => wq_99 x1 s.1 s.2.2.2 Q) xs)
theorem we_99_ok : kS dC 2 99 9 (.inl we_99) := sEf_ok (mi := im_m99) rfl rfl rfl (fun R xs s r1 hb => by obtain ⟨x1, rfl, hb⟩ := ap1_ok hb; exact wk_99_0 _ R s x1 (fun x m' hx => ⟨m', rfl, hx⟩) r1 hb)
/-- LM$Choice.isBarrier()Z -/
def wq_38 (x0 : Int) (T : hy_T) (m : hy_m) (Q : Int → hy_m → Prop) : Prop := T.1 (x0).toNat = some (2, 6) ∧ (((m ((x0).toNat) 1) ≠ (-9) → (Q 0 m)) ∧ ((m ((x0).toNat) 1) = (-9) → (Q 1 m)))
def cs_38 : List (Nat × Nat × sFS) := []
theorem cs_38_ok : kCs dC 0 cs_38 := kCs_n
def lb_38_0 (s : sS) (Q : sQ) (R : Int → hy_m → Prop) (x0 : Int) : Nat → Option (sL → sS → Prop) := sLb []
set_option maxRecDepth 30000 in
set_option maxHeartbeats 1000000 in
theorem wk_38_0 (Q : sQ) (R : Int → hy_m → Prop) (s : sS) (x0 : Int) (hQ : ∀ x m', R x m' → Q x (sM s m')) (hr : sRg [(0, 3, 0)] [x0]) (h : wq_38 x0 s.1 s.2.2.2 R) : kX dC 0 im_m38 2 0 (sCan [(0, 3, 0)] [x0]) [] s Q := by
  unfold wq_38 at h
  refine wz2_ok (cs := cs_38) (wr := []) (lb := lb_38_0 s Q R x0) cs_38_ok kLb_n (okL_can rfl hr) (fun Y hY hl => ?_)
  refine hY _ _ _ _ (?_ : Y 1 [(0, 3, true, x0)] [(3, true, x0)] s)
  refine hY _ _ _ _ ?_
  refine (And.intro h.1 ?_)
  refine hY _ _ _ _ (?_ : Y 6 [(0, 3, true, x0)] [(0, true, (-9)), (0, true, s.2.2.2 ((x0).toNat) 1)] s)
  refine hY _ _ _ _ ?_
  refine And.intro (fun hc => ?_) (fun hc => ?_)
  · have h := h.2.1 hc
    refine hY _ _ _ _ (?_ : Y 14 [(0, 3, true, x0)] [(2, true, 0)] s)
    refine hY _ _ _ _ ?_
    exact hQ 0 s.2.2.2 h
  · have h := h.2.2 hc
    refine hY _ _ _ _ (hY _ _ _ _ (?_ : Y 14 [(0, 3, true, x0)] [(2, true, 1)] s))
    refine hY _ _ _ _ ?_
    exact hQ 1 s.2.2.2 h
def we_38 : sFf := sEf 1 [(0, 3, 0)] (fun xs s Q => ap1 (fun x0 => wq_38 x0 s.1 s.2.2.2 Q) xs)
theorem we_38_ok : kS dC 1 38 2 (.inl we_38) := sEf_ok (mi := im_m38) rfl rfl rfl (fun R xs s r1 hb => by obtain ⟨x0, rfl, hb⟩ := ap1_ok hb; exact wk_38_0 _ R s x0 (fun x m' hx => ⟨m', rfl, hx⟩) r1 hb)
/-- LM$Store.capacity()I -/
def wq_117 (T : hy_T) (m : hy_m) (Q : Int → hy_m → Prop) : Prop := ∃ t1 n1 : Nat, T.1 (m 41 1).toNat = some (t1, n1) ∧ 99 ≤ t1 ∧ (Q (n1 : Int) m)
def cs_117 : List (Nat × Nat × sFS) := []
theorem cs_117_ok : kCs dC 0 cs_117 := kCs_n
def lb_117_0 (s : sS) (Q : sQ) (R : Int → hy_m → Prop) : Nat → Option (sL → sS → Prop) := sLb []
set_option maxRecDepth 30000 in
set_option maxHeartbeats 1000000 in
theorem wk_117_0 (Q : sQ) (R : Int → hy_m → Prop) (s : sS) (hQ : ∀ x m', R x m' → Q x (sM s m')) (hr : sRg [(0, 5, 41)] []) (h : wq_117 s.1 s.2.2.2 R) : kX dC 0 im_m117 0 0 (sCan [(0, 5, 41)] []) [] s Q := by
  unfold wq_117 at h
  refine wz2_ok (cs := cs_117) (wr := []) (lb := lb_117_0 s Q R) cs_117_ok kLb_n (okL_can rfl hr) (fun Y hY hl => ?_)
  refine hY _ _ _ _ (hY _ _ _ _ (?_ : Y 4 [(0, 5, true, 41)] [(3, true, s.2.2.2 41 1)] s))
  refine hY _ _ _ _ ?_
  obtain ⟨t1, n1, h⟩ := h
  refine Exists.intro t1 (Exists.intro n1 (And.intro h.1 (And.intro h.2.1 ?_)))
  show Y 5 [(0, 5, true, 41)] [(0, true, (n1 : Int))] s
  refine hY _ _ _ _ ?_
  exact hQ (n1 : Int) s.2.2.2 h.2.2
def we_117 : sFf := sEf 1 [(0, 5, 41)] (fun xs s Q => ap0 (wq_117 s.1 s.2.2.2 Q) xs)
theorem we_117_ok : kS dC 1 117 0 (.inl we_117) := sEf_ok (mi := im_m117) rfl rfl rfl (fun R xs s r1 hb => by obtain ⟨rfl, hb⟩ := ap0_ok hb; exact wk_117_0 _ R s (fun x m' hx => ⟨m', rfl, hx⟩) r1 hb)
/-- LM$Store.enter(LLogicMachine$Clause;I)I -/
def wq_119 (x1 : Int) (x2 : Int) (T : hy_T) (m : hy_m) (Q : Int → hy_m → Prop) : Prop := hy_r 0 ((m 41 3) + 1) ∧ (hy_r 0 (((m 41 3) + 1) - 1) ∧ (wq_118 (((m 41 3) + 1) - 1) x1 x2 T (hy_u m 41 3 ((m 41 3) + 1)) (fun r1 m1 => Q r1 m1)))
theorem wc_118_r41_0f_3t_0t (x1 : Int) (x2 : Int) (x3 : Int) (s : sS) (R : Int → hy_m → Prop) (h : hy_r 0 x1 ∧ wq_118 x1 x2 x3 s.1 s.2.2.2 R) : we_118 [(5, true, 41), (0, false, x1), (3, true, x2), (0, true, x3)] s R := h
def cs_119 : List (Nat × Nat × sFS) := [(118, 0, .inl we_118)]
theorem cs_119_ok : kCs dC 3 cs_119 := (kCs_c (Or.inl rfl) (we_118_ok.deep (by decide)) kCs_n)
def lb_119_0 (s : sS) (Q : sQ) (R : Int → hy_m → Prop) (x1 : Int) (x2 : Int) : Nat → Option (sL → sS → Prop) := sLb []
set_option maxRecDepth 30000 in
set_option maxHeartbeats 1000000 in
theorem wk_119_0 (Q : sQ) (R : Int → hy_m → Prop) (s : sS) (x1 : Int) (x2 : Int) (hQ : ∀ x m', R x m' → Q x (sM s m')) (hr : sRg [(0, 5, 41), (1, 3, 0), (2, 0, 0)] [x1, x2]) (h : wq_119 x1 x2 s.1 s.2.2.2 R) : kX dC 3 im_m119 0 0 (sCan [(0, 5, 41), (1, 3, 0), (2, 0, 0)] [x1, x2]) [] s Q := by
  unfold wq_119 at h
  refine wz2_ok (cs := cs_119) (wr := []) (lb := lb_119_0 s Q R x1 x2) cs_119_ok kLb_n (okL_can rfl hr) (fun Y hY hl => ?_)
  refine hY _ _ _ _ (hY _ _ _ _ (hY _ _ _ _ (?_ : Y 5 [(0, 5, true, 41), (1, 3, true, x1), (2, 0, true, x2)] [(0, true, s.2.2.2 41 3), (5, true, 41)] s)))
  refine hY _ _ _ _ (hY _ _ _ _ (?_ : Y 7 [(0, 5, true, 41), (1, 3, true, x1), (2, 0, true, x2)] [(0, false, (s.2.2.2 41 3) + 1), (5, true, 41)] s))
  refine hY _ _ _ _ ?_
  refine And.intro h.1 ?_
  refine hY _ _ _ _ (hY _ _ _ _ (hY _ _ _ _ (?_ : Y 15 [(0, 5, true, 41), (1, 3, true, x1), (2, 0, true, x2)] [(0, true, (s.2.2.2 41 3) + 1), (5, true, 41)] (sM s (hy_u s.2.2.2 41 3 ((s.2.2.2 41 3) + 1))))))
  refine hY _ _ _ _ (hY _ _ _ _ (hY _ _ _ _ (?_ : Y 18 [(0, 5, true, 41), (1, 3, true, x1), (2, 0, true, x2)] [(3, true, x1), (0, false, ((s.2.2.2 41 3) + 1) - 1), (5, true, 41)] (sM s (hy_u s.2.2.2 41 3 ((s.2.2.2 41 3) + 1))))))
  refine hY _ _ _ _ (?_ : Y 19 [(0, 5, true, 41), (1, 3, true, x1), (2, 0, true, x2)] [(0, true, x2), (3, true, x1), (0, false, ((s.2.2.2 41 3) + 1) - 1), (5, true, 41)] (sM s (hy_u s.2.2.2 41 3 ((s.2.2.2 41 3) + 1))))
  refine hY _ _ _ _ ?_
  refine Exists.intro _ (And.intro (wc_118_r41_0f_3t_0t (((s.2.2.2 41 3) + 1) - 1) x1 x2 _ _ h.2) (fun r1 m1 h => ?_))
  show Y 22 [(0, 5, true, 41), (1, 3, true, x1), (2, 0, true, x2)] [(0, true, r1)] (sM s m1)
  refine hY _ _ _ _ ?_
  exact hQ r1 m1 h
def we_119 : sFf := sEf 3 [(0, 5, 41), (1, 3, 0), (2, 0, 0)] (fun xs s Q => ap2 (fun x1 x2 => wq_119 x1 x2 s.1 s.2.2.2 Q) xs)
theorem we_119_ok : kS dC 4 119 0 (.inl we_119) := sEf_ok (mi := im_m119) rfl rfl rfl (fun R xs s r1 hb => by obtain ⟨x1, x2, rfl, hb⟩ := ap2_ok hb; exact wk_119_0 _ R s x1 x2 (fun x m' hx => ⟨m', rfl, hx⟩) r1 hb)
/-- LM$Unifier.rootOf(I)I -/
def wf_150_11 (T : hy_T) (Q : Int → hy_m → Prop) (P11 : Int → Int → hy_m → Prop) (x2 : Int) (x3 : Int) (m : hy_m) : Prop := ∃ t1 n1 : Nat, T.1 (m 47 1).toNat = some (t1, n1) ∧ 99 ≤ t1 ∧ (((n1 : Int) ≤ x3 → (Q x2 m)) ∧ (x3 < (n1 : Int) → ((x2 < 0 → (Q x2 m)) ∧ (0 ≤ x2 → (∃ t2 n2 : Nat, T.1 (m 47 1).toNat = some (t2, n2) ∧ 99 ≤ t2 ∧ (((n2 : Int) ≤ x2 → (Q x2 m)) ∧ (x2 < (n2 : Int) → (∃ n3 : Nat, T.1 (m 47 1).toNat = some (100, n3) ∧ (0 ≤ x2 ∧ x2 < (n3 : Int) ∧ (((m ((m 47 1).toNat) x2) ≠ 0 → (∃ n4 : Nat, T.1 (m 47 1).toNat = some (100, n4) ∧ (0 ≤ x2 ∧ x2 < (n4 : Int) ∧ (hy_r 0 (x3 + 1) ∧ (P11 (m ((m 47 1).toNat) x2) (x3 + 1) m))))) ∧ ((m ((m 47 1).toNat) x2) = 0 → (Q x2 m))))))))))))
def wq_150_11 (x2 : Int) (x3 : Int) (T : hy_T) (m : hy_m) (Q : Int → hy_m → Prop) : Prop := wL2 hy_m (wf_150_11 T Q) x2 x3 m
def wq_150 (x1 : Int) (T : hy_T) (m : hy_m) (Q : Int → hy_m → Prop) : Prop := wq_124 x1 T m (fun r1 m1 => wq_150_11 r1 0 T m1 Q)
def cs_150 : List (Nat × Nat × sFS) := [(124, 0, .inl we_124)]
theorem cs_150_ok : kCs dC 1 cs_150 := (kCs_c (Or.inl rfl) (we_124_ok.deep (by decide)) kCs_n)
def lb_150_11 (s : sS) (Q : sQ) (P11 : Int → Int → hy_m → Prop) (R : Int → hy_m → Prop) (x2 : Int) (x3 : Int) : Nat → Option (sL → sS → Prop) := sLb [(11, fun lv t => sG [(0, 5, 47), (2, 0, 0), (3, 0, 0)] lv (ap2 (fun w2 w3 => ∃ m', t = sM s m' ∧ P11 w2 w3 m')))]
set_option maxRecDepth 30000 in
set_option maxHeartbeats 1000000 in
theorem wj_150_11 (Q : sQ) (R : Int → hy_m → Prop) (s : sS) (P11 : Int → Int → hy_m → Prop) (x2 : Int) (x3 : Int) (m : hy_m) (hP11 : ∀ (z2 z3 : Int) (m : hy_m), P11 z2 z3 m → sRg [(0, 5, 47), (2, 0, 0), (3, 0, 0)] [z2, z3] → kX dC 1 im_m150 0 11 (sCan [(0, 5, 47), (2, 0, 0), (3, 0, 0)] [z2, z3]) [] (sM s m) Q) (hQ : ∀ x m', R x m' → Q x (sM s m')) (hr : sRg [(0, 5, 47), (2, 0, 0), (3, 0, 0)] [x2, x3]) (h : wf_150_11 s.1 R P11 x2 x3 m) : kX dC 1 im_m150 0 11 (sCan [(0, 5, 47), (2, 0, 0), (3, 0, 0)] [x2, x3]) [] (sM s m) Q := by
  unfold wf_150_11 at h
  refine wz2_ok (cs := cs_150) (wr := []) (lb := lb_150_11 s Q P11 R x2 x3) cs_150_ok (kLb_c (kLab (Bd := fun xs t => ap2 (fun w2 w3 => ∃ m', t = sM s m' ∧ P11 w2 w3 m') xs) rfl (fun xs t r1 r2 hb => by obtain ⟨w2, w3, rfl, hb⟩ := ap2_ok hb; obtain ⟨m', rfl, hx⟩ := hb; exact hP11 _ _ m' hx r1)) kLb_n) (okL_can rfl hr) (fun Y hY hl => ?_)
  have l11 := hl 11 _ rfl
  refine hY _ _ _ _ (hY _ _ _ _ (hY _ _ _ _ (?_ : Y 16 [(0, 5, true, 47), (2, 0, true, x2), (3, 0, true, x3)] [(3, true, m 47 1), (0, true, x3)] (sM s m))))
  refine hY _ _ _ _ ?_
  obtain ⟨t1, n1, h⟩ := h
  refine Exists.intro t1 (Exists.intro n1 (And.intro h.1 (And.intro h.2.1 ?_)))
  show Y 17 [(0, 5, true, 47), (2, 0, true, x2), (3, 0, true, x3)] [(0, true, (n1 : Int)), (0, true, x3)] (sM s m)
  refine hY _ _ _ _ ?_
  refine And.intro (fun hc => ?_) (fun hc => ?_)
  · have h := h.2.2.1 hc
    refine hY _ _ _ _ (?_ : Y 58 [(0, 5, true, 47), (2, 0, true, x2), (3, 0, true, x3)] [(0, true, x2)] (sM s m))
    refine hY _ _ _ _ ?_
    exact hQ x2 m h
  · have h := h.2.2.2 hc
    refine hY _ _ _ _ (?_ : Y 21 [(0, 5, true, 47), (2, 0, true, x2), (3, 0, true, x3)] [(0, true, x2)] (sM s m))
    refine hY _ _ _ _ ?_
    refine And.intro (fun hc => ?_) (fun hc => ?_)
    · have h := h.1 hc
      refine hY _ _ _ _ (?_ : Y 43 [(0, 5, true, 47), (2, 0, true, x2), (3, 0, true, x3)] [(0, true, x2)] (sM s m))
      refine hY _ _ _ _ ?_
      exact hQ x2 m h
    · have h := h.2 hc
      refine hY _ _ _ _ (hY _ _ _ _ (hY _ _ _ _ (?_ : Y 29 [(0, 5, true, 47), (2, 0, true, x2), (3, 0, true, x3)] [(3, true, m 47 1), (0, true, x2)] (sM s m))))
      refine hY _ _ _ _ ?_
      obtain ⟨t2, n2, h⟩ := h
      refine Exists.intro t2 (Exists.intro n2 (And.intro h.1 (And.intro h.2.1 ?_)))
      show Y 30 [(0, 5, true, 47), (2, 0, true, x2), (3, 0, true, x3)] [(0, true, (n2 : Int)), (0, true, x2)] (sM s m)
      refine hY _ _ _ _ ?_
      refine And.intro (fun hc => ?_) (fun hc => ?_)
      · have h := h.2.2.1 hc
        refine hY _ _ _ _ (?_ : Y 43 [(0, 5, true, 47), (2, 0, true, x2), (3, 0, true, x3)] [(0, true, x2)] (sM s m))
        refine hY _ _ _ _ ?_
        exact hQ x2 m h
      · have h := h.2.2.2 hc
        refine hY _ _ _ _ (hY _ _ _ _ (hY _ _ _ _ (?_ : Y 38 [(0, 5, true, 47), (2, 0, true, x2), (3, 0, true, x3)] [(0, true, x2), (3, true, m 47 1)] (sM s m))))
        refine hY _ _ _ _ ?_
        obtain ⟨n3, h⟩ := h
        refine Exists.intro n3 (And.intro h.1 ?_)
        refine (And.intro h.2.1 (And.intro h.2.2.1 ?_))
        show Y 39 [(0, 5, true, 47), (2, 0, true, x2), (3, 0, true, x3)] [(0, true, m ((m 47 1).toNat) x2)] (sM s m)
        refine hY _ _ _ _ ?_
        refine And.intro (fun hc => ?_) (fun hc => ?_)
        · have h := h.2.2.2.1 hc
          refine hY _ _ _ _ (hY _ _ _ _ (hY _ _ _ _ (?_ : Y 49 [(0, 5, true, 47), (2, 0, true, x2), (3, 0, true, x3)] [(0, true, x2), (3, true, m 47 1)] (sM s m))))
          refine hY _ _ _ _ ?_
          obtain ⟨n4, h⟩ := h
          refine Exists.intro n4 (And.intro h.1 ?_)
          refine (And.intro h.2.1 (And.intro h.2.2.1 ?_))
          refine hY _ _ _ _ (hY _ _ _ _ (hY _ _ _ _ (?_ : Y 11 [(3, 0, false, x3 + 1), (2, 0, true, m ((m 47 1).toNat) x2), (0, 5, true, 47)] [] (sM s m))))
          refine l11 _ _ ?_
          refine And.intro h.2.2.2.1 ?_
          exact (Exists.intro m (And.intro rfl h.2.2.2.2))
        · have h := h.2.2.2.2 hc
          refine hY _ _ _ _ (?_ : Y 43 [(0, 5, true, 47), (2, 0, true, x2), (3, 0, true, x3)] [(0, true, x2)] (sM s m))
          refine hY _ _ _ _ ?_
          exact hQ x2 m h
theorem wk_150_11 (Q : sQ) (R : Int → hy_m → Prop) (s : sS) (x2 : Int) (x3 : Int) (hQ : ∀ x m', R x m' → Q x (sM s m')) (hr : sRg [(0, 5, 47), (2, 0, 0), (3, 0, 0)] [x2, x3]) (h : wq_150_11 x2 x3 s.1 s.2.2.2 R) : kX dC 1 im_m150 0 11 (sCan [(0, 5, 47), (2, 0, 0), (3, 0, 0)] [x2, x3]) [] s Q :=
  h (fun x2 x3 m => sRg [(0, 5, 47), (2, 0, 0), (3, 0, 0)] [x2, x3] → kX dC 1 im_m150 0 11 (sCan [(0, 5, 47), (2, 0, 0), (3, 0, 0)] [x2, x3]) [] (sM s m) Q) (fun x2 x3 m h hr => wj_150_11 Q R s (fun x2 x3 m => sRg [(0, 5, 47), (2, 0, 0), (3, 0, 0)] [x2, x3] → kX dC 1 im_m150 0 11 (sCan [(0, 5, 47), (2, 0, 0), (3, 0, 0)] [x2, x3]) [] (sM s m) Q) x2 x3 m  (fun _ _ _ hp hr => hp hr) hQ hr h) hr
def lb_150_0 (s : sS) (Q : sQ) (R : Int → hy_m → Prop) (x1 : Int) : Nat → Option (sL → sS → Prop) := sLb [(11, fun lv t => sG [(0, 5, 47), (2, 0, 0), (3, 0, 0)] lv (ap2 (fun w2 w3 => ∃ m', t = sM s m' ∧ wq_150_11 w2 w3 s.1 m' R)))]
set_option maxRecDepth 30000 in
set_option maxHeartbeats 1000000 in
theorem wk_150_0 (Q : sQ) (R : Int → hy_m → Prop) (s : sS) (x1 : Int) (hQ : ∀ x m', R x m' → Q x (sM s m')) (hr : sRg [(0, 5, 47), (1, 0, 0)] [x1]) (h : wq_150 x1 s.1 s.2.2.2 R) : kX dC 1 im_m150 0 0 (sCan [(0, 5, 47), (1, 0, 0)] [x1]) [] s Q := by
  unfold wq_150 at h
  refine wz2_ok (cs := cs_150) (wr := []) (lb := lb_150_0 s Q R x1) cs_150_ok (kLb_c (kLab (Bd := fun xs t => ap2 (fun w2 w3 => ∃ m', t = sM s m' ∧ wq_150_11 w2 w3 s.1 m' R) xs) rfl (fun xs t r1 r2 hb => by obtain ⟨w2, w3, rfl, hb⟩ := ap2_ok hb; obtain ⟨m', rfl, hx⟩ := hb; exact wk_150_11 Q R (sM s m') _ _ (fun x m'' hy => hQ x m'' hy) r1 hx)) kLb_n) (okL_can rfl hr) (fun Y hY hl => ?_)
  have l11 := hl 11 _ rfl
  refine hY _ _ _ _ (hY _ _ _ _ (hY _ _ _ _ (?_ : Y 5 [(0, 5, true, 47), (1, 0, true, x1)] [(0, true, x1), (5, true, 41)] s)))
  refine hY _ _ _ _ ?_
  refine Exists.intro _ (And.intro (wc_124_r41_0t x1 _ _ h) (fun r1 m1 h => ?_))
  refine hY _ _ _ _ (hY _ _ _ _ (hY _ _ _ _ (?_ : Y 11 [(3, 2, true, 0), (2, 0, true, r1), (0, 5, true, 47), (1, 0, true, x1)] [] (sM s m1))))
  refine l11 _ _ ?_
  exact (Exists.intro m1 (And.intro rfl h))
def we_150 : sFf := sEf 4 [(0, 5, 47), (1, 0, 0)] (fun xs s Q => ap1 (fun x1 => wq_150 x1 s.1 s.2.2.2 Q) xs)
theorem we_150_ok : kS dC 2 150 0 (.inl we_150) := sEf_ok (mi := im_m150) rfl rfl rfl (fun R xs s r1 hb => by obtain ⟨x1, rfl, hb⟩ := ap1_ok hb; exact wk_150_0 _ R s x1 (fun x m' hx => ⟨m', rfl, hx⟩) r1 hb)
/-- LM$Store.slotOf(I)I -/
def wq_125 (x1 : Int) (T : hy_T) (m : hy_m) (Q : Int → hy_m → Prop) : Prop := (x1 < 0 → (Q (-9) m)) ∧ (0 ≤ x1 → ((8 ≤ (iA x1 127) → (Q (-9) m)) ∧ ((iA x1 127) < 8 → (∃ t1 n1 : Nat, T.1 (m 41 4).toNat = some (t1, n1) ∧ 99 ≤ t1 ∧ (hy_r 0 (((iSr x1 7) * 8) + (iA x1 127)) ∧ (((((iSr x1 7) * 8) + (iA x1 127)) < (n1 : Int) → (hy_r 0 (((iSr x1 7) * 8) + (iA x1 127)) ∧ (Q (((iSr x1 7) * 8) + (iA x1 127)) m))) ∧ ((n1 : Int) ≤ (((iSr x1 7) * 8) + (iA x1 127)) → (Q (-9) m))))))))
def cs_125 : List (Nat × Nat × sFS) := []
theorem cs_125_ok : kCs dC 0 cs_125 := kCs_n
def lb_125_0 (s : sS) (Q : sQ) (R : Int → hy_m → Prop) (x1 : Int) : Nat → Option (sL → sS → Prop) := sLb []
set_option maxRecDepth 30000 in
set_option maxHeartbeats 1000000 in
theorem wk_125_0 (Q : sQ) (R : Int → hy_m → Prop) (s : sS) (x1 : Int) (hQ : ∀ x m', R x m' → Q x (sM s m')) (hr : sRg [(0, 5, 41), (1, 0, 0)] [x1]) (h : wq_125 x1 s.1 s.2.2.2 R) : kX dC 0 im_m125 0 0 (sCan [(0, 5, 41), (1, 0, 0)] [x1]) [] s Q := by
  unfold wq_125 at h
  refine wz2_ok (cs := cs_125) (wr := []) (lb := lb_125_0 s Q R x1) cs_125_ok kLb_n (okL_can rfl hr) (fun Y hY hl => ?_)
  refine hY _ _ _ _ (hY _ _ _ _ (?_ : Y 3 [(0, 5, true, 41), (1, 0, true, x1)] [(0, true, 127), (0, true, x1)] s))
  refine hY _ _ _ _ (?_ : Y 4 [(0, 5, true, 41), (1, 0, true, x1)] [(0, true, iA x1 127)] s)
  refine hY _ _ _ _ (hY _ _ _ _ (hY _ _ _ _ (?_ : Y 8 [(2, 0, true, iA x1 127), (0, 5, true, 41), (1, 0, true, x1)] [(0, true, 7), (0, true, x1)] s)))
  refine hY _ _ _ _ (?_ : Y 9 [(2, 0, true, iA x1 127), (0, 5, true, 41), (1, 0, true, x1)] [(0, true, iSr x1 7)] s)
  refine hY _ _ _ _ (hY _ _ _ _ (hY _ _ _ _ (?_ : Y 13 [(2, 0, true, iA x1 127), (0, 5, true, 41), (1, 0, true, x1)] [(0, true, iA x1 127), (0, false, (iSr x1 7) * 8)] s)))
  refine hY _ _ _ _ (hY _ _ _ _ (hY _ _ _ _ (?_ : Y 16 [(3, 0, false, ((iSr x1 7) * 8) + (iA x1 127)), (2, 0, true, iA x1 127), (0, 5, true, 41), (1, 0, true, x1)] [(0, true, x1)] s)))
  refine hY _ _ _ _ ?_
  refine And.intro (fun hc => ?_) (fun hc => ?_)
  · have h := h.1 hc
    refine hY _ _ _ _ (hY _ _ _ _ (?_ : Y 40 [(3, 0, false, ((iSr x1 7) * 8) + (iA x1 127)), (2, 0, true, iA x1 127), (0, 5, true, 41), (1, 0, true, x1)] [(0, true, (-9))] s))
    refine hY _ _ _ _ ?_
    exact hQ (-9) s.2.2.2 h
  · have h := h.2 hc
    refine hY _ _ _ _ (hY _ _ _ _ (?_ : Y 22 [(3, 0, false, ((iSr x1 7) * 8) + (iA x1 127)), (2, 0, true, iA x1 127), (0, 5, true, 41), (1, 0, true, x1)] [(0, true, 8), (0, true, iA x1 127)] s))
    refine hY _ _ _ _ ?_
    refine And.intro (fun hc => ?_) (fun hc => ?_)
    · have h := h.1 hc
      refine hY _ _ _ _ (hY _ _ _ _ (?_ : Y 40 [(3, 0, false, ((iSr x1 7) * 8) + (iA x1 127)), (2, 0, true, iA x1 127), (0, 5, true, 41), (1, 0, true, x1)] [(0, true, (-9))] s))
      refine hY _ _ _ _ ?_
      exact hQ (-9) s.2.2.2 h
    · have h := h.2 hc
      refine hY _ _ _ _ (hY _ _ _ _ (hY _ _ _ _ (?_ : Y 30 [(3, 0, false, ((iSr x1 7) * 8) + (iA x1 127)), (2, 0, true, iA x1 127), (0, 5, true, 41), (1, 0, true, x1)] [(3, true, s.2.2.2 41 4), (0, false, ((iSr x1 7) * 8) + (iA x1 127))] s)))
      refine hY _ _ _ _ ?_
      obtain ⟨t1, n1, h⟩ := h
      refine Exists.intro t1 (Exists.intro n1 (And.intro h.1 (And.intro h.2.1 ?_)))
      show Y 31 [(3, 0, false, ((iSr x1 7) * 8) + (iA x1 127)), (2, 0, true, iA x1 127), (0, 5, true, 41), (1, 0, true, x1)] [(0, true, (n1 : Int)), (0, false, ((iSr x1 7) * 8) + (iA x1 127))] s
      refine hY _ _ _ _ ?_
      refine And.intro h.2.2.1 ?_
      refine And.intro (fun hc => ?_) (fun hc => ?_)
      · have h := h.2.2.2.1 hc
        refine hY _ _ _ _ (?_ : Y 40 [(3, 0, false, ((iSr x1 7) * 8) + (iA x1 127)), (2, 0, true, iA x1 127), (0, 5, true, 41), (1, 0, true, x1)] [(0, false, ((iSr x1 7) * 8) + (iA x1 127))] s)
        refine hY _ _ _ _ ?_
        refine And.intro h.1 ?_
        exact hQ (((iSr x1 7) * 8) + (iA x1 127)) s.2.2.2 h.2
      · have h := h.2.2.2.2 hc
        refine hY _ _ _ _ (hY _ _ _ _ (?_ : Y 40 [(3, 0, false, ((iSr x1 7) * 8) + (iA x1 127)), (2, 0, true, iA x1 127), (0, 5, true, 41), (1, 0, true, x1)] [(0, true, (-9))] s))
        refine hY _ _ _ _ ?_
        exact hQ (-9) s.2.2.2 h
def we_125 : sFf := sEf 4 [(0, 5, 41), (1, 0, 0)] (fun xs s Q => ap1 (fun x1 => wq_125 x1 s.1 s.2.2.2 Q) xs)
theorem we_125_ok : kS dC 1 125 0 (.inl we_125) := sEf_ok (mi := im_m125) rfl rfl rfl (fun R xs s r1 hb => by obtain ⟨x1, rfl, hb⟩ := ap1_ok hb; exact wk_125_0 _ R s x1 (fun x m' hx => ⟨m', rfl, hx⟩) r1 hb)
/-- LM$Store.bind(II)V -/
def wq_122 (x1 : Int) (x2 : Int) (T : hy_T) (m : hy_m) (Q : Int → hy_m → Prop) : Prop := wq_125 x1 T m (fun r1 m1 => (r1 ≠ (-9) → (∃ n2 : Nat, T.1 (m1 41 4).toNat = some (100, n2) ∧ (0 ≤ r1 ∧ r1 < (n2 : Int) ∧ ((((hy_u m1 ((m1 41 4).toNat) r1 x2) 41 7) ≤ (iSr x1 7) → (Q 0 (hy_u m1 ((m1 41 4).toNat) r1 x2))) ∧ ((iSr x1 7) < ((hy_u m1 ((m1 41 4).toNat) r1 x2) 41 7) → (∃ t3 n3 : Nat, T.1 ((hy_u m1 ((m1 41 4).toNat) r1 x2) 41 5).toNat = some (t3, n3) ∧ 99 ≤ t3 ∧ (((n3 : Int) ≤ ((hy_u m1 ((m1 41 4).toNat) r1 x2) 41 6) → (Q 0 (hy_u m1 ((m1 41 4).toNat) r1 x2))) ∧ (((hy_u m1 ((m1 41 4).toNat) r1 x2) 41 6) < (n3 : Int) → (∃ n4 : Nat, T.1 ((hy_u m1 ((m1 41 4).toNat) r1 x2) 41 5).toNat = some (100, n4) ∧ (0 ≤ ((hy_u m1 ((m1 41 4).toNat) r1 x2) 41 6) ∧ ((hy_u m1 ((m1 41 4).toNat) r1 x2) 41 6) < (n4 : Int) ∧ (hy_r 0 (((hy_u (hy_u m1 ((m1 41 4).toNat) r1 x2) (((hy_u m1 ((m1 41 4).toNat) r1 x2) 41 5).toNat) ((hy_u m1 ((m1 41 4).toNat) r1 x2) 41 6) r1) 41 6) + 1) ∧ (Q 0 (hy_u (hy_u (hy_u m1 ((m1 41 4).toNat) r1 x2) (((hy_u m1 ((m1 41 4).toNat) r1 x2) 41 5).toNat) ((hy_u m1 ((m1 41 4).toNat) r1 x2) 41 6) r1) 41 6 (((hy_u (hy_u m1 ((m1 41 4).toNat) r1 x2) (((hy_u m1 ((m1 41 4).toNat) r1 x2) 41 5).toNat) ((hy_u m1 ((m1 41 4).toNat) r1 x2) 41 6) r1) 41 6) + 1)))))))))))))) ∧ (r1 = (-9) → (Q 0 m1)))
theorem wc_125_r41_0t (x1 : Int) (s : sS) (R : Int → hy_m → Prop) (h : wq_125 x1 s.1 s.2.2.2 R) : we_125 [(5, true, 41), (0, true, x1)] s R := h
def cs_122 : List (Nat × Nat × sFS) := [(125, 0, .inl we_125)]
theorem cs_122_ok : kCs dC 1 cs_122 := (kCs_c (Or.inl rfl) (we_125_ok.deep (by decide)) kCs_n)
def lb_122_0 (s : sS) (Q : sQ) (R : Int → hy_m → Prop) (x1 : Int) (x2 : Int) : Nat → Option (sL → sS → Prop) := sLb []
set_option maxRecDepth 30000 in
set_option maxHeartbeats 1000000 in
theorem wk_122_0 (Q : sQ) (R : Int → hy_m → Prop) (s : sS) (x1 : Int) (x2 : Int) (hQ : ∀ x m', R x m' → Q x (sM s m')) (hr : sRg [(0, 5, 41), (1, 0, 0), (2, 0, 0)] [x1, x2]) (h : wq_122 x1 x2 s.1 s.2.2.2 R) : kX dC 1 im_m122 9 0 (sCan [(0, 5, 41), (1, 0, 0), (2, 0, 0)] [x1, x2]) [] s Q := by
  unfold wq_122 at h
  refine wz2_ok (cs := cs_122) (wr := []) (lb := lb_122_0 s Q R x1 x2) cs_122_ok kLb_n (okL_can rfl hr) (fun Y hY hl => ?_)
  refine hY _ _ _ _ (hY _ _ _ _ (?_ : Y 2 [(0, 5, true, 41), (1, 0, true, x1), (2, 0, true, x2)] [(0, true, x1), (5, true, 41)] s))
  refine hY _ _ _ _ ?_
  refine Exists.intro _ (And.intro (wc_125_r41_0t x1 _ _ h) (fun r1 m1 h => ?_))
  refine hY _ _ _ _ (hY _ _ _ _ (hY _ _ _ _ (?_ : Y 9 [(3, 0, true, r1), (0, 5, true, 41), (1, 0, true, x1), (2, 0, true, x2)] [(0, true, (-9)), (0, true, r1)] (sM s m1))))
  refine hY _ _ _ _ ?_
  refine And.intro (fun hc => ?_) (fun hc => ?_)
  · have h := h.1 hc
    refine hY _ _ _ _ (hY _ _ _ _ (hY _ _ _ _ (?_ : Y 18 [(3, 0, true, r1), (0, 5, true, 41), (1, 0, true, x1), (2, 0, true, x2)] [(0, true, r1), (3, true, m1 41 4)] (sM s m1))))
    refine hY _ _ _ _ (?_ : Y 19 [(3, 0, true, r1), (0, 5, true, 41), (1, 0, true, x1), (2, 0, true, x2)] [(0, true, x2), (0, true, r1), (3, true, m1 41 4)] (sM s m1))
    refine hY _ _ _ _ ?_
    obtain ⟨n2, h⟩ := h
    refine Exists.intro n2 (And.intro h.1 ?_)
    refine (And.intro h.2.1 (And.intro h.2.2.1 ?_))
    refine hY _ _ _ _ (hY _ _ _ _ (?_ : Y 23 [(3, 0, true, r1), (0, 5, true, 41), (1, 0, true, x1), (2, 0, true, x2)] [(0, true, 7), (0, true, x1)] (sM s (hy_u m1 ((m1 41 4).toNat) r1 x2))))
    refine hY _ _ _ _ (?_ : Y 24 [(3, 0, true, r1), (0, 5, true, 41), (1, 0, true, x1), (2, 0, true, x2)] [(0, true, iSr x1 7)] (sM s (hy_u m1 ((m1 41 4).toNat) r1 x2)))
    refine hY _ _ _ _ (hY _ _ _ _ (?_ : Y 28 [(3, 0, true, r1), (0, 5, true, 41), (1, 0, true, x1), (2, 0, true, x2)] [(0, true, (hy_u m1 ((m1 41 4).toNat) r1 x2) 41 7), (0, true, iSr x1 7)] (sM s (hy_u m1 ((m1 41 4).toNat) r1 x2))))
    refine hY _ _ _ _ ?_
    refine And.intro (fun hc => ?_) (fun hc => ?_)
    · have h := h.2.2.2.1 hc
      show Y 63 [(3, 0, true, r1), (0, 5, true, 41), (1, 0, true, x1), (2, 0, true, x2)] [] (sM s (hy_u m1 ((m1 41 4).toNat) r1 x2))
      refine hY _ _ _ _ ?_
      exact hQ 0 (hy_u m1 ((m1 41 4).toNat) r1 x2) h
    · have h := h.2.2.2.2 hc
      refine hY _ _ _ _ (hY _ _ _ _ (hY _ _ _ _ (?_ : Y 36 [(3, 0, true, r1), (0, 5, true, 41), (1, 0, true, x1), (2, 0, true, x2)] [(5, true, 41), (0, true, (hy_u m1 ((m1 41 4).toNat) r1 x2) 41 6)] (sM s (hy_u m1 ((m1 41 4).toNat) r1 x2)))))
      refine hY _ _ _ _ (?_ : Y 39 [(3, 0, true, r1), (0, 5, true, 41), (1, 0, true, x1), (2, 0, true, x2)] [(3, true, (hy_u m1 ((m1 41 4).toNat) r1 x2) 41 5), (0, true, (hy_u m1 ((m1 41 4).toNat) r1 x2) 41 6)] (sM s (hy_u m1 ((m1 41 4).toNat) r1 x2)))
      refine hY _ _ _ _ ?_
      obtain ⟨t3, n3, h⟩ := h
      refine Exists.intro t3 (Exists.intro n3 (And.intro h.1 (And.intro h.2.1 ?_)))
      show Y 40 [(3, 0, true, r1), (0, 5, true, 41), (1, 0, true, x1), (2, 0, true, x2)] [(0, true, (n3 : Int)), (0, true, (hy_u m1 ((m1 41 4).toNat) r1 x2) 41 6)] (sM s (hy_u m1 ((m1 41 4).toNat) r1 x2))
      refine hY _ _ _ _ ?_
      refine And.intro (fun hc => ?_) (fun hc => ?_)
      · have h := h.2.2.1 hc
        show Y 63 [(3, 0, true, r1), (0, 5, true, 41), (1, 0, true, x1), (2, 0, true, x2)] [] (sM s (hy_u m1 ((m1 41 4).toNat) r1 x2))
        refine hY _ _ _ _ ?_
        exact hQ 0 (hy_u m1 ((m1 41 4).toNat) r1 x2) h
      · have h := h.2.2.2 hc
        refine hY _ _ _ _ (hY _ _ _ _ (hY _ _ _ _ (?_ : Y 48 [(3, 0, true, r1), (0, 5, true, 41), (1, 0, true, x1), (2, 0, true, x2)] [(5, true, 41), (3, true, (hy_u m1 ((m1 41 4).toNat) r1 x2) 41 5)] (sM s (hy_u m1 ((m1 41 4).toNat) r1 x2)))))
        refine hY _ _ _ _ (hY _ _ _ _ (?_ : Y 52 [(3, 0, true, r1), (0, 5, true, 41), (1, 0, true, x1), (2, 0, true, x2)] [(0, true, r1), (0, true, (hy_u m1 ((m1 41 4).toNat) r1 x2) 41 6), (3, true, (hy_u m1 ((m1 41 4).toNat) r1 x2) 41 5)] (sM s (hy_u m1 ((m1 41 4).toNat) r1 x2))))
        refine hY _ _ _ _ ?_
        obtain ⟨n4, h⟩ := h
        refine Exists.intro n4 (And.intro h.1 ?_)
        refine (And.intro h.2.1 (And.intro h.2.2.1 ?_))
        refine hY _ _ _ _ (hY _ _ _ _ (hY _ _ _ _ (?_ : Y 58 [(3, 0, true, r1), (0, 5, true, 41), (1, 0, true, x1), (2, 0, true, x2)] [(0, true, (hy_u (hy_u m1 ((m1 41 4).toNat) r1 x2) (((hy_u m1 ((m1 41 4).toNat) r1 x2) 41 5).toNat) ((hy_u m1 ((m1 41 4).toNat) r1 x2) 41 6) r1) 41 6), (5, true, 41)] (sM s (hy_u (hy_u m1 ((m1 41 4).toNat) r1 x2) (((hy_u m1 ((m1 41 4).toNat) r1 x2) 41 5).toNat) ((hy_u m1 ((m1 41 4).toNat) r1 x2) 41 6) r1)))))
        refine hY _ _ _ _ (hY _ _ _ _ (?_ : Y 60 [(3, 0, true, r1), (0, 5, true, 41), (1, 0, true, x1), (2, 0, true, x2)] [(0, false, ((hy_u (hy_u m1 ((m1 41 4).toNat) r1 x2) (((hy_u m1 ((m1 41 4).toNat) r1 x2) 41 5).toNat) ((hy_u m1 ((m1 41 4).toNat) r1 x2) 41 6) r1) 41 6) + 1), (5, true, 41)] (sM s (hy_u (hy_u m1 ((m1 41 4).toNat) r1 x2) (((hy_u m1 ((m1 41 4).toNat) r1 x2) 41 5).toNat) ((hy_u m1 ((m1 41 4).toNat) r1 x2) 41 6) r1))))
        refine hY _ _ _ _ ?_
        refine And.intro h.2.2.2.1 ?_
        show Y 63 [(3, 0, true, r1), (0, 5, true, 41), (1, 0, true, x1), (2, 0, true, x2)] [] (sM s (hy_u (hy_u (hy_u m1 ((m1 41 4).toNat) r1 x2) (((hy_u m1 ((m1 41 4).toNat) r1 x2) 41 5).toNat) ((hy_u m1 ((m1 41 4).toNat) r1 x2) 41 6) r1) 41 6 (((hy_u (hy_u m1 ((m1 41 4).toNat) r1 x2) (((hy_u m1 ((m1 41 4).toNat) r1 x2) 41 5).toNat) ((hy_u m1 ((m1 41 4).toNat) r1 x2) 41 6) r1) 41 6) + 1)))
        refine hY _ _ _ _ ?_
        exact hQ 0 (hy_u (hy_u (hy_u m1 ((m1 41 4).toNat) r1 x2) (((hy_u m1 ((m1 41 4).toNat) r1 x2) 41 5).toNat) ((hy_u m1 ((m1 41 4).toNat) r1 x2) 41 6) r1) 41 6 (((hy_u (hy_u m1 ((m1 41 4).toNat) r1 x2) (((hy_u m1 ((m1 41 4).toNat) r1 x2) 41 5).toNat) ((hy_u m1 ((m1 41 4).toNat) r1 x2) 41 6) r1) 41 6) + 1)) h.2.2.2.2
  · have h := h.2 hc
    show Y 12 [(3, 0, true, r1), (0, 5, true, 41), (1, 0, true, x1), (2, 0, true, x2)] [] (sM s m1)
    refine hY _ _ _ _ ?_
    exact hQ 0 m1 h
def we_122 : sFf := sEf 4 [(0, 5, 41), (1, 0, 0), (2, 0, 0)] (fun xs s Q => ap2 (fun x1 x2 => wq_122 x1 x2 s.1 s.2.2.2 Q) xs)
theorem we_122_ok : kS dC 2 122 9 (.inl we_122) := sEf_ok (mi := im_m122) rfl rfl rfl (fun R xs s r1 hb => by obtain ⟨x1, x2, rfl, hb⟩ := ap2_ok hb; exact wk_122_0 _ R s x1 x2 (fun x m' hx => ⟨m', rfl, hx⟩) r1 hb)
