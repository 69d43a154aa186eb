/-- LM$Store.find(I)I -/
def wf_124_4 (T : hy_T) (Q : Int → hy_m → Prop) (P4 : Int → Int → hy_m → Prop) (x2 : Int) (x3 : Int) (m : hy_m) : Prop := ∃ t1 n1 : Nat, T.1 (m 41 4).toNat = some (t1, n1) ∧ 99 ≤ t1 ∧ (((n1 : Int) ≤ x3 → (Q x2 m)) ∧ (x3 < (n1 : Int) → ((x2 < 0 → (Q x2 m)) ∧ (0 ≤ x2 → ((8 ≤ (iA x2 127) → (Q x2 m)) ∧ ((iA x2 127) < 8 → (∃ t2 n2 : Nat, T.1 (m 41 4).toNat = some (t2, n2) ∧ 99 ≤ t2 ∧ (hy_r 0 (((iSr x2 7) * 8) + (iA x2 127)) ∧ (((n2 : Int) ≤ (((iSr x2 7) * 8) + (iA x2 127)) → (Q x2 m)) ∧ ((((iSr x2 7) * 8) + (iA x2 127)) < (n2 : Int) → (∃ n3 : Nat, T.1 (m 41 4).toNat = some (100, n3) ∧ (0 ≤ (((iSr x2 7) * 8) + (iA x2 127)) ∧ (((iSr x2 7) * 8) + (iA x2 127)) < (n3 : Int) ∧ (((m ((m 41 4).toNat) (((iSr x2 7) * 8) + (iA x2 127))) ≠ (-1) → (∃ n4 : Nat, T.1 (m 41 4).toNat = some (100, n4) ∧ (0 ≤ (((iSr x2 7) * 8) + (iA x2 127)) ∧ (((iSr x2 7) * 8) + (iA x2 127)) < (n4 : Int) ∧ (hy_r 0 (x3 + 1) ∧ (P4 (m ((m 41 4).toNat) (((iSr x2 7) * 8) + (iA x2 127))) (x3 + 1) m))))) ∧ ((m ((m 41 4).toNat) (((iSr x2 7) * 8) + (iA x2 127))) = (-1) → (Q x2 m)))))))))))))))
def wq_124_4 (x2 : Int) (x3 : Int) (T : hy_T) (m : hy_m) (Q : Int → hy_m → Prop) : Prop := wL2 hy_m (wf_124_4 T Q) x2 x3 m
def wq_124 (x1 : Int) (T : hy_T) (m : hy_m) (Q : Int → hy_m → Prop) : Prop := wq_124_4 x1 0 T m Q
def cs_124 : List (Nat × Nat × sFS) := []
theorem cs_124_ok : kCs dC 0 cs_124 := kCs_n
def lb_124_4 (s : sS) (Q : sQ) (P4 : Int → Int → hy_m → Prop) (R : Int → hy_m → Prop) (x2 : Int) (x3 : Int) : Nat → Option (sL → sS → Prop) := sLb [(4, fun lv t => sG [(0, 5, 41), (2, 0, 0), (3, 0, 0)] lv (ap2 (fun w2 w3 => ∃ m', t = sM s m' ∧ P4 w2 w3 m')))]
set_option maxRecDepth 30000 in
set_option maxHeartbeats 1000000 in
theorem wj_124_4 (Q : sQ) (R : Int → hy_m → Prop) (s : sS) (P4 : Int → Int → hy_m → Prop) (x2 : Int) (x3 : Int) (m : hy_m) (hP4 : ∀ (z2 z3 : Int) (m : hy_m), P4 z2 z3 m → sRg [(0, 5, 41), (2, 0, 0), (3, 0, 0)] [z2, z3] → kX dC 0 im_m124 0 4 (sCan [(0, 5, 41), (2, 0, 0), (3, 0, 0)] [z2, z3]) [] (sM s m) Q) (hQ : ∀ x m', R x m' → Q x (sM s m')) (hr : sRg [(0, 5, 41), (2, 0, 0), (3, 0, 0)] [x2, x3]) (h : wf_124_4 s.1 R P4 x2 x3 m) : kX dC 0 im_m124 0 4 (sCan [(0, 5, 41), (2, 0, 0), (3, 0, 0)] [x2, x3]) [] (sM s m) Q := by
  unfold wf_124_4 at h
  refine wz2_ok (cs := cs_124) (wr := []) (lb := lb_124_4 s Q P4 R x2 x3) cs_124_ok (kLb_c (kLab (Bd := fun xs t => ap2 (fun w2 w3 => ∃ m', t = sM s m' ∧ P4 w2 w3 m') xs) rfl (fun xs t r1 r2 hb => by obtain ⟨w2, w3, rfl, hb⟩ := ap2_ok hb; obtain ⟨m', rfl, hx⟩ := hb; exact hP4 _ _ m' hx r1)) kLb_n) (okL_can rfl hr) (fun Y hY hl => ?_)
  have l4 := hl 4 _ rfl
  refine hY _ _ _ _ (hY _ _ _ _ (hY _ _ _ _ (?_ : Y 9 [(0, 5, true, 41), (2, 0, true, x2), (3, 0, true, x3)] [(3, true, m 41 4), (0, true, x3)] (sM s m))))
  refine hY _ _ _ _ ?_
  obtain ⟨t1, n1, h⟩ := h
  refine Exists.intro t1 (Exists.intro n1 (And.intro h.1 (And.intro h.2.1 ?_)))
  show Y 10 [(0, 5, true, 41), (2, 0, true, x2), (3, 0, true, x3)] [(0, true, (n1 : Int)), (0, true, x3)] (sM s m)
  refine hY _ _ _ _ ?_
  refine And.intro (fun hc => ?_) (fun hc => ?_)
  · have h := h.2.2.1 hc
    refine hY _ _ _ _ (?_ : Y 80 [(0, 5, true, 41), (2, 0, true, x2), (3, 0, true, x3)] [(0, true, x2)] (sM s m))
    refine hY _ _ _ _ ?_
    exact hQ x2 m h
  · have h := h.2.2.2 hc
    refine hY _ _ _ _ (hY _ _ _ _ (?_ : Y 16 [(0, 5, true, 41), (2, 0, true, x2), (3, 0, true, x3)] [(0, true, 127), (0, true, x2)] (sM s m)))
    refine hY _ _ _ _ (?_ : Y 17 [(0, 5, true, 41), (2, 0, true, x2), (3, 0, true, x3)] [(0, true, iA x2 127)] (sM s m))
    refine hY _ _ _ _ (hY _ _ _ _ (hY _ _ _ _ (?_ : Y 22 [(4, 0, true, iA x2 127), (0, 5, true, 41), (2, 0, true, x2), (3, 0, true, x3)] [(0, true, 7), (0, true, x2)] (sM s m))))
    refine hY _ _ _ _ (?_ : Y 23 [(4, 0, true, iA x2 127), (0, 5, true, 41), (2, 0, true, x2), (3, 0, true, x3)] [(0, true, iSr x2 7)] (sM s m))
    refine hY _ _ _ _ (hY _ _ _ _ (hY _ _ _ _ (?_ : Y 28 [(4, 0, true, iA x2 127), (0, 5, true, 41), (2, 0, true, x2), (3, 0, true, x3)] [(0, true, iA x2 127), (0, false, (iSr x2 7) * 8)] (sM s m))))
    refine hY _ _ _ _ (hY _ _ _ _ (hY _ _ _ _ (?_ : Y 32 [(5, 0, false, ((iSr x2 7) * 8) + (iA x2 127)), (4, 0, true, iA x2 127), (0, 5, true, 41), (2, 0, true, x2), (3, 0, true, x3)] [(0, true, x2)] (sM s m))))
    refine hY _ _ _ _ ?_
    refine And.intro (fun hc => ?_) (fun hc => ?_)
    · have h := h.1 hc
      refine hY _ _ _ _ (?_ : Y 64 [(5, 0, false, ((iSr x2 7) * 8) + (iA x2 127)), (4, 0, true, iA x2 127), (0, 5, true, 41), (2, 0, true, x2), (3, 0, true, x3)] [(0, true, x2)] (sM s m))
      refine hY _ _ _ _ ?_
      exact hQ x2 m h
    · have h := h.2 hc
      refine hY _ _ _ _ (hY _ _ _ _ (?_ : Y 39 [(5, 0, false, ((iSr x2 7) * 8) + (iA x2 127)), (4, 0, true, iA x2 127), (0, 5, true, 41), (2, 0, true, x2), (3, 0, true, x3)] [(0, true, 8), (0, true, iA x2 127)] (sM s m)))
      refine hY _ _ _ _ ?_
      refine And.intro (fun hc => ?_) (fun hc => ?_)
      · have h := h.1 hc
        refine hY _ _ _ _ (?_ : Y 64 [(5, 0, false, ((iSr x2 7) * 8) + (iA x2 127)), (4, 0, true, iA x2 127), (0, 5, true, 41), (2, 0, true, x2), (3, 0, true, x3)] [(0, true, x2)] (sM s m))
        refine hY _ _ _ _ ?_
        exact hQ x2 m h
      · have h := h.2 hc
        refine hY _ _ _ _ (hY _ _ _ _ (hY _ _ _ _ (?_ : Y 48 [(5, 0, false, ((iSr x2 7) * 8) + (iA x2 127)), (4, 0, true, iA x2 127), (0, 5, true, 41), (2, 0, true, x2), (3, 0, true, x3)] [(3, true, m 41 4), (0, false, ((iSr x2 7) * 8) + (iA x2 127))] (sM s m))))
        refine hY _ _ _ _ ?_
        obtain ⟨t2, n2, h⟩ := h
        refine Exists.intro t2 (Exists.intro n2 (And.intro h.1 (And.intro h.2.1 ?_)))
        show Y 49 [(5, 0, false, ((iSr x2 7) * 8) + (iA x2 127)), (4, 0, true, iA x2 127), (0, 5, true, 41), (2, 0, true, x2), (3, 0, true, x3)] [(0, true, (n2 : Int)), (0, false, ((iSr x2 7) * 8) + (iA x2 127))] (sM s m)
        refine hY _ _ _ _ ?_
        refine And.intro h.2.2.1 ?_
        refine And.intro (fun hc => ?_) (fun hc => ?_)
        · have h := h.2.2.2.1 hc
          refine hY _ _ _ _ (?_ : Y 64 [(5, 0, false, ((iSr x2 7) * 8) + (iA x2 127)), (4, 0, true, iA x2 127), (0, 5, true, 41), (2, 0, true, x2), (3, 0, true, x3)] [(0, true, x2)] (sM s m))
          refine hY _ _ _ _ ?_
          exact hQ x2 m h
        · have h := h.2.2.2.2 hc
          refine hY _ _ _ _ (hY _ _ _ _ (hY _ _ _ _ (?_ : Y 58 [(5, 0, false, ((iSr x2 7) * 8) + (iA x2 127)), (4, 0, true, iA x2 127), (0, 5, true, 41), (2, 0, true, x2), (3, 0, true, x3)] [(0, false, ((iSr x2 7) * 8) + (iA x2 127)), (3, true, m 41 4)] (sM s m))))
          refine hY _ _ _ _ ?_
          obtain ⟨n3, h⟩ := h
          refine Exists.intro n3 (And.intro h.1 ?_)
          refine (And.intro h.2.1 (And.intro h.2.2.1 ?_))
          refine hY _ _ _ _ (?_ : Y 60 [(5, 0, false, ((iSr x2 7) * 8) + (iA x2 127)), (4, 0, true, iA x2 127), (0, 5, true, 41), (2, 0, true, x2), (3, 0, true, x3)] [(0, true, (-1)), (0, true, m ((m 41 4).toNat) (((iSr x2 7) * 8) + (iA x2 127)))] (sM s m))
          refine hY _ _ _ _ ?_
          refine And.intro (fun hc => ?_) (fun hc => ?_)
          · have h := h.2.2.2.1 hc
            refine hY _ _ _ _ (hY _ _ _ _ (hY _ _ _ _ (?_ : Y 71 [(5, 0, false, ((iSr x2 7) * 8) + (iA x2 127)), (4, 0, true, iA x2 127), (0, 5, true, 41), (2, 0, true, x2), (3, 0, true, x3)] [(0, false, ((iSr x2 7) * 8) + (iA x2 127)), (3, true, m 41 4)] (sM s m))))
            refine hY _ _ _ _ ?_
            obtain ⟨n4, h⟩ := h
            refine Exists.intro n4 (And.intro h.1 ?_)
            refine (And.intro h.2.1 (And.intro h.2.2.1 ?_))
            refine hY _ _ _ _ (hY _ _ _ _ (hY _ _ _ _ (?_ : Y 4 [(3, 0, false, x3 + 1), (2, 0, true, m ((m 41 4).toNat) (((iSr x2 7) * 8) + (iA x2 127))), (5, 0, false, ((iSr x2 7) * 8) + (iA x2 127)), (4, 0, true, iA x2 127), (0, 5, true, 41)] [] (sM s m))))
            refine l4 _ _ ?_
            refine And.intro h.2.2.2.1 ?_
            exact (Exists.intro m (And.intro rfl h.2.2.2.2))
          · have h := h.2.2.2.2 hc
            refine hY _ _ _ _ (?_ : Y 64 [(5, 0, false, ((iSr x2 7) * 8) + (iA x2 127)), (4, 0, true, iA x2 127), (0, 5, true, 41), (2, 0, true, x2), (3, 0, true, x3)] [(0, true, x2)] (sM s m))
            refine hY _ _ _ _ ?_
            exact hQ x2 m h
theorem wk_124_4 (Q : sQ) (R : Int → hy_m → Prop) (s : sS) (x2 : Int) (x3 : Int) (hQ : ∀ x m', R x m' → Q x (sM s m')) (hr : sRg [(0, 5, 41), (2, 0, 0), (3, 0, 0)] [x2, x3]) (h : wq_124_4 x2 x3 s.1 s.2.2.2 R) : kX dC 0 im_m124 0 4 (sCan [(0, 5, 41), (2, 0, 0), (3, 0, 0)] [x2, x3]) [] s Q :=
  h (fun x2 x3 m => sRg [(0, 5, 41), (2, 0, 0), (3, 0, 0)] [x2, x3] → kX dC 0 im_m124 0 4 (sCan [(0, 5, 41), (2, 0, 0), (3, 0, 0)] [x2, x3]) [] (sM s m) Q) (fun x2 x3 m h hr => wj_124_4 Q R s (fun x2 x3 m => sRg [(0, 5, 41), (2, 0, 0), (3, 0, 0)] [x2, x3] → kX dC 0 im_m124 0 4 (sCan [(0, 5, 41), (2, 0, 0), (3, 0, 0)] [x2, x3]) [] (sM s m) Q) x2 x3 m  (fun _ _ _ hp hr => hp hr) hQ hr h) hr
def lb_124_0 (s : sS) (Q : sQ) (R : Int → hy_m → Prop) (x1 : Int) : Nat → Option (sL → sS → Prop) := sLb [(4, fun lv t => sG [(0, 5, 41), (2, 0, 0), (3, 0, 0)] lv (ap2 (fun w2 w3 => ∃ m', t = sM s m' ∧ wq_124_4 w2 w3 s.1 m' R)))]
set_option maxRecDepth 30000 in
set_option maxHeartbeats 1000000 in
theorem wk_124_0 (Q : sQ) (R : Int → hy_m → Prop) (s : sS) (x1 : Int) (hQ : ∀ x m', R x m' → Q x (sM s m')) (hr : sRg [(0, 5, 41), (1, 0, 0)] [x1]) (h : wq_124 x1 s.1 s.2.2.2 R) : kX dC 0 im_m124 0 0 (sCan [(0, 5, 41), (1, 0, 0)] [x1]) [] s Q := by
  unfold wq_124 at h
  refine wz2_ok (cs := cs_124) (wr := []) (lb := lb_124_0 s Q R x1) cs_124_ok (kLb_c (kLab (Bd := fun xs t => ap2 (fun w2 w3 => ∃ m', t = sM s m' ∧ wq_124_4 w2 w3 s.1 m' R) xs) rfl (fun xs t r1 r2 hb => by obtain ⟨w2, w3, rfl, hb⟩ := ap2_ok hb; obtain ⟨m', rfl, hx⟩ := hb; exact wk_124_4 Q R (sM s m') _ _ (fun x m'' hy => hQ x m'' hy) r1 hx)) kLb_n) (okL_can rfl hr) (fun Y hY hl => ?_)
  have l4 := hl 4 _ rfl
  refine hY _ _ _ _ (hY _ _ _ _ (hY _ _ _ _ (?_ : Y 3 [(2, 0, true, x1), (0, 5, true, 41), (1, 0, true, x1)] [(2, true, 0)] s)))
  refine hY _ _ _ _ (?_ : Y 4 [(3, 2, true, 0), (2, 0, true, x1), (0, 5, true, 41), (1, 0, true, x1)] [] s)
  refine l4 _ _ ?_
  exact (Exists.intro s.2.2.2 (And.intro rfl h))
def we_124 : sFf := sEf 6 [(0, 5, 41), (1, 0, 0)] (fun xs s Q => ap1 (fun x1 => wq_124 x1 s.1 s.2.2.2 Q) xs)
theorem we_124_ok : kS dC 1 124 0 (.inl we_124) := sEf_ok (mi := im_m124) rfl rfl rfl (fun R xs s r1 hb => by obtain ⟨x1, rfl, hb⟩ := ap1_ok hb; exact wk_124_0 _ R s x1 (fun x m' hx => ⟨m', rfl, hx⟩) r1 hb)
/-- LM$Store.computedAt(I)I -/
def wq_131 (x1 : Int) (m : hy_m) (Q : Int → hy_m → Prop) : Prop := hy_r 0 ((-2) - x1) ∧ ((((-2) - x1) < 0 → (Q 0 m)) ∧ (0 ≤ ((-2) - x1) → (hy_r 0 ((-2) - x1) ∧ ((301 ≤ ((-2) - x1) → (Q 0 m)) ∧ (((-2) - x1) < 301 → (0 ≤ ((-2) - x1) ∧ ((-2) - x1) < 301 ∧ (Q (m 46 ((-2) - x1)) m)))))))
def cs_131 : List (Nat × Nat × sFS) := []
theorem cs_131_ok : kCs dC 0 cs_131 := kCs_n
def lb_131_0 (s : sS) (Q : sQ) (R : Int → hy_m → Prop) (x1 : Int) : Nat → Option (sL → sS → Prop) := sLb []
set_option maxRecDepth 30000 in
set_option maxHeartbeats 1000000 in
theorem wk_131_0 (Q : sQ) (R : Int → hy_m → Prop) (s : sS) (x1 : Int) (hQ : ∀ x m', R x m' → Q x (sM s m')) (hr : sRg [(0, 5, 41), (1, 0, 0)] [x1]) (h : wq_131 x1 s.2.2.2 R) : kX dC 0 im_m131 0 0 (sCan [(0, 5, 41), (1, 0, 0)] [x1]) [] s Q := by
  unfold wq_131 at h
  refine wz2_ok (cs := cs_131) (wr := []) (lb := lb_131_0 s Q R x1) cs_131_ok kLb_n (okL_can rfl hr) (fun Y hY hl => ?_)
  refine hY _ _ _ _ (hY _ _ _ _ (hY _ _ _ _ (?_ : Y 4 [(0, 5, true, 41), (1, 0, true, x1)] [(0, false, (-2) - x1)] s)))
  refine hY _ _ _ _ (hY _ _ _ _ (?_ : Y 6 [(2, 0, false, (-2) - x1), (0, 5, true, 41), (1, 0, true, x1)] [(0, false, (-2) - x1)] s))
  refine hY _ _ _ _ ?_
  refine And.intro h.1 ?_
  refine And.intro (fun hc => ?_) (fun hc => ?_)
  · have h := h.2.1 hc
    refine hY _ _ _ _ (?_ : Y 28 [(2, 0, false, (-2) - x1), (0, 5, true, 41), (1, 0, true, x1)] [(2, true, 0)] s)
    refine hY _ _ _ _ ?_
    exact hQ 0 s.2.2.2 h
  · have h := h.2.2 hc
    refine hY _ _ _ _ (hY _ _ _ _ (hY _ _ _ _ (?_ : Y 14 [(2, 0, false, (-2) - x1), (0, 5, true, 41), (1, 0, true, x1)] [(5, true, 46), (0, false, (-2) - x1)] s)))
    refine hY _ _ _ _ (?_ : Y 15 [(2, 0, false, (-2) - x1), (0, 5, true, 41), (1, 0, true, x1)] [(0, true, 301), (0, false, (-2) - x1)] s)
    refine hY _ _ _ _ ?_
    refine And.intro h.1 ?_
    refine And.intro (fun hc => ?_) (fun hc => ?_)
    · have h := h.2.1 hc
      refine hY _ _ _ _ (?_ : Y 28 [(2, 0, false, (-2) - x1), (0, 5, true, 41), (1, 0, true, x1)] [(2, true, 0)] s)
      refine hY _ _ _ _ ?_
      exact hQ 0 s.2.2.2 h
    · have h := h.2.2 hc
      refine hY _ _ _ _ (hY _ _ _ _ (hY _ _ _ _ (?_ : Y 23 [(2, 0, false, (-2) - x1), (0, 5, true, 41), (1, 0, true, x1)] [(0, false, (-2) - x1), (5, true, 46)] s)))
      refine hY _ _ _ _ ?_
      refine (And.intro h.1 (And.intro h.2.1 ?_))
      refine hY _ _ _ _ (?_ : Y 28 [(2, 0, false, (-2) - x1), (0, 5, true, 41), (1, 0, true, x1)] [(0, true, s.2.2.2 46 ((-2) - x1))] s)
      refine hY _ _ _ _ ?_
      exact hQ (s.2.2.2 46 ((-2) - x1)) s.2.2.2 h.2.2
def we_131 : sFf := sEf 3 [(0, 5, 41), (1, 0, 0)] (fun xs s Q => ap1 (fun x1 => wq_131 x1 s.2.2.2 Q) xs)
theorem we_131_ok : kS dC 1 131 0 (.inl we_131) := sEf_ok (mi := im_m131) rfl rfl rfl (fun R xs s r1 hb => by obtain ⟨x1, rfl, hb⟩ := ap1_ok hb; exact wk_131_0 _ R s x1 (fun x m' hx => ⟨m', rfl, hx⟩) r1 hb)
/-- LM$Store.keyOf(I)J -/
def wq_130 (x1 : Int) (T : hy_T) (m : hy_m) (Q : Int → hy_m → Prop) : Prop := (0 ≤ x1 → (wq_127 (iSr x1 7) T m (fun r1 m1 => T.1 (r1).toNat = some (3, 9) ∧ (wq_41 r1 (iA x1 127) T m1 (fun r2 m2 => Q r2 m2))))) ∧ (x1 < 0 → (wq_131 x1 m (fun r3 m3 => Q r3 m3)))
theorem wc_131_r41_0t (x1 : Int) (s : sS) (R : Int → hy_m → Prop) (h : wq_131 x1 s.2.2.2 R) : we_131 [(5, true, 41), (0, true, x1)] s R := h
def cs_130 : List (Nat × Nat × sFS) := [(41, 1, .inl we_41), (127, 3, .inl we_127), (131, 0, .inl we_131)]
theorem cs_130_ok : kCs dC 1 cs_130 := (kCs_c (Or.inr (Or.inl rfl)) (we_41_ok.deep (by decide)) (kCs_c (Or.inr (Or.inr (Or.inr (Or.inl rfl)))) (we_127_ok.deep (by decide)) (kCs_c (Or.inl rfl) (we_131_ok.deep (by decide)) kCs_n)))
def lb_130_0 (s : sS) (Q : sQ) (R : Int → hy_m → Prop) (x1 : Int) : Nat → Option (sL → sS → Prop) := sLb []
set_option maxRecDepth 30000 in
set_option maxHeartbeats 1000000 in
theorem wk_130_0 (Q : sQ) (R : Int → hy_m → Prop) (s : sS) (x1 : Int) (hQ : ∀ x m', R x m' → Q x (sM s m')) (hr : sRg [(0, 5, 41), (1, 0, 0)] [x1]) (h : wq_130 x1 s.1 s.2.2.2 R) : kX dC 1 im_m130 1 0 (sCan [(0, 5, 41), (1, 0, 0)] [x1]) [] s Q := by
  unfold wq_130 at h
  refine wz2_ok (cs := cs_130) (wr := []) (lb := lb_130_0 s Q R x1) cs_130_ok kLb_n (okL_can rfl hr) (fun Y hY hl => ?_)
  refine hY _ _ _ _ (?_ : Y 1 [(0, 5, true, 41), (1, 0, true, x1)] [(0, true, x1)] s)
  refine hY _ _ _ _ ?_
  refine And.intro (fun hc => ?_) (fun hc => ?_)
  · have h := h.1 hc
    refine hY _ _ _ _ (hY _ _ _ _ (hY _ _ _ _ (?_ : Y 17 [(0, 5, true, 41), (1, 0, true, x1)] [(0, true, 7), (0, true, x1), (5, true, 41)] s)))
    refine hY _ _ _ _ (?_ : Y 18 [(0, 5, true, 41), (1, 0, true, x1)] [(0, true, iSr x1 7), (5, true, 41)] s)
    refine hY _ _ _ _ ?_
    refine Exists.intro _ (And.intro (wc_127_r41_0t (iSr x1 7) _ _ h) (fun r1 m1 h => ?_))
    refine hY _ _ _ _ (hY _ _ _ _ (?_ : Y 24 [(0, 5, true, 41), (1, 0, true, x1)] [(0, true, 127), (0, true, x1), (3, true, r1)] (sM s m1)))
    refine hY _ _ _ _ (?_ : Y 25 [(0, 5, true, 41), (1, 0, true, x1)] [(0, true, iA x1 127), (3, true, r1)] (sM s m1))
    refine hY _ _ _ _ ?_
    refine (And.intro h.1 ?_)
    refine Exists.intro _ (And.intro (wc_41_3t_0t r1 (iA x1 127) _ _ h.2) (fun r2 m2 h => ?_))
    show Y 28 [(0, 5, true, 41), (1, 0, true, x1)] [(1, true, r2)] (sM s m2)
    refine hY _ _ _ _ ?_
    exact hQ r2 m2 h
  · have h := h.2 hc
    refine hY _ _ _ _ (hY _ _ _ _ (?_ : Y 6 [(0, 5, true, 41), (1, 0, true, x1)] [(0, true, x1), (5, true, 41)] s))
    refine hY _ _ _ _ ?_
    refine Exists.intro _ (And.intro (wc_131_r41_0t x1 _ _ h) (fun r3 m3 h => ?_))
    show Y 9 [(0, 5, true, 41), (1, 0, true, x1)] [(0, true, r3)] (sM s m3)
    refine hY _ _ _ _ ?_
    refine hY _ _ _ _ (?_ : Y 28 [(0, 5, true, 41), (1, 0, true, x1)] [(1, true, r3)] (sM s m3))
    refine hY _ _ _ _ ?_
    exact hQ r3 m3 h
def we_130 : sFf := sEf 2 [(0, 5, 41), (1, 0, 0)] (fun xs s Q => ap1 (fun x1 => wq_130 x1 s.1 s.2.2.2 Q) xs)
theorem we_130_ok : kS dC 2 130 1 (.inl we_130) := sEf_ok (mi := im_m130) rfl rfl rfl (fun R xs s r1 hb => by obtain ⟨x1, rfl, hb⟩ := ap1_ok hb; exact wk_130_0 _ R s x1 (fun x m' hx => ⟨m', rfl, hx⟩) r1 hb)
/-- LM$Store.kindOf(I)I -/
def wq_129 (x1 : Int) (T : hy_T) (m : hy_m) (Q : Int → hy_m → Prop) : Prop := (0 ≤ x1 → (wq_127 (iSr x1 7) T m (fun r1 m1 => T.1 (r1).toNat = some (3, 9) ∧ (wq_40 r1 (iA x1 127) T m1 (fun r2 m2 => Q r2 m2))))) ∧ (x1 < 0 → (Q 2 m))
def cs_129 : List (Nat × Nat × sFS) := [(40, 0, .inl we_40), (127, 3, .inl we_127)]
theorem cs_129_ok : kCs dC 1 cs_129 := (kCs_c (Or.inl rfl) (we_40_ok.deep (by decide)) (kCs_c (Or.inr (Or.inr (Or.inr (Or.inl rfl)))) (we_127_ok.deep (by decide)) kCs_n))
def lb_129_0 (s : sS) (Q : sQ) (R : Int → hy_m → Prop) (x1 : Int) : Nat → Option (sL → sS → Prop) := sLb []
set_option maxRecDepth 30000 in
set_option maxHeartbeats 1000000 in
theorem wk_129_0 (Q : sQ) (R : Int → hy_m → Prop) (s : sS) (x1 : Int) (hQ : ∀ x m', R x m' → Q x (sM s m')) (hr : sRg [(0, 5, 41), (1, 0, 0)] [x1]) (h : wq_129 x1 s.1 s.2.2.2 R) : kX dC 1 im_m129 0 0 (sCan [(0, 5, 41), (1, 0, 0)] [x1]) [] s Q := by
  unfold wq_129 at h
  refine wz2_ok (cs := cs_129) (wr := []) (lb := lb_129_0 s Q R x1) cs_129_ok kLb_n (okL_can rfl hr) (fun Y hY hl => ?_)
  refine hY _ _ _ _ (?_ : Y 1 [(0, 5, true, 41), (1, 0, true, x1)] [(0, true, x1)] s)
  refine hY _ _ _ _ ?_
  refine And.intro (fun hc => ?_) (fun hc => ?_)
  · have h := h.1 hc
    refine hY _ _ _ _ (hY _ _ _ _ (hY _ _ _ _ (?_ : Y 12 [(0, 5, true, 41), (1, 0, true, x1)] [(0, true, 7), (0, true, x1), (5, true, 41)] s)))
    refine hY _ _ _ _ (?_ : Y 13 [(0, 5, true, 41), (1, 0, true, x1)] [(0, true, iSr x1 7), (5, true, 41)] s)
    refine hY _ _ _ _ ?_
    refine Exists.intro _ (And.intro (wc_127_r41_0t (iSr x1 7) _ _ h) (fun r1 m1 h => ?_))
    refine hY _ _ _ _ (hY _ _ _ _ (?_ : Y 19 [(0, 5, true, 41), (1, 0, true, x1)] [(0, true, 127), (0, true, x1), (3, true, r1)] (sM s m1)))
    refine hY _ _ _ _ (?_ : Y 20 [(0, 5, true, 41), (1, 0, true, x1)] [(0, true, iA x1 127), (3, true, r1)] (sM s m1))
    refine hY _ _ _ _ ?_
    refine (And.intro h.1 ?_)
    refine Exists.intro _ (And.intro (wc_40_3t_0t r1 (iA x1 127) _ _ h.2) (fun r2 m2 h => ?_))
    show Y 23 [(0, 5, true, 41), (1, 0, true, x1)] [(0, true, r2)] (sM s m2)
    refine hY _ _ _ _ ?_
    exact hQ r2 m2 h
  · have h := h.2 hc
    refine hY _ _ _ _ (hY _ _ _ _ (?_ : Y 23 [(0, 5, true, 41), (1, 0, true, x1)] [(0, true, 2)] s))
    refine hY _ _ _ _ ?_
    exact hQ 2 s.2.2.2 h
def we_129 : sFf := sEf 2 [(0, 5, 41), (1, 0, 0)] (fun xs s Q => ap1 (fun x1 => wq_129 x1 s.1 s.2.2.2 Q) xs)
theorem we_129_ok : kS dC 2 129 0 (.inl we_129) := sEf_ok (mi := im_m129) rfl rfl rfl (fun R xs s r1 hb => by obtain ⟨x1, rfl, hb⟩ := ap1_ok hb; exact wk_129_0 _ R s x1 (fun x m' hx => ⟨m', rfl, hx⟩) r1 hb)
/-- LM$Writer.add(I)V -/
def wq_168 (x1 : Int) (m : hy_m) (Q : Int → hy_m → Prop) : Prop := (120 ≤ (m 69 2) → (Q 0 m)) ∧ ((m 69 2) < 120 → (hy_r 4 x1 ∧ (0 ≤ (m 69 2) ∧ (m 69 2) < 120 ∧ (hy_r 0 ((m 69 2) + 1) ∧ (Q 0 (hy_u (hy_u m 70 (m 69 2) x1) 69 2 ((m 69 2) + 1)))))))
def cs_168 : List (Nat × Nat × sFS) := []
theorem cs_168_ok : kCs dC 0 cs_168 := kCs_n
def lb_168_0 (s : sS) (Q : sQ) (R : Int → hy_m → Prop) (x1 : Int) : Nat → Option (sL → sS → Prop) := sLb []
set_option maxRecDepth 30000 in
set_option maxHeartbeats 1000000 in
theorem wk_168_0 (Q : sQ) (R : Int → hy_m → Prop) (s : sS) (x1 : Int) (hQ : ∀ x m', R x m' → Q x (sM s m')) (hr : sRg [(0, 5, 69), (1, 0, 0)] [x1]) (h : wq_168 x1 s.2.2.2 R) : kX dC 0 im_m168 9 0 (sCan [(0, 5, 69), (1, 0, 0)] [x1]) [] s Q := by
  unfold wq_168 at h
  refine wz2_ok (cs := cs_168) (wr := []) (lb := lb_168_0 s Q R x1) cs_168_ok kLb_n (okL_can rfl hr) (fun Y hY hl => ?_)
  refine hY _ _ _ _ (hY _ _ _ _ (hY _ _ _ _ (?_ : Y 5 [(0, 5, true, 69), (1, 0, true, x1)] [(5, true, 69), (0, true, s.2.2.2 69 2)] s)))
  refine hY _ _ _ _ (hY _ _ _ _ (?_ : Y 9 [(0, 5, true, 69), (1, 0, true, x1)] [(0, true, 120), (0, true, s.2.2.2 69 2)] s))
  refine hY _ _ _ _ ?_
  refine And.intro (fun hc => ?_) (fun hc => ?_)
  · have h := h.1 hc
    show Y 33 [(0, 5, true, 69), (1, 0, true, x1)] [] s
    refine hY _ _ _ _ ?_
    exact hQ 0 s.2.2.2 h
  · have h := h.2 hc
    refine hY _ _ _ _ (hY _ _ _ _ (hY _ _ _ _ (?_ : Y 17 [(0, 5, true, 69), (1, 0, true, x1)] [(5, true, 69), (5, true, 70)] s)))
    refine hY _ _ _ _ (hY _ _ _ _ (?_ : Y 21 [(0, 5, true, 69), (1, 0, true, x1)] [(0, true, x1), (0, true, s.2.2.2 69 2), (5, true, 70)] s))
    refine hY _ _ _ _ ?_
    refine And.intro h.1 ?_
    show Y 22 [(0, 5, true, 69), (1, 0, true, x1)] [(4, true, x1), (0, true, s.2.2.2 69 2), (5, true, 70)] s
    refine hY _ _ _ _ ?_
    refine (And.intro h.2.1 (And.intro h.2.2.1 ?_))
    refine hY _ _ _ _ (hY _ _ _ _ (hY _ _ _ _ (?_ : Y 28 [(0, 5, true, 69), (1, 0, true, x1)] [(0, true, s.2.2.2 69 2), (5, true, 69)] (sM s (hy_u s.2.2.2 70 (s.2.2.2 69 2) x1)))))
    refine hY _ _ _ _ (hY _ _ _ _ (?_ : Y 30 [(0, 5, true, 69), (1, 0, true, x1)] [(0, false, (s.2.2.2 69 2) + 1), (5, true, 69)] (sM s (hy_u s.2.2.2 70 (s.2.2.2 69 2) x1))))
    refine hY _ _ _ _ ?_
    refine And.intro h.2.2.2.1 ?_
    show Y 33 [(0, 5, true, 69), (1, 0, true, x1)] [] (sM s (hy_u (hy_u s.2.2.2 70 (s.2.2.2 69 2) x1) 69 2 ((s.2.2.2 69 2) + 1)))
    refine hY _ _ _ _ ?_
    exact hQ 0 (hy_u (hy_u s.2.2.2 70 (s.2.2.2 69 2) x1) 69 2 ((s.2.2.2 69 2) + 1)) h.2.2.2.2
def we_168 : sFf := sEf 2 [(0, 5, 69), (1, 0, 0)] (fun xs s Q => ap1 (fun x1 => wq_168 x1 s.2.2.2 Q) xs)
theorem we_168_ok : kS dC 1 168 9 (.inl we_168) := sEf_ok (mi := im_m168) rfl rfl rfl (fun R xs s r1 hb => by obtain ⟨x1, rfl, hb⟩ := ap1_ok hb; exact wk_168_0 _ R s x1 (fun x m' hx => ⟨m', rfl, hx⟩) r1 hb)
/-- LM$Writer.addNumber(J)V -/
def wf_166_55 (x3 : Int) (Q : Int → hy_m → Prop) (P55 : Int → hy_m → Prop) (x5 : Int) (m : hy_m) : Prop := (x5 ≤ 0 → (Q 0 m)) ∧ (0 < x5 → (0 ≤ x3 ∧ 0 < x5 ∧ (0 ≤ (x3 / x5) ∧ 0 < (10 : Int) ∧ (hy_r 0 (((x3 / x5) % 10) + 48) ∧ (wq_168 (((x3 / x5) % 10) + 48) m (fun _ m1 => 0 ≤ x5 ∧ 0 < (10 : Int) ∧ (P55 (x5 / 10) m1)))))))
def wq_166_55 (x3 : Int) (x5 : Int) (m : hy_m) (Q : Int → hy_m → Prop) : Prop := wL1 hy_m (wf_166_55 x3 Q) x5 m
def wf_166_23 (x3 : Int) (Q : Int → hy_m → Prop) (P23 : Int → Int → hy_m → Prop) (x5 : Int) (x7 : Int) (m : hy_m) : Prop := (10 ≤ x7 → (wq_166_55 x3 x5 m Q)) ∧ (x7 < 10 → (hy_r 1 (x5 * 10) ∧ ((x3 < (x5 * 10) → (wq_166_55 x3 x5 m Q)) ∧ ((x5 * 10) ≤ x3 → (hy_r 1 (x5 * 10) ∧ (hy_r 0 (x7 + 1) ∧ (P23 (x5 * 10) (x7 + 1) m)))))))
def wq_166_23 (x3 : Int) (x5 : Int) (x7 : Int) (m : hy_m) (Q : Int → hy_m → Prop) : Prop := wL2 hy_m (wf_166_23 x3 Q) x5 x7 m
def wq_166 (x1 : Int) (m : hy_m) (Q : Int → hy_m → Prop) : Prop := (0 ≤ x1 → (-9223372036854775808 < x1 ∧ (wq_166_23 (if 0 < x1 then x1 else -x1) 1 1 m Q))) ∧ (x1 < 0 → (wq_168 45 m (fun _ m1 => -9223372036854775808 < x1 ∧ (wq_166_23 (if 0 < x1 then x1 else -x1) 1 1 m1 Q))))
theorem wc_168_r69_0f (x1 : Int) (s : sS) (R : Int → hy_m → Prop) (h : hy_r 0 x1 ∧ wq_168 x1 s.2.2.2 R) : we_168 [(5, true, 69), (0, false, x1)] s R := h
theorem wc_168_r69_0t (x1 : Int) (s : sS) (R : Int → hy_m → Prop) (h : wq_168 x1 s.2.2.2 R) : we_168 [(5, true, 69), (0, true, x1)] s R := h
def cs_166 : List (Nat × Nat × sFS) := [(168, 9, .inl we_168)]
theorem cs_166_ok : kCs dC 1 cs_166 := (kCs_c (Or.inr (Or.inr (Or.inr (Or.inr rfl)))) (we_168_ok.deep (by decide)) kCs_n)
def lb_166_55 (s : sS) (Q : sQ) (P55 : Int → hy_m → Prop) (R : Int → hy_m → Prop) (x3 : Int) (x5 : Int) : Nat → Option (sL → sS → Prop) := sLb [(55, fun lv t => sG [(0, 5, 69), (3, 1, 0), (5, 1, 0)] lv (ap2 (fun w3 w5 => ∃ m', t = sM s m' ∧ w3 = x3 ∧ P55 w5 m')))]
set_option maxRecDepth 30000 in
set_option maxHeartbeats 1000000 in
theorem wj_166_55 (Q : sQ) (R : Int → hy_m → Prop) (s : sS) (P55 : Int → hy_m → Prop) (x3 : Int) (x5 : Int) (m : hy_m) (hP55 : ∀ (z5 : Int) (m : hy_m), P55 z5 m → sRg [(0, 5, 69), (3, 1, 0), (5, 1, 0)] [x3, z5] → kX dC 1 im_m166 9 55 (sCan [(0, 5, 69), (3, 1, 0), (5, 1, 0)] [x3, z5]) [] (sM s m) Q) (hQ : ∀ x m', R x m' → Q x (sM s m')) (hr : sRg [(0, 5, 69), (3, 1, 0), (5, 1, 0)] [x3, x5]) (h : wf_166_55 x3 R P55 x5 m) : kX dC 1 im_m166 9 55 (sCan [(0, 5, 69), (3, 1, 0), (5, 1, 0)] [x3, x5]) [] (sM s m) Q := by
  unfold wf_166_55 at h
  refine wz2_ok (cs := cs_166) (wr := []) (lb := lb_166_55 s Q P55 R x3 x5) cs_166_ok (kLb_c (kLab (Bd := fun xs t => ap2 (fun w3 w5 => ∃ m', t = sM s m' ∧ w3 = x3 ∧ P55 w5 m') xs) rfl (fun xs t r1 r2 hb => by obtain ⟨w3, w5, rfl, hb⟩ := ap2_ok hb; obtain ⟨m', rfl, rfl, hx⟩ := hb; exact hP55 _ m' hx r1)) kLb_n) (okL_can rfl hr) (fun Y hY hl => ?_)
  have l55 := hl 55 _ rfl
  refine hY _ _ _ _ (hY _ _ _ _ (?_ : Y 58 [(0, 5, true, 69), (3, 1, true, x3), (5, 1, true, x5)] [(1, true, 0), (1, true, x5)] (sM s m)))
  refine hY _ _ _ _ ?_
  refine And.intro (fun hc => ?_) (fun hc => ?_)
  · have h := h.1 hc
    show Y 89 [(0, 5, true, 69), (3, 1, true, x3), (5, 1, true, x5)] [] (sM s m)
    refine hY _ _ _ _ ?_
    exact hQ 0 m h
  · have h := h.2 hc
    refine hY _ _ _ _ (hY _ _ _ _ (hY _ _ _ _ (?_ : Y 66 [(0, 5, true, 69), (3, 1, true, x3), (5, 1, true, x5)] [(1, true, x5), (1, true, x3), (5, true, 69)] (sM s m))))
    refine hY _ _ _ _ ?_
    refine (And.intro h.1 (And.intro h.2.1 ?_))
    refine hY _ _ _ _ (?_ : Y 70 [(0, 5, true, 69), (3, 1, true, x3), (5, 1, true, x5)] [(1, true, 10), (1, true, x3 / x5), (5, true, 69)] (sM s m))
    refine hY _ _ _ _ ?_
    refine (And.intro h.2.2.1 (And.intro h.2.2.2.1 ?_))
    refine hY _ _ _ _ (hY _ _ _ _ (hY _ _ _ _ (?_ : Y 75 [(0, 5, true, 69), (3, 1, true, x3), (5, 1, true, x5)] [(0, false, ((x3 / x5) % 10) + 48), (5, true, 69)] (sM s m))))
    refine hY _ _ _ _ ?_
    refine Exists.intro _ (And.intro (wc_168_r69_0f (((x3 / x5) % 10) + 48) _ _ h.2.2.2.2) (fun r1 m1 h => ?_))
    refine hY _ _ _ _ (hY _ _ _ _ (?_ : Y 83 [(0, 5, true, 69), (3, 1, true, x3), (5, 1, true, x5)] [(1, true, 10), (1, true, x5)] (sM s m1)))
    refine hY _ _ _ _ ?_
    refine (And.intro h.1 (And.intro h.2.1 ?_))
    refine hY _ _ _ _ (hY _ _ _ _ (?_ : Y 55 [(5, 1, true, x5 / 10), (0, 5, true, 69), (3, 1, true, x3)] [] (sM s m1)))
    refine l55 _ _ ?_
    exact (Exists.intro m1 (And.intro rfl (And.intro rfl h.2.2)))
theorem wk_166_55 (Q : sQ) (R : Int → hy_m → Prop) (s : sS) (x3 : Int) (x5 : Int) (hQ : ∀ x m', R x m' → Q x (sM s m')) (hr : sRg [(0, 5, 69), (3, 1, 0), (5, 1, 0)] [x3, x5]) (h : wq_166_55 x3 x5 s.2.2.2 R) : kX dC 1 im_m166 9 55 (sCan [(0, 5, 69), (3, 1, 0), (5, 1, 0)] [x3, x5]) [] s Q :=
  h (fun x5 m => sRg [(0, 5, 69), (3, 1, 0), (5, 1, 0)] [x3, x5] → kX dC 1 im_m166 9 55 (sCan [(0, 5, 69), (3, 1, 0), (5, 1, 0)] [x3, x5]) [] (sM s m) Q) (fun x5 m h hr => wj_166_55 Q R s (fun x5 m => sRg [(0, 5, 69), (3, 1, 0), (5, 1, 0)] [x3, x5] → kX dC 1 im_m166 9 55 (sCan [(0, 5, 69), (3, 1, 0), (5, 1, 0)] [x3, x5]) [] (sM s m) Q) x3 x5 m  (fun _ _ hp hr => hp hr) hQ hr h) hr
def lb_166_23 (s : sS) (Q : sQ) (P23 : Int → Int → hy_m → Prop) (R : Int → hy_m → Prop) (x3 : Int) (x5 : Int) (x7 : Int) : Nat → Option (sL → sS → Prop) := sLb [(55, fun lv t => sG [(0, 5, 69), (3, 1, 0), (5, 1, 0)] lv (ap2 (fun w3 w5 => ∃ m', t = sM s m' ∧ wq_166_55 w3 w5 m' R))), (23, fun lv t => sG [(0, 5, 69), (3, 1, 0), (5, 1, 0), (7, 0, 0)] lv (ap3 (fun w3 w5 w7 => ∃ m', t = sM s m' ∧ w3 = x3 ∧ P23 w5 w7 m')))]
set_option maxRecDepth 30000 in
set_option maxHeartbeats 1000000 in
theorem wj_166_23 (Q : sQ) (R : Int → hy_m → Prop) (s : sS) (P23 : Int → Int → hy_m → Prop) (x3 : Int) (x5 : Int) (x7 : Int) (m : hy_m) (hP23 : ∀ (z5 z7 : Int) (m : hy_m), P23 z5 z7 m → sRg [(0, 5, 69), (3, 1, 0), (5, 1, 0), (7, 0, 0)] [x3, z5, z7] → kX dC 1 im_m166 9 23 (sCan [(0, 5, 69), (3, 1, 0), (5, 1, 0), (7, 0, 0)] [x3, z5, z7]) [] (sM s m) Q) (hQ : ∀ x m', R x m' → Q x (sM s m')) (hr : sRg [(0, 5, 69), (3, 1, 0), (5, 1, 0), (7, 0, 0)] [x3, x5, x7]) (h : wf_166_23 x3 R P23 x5 x7 m) : kX dC 1 im_m166 9 23 (sCan [(0, 5, 69), (3, 1, 0), (5, 1, 0), (7, 0, 0)] [x3, x5, x7]) [] (sM s m) Q := by
  unfold wf_166_23 at h
  refine wz2_ok (cs := cs_166) (wr := []) (lb := lb_166_23 s Q P23 R x3 x5 x7) cs_166_ok (kLb_c (kLab (Bd := fun xs t => ap2 (fun w3 w5 => ∃ m', t = sM s m' ∧ wq_166_55 w3 w5 m' R) xs) rfl (fun xs t r1 r2 hb => by obtain ⟨w3, w5, rfl, hb⟩ := ap2_ok hb; obtain ⟨m', rfl, hx⟩ := hb; exact wk_166_55 Q R (sM s m') _ _ (fun x m'' hy => hQ x m'' hy) r1 hx)) (kLb_c (kLab (Bd := fun xs t => ap3 (fun w3 w5 w7 => ∃ m', t = sM s m' ∧ w3 = x3 ∧ P23 w5 w7 m') xs) rfl (fun xs t r1 r2 hb => by obtain ⟨w3, w5, w7, rfl, hb⟩ := ap3_ok hb; obtain ⟨m', rfl, rfl, hx⟩ := hb; exact hP23 _ _ m' hx r1)) kLb_n)) (okL_can rfl hr) (fun Y hY hl => ?_)
  have l55 := hl 55 _ rfl
  have l23 := hl 23 _ rfl
  refine hY _ _ _ _ (hY _ _ _ _ (?_ : Y 27 [(0, 5, true, 69), (3, 1, true, x3), (5, 1, true, x5), (7, 0, true, x7)] [(0, true, 10), (0, true, x7)] (sM s m)))
  refine hY _ _ _ _ ?_
  refine And.intro (fun hc => ?_) (fun hc => ?_)
  · have h := h.1 hc
    show Y 55 [(0, 5, true, 69), (3, 1, true, x3), (5, 1, true, x5), (7, 0, true, x7)] [] (sM s m)
    refine l55 _ _ ?_
    exact (Exists.intro m (And.intro rfl h))
  · have h := h.2 hc
    refine hY _ _ _ _ (hY _ _ _ _ (hY _ _ _ _ (?_ : Y 36 [(0, 5, true, 69), (3, 1, true, x3), (5, 1, true, x5), (7, 0, true, x7)] [(1, false, x5 * 10)] (sM s m))))
    refine hY _ _ _ _ (?_ : Y 37 [(0, 5, true, 69), (3, 1, true, x3), (5, 1, true, x5), (7, 0, true, x7)] [(1, true, x3), (1, false, x5 * 10)] (sM s m))
    refine hY _ _ _ _ ?_
    refine And.intro h.1 ?_
    refine And.intro (fun hc => ?_) (fun hc => ?_)
    · have h := h.2.1 hc
      show Y 55 [(0, 5, true, 69), (3, 1, true, x3), (5, 1, true, x5), (7, 0, true, x7)] [] (sM s m)
      refine l55 _ _ ?_
      exact (Exists.intro m (And.intro rfl h))
    · have h := h.2.2 hc
      refine hY _ _ _ _ (hY _ _ _ _ (hY _ _ _ _ (?_ : Y 47 [(0, 5, true, 69), (3, 1, true, x3), (5, 1, true, x5), (7, 0, true, x7)] [(1, false, x5 * 10)] (sM s m))))
      refine hY _ _ _ _ (hY _ _ _ _ (hY _ _ _ _ (?_ : Y 23 [(7, 0, false, x7 + 1), (5, 1, false, x5 * 10), (0, 5, true, 69), (3, 1, true, x3)] [] (sM s m))))
      refine l23 _ _ ?_
      refine And.intro h.1 ?_
      refine And.intro h.2.1 ?_
      exact (Exists.intro m (And.intro rfl (And.intro rfl h.2.2)))
theorem wk_166_23 (Q : sQ) (R : Int → hy_m → Prop) (s : sS) (x3 : Int) (x5 : Int) (x7 : Int) (hQ : ∀ x m', R x m' → Q x (sM s m')) (hr : sRg [(0, 5, 69), (3, 1, 0), (5, 1, 0), (7, 0, 0)] [x3, x5, x7]) (h : wq_166_23 x3 x5 x7 s.2.2.2 R) : kX dC 1 im_m166 9 23 (sCan [(0, 5, 69), (3, 1, 0), (5, 1, 0), (7, 0, 0)] [x3, x5, x7]) [] s Q :=
  h (fun x5 x7 m => sRg [(0, 5, 69), (3, 1, 0), (5, 1, 0), (7, 0, 0)] [x3, x5, x7] → kX dC 1 im_m166 9 23 (sCan [(0, 5, 69), (3, 1, 0), (5, 1, 0), (7, 0, 0)] [x3, x5, x7]) [] (sM s m) Q) (fun x5 x7 m h hr => wj_166_23 Q R s (fun x5 x7 m => sRg [(0, 5, 69), (3, 1, 0), (5, 1, 0), (7, 0, 0)] [x3, x5, x7] → kX dC 1 im_m166 9 23 (sCan [(0, 5, 69), (3, 1, 0), (5, 1, 0), (7, 0, 0)] [x3, x5, x7]) [] (sM s m) Q) x3 x5 x7 m  (fun _ _ _ hp hr => hp hr) hQ hr h) hr
def lb_166_0 (s : sS) (Q : sQ) (R : Int → hy_m → Prop) (x1 : Int) : Nat → Option (sL → sS → Prop) := sLb [(23, fun lv t => sG [(0, 5, 69), (3, 1, 0), (5, 1, 0), (7, 0, 0)] lv (ap3 (fun w3 w5 w7 => ∃ m', t = sM s m' ∧ wq_166_23 w3 w5 w7 m' R)))]
set_option maxRecDepth 30000 in
set_option maxHeartbeats 1000000 in
theorem wk_166_0 (Q : sQ) (R : Int → hy_m → Prop) (s : sS) (x1 : Int) (hQ : ∀ x m', R x m' → Q x (sM s m')) (hr : sRg [(0, 5, 69), (1, 1, 0)] [x1]) (h : wq_166 x1 s.2.2.2 R) : kX dC 1 im_m166 9 0 (sCan [(0, 5, 69), (1, 1, 0)] [x1]) [] s Q := by
  unfold wq_166 at h
  refine wz2_ok (cs := cs_166) (wr := []) (lb := lb_166_0 s Q R x1) cs_166_ok (kLb_c (kLab (Bd := fun xs t => ap3 (fun w3 w5 w7 => ∃ m', t = sM s m' ∧ wq_166_23 w3 w5 w7 m' R) xs) rfl (fun xs t r1 r2 hb => by obtain ⟨w3, w5, w7, rfl, hb⟩ := ap3_ok hb; obtain ⟨m', rfl, hx⟩ := hb; exact wk_166_23 Q R (sM s m') _ _ _ (fun x m'' hy => hQ x m'' hy) r1 hx)) kLb_n) (okL_can rfl hr) (fun Y hY hl => ?_)
  have l23 := hl 23 _ rfl
  refine hY _ _ _ _ (hY _ _ _ _ (?_ : Y 2 [(0, 5, true, 69), (1, 1, true, x1)] [(1, true, 0), (1, true, x1)] s))
  refine hY _ _ _ _ ?_
  refine And.intro (fun hc => ?_) (fun hc => ?_)
  · have h := h.1 hc
    refine hY _ _ _ _ (?_ : Y 13 [(0, 5, true, 69), (1, 1, true, x1)] [(1, true, x1)] s)
    refine hY _ _ _ _ ?_
    refine (And.intro h.1 ?_)
    refine hY _ _ _ _ (hY _ _ _ _ (hY _ _ _ _ (?_ : Y 20 [(5, 1, true, 1), (3, 1, true, (if 0 < x1 then x1 else -x1)), (0, 5, true, 69), (1, 1, true, x1)] [] s)))
    refine hY _ _ _ _ (hY _ _ _ _ (?_ : Y 23 [(7, 2, true, 1), (5, 1, true, 1), (3, 1, true, (if 0 < x1 then x1 else -x1)), (0, 5, true, 69), (1, 1, true, x1)] [] s))
    refine l23 _ _ ?_
    exact (Exists.intro s.2.2.2 (And.intro rfl h.2))
  · have h := h.2 hc
    refine hY _ _ _ _ (hY _ _ _ _ (?_ : Y 9 [(0, 5, true, 69), (1, 1, true, x1)] [(0, true, 45), (5, true, 69)] s))
    refine hY _ _ _ _ ?_
    refine Exists.intro _ (And.intro (wc_168_r69_0t 45 _ _ h) (fun r1 m1 h => ?_))
    refine hY _ _ _ _ (?_ : Y 13 [(0, 5, true, 69), (1, 1, true, x1)] [(1, true, x1)] (sM s m1))
    refine hY _ _ _ _ ?_
    refine (And.intro h.1 ?_)
    refine hY _ _ _ _ (hY _ _ _ _ (hY _ _ _ _ (?_ : Y 20 [(5, 1, true, 1), (3, 1, true, (if 0 < x1 then x1 else -x1)), (0, 5, true, 69), (1, 1, true, x1)] [] (sM s m1))))
    refine hY _ _ _ _ (hY _ _ _ _ (?_ : Y 23 [(7, 2, true, 1), (5, 1, true, 1), (3, 1, true, (if 0 < x1 then x1 else -x1)), (0, 5, true, 69), (1, 1, true, x1)] [] (sM s m1)))
    refine l23 _ _ ?_
    exact (Exists.intro m1 (And.intro rfl h.2))
def we_166 : sFf := sEf 8 [(0, 5, 69), (1, 1, 0)] (fun xs s Q => ap1 (fun x1 => wq_166 x1 s.2.2.2 Q) xs)
theorem we_166_ok : kS dC 2 166 9 (.inl we_166) := sEf_ok (mi := im_m166) rfl rfl rfl (fun R xs s r1 hb => by obtain ⟨x1, rfl, hb⟩ := ap1_ok hb; exact wk_166_0 _ R s x1 (fun x m' hx => ⟨m', rfl, hx⟩) r1 hb)
/-- LM$Writer.addVariable(I)V -/
def wq_165_66 (x2 : Int) (m : hy_m) (Q : Int → hy_m → Prop) : Prop := wq_168 95 m (fun _ m1 => wq_166 x2 m1 (fun _ m2 => Q 0 m2))
def wq_165_26 (x1 : Int) (x2 : Int) (m : hy_m) (Q : Int → hy_m → Prop) : Prop := (x2 ≠ (m 69 4) → (wq_165_66 x2 m Q)) ∧ (x2 = (m 69 4) → ((120 ≤ (m 69 4) → (wq_165_66 x2 m Q)) ∧ ((m 69 4) < 120 → (0 ≤ (m 69 4) ∧ (m 69 4) < 120 ∧ (hy_r 0 ((m 69 4) + 1) ∧ (wq_165_66 x2 (hy_u (hy_u m 71 (m 69 4) x1) 69 4 ((m 69 4) + 1)) Q))))))
def wf_165_2 (x1 : Int) (Q : Int → hy_m → Prop) (P2 : Int → hy_m → Prop) (x2 : Int) (m : hy_m) : Prop := ((m 69 4) ≤ x2 → (wq_165_26 x1 x2 m Q)) ∧ (x2 < (m 69 4) → (0 ≤ x2 ∧ x2 < 120 ∧ (((m 71 x2) = x1 → (wq_165_26 x1 x2 m Q)) ∧ ((m 71 x2) ≠ x1 → (hy_r 0 (x2 + 1) ∧ (P2 (x2 + 1) m))))))
def wq_165_2 (x1 : Int) (x2 : Int) (m : hy_m) (Q : Int → hy_m → Prop) : Prop := wL1 hy_m (wf_165_2 x1 Q) x2 m
def wq_165 (x1 : Int) (m : hy_m) (Q : Int → hy_m → Prop) : Prop := wq_165_2 x1 0 m Q
theorem wc_166_r69_1t (x1 : Int) (s : sS) (R : Int → hy_m → Prop) (h : wq_166 x1 s.2.2.2 R) : we_166 [(5, true, 69), (1, true, x1)] s R := h
def cs_165 : List (Nat × Nat × sFS) := [(166, 9, .inl we_166), (168, 9, .inl we_168)]
theorem cs_165_ok : kCs dC 2 cs_165 := (kCs_c (Or.inr (Or.inr (Or.inr (Or.inr rfl)))) (we_166_ok.deep (by decide)) (kCs_c (Or.inr (Or.inr (Or.inr (Or.inr rfl)))) (we_168_ok.deep (by decide)) kCs_n))
def lb_165_66 (s : sS) (Q : sQ) (R : Int → hy_m → Prop) (x2 : Int) : Nat → Option (sL → sS → Prop) := sLb []
set_option maxRecDepth 30000 in
set_option maxHeartbeats 1000000 in
theorem wk_165_66 (Q : sQ) (R : Int → hy_m → Prop) (s : sS) (x2 : Int) (hQ : ∀ x m', R x m' → Q x (sM s m')) (hr : sRg [(0, 5, 69), (2, 0, 0)] [x2]) (h : wq_165_66 x2 s.2.2.2 R) : kX dC 2 im_m165 9 66 (sCan [(0, 5, 69), (2, 0, 0)] [x2]) [] s Q := by
  unfold wq_165_66 at h
  refine wz2_ok (cs := cs_165) (wr := []) (lb := lb_165_66 s Q R x2) cs_165_ok kLb_n (okL_can rfl hr) (fun Y hY hl => ?_)
  refine hY _ _ _ _ (hY _ _ _ _ (?_ : Y 69 [(0, 5, true, 69), (2, 0, true, x2)] [(0, true, 95), (5, true, 69)] s))
  refine hY _ _ _ _ ?_
  refine Exists.intro _ (And.intro (wc_168_r69_0t 95 _ _ h) (fun r1 m1 h => ?_))
  refine hY _ _ _ _ (hY _ _ _ _ (?_ : Y 74 [(0, 5, true, 69), (2, 0, true, x2)] [(0, true, x2), (5, true, 69)] (sM s m1)))
  refine hY _ _ _ _ ?_
  show Y 75 [(0, 5, true, 69), (2, 0, true, x2)] [(1, true, x2), (5, true, 69)] (sM s m1)
  refine hY _ _ _ _ ?_
  refine Exists.intro _ (And.intro (wc_166_r69_1t x2 _ _ h) (fun r2 m2 h => ?_))
  show Y 78 [(0, 5, true, 69), (2, 0, true, x2)] [] (sM s m2)
  refine hY _ _ _ _ ?_
  exact hQ 0 m2 h
def lb_165_26 (s : sS) (Q : sQ) (R : Int → hy_m → Prop) (x1 : Int) (x2 : Int) : Nat → Option (sL → sS → Prop) := sLb [(66, fun lv t => sG [(0, 5, 69), (2, 0, 0)] lv (ap1 (fun w2 => ∃ m', t = sM s m' ∧ wq_165_66 w2 m' R)))]
set_option maxRecDepth 30000 in
set_option maxHeartbeats 1000000 in
theorem wk_165_26 (Q : sQ) (R : Int → hy_m → Prop) (s : sS) (x1 : Int) (x2 : Int) (hQ : ∀ x m', R x m' → Q x (sM s m')) (hr : sRg [(0, 5, 69), (1, 0, 0), (2, 0, 0)] [x1, x2]) (h : wq_165_26 x1 x2 s.2.2.2 R) : kX dC 2 im_m165 9 26 (sCan [(0, 5, 69), (1, 0, 0), (2, 0, 0)] [x1, x2]) [] s Q := by
  unfold wq_165_26 at h
  refine wz2_ok (cs := cs_165) (wr := []) (lb := lb_165_26 s Q R x1 x2) cs_165_ok (kLb_c (kLab (Bd := fun xs t => ap1 (fun w2 => ∃ m', t = sM s m' ∧ wq_165_66 w2 m' R) xs) rfl (fun xs t r1 r2 hb => by obtain ⟨w2, rfl, hb⟩ := ap1_ok hb; obtain ⟨m', rfl, hx⟩ := hb; exact wk_165_66 Q R (sM s m') _ (fun x m'' hy => hQ x m'' hy) r1 hx)) kLb_n) (okL_can rfl hr) (fun Y hY hl => ?_)
  have l66 := hl 66 _ rfl
  refine hY _ _ _ _ (hY _ _ _ _ (hY _ _ _ _ (?_ : Y 31 [(0, 5, true, 69), (1, 0, true, x1), (2, 0, true, x2)] [(0, true, s.2.2.2 69 4), (0, true, x2)] s)))
  refine hY _ _ _ _ ?_
  refine And.intro (fun hc => ?_) (fun hc => ?_)
  · have h := h.1 hc
    show Y 66 [(0, 5, true, 69), (1, 0, true, x1), (2, 0, true, x2)] [] s
    refine l66 _ _ ?_
    exact (Exists.intro s.2.2.2 (And.intro rfl h))
  · have h := h.2 hc
    refine hY _ _ _ _ (hY _ _ _ _ (hY _ _ _ _ (?_ : Y 39 [(0, 5, true, 69), (1, 0, true, x1), (2, 0, true, x2)] [(5, true, 69), (0, true, s.2.2.2 69 4)] s)))
    refine hY _ _ _ _ (hY _ _ _ _ (?_ : Y 43 [(0, 5, true, 69), (1, 0, true, x1), (2, 0, true, x2)] [(0, true, 120), (0, true, s.2.2.2 69 4)] s))
    refine hY _ _ _ _ ?_
    refine And.intro (fun hc => ?_) (fun hc => ?_)
    · have h := h.1 hc
      show Y 66 [(0, 5, true, 69), (1, 0, true, x1), (2, 0, true, x2)] [] s
      refine l66 _ _ ?_
      exact (Exists.intro s.2.2.2 (And.intro rfl h))
    · have h := h.2 hc
      refine hY _ _ _ _ (hY _ _ _ _ (hY _ _ _ _ (?_ : Y 51 [(0, 5, true, 69), (1, 0, true, x1), (2, 0, true, x2)] [(5, true, 69), (5, true, 71)] s)))
      refine hY _ _ _ _ (hY _ _ _ _ (?_ : Y 55 [(0, 5, true, 69), (1, 0, true, x1), (2, 0, true, x2)] [(0, true, x1), (0, true, s.2.2.2 69 4), (5, true, 71)] s))
      refine hY _ _ _ _ ?_
      refine (And.intro h.1 (And.intro h.2.1 ?_))
      refine hY _ _ _ _ (hY _ _ _ _ (hY _ _ _ _ (?_ : Y 61 [(0, 5, true, 69), (1, 0, true, x1), (2, 0, true, x2)] [(0, true, s.2.2.2 69 4), (5, true, 69)] (sM s (hy_u s.2.2.2 71 (s.2.2.2 69 4) x1)))))
      refine hY _ _ _ _ (hY _ _ _ _ (?_ : Y 63 [(0, 5, true, 69), (1, 0, true, x1), (2, 0, true, x2)] [(0, false, (s.2.2.2 69 4) + 1), (5, true, 69)] (sM s (hy_u s.2.2.2 71 (s.2.2.2 69 4) x1))))
      refine hY _ _ _ _ ?_
      refine And.intro h.2.2.1 ?_
      show Y 66 [(0, 5, true, 69), (1, 0, true, x1), (2, 0, true, x2)] [] (sM s (hy_u (hy_u s.2.2.2 71 (s.2.2.2 69 4) x1) 69 4 ((s.2.2.2 69 4) + 1)))
      refine l66 _ _ ?_
      exact (Exists.intro (hy_u (hy_u s.2.2.2 71 (s.2.2.2 69 4) x1) 69 4 ((s.2.2.2 69 4) + 1)) (And.intro rfl h.2.2.2))
def lb_165_2 (s : sS) (Q : sQ) (P2 : Int → hy_m → Prop) (R : Int → hy_m → Prop) (x1 : Int) (x2 : Int) : Nat → Option (sL → sS → Prop) := sLb [(26, fun lv t => sG [(0, 5, 69), (1, 0, 0), (2, 0, 0)] lv (ap2 (fun w1 w2 => ∃ m', t = sM s m' ∧ wq_165_26 w1 w2 m' R))), (2, fun lv t => sG [(0, 5, 69), (1, 0, 0), (2, 0, 0)] lv (ap2 (fun w1 w2 => ∃ m', t = sM s m' ∧ w1 = x1 ∧ P2 w2 m')))]
set_option maxRecDepth 30000 in
set_option maxHeartbeats 1000000 in
theorem wj_165_2 (Q : sQ) (R : Int → hy_m → Prop) (s : sS) (P2 : Int → hy_m → Prop) (x1 : Int) (x2 : Int) (m : hy_m) (hP2 : ∀ (z2 : Int) (m : hy_m), P2 z2 m → sRg [(0, 5, 69), (1, 0, 0), (2, 0, 0)] [x1, z2] → kX dC 2 im_m165 9 2 (sCan [(0, 5, 69), (1, 0, 0), (2, 0, 0)] [x1, z2]) [] (sM s m) Q) (hQ : ∀ x m', R x m' → Q x (sM s m')) (hr : sRg [(0, 5, 69), (1, 0, 0), (2, 0, 0)] [x1, x2]) (h : wf_165_2 x1 R P2 x2 m) : kX dC 2 im_m165 9 2 (sCan [(0, 5, 69), (1, 0, 0), (2, 0, 0)] [x1, x2]) [] (sM s m) Q := by
  unfold wf_165_2 at h
  refine wz2_ok (cs := cs_165) (wr := []) (lb := lb_165_2 s Q P2 R x1 x2) cs_165_ok (kLb_c (kLab (Bd := fun xs t => ap2 (fun w1 w2 => ∃ m', t = sM s m' ∧ wq_165_26 w1 w2 m' R) xs) rfl (fun xs t r1 r2 hb => by obtain ⟨w1, w2, rfl, hb⟩ := ap2_ok hb; obtain ⟨m', rfl, hx⟩ := hb; exact wk_165_26 Q R (sM s m') _ _ (fun x m'' hy => hQ x m'' hy) r1 hx)) (kLb_c (kLab (Bd := fun xs t => ap2 (fun w1 w2 => ∃ m', t = sM s m' ∧ w1 = x1 ∧ P2 w2 m') xs) rfl (fun xs t r1 r2 hb => by obtain ⟨w1, w2, rfl, hb⟩ := ap2_ok hb; obtain ⟨m', rfl, rfl, hx⟩ := hb; exact hP2 _ m' hx r1)) kLb_n)) (okL_can rfl hr) (fun Y hY hl => ?_)
  have l26 := hl 26 _ rfl
  have l2 := hl 2 _ rfl
  refine hY _ _ _ _ (hY _ _ _ _ (hY _ _ _ _ (?_ : Y 7 [(0, 5, true, 69), (1, 0, true, x1), (2, 0, true, x2)] [(0, true, m 69 4), (0, true, x2)] (sM s m))))
  refine hY _ _ _ _ ?_
  refine And.intro (fun hc => ?_) (fun hc => ?_)
  · have h := h.1 hc
    show Y 26 [(0, 5, true, 69), (1, 0, true, x1), (2, 0, true, x2)] [] (sM s m)
    refine l26 _ _ ?_
    exact (Exists.intro m (And.intro rfl h))
  · have h := h.2 hc
    refine hY _ _ _ _ (hY _ _ _ _ (hY _ _ _ _ (?_ : Y 15 [(0, 5, true, 69), (1, 0, true, x1), (2, 0, true, x2)] [(0, true, x2), (5, true, 71)] (sM s m))))
    refine hY _ _ _ _ ?_
    refine (And.intro h.1 (And.intro h.2.1 ?_))
    refine hY _ _ _ _ (?_ : Y 17 [(0, 5, true, 69), (1, 0, true, x1), (2, 0, true, x2)] [(0, true, x1), (0, true, m 71 x2)] (sM s m))
    refine hY _ _ _ _ ?_
    refine And.intro (fun hc => ?_) (fun hc => ?_)
    · have h := h.2.2.1 hc
      show Y 26 [(0, 5, true, 69), (1, 0, true, x1), (2, 0, true, x2)] [] (sM s m)
      refine l26 _ _ ?_
      exact (Exists.intro m (And.intro rfl h))
    · have h := h.2.2.2 hc
      refine hY _ _ _ _ (hY _ _ _ _ (?_ : Y 2 [(2, 0, false, x2 + 1), (0, 5, true, 69), (1, 0, true, x1)] [] (sM s m)))
      refine l2 _ _ ?_
      refine And.intro h.1 ?_
      exact (Exists.intro m (And.intro rfl (And.intro rfl h.2)))
theorem wk_165_2 (Q : sQ) (R : Int → hy_m → Prop) (s : sS) (x1 : Int) (x2 : Int) (hQ : ∀ x m', R x m' → Q x (sM s m')) (hr : sRg [(0, 5, 69), (1, 0, 0), (2, 0, 0)] [x1, x2]) (h : wq_165_2 x1 x2 s.2.2.2 R) : kX dC 2 im_m165 9 2 (sCan [(0, 5, 69), (1, 0, 0), (2, 0, 0)] [x1, x2]) [] s Q :=
  h (fun x2 m => sRg [(0, 5, 69), (1, 0, 0), (2, 0, 0)] [x1, x2] → kX dC 2 im_m165 9 2 (sCan [(0, 5, 69), (1, 0, 0), (2, 0, 0)] [x1, x2]) [] (sM s m) Q) (fun x2 m h hr => wj_165_2 Q R s (fun x2 m => sRg [(0, 5, 69), (1, 0, 0), (2, 0, 0)] [x1, x2] → kX dC 2 im_m165 9 2 (sCan [(0, 5, 69), (1, 0, 0), (2, 0, 0)] [x1, x2]) [] (sM s m) Q) x1 x2 m  (fun _ _ hp hr => hp hr) hQ hr h) hr
def lb_165_0 (s : sS) (Q : sQ) (R : Int → hy_m → Prop) (x1 : Int) : Nat → Option (sL → sS → Prop) := sLb [(2, fun lv t => sG [(0, 5, 69), (1, 0, 0), (2, 0, 0)] lv (ap2 (fun w1 w2 => ∃ m', t = sM s m' ∧ wq_165_2 w1 w2 m' R)))]
set_option maxRecDepth 30000 in
set_option maxHeartbeats 1000000 in
theorem wk_165_0 (Q : sQ) (R : Int → hy_m → Prop) (s : sS) (x1 : Int) (hQ : ∀ x m', R x m' → Q x (sM s m')) (hr : sRg [(0, 5, 69), (1, 0, 0)] [x1]) (h : wq_165 x1 s.2.2.2 R) : kX dC 2 im_m165 9 0 (sCan [(0, 5, 69), (1, 0, 0)] [x1]) [] s Q := by
  unfold wq_165 at h
  refine wz2_ok (cs := cs_165) (wr := []) (lb := lb_165_0 s Q R x1) cs_165_ok (kLb_c (kLab (Bd := fun xs t => ap2 (fun w1 w2 => ∃ m', t = sM s m' ∧ wq_165_2 w1 w2 m' R) xs) rfl (fun xs t r1 r2 hb => by obtain ⟨w1, w2, rfl, hb⟩ := ap2_ok hb; obtain ⟨m', rfl, hx⟩ := hb; exact wk_165_2 Q R (sM s m') _ _ (fun x m'' hy => hQ x m'' hy) r1 hx)) kLb_n) (okL_can rfl hr) (fun Y hY hl => ?_)
  have l2 := hl 2 _ rfl
  refine hY _ _ _ _ (hY _ _ _ _ (?_ : Y 2 [(2, 2, true, 0), (0, 5, true, 69), (1, 0, true, x1)] [] s))
  refine l2 _ _ ?_
  exact (Exists.intro s.2.2.2 (And.intro rfl h))
def we_165 : sFf := sEf 3 [(0, 5, 69), (1, 0, 0)] (fun xs s Q => ap1 (fun x1 => wq_165 x1 s.2.2.2 Q) xs)
theorem we_165_ok : kS dC 3 165 9 (.inl we_165) := sEf_ok (mi := im_m165) rfl rfl rfl (fun R xs s r1 hb => by obtain ⟨x1, rfl, hb⟩ := ap1_ok hb; exact wk_165_0 _ R s x1 (fun x m' hx => ⟨m', rfl, hx⟩) r1 hb)
/-- LM$Writer.addName(J)V -/
def wf_167_2 (Q : Int → hy_m → Prop) (P2 : Int → hy_m → Prop) (x3 : Int) (m : hy_m) : Prop := (x3 ≤ 0 → (Q 0 m)) ∧ (0 < x3 → (hy_r 0 (jA x3 127) ∧ (wq_168 (jA x3 127) m (fun _ m1 => P2 (jSr x3 7) m1))))
def wq_167_2 (x3 : Int) (m : hy_m) (Q : Int → hy_m → Prop) : Prop := wL1 hy_m (wf_167_2 Q) x3 m
def wq_167 (x1 : Int) (m : hy_m) (Q : Int → hy_m → Prop) : Prop := wq_167_2 x1 m Q
def cs_167 : List (Nat × Nat × sFS) := [(168, 9, .inl we_168)]
theorem cs_167_ok : kCs dC 1 cs_167 := (kCs_c (Or.inr (Or.inr (Or.inr (Or.inr rfl)))) (we_168_ok.deep (by decide)) kCs_n)
def lb_167_2 (s : sS) (Q : sQ) (P2 : Int → hy_m → Prop) (R : Int → hy_m → Prop) (x3 : Int) : Nat → Option (sL → sS → Prop) := sLb [(2, fun lv t => sG [(0, 5, 69), (3, 1, 0)] lv (ap1 (fun w3 => ∃ m', t = sM s m' ∧ P2 w3 m')))]
set_option maxRecDepth 30000 in
set_option maxHeartbeats 1000000 in
theorem wj_167_2 (Q : sQ) (R : Int → hy_m → Prop) (s : sS) (P2 : Int → hy_m → Prop) (x3 : Int) (m : hy_m) (hP2 : ∀ (z3 : Int) (m : hy_m), P2 z3 m → sRg [(0, 5, 69), (3, 1, 0)] [z3] → kX dC 1 im_m167 9 2 (sCan [(0, 5, 69), (3, 1, 0)] [z3]) [] (sM s m) Q) (hQ : ∀ x m', R x m' → Q x (sM s m')) (hr : sRg [(0, 5, 69), (3, 1, 0)] [x3]) (h : wf_167_2 R P2 x3 m) : kX dC 1 im_m167 9 2 (sCan [(0, 5, 69), (3, 1, 0)] [x3]) [] (sM s m) Q := by
  unfold wf_167_2 at h
  refine wz2_ok (cs := cs_167) (wr := []) (lb := lb_167_2 s Q P2 R x3) cs_167_ok (kLb_c (kLab (Bd := fun xs t => ap1 (fun w3 => ∃ m', t = sM s m' ∧ P2 w3 m') xs) rfl (fun xs t r1 r2 hb => by obtain ⟨w3, rfl, hb⟩ := ap1_ok hb; obtain ⟨m', rfl, hx⟩ := hb; exact hP2 _ m' hx r1)) kLb_n) (okL_can rfl hr) (fun Y hY hl => ?_)
  have l2 := hl 2 _ rfl
  refine hY _ _ _ _ (hY _ _ _ _ (?_ : Y 4 [(0, 5, true, 69), (3, 1, true, x3)] [(1, true, 0), (1, true, x3)] (sM s m)))
  refine hY _ _ _ _ ?_
  refine And.intro (fun hc => ?_) (fun hc => ?_)
  · have h := h.1 hc
    show Y 26 [(0, 5, true, 69), (3, 1, true, x3)] [] (sM s m)
    refine hY _ _ _ _ ?_
    exact hQ 0 m h
  · have h := h.2 hc
    refine hY _ _ _ _ (hY _ _ _ _ (hY _ _ _ _ (?_ : Y 13 [(0, 5, true, 69), (3, 1, true, x3)] [(1, true, 127), (1, true, x3), (5, true, 69)] (sM s m))))
    refine hY _ _ _ _ (?_ : Y 14 [(0, 5, true, 69), (3, 1, true, x3)] [(1, true, jA x3 127), (5, true, 69)] (sM s m))
    refine hY _ _ _ _ (?_ : Y 15 [(0, 5, true, 69), (3, 1, true, x3)] [(0, false, jA x3 127), (5, true, 69)] (sM s m))
    refine hY _ _ _ _ ?_
    refine Exists.intro _ (And.intro (wc_168_r69_0f (jA x3 127) _ _ h) (fun r1 m1 h => ?_))
    refine hY _ _ _ _ (hY _ _ _ _ (?_ : Y 21 [(0, 5, true, 69), (3, 1, true, x3)] [(0, true, 7), (1, true, x3)] (sM s m1)))
    refine hY _ _ _ _ (?_ : Y 22 [(0, 5, true, 69), (3, 1, true, x3)] [(1, true, jSr x3 7)] (sM s m1))
    refine hY _ _ _ _ (hY _ _ _ _ (?_ : Y 2 [(3, 1, true, jSr x3 7), (0, 5, true, 69)] [] (sM s m1)))
    refine l2 _ _ ?_
    exact (Exists.intro m1 (And.intro rfl h))
theorem wk_167_2 (Q : sQ) (R : Int → hy_m → Prop) (s : sS) (x3 : Int) (hQ : ∀ x m', R x m' → Q x (sM s m')) (hr : sRg [(0, 5, 69), (3, 1, 0)] [x3]) (h : wq_167_2 x3 s.2.2.2 R) : kX dC 1 im_m167 9 2 (sCan [(0, 5, 69), (3, 1, 0)] [x3]) [] s Q :=
  h (fun x3 m => sRg [(0, 5, 69), (3, 1, 0)] [x3] → kX dC 1 im_m167 9 2 (sCan [(0, 5, 69), (3, 1, 0)] [x3]) [] (sM s m) Q) (fun x3 m h hr => wj_167_2 Q R s (fun x3 m => sRg [(0, 5, 69), (3, 1, 0)] [x3] → kX dC 1 im_m167 9 2 (sCan [(0, 5, 69), (3, 1, 0)] [x3]) [] (sM s m) Q) x3 m  (fun _ _ hp hr => hp hr) hQ hr h) hr
def lb_167_0 (s : sS) (Q : sQ) (R : Int → hy_m → Prop) (x1 : Int) : Nat → Option (sL → sS → Prop) := sLb [(2, fun lv t => sG [(0, 5, 69), (3, 1, 0)] lv (ap1 (fun w3 => ∃ m', t = sM s m' ∧ wq_167_2 w3 m' R)))]
set_option maxRecDepth 30000 in
set_option maxHeartbeats 1000000 in
theorem wk_167_0 (Q : sQ) (R : Int → hy_m → Prop) (s : sS) (x1 : Int) (hQ : ∀ x m', R x m' → Q x (sM s m')) (hr : sRg [(0, 5, 69), (1, 1, 0)] [x1]) (h : wq_167 x1 s.2.2.2 R) : kX dC 1 im_m167 9 0 (sCan [(0, 5, 69), (1, 1, 0)] [x1]) [] s Q := by
  unfold wq_167 at h
  refine wz2_ok (cs := cs_167) (wr := []) (lb := lb_167_0 s Q R x1) cs_167_ok (kLb_c (kLab (Bd := fun xs t => ap1 (fun w3 => ∃ m', t = sM s m' ∧ wq_167_2 w3 m' R) xs) rfl (fun xs t r1 r2 hb => by obtain ⟨w3, rfl, hb⟩ := ap1_ok hb; obtain ⟨m', rfl, hx⟩ := hb; exact wk_167_2 Q R (sM s m') _ (fun x m'' hy => hQ x m'' hy) r1 hx)) kLb_n) (okL_can rfl hr) (fun Y hY hl => ?_)
  have l2 := hl 2 _ rfl
  refine hY _ _ _ _ (hY _ _ _ _ (?_ : Y 2 [(3, 1, true, x1), (0, 5, true, 69), (1, 1, true, x1)] [] s))
  refine l2 _ _ ?_
  exact (Exists.intro s.2.2.2 (And.intro rfl h))
def we_167 : sFf := sEf 5 [(0, 5, 69), (1, 1, 0)] (fun xs s Q => ap1 (fun x1 => wq_167 x1 s.2.2.2 Q) xs)
theorem we_167_ok : kS dC 2 167 9 (.inl we_167) := sEf_ok (mi := im_m167) rfl rfl rfl (fun R xs s r1 hb => by obtain ⟨x1, rfl, hb⟩ := ap1_ok hb; exact wk_167_0 _ R s x1 (fun x m' hx => ⟨m', rfl, hx⟩) r1 hb)
/-- LM$Writer.beginCompound(IJ)V -/
def wq_161_30 (x1 : Int) (m : hy_m) (Q : Int → hy_m → Prop) : Prop := (120 ≤ (m 69 7) → (Q 0 m)) ∧ ((m 69 7) < 120 → (0 ≤ (m 69 7) ∧ (m 69 7) < 120 ∧ (0 ≤ (m 69 7) ∧ (m 69 7) < 120 ∧ (hy_r 0 ((m 69 7) + 1) ∧ (Q 0 (hy_u (hy_u (hy_u m 72 (m 69 7) x1) 73 (m 69 7) 0) 69 7 ((m 69 7) + 1)))))))
def wq_161 (x1 : Int) (x2 : Int) (m : hy_m) (Q : Int → hy_m → Prop) : Prop := (x2 ≠ 186 → (wq_167 (jSr x2 2) m (fun _ m1 => wq_168 40 m1 (fun _ m2 => wq_161_30 x1 m2 Q)))) ∧ (x2 = 186 → (wq_168 91 m (fun _ m3 => wq_161_30 x1 m3 Q)))
theorem wc_167_r69_1t (x1 : Int) (s : sS) (R : Int → hy_m → Prop) (h : wq_167 x1 s.2.2.2 R) : we_167 [(5, true, 69), (1, true, x1)] s R := h
def cs_161 : List (Nat × Nat × sFS) := [(167, 9, .inl we_167), (168, 9, .inl we_168)]
theorem cs_161_ok : kCs dC 2 cs_161 := (kCs_c (Or.inr (Or.inr (Or.inr (Or.inr rfl)))) (we_167_ok.deep (by decide)) (kCs_c (Or.inr (Or.inr (Or.inr (Or.inr rfl)))) (we_168_ok.deep (by decide)) kCs_n))
def lb_161_30 (s : sS) (Q : sQ) (R : Int → hy_m → Prop) (x1 : Int) : Nat → Option (sL → sS → Prop) := sLb []
set_option maxRecDepth 30000 in
set_option maxHeartbeats 1000000 in
theorem wk_161_30 (Q : sQ) (R : Int → hy_m → Prop) (s : sS) (x1 : Int) (hQ : ∀ x m', R x m' → Q x (sM s m')) (hr : sRg [(0, 5, 69), (1, 0, 0)] [x1]) (h : wq_161_30 x1 s.2.2.2 R) : kX dC 2 im_m161 9 30 (sCan [(0, 5, 69), (1, 0, 0)] [x1]) [] s Q := by
  unfold wq_161_30 at h
  refine wz2_ok (cs := cs_161) (wr := []) (lb := lb_161_30 s Q R x1) cs_161_ok kLb_n (okL_can rfl hr) (fun Y hY hl => ?_)
  refine hY _ _ _ _ (hY _ _ _ _ (hY _ _ _ _ (?_ : Y 35 [(0, 5, true, 69), (1, 0, true, x1)] [(5, true, 69), (0, true, s.2.2.2 69 7)] s)))
  refine hY _ _ _ _ (hY _ _ _ _ (?_ : Y 39 [(0, 5, true, 69), (1, 0, true, x1)] [(0, true, 120), (0, true, s.2.2.2 69 7)] s))
  refine hY _ _ _ _ ?_
  refine And.intro (fun hc => ?_) (fun hc => ?_)
  · have h := h.1 hc
    show Y 72 [(0, 5, true, 69), (1, 0, true, x1)] [] s
    refine hY _ _ _ _ ?_
    exact hQ 0 s.2.2.2 h
  · have h := h.2 hc
    refine hY _ _ _ _ (hY _ _ _ _ (hY _ _ _ _ (?_ : Y 47 [(0, 5, true, 69), (1, 0, true, x1)] [(5, true, 69), (5, true, 72)] s)))
    refine hY _ _ _ _ (hY _ _ _ _ (?_ : Y 51 [(0, 5, true, 69), (1, 0, true, x1)] [(0, true, x1), (0, true, s.2.2.2 69 7), (5, true, 72)] s))
    refine hY _ _ _ _ ?_
    refine (And.intro h.1 (And.intro h.2.1 ?_))
    refine hY _ _ _ _ (hY _ _ _ _ (hY _ _ _ _ (?_ : Y 57 [(0, 5, true, 69), (1, 0, true, x1)] [(5, true, 69), (5, true, 73)] (sM s (hy_u s.2.2.2 72 (s.2.2.2 69 7) x1)))))
    refine hY _ _ _ _ (hY _ _ _ _ (?_ : Y 61 [(0, 5, true, 69), (1, 0, true, x1)] [(2, true, 0), (0, true, s.2.2.2 69 7), (5, true, 73)] (sM s (hy_u s.2.2.2 72 (s.2.2.2 69 7) x1))))
    refine hY _ _ _ _ ?_
    refine (And.intro h.2.2.1 (And.intro h.2.2.2.1 ?_))
    refine hY _ _ _ _ (hY _ _ _ _ (hY _ _ _ _ (?_ : Y 67 [(0, 5, true, 69), (1, 0, true, x1)] [(0, true, s.2.2.2 69 7), (5, true, 69)] (sM s (hy_u (hy_u s.2.2.2 72 (s.2.2.2 69 7) x1) 73 (s.2.2.2 69 7) 0)))))
    refine hY _ _ _ _ (hY _ _ _ _ (?_ : Y 69 [(0, 5, true, 69), (1, 0, true, x1)] [(0, false, (s.2.2.2 69 7) + 1), (5, true, 69)] (sM s (hy_u (hy_u s.2.2.2 72 (s.2.2.2 69 7) x1) 73 (s.2.2.2 69 7) 0))))
    refine hY _ _ _ _ ?_
    refine And.intro h.2.2.2.2.1 ?_
    show Y 72 [(0, 5, true, 69), (1, 0, true, x1)] [] (sM s (hy_u (hy_u (hy_u s.2.2.2 72 (s.2.2.2 69 7) x1) 73 (s.2.2.2 69 7) 0) 69 7 ((s.2.2.2 69 7) + 1)))
    refine hY _ _ _ _ ?_
    exact hQ 0 (hy_u (hy_u (hy_u s.2.2.2 72 (s.2.2.2 69 7) x1) 73 (s.2.2.2 69 7) 0) 69 7 ((s.2.2.2 69 7) + 1)) h.2.2.2.2.2
def lb_161_0 (s : sS) (Q : sQ) (R : Int → hy_m → Prop) (x1 : Int) (x2 : Int) : Nat → Option (sL → sS → Prop) := sLb [(30, fun lv t => sG [(0, 5, 69), (1, 0, 0)] lv (ap1 (fun w1 => ∃ m', t = sM s m' ∧ wq_161_30 w1 m' R)))]
set_option maxRecDepth 30000 in
set_option maxHeartbeats 1000000 in
theorem wk_161_0 (Q : sQ) (R : Int → hy_m → Prop) (s : sS) (x1 : Int) (x2 : Int) (hQ : ∀ x m', R x m' → Q x (sM s m')) (hr : sRg [(0, 5, 69), (1, 0, 0), (2, 1, 0)] [x1, x2]) (h : wq_161 x1 x2 s.2.2.2 R) : kX dC 2 im_m161 9 0 (sCan [(0, 5, 69), (1, 0, 0), (2, 1, 0)] [x1, x2]) [] s Q := by
  unfold wq_161 at h
  refine wz2_ok (cs := cs_161) (wr := []) (lb := lb_161_0 s Q R x1 x2) cs_161_ok (kLb_c (kLab (Bd := fun xs t => ap1 (fun w1 => ∃ m', t = sM s m' ∧ wq_161_30 w1 m' R) xs) rfl (fun xs t r1 r2 hb => by obtain ⟨w1, rfl, hb⟩ := ap1_ok hb; obtain ⟨m', rfl, hx⟩ := hb; exact wk_161_30 Q R (sM s m') _ (fun x m'' hy => hQ x m'' hy) r1 hx)) kLb_n) (okL_can rfl hr) (fun Y hY hl => ?_)
  have l30 := hl 30 _ rfl
  refine hY _ _ _ _ (hY _ _ _ _ (?_ : Y 4 [(0, 5, true, 69), (1, 0, true, x1), (2, 1, true, x2)] [(1, true, 186), (1, true, x2)] s))
  refine hY _ _ _ _ ?_
  refine And.intro (fun hc => ?_) (fun hc => ?_)
  · have h := h.1 hc
    refine hY _ _ _ _ (hY _ _ _ _ (hY _ _ _ _ (?_ : Y 20 [(0, 5, true, 69), (1, 0, true, x1), (2, 1, true, x2)] [(0, true, 2), (1, true, x2), (5, true, 69)] s)))
    refine hY _ _ _ _ (?_ : Y 21 [(0, 5, true, 69), (1, 0, true, x1), (2, 1, true, x2)] [(1, true, jSr x2 2), (5, true, 69)] s)
    refine hY _ _ _ _ ?_
    refine Exists.intro _ (And.intro (wc_167_r69_1t (jSr x2 2) _ _ h) (fun r1 m1 h => ?_))
    refine hY _ _ _ _ (hY _ _ _ _ (?_ : Y 27 [(0, 5, true, 69), (1, 0, true, x1), (2, 1, true, x2)] [(0, true, 40), (5, true, 69)] (sM s m1)))
    refine hY _ _ _ _ ?_
    refine Exists.intro _ (And.intro (wc_168_r69_0t 40 _ _ h) (fun r2 m2 h => ?_))
    show Y 30 [(0, 5, true, 69), (1, 0, true, x1), (2, 1, true, x2)] [] (sM s m2)
    refine l30 _ _ ?_
    exact (Exists.intro m2 (And.intro rfl h))
  · have h := h.2 hc
    refine hY _ _ _ _ (hY _ _ _ _ (?_ : Y 11 [(0, 5, true, 69), (1, 0, true, x1), (2, 1, true, x2)] [(0, true, 91), (5, true, 69)] s))
    refine hY _ _ _ _ ?_
    refine Exists.intro _ (And.intro (wc_168_r69_0t 91 _ _ h) (fun r3 m3 h => ?_))
    refine hY _ _ _ _ (?_ : Y 30 [(0, 5, true, 69), (1, 0, true, x1), (2, 1, true, x2)] [] (sM s m3))
    refine l30 _ _ ?_
    exact (Exists.intro m3 (And.intro rfl h))
def we_161 : sFf := sEf 4 [(0, 5, 69), (1, 0, 0), (2, 1, 0)] (fun xs s Q => ap2 (fun x1 x2 => wq_161 x1 x2 s.2.2.2 Q) xs)
theorem we_161_ok : kS dC 3 161 9 (.inl we_161) := sEf_ok (mi := im_m161) rfl rfl rfl (fun R xs s r1 hb => by obtain ⟨x1, x2, rfl, hb⟩ := ap2_ok hb; exact wk_161_0 _ R s x1 x2 (fun x m' hx => ⟨m', rfl, hx⟩) r1 hb)
/-- LM$Writer.beginTerm(I)V -/
def wq_160 (x1 : Int) (T : hy_T) (m : hy_m) (Q : Int → hy_m → Prop) : Prop := wq_130 x1 T m (fun r1 m1 => wq_129 x1 T m1 (fun r2 m2 => ((r2 = 1 + 0 → (wq_165 x1 m2 (fun _ m3 => Q 0 m3))) ∧ ((r2 = 1 + 1 → (wq_166 r1 m2 (fun _ m4 => Q 0 m4))) ∧ ((r2 = 1 + 2 → (wq_167 (jSr r1 2) m2 (fun _ m5 => Q 0 m5))) ∧ ((r2 = 1 + 3 → (wq_161 x1 r1 m2 (fun _ m6 => Q 0 m6))) ∧ (True))))) ∧ (r2 < 1 ∨ 4 < r2 → (wq_167 (jSr r1 2) m2 (fun _ m7 => Q 0 m7)))))
theorem wc_130_r41_0t (x1 : Int) (s : sS) (R : Int → hy_m → Prop) (h : wq_130 x1 s.1 s.2.2.2 R) : we_130 [(5, true, 41), (0, true, x1)] s R := h
theorem wc_129_r41_0t (x1 : Int) (s : sS) (R : Int → hy_m → Prop) (h : wq_129 x1 s.1 s.2.2.2 R) : we_129 [(5, true, 41), (0, true, x1)] s R := h
theorem wc_165_r69_0t (x1 : Int) (s : sS) (R : Int → hy_m → Prop) (h : wq_165 x1 s.2.2.2 R) : we_165 [(5, true, 69), (0, true, x1)] s R := h
theorem wc_161_r69_0t_1t (x1 : Int) (x2 : Int) (s : sS) (R : Int → hy_m → Prop) (h : wq_161 x1 x2 s.2.2.2 R) : we_161 [(5, true, 69), (0, true, x1), (1, true, x2)] s R := h
def cs_160 : List (Nat × Nat × sFS) := [(129, 0, .inl we_129), (130, 1, .inl we_130), (161, 9, .inl we_161), (165, 9, .inl we_165), (166, 9, .inl we_166), (167, 9, .inl we_167)]
theorem cs_160_ok : kCs dC 3 cs_160 := (kCs_c (Or.inl rfl) (we_129_ok.deep (by decide)) (kCs_c (Or.inr (Or.inl rfl)) (we_130_ok.deep (by decide)) (kCs_c (Or.inr (Or.inr (Or.inr (Or.inr rfl)))) (we_161_ok.deep (by decide)) (kCs_c (Or.inr (Or.inr (Or.inr (Or.inr rfl)))) (we_165_ok.deep (by decide)) (kCs_c (Or.inr (Or.inr (Or.inr (Or.inr rfl)))) (we_166_ok.deep (by decide)) (kCs_c (Or.inr (Or.inr (Or.inr (Or.inr rfl)))) (we_167_ok.deep (by decide)) kCs_n))))))
def lb_160_0 (s : sS) (Q : sQ) (R : Int → hy_m → Prop) (x1 : Int) : Nat → Option (sL → sS → Prop) := sLb []
set_option maxRecDepth 30000 in
set_option maxHeartbeats 1000000 in
theorem wk_160_0 (Q : sQ) (R : Int → hy_m → Prop) (s : sS) (x1 : Int) (hQ : ∀ x m', R x m' → Q x (sM s m')) (hr : sRg [(0, 5, 69), (1, 0, 0)] [x1]) (h : wq_160 x1 s.1 s.2.2.2 R) : kX dC 3 im_m160 9 0 (sCan [(0, 5, 69), (1, 0, 0)] [x1]) [] s Q := by
  unfold wq_160 at h
  refine wz2_ok (cs := cs_160) (wr := []) (lb := lb_160_0 s Q R x1) cs_160_ok kLb_n (okL_can rfl hr) (fun Y hY hl => ?_)
  refine hY _ _ _ _ (hY _ _ _ _ (hY _ _ _ _ (?_ : Y 5 [(0, 5, true, 69), (1, 0, true, x1)] [(0, true, x1), (5, true, 41)] s)))
  refine hY _ _ _ _ ?_
  refine Exists.intro _ (And.intro (wc_130_r41_0t x1 _ _ h) (fun r1 m1 h => ?_))
  refine hY _ _ _ _ (hY _ _ _ _ (hY _ _ _ _ (?_ : Y 13 [(2, 1, true, r1), (0, 5, true, 69), (1, 0, true, x1)] [(5, true, 41)] (sM s m1))))
  refine hY _ _ _ _ (?_ : Y 14 [(2, 1, true, r1), (0, 5, true, 69), (1, 0, true, x1)] [(0, true, x1), (5, true, 41)] (sM s m1))
  refine hY _ _ _ _ ?_
  refine Exists.intro _ (And.intro (wc_129_r41_0t x1 _ _ h) (fun r2 m2 h => ?_))
  show Y 17 [(2, 1, true, r1), (0, 5, true, 69), (1, 0, true, x1)] [(0, true, r2)] (sM s m2)
  refine hY _ _ _ _ ?_
  refine And.intro (And.intro (fun hc => ?_) (And.intro (fun hc => ?_) (And.intro (fun hc => ?_) (And.intro (fun hc => ?_) trivial)))) (fun hc => ?_)
  · have h := h.1.1 hc
    refine hY _ _ _ _ (hY _ _ _ _ (?_ : Y 50 [(2, 1, true, r1), (0, 5, true, 69), (1, 0, true, x1)] [(0, true, x1), (5, true, 69)] (sM s m2)))
    refine hY _ _ _ _ ?_
    refine Exists.intro _ (And.intro (wc_165_r69_0t x1 _ _ h) (fun r3 m3 h => ?_))
    show Y 53 [(2, 1, true, r1), (0, 5, true, 69), (1, 0, true, x1)] [] (sM s m3)
    refine hY _ _ _ _ ?_
    exact hQ 0 m3 h
  · have h := h.1.2.1 hc
    refine hY _ _ _ _ (hY _ _ _ _ (?_ : Y 56 [(2, 1, true, r1), (0, 5, true, 69), (1, 0, true, x1)] [(1, true, r1), (5, true, 69)] (sM s m2)))
    refine hY _ _ _ _ ?_
    refine Exists.intro _ (And.intro (wc_166_r69_1t r1 _ _ h) (fun r4 m4 h => ?_))
    show Y 59 [(2, 1, true, r1), (0, 5, true, 69), (1, 0, true, x1)] [] (sM s m4)
    refine hY _ _ _ _ ?_
    exact hQ 0 m4 h
  · have h := h.1.2.2.1 hc
    refine hY _ _ _ _ (hY _ _ _ _ (hY _ _ _ _ (?_ : Y 70 [(2, 1, true, r1), (0, 5, true, 69), (1, 0, true, x1)] [(0, true, 2), (1, true, r1), (5, true, 69)] (sM s m2))))
    refine hY _ _ _ _ (?_ : Y 71 [(2, 1, true, r1), (0, 5, true, 69), (1, 0, true, x1)] [(1, true, jSr r1 2), (5, true, 69)] (sM s m2))
    refine hY _ _ _ _ ?_
    refine Exists.intro _ (And.intro (wc_167_r69_1t (jSr r1 2) _ _ h) (fun r5 m5 h => ?_))
    show Y 74 [(2, 1, true, r1), (0, 5, true, 69), (1, 0, true, x1)] [] (sM s m5)
    refine hY _ _ _ _ ?_
    exact hQ 0 m5 h
  · have h := h.1.2.2.2.1 hc
    refine hY _ _ _ _ (hY _ _ _ _ (hY _ _ _ _ (?_ : Y 63 [(2, 1, true, r1), (0, 5, true, 69), (1, 0, true, x1)] [(1, true, r1), (0, true, x1), (5, true, 69)] (sM s m2))))
    refine hY _ _ _ _ ?_
    refine Exists.intro _ (And.intro (wc_161_r69_0t_1t x1 r1 _ _ h) (fun r6 m6 h => ?_))
    show Y 66 [(2, 1, true, r1), (0, 5, true, 69), (1, 0, true, x1)] [] (sM s m6)
    refine hY _ _ _ _ ?_
    exact hQ 0 m6 h
  · have h := h.2 hc
    refine hY _ _ _ _ (hY _ _ _ _ (hY _ _ _ _ (?_ : Y 70 [(2, 1, true, r1), (0, 5, true, 69), (1, 0, true, x1)] [(0, true, 2), (1, true, r1), (5, true, 69)] (sM s m2))))
    refine hY _ _ _ _ (?_ : Y 71 [(2, 1, true, r1), (0, 5, true, 69), (1, 0, true, x1)] [(1, true, jSr r1 2), (5, true, 69)] (sM s m2))
    refine hY _ _ _ _ ?_
    refine Exists.intro _ (And.intro (wc_167_r69_1t (jSr r1 2) _ _ h) (fun r7 m7 h => ?_))
    show Y 74 [(2, 1, true, r1), (0, 5, true, 69), (1, 0, true, x1)] [] (sM s m7)
    refine hY _ _ _ _ ?_
    exact hQ 0 m7 h
def we_160 : sFf := sEf 4 [(0, 5, 69), (1, 0, 0)] (fun xs s Q => ap1 (fun x1 => wq_160 x1 s.1 s.2.2.2 Q) xs)
theorem we_160_ok : kS dC 4 160 9 (.inl we_160) := sEf_ok (mi := im_m160) rfl rfl rfl (fun R xs s r1 hb => by obtain ⟨x1, rfl, hb⟩ := ap1_ok hb; exact wk_160_0 _ R s x1 (fun x m' hx => ⟨m', rfl, hx⟩) r1 hb)
/-- LM$Store.argumentOf(II)I -/
def wq_132 (x1 : Int) (x2 : Int) (T : hy_T) (m : hy_m) (Q : Int → hy_m → Prop) : Prop := wq_127 (iSr x1 7) T m (fun r1 m1 => T.1 (r1).toNat = some (3, 9) ∧ (wq_42 r1 (iA x1 127) x2 T m1 (fun r2 m2 => Q (iO (iA x1 (-128)) r2) m2)))
theorem wc_42_3t_0t_0t (x0 : Int) (x1 : Int) (x2 : Int) (s : sS) (R : Int → hy_m → Prop) (h : wq_42 x0 x1 x2 s.1 s.2.2.2 R) : we_42 [(3, true, x0), (0, true, x1), (0, true, x2)] s R := h
def cs_132 : List (Nat × Nat × sFS) := [(42, 0, .inl we_42), (127, 3, .inl we_127)]
theorem cs_132_ok : kCs dC 1 cs_132 := (kCs_c (Or.inl rfl) (we_42_ok.deep (by decide)) (kCs_c (Or.inr (Or.inr (Or.inr (Or.inl rfl)))) (we_127_ok.deep (by decide)) kCs_n))
def lb_132_0 (s : sS) (Q : sQ) (R : Int → hy_m → Prop) (x1 : Int) (x2 : Int) : Nat → Option (sL → sS → Prop) := sLb []
set_option maxRecDepth 30000 in
set_option maxHeartbeats 1000000 in
theorem wk_132_0 (Q : sQ) (R : Int → hy_m → Prop) (s : sS) (x1 : Int) (x2 : Int) (hQ : ∀ x m', R x m' → Q x (sM s m')) (hr : sRg [(0, 5, 41), (1, 0, 0), (2, 0, 0)] [x1, x2]) (h : wq_132 x1 x2 s.1 s.2.2.2 R) : kX dC 1 im_m132 0 0 (sCan [(0, 5, 41), (1, 0, 0), (2, 0, 0)] [x1, x2]) [] s Q := by
  unfold wq_132 at h
  refine wz2_ok (cs := cs_132) (wr := []) (lb := lb_132_0 s Q R x1 x2) cs_132_ok kLb_n (okL_can rfl hr) (fun Y hY hl => ?_)
  refine hY _ _ _ _ (hY _ _ _ _ (?_ : Y 3 [(0, 5, true, 41), (1, 0, true, x1), (2, 0, true, x2)] [(0, true, (-128)), (0, true, x1)] s))
  refine hY _ _ _ _ (?_ : Y 4 [(0, 5, true, 41), (1, 0, true, x1), (2, 0, true, x2)] [(0, true, iA x1 (-128))] s)
  refine hY _ _ _ _ (hY _ _ _ _ (hY _ _ _ _ (?_ : Y 8 [(0, 5, true, 41), (1, 0, true, x1), (2, 0, true, x2)] [(0, true, 7), (0, true, x1), (5, true, 41), (0, true, iA x1 (-128))] s)))
  refine hY _ _ _ _ (?_ : Y 9 [(0, 5, true, 41), (1, 0, true, x1), (2, 0, true, x2)] [(0, true, iSr x1 7), (5, true, 41), (0, true, iA x1 (-128))] s)
  refine hY _ _ _ _ ?_
  refine Exists.intro _ (And.intro (wc_127_r41_0t (iSr x1 7) _ _ h) (fun r1 m1 h => ?_))
  refine hY _ _ _ _ (hY _ _ _ _ (?_ : Y 15 [(0, 5, true, 41), (1, 0, true, x1), (2, 0, true, x2)] [(0, true, 127), (0, true, x1), (3, true, r1), (0, true, iA x1 (-128))] (sM s m1)))
  refine hY _ _ _ _ (?_ : Y 16 [(0, 5, true, 41), (1, 0, true, x1), (2, 0, true, x2)] [(0, true, iA x1 127), (3, true, r1), (0, true, iA x1 (-128))] (sM s m1))
  refine hY _ _ _ _ (?_ : Y 17 [(0, 5, true, 41), (1, 0, true, x1), (2, 0, true, x2)] [(0, true, x2), (0, true, iA x1 127), (3, true, r1), (0, true, iA x1 (-128))] (sM s m1))
  refine hY _ _ _ _ ?_
  refine (And.intro h.1 ?_)
  refine Exists.intro _ (And.intro (wc_42_3t_0t_0t r1 (iA x1 127) x2 _ _ h.2) (fun r2 m2 h => ?_))
  show Y 20 [(0, 5, true, 41), (1, 0, true, x1), (2, 0, true, x2)] [(0, true, r2), (0, true, iA x1 (-128))] (sM s m2)
  refine hY _ _ _ _ (?_ : Y 21 [(0, 5, true, 41), (1, 0, true, x1), (2, 0, true, x2)] [(0, true, iO (iA x1 (-128)) r2)] (sM s m2))
  refine hY _ _ _ _ ?_
  exact hQ (iO (iA x1 (-128)) r2) m2 h
def we_132 : sFf := sEf 3 [(0, 5, 41), (1, 0, 0), (2, 0, 0)] (fun xs s Q => ap2 (fun x1 x2 => wq_132 x1 x2 s.1 s.2.2.2 Q) xs)
theorem we_132_ok : kS dC 2 132 0 (.inl we_132) := sEf_ok (mi := im_m132) rfl rfl rfl (fun R xs s r1 hb => by obtain ⟨x1, x2, rfl, hb⟩ := ap2_ok hb; exact wk_132_0 _ R s x1 x2 (fun x m' hx => ⟨m', rfl, hx⟩) r1 hb)
/-- LM$Writer.isKeyOf(IJ)Z -/
def wq_164 (x1 : Int) (x2 : Int) (T : hy_T) (m : hy_m) (Q : Int → hy_m → Prop) : Prop := wq_129 x1 T m (fun r1 m1 => (r1 < 3 → (Q 0 m1)) ∧ (3 ≤ r1 → (wq_130 x1 T m1 (fun r2 m2 => (r2 ≠ x2 → (Q 0 m2)) ∧ (r2 = x2 → (Q 1 m2))))))
def cs_164 : List (Nat × Nat × sFS) := [(129, 0, .inl we_129), (130, 1, .inl we_130)]
theorem cs_164_ok : kCs dC 2 cs_164 := (kCs_c (Or.inl rfl) (we_129_ok.deep (by decide)) (kCs_c (Or.inr (Or.inl rfl)) (we_130_ok.deep (by decide)) kCs_n))
def lb_164_0 (s : sS) (Q : sQ) (R : Int → hy_m → Prop) (x1 : Int) (x2 : Int) : Nat → Option (sL → sS → Prop) := sLb []
set_option maxRecDepth 30000 in
set_option maxHeartbeats 1000000 in
theorem wk_164_0 (Q : sQ) (R : Int → hy_m → Prop) (s : sS) (x1 : Int) (x2 : Int) (hQ : ∀ x m', R x m' → Q x (sM s m')) (hr : sRg [(0, 5, 69), (1, 0, 0), (2, 1, 0)] [x1, x2]) (h : wq_164 x1 x2 s.1 s.2.2.2 R) : kX dC 2 im_m164 2 0 (sCan [(0, 5, 69), (1, 0, 0), (2, 1, 0)] [x1, x2]) [] s Q := by
  unfold wq_164 at h
  refine wz2_ok (cs := cs_164) (wr := []) (lb := lb_164_0 s Q R x1 x2) cs_164_ok kLb_n (okL_can rfl hr) (fun Y hY hl => ?_)
  refine hY _ _ _ _ (hY _ _ _ _ (hY _ _ _ _ (?_ : Y 5 [(0, 5, true, 69), (1, 0, true, x1), (2, 1, true, x2)] [(0, true, x1), (5, true, 41)] s)))
  refine hY _ _ _ _ ?_
  refine Exists.intro _ (And.intro (wc_129_r41_0t x1 _ _ h) (fun r1 m1 h => ?_))
  refine hY _ _ _ _ (?_ : Y 9 [(0, 5, true, 69), (1, 0, true, x1), (2, 1, true, x2)] [(0, true, 3), (0, true, r1)] (sM s m1))
  refine hY _ _ _ _ ?_
  refine And.intro (fun hc => ?_) (fun hc => ?_)
  · have h := h.1 hc
    refine hY _ _ _ _ (?_ : Y 30 [(0, 5, true, 69), (1, 0, true, x1), (2, 1, true, x2)] [(2, true, 0)] (sM s m1))
    refine hY _ _ _ _ ?_
    exact hQ 0 m1 h
  · have h := h.2 hc
    refine hY _ _ _ _ (hY _ _ _ _ (hY _ _ _ _ (?_ : Y 17 [(0, 5, true, 69), (1, 0, true, x1), (2, 1, true, x2)] [(0, true, x1), (5, true, 41)] (sM s m1))))
    refine hY _ _ _ _ ?_
    refine Exists.intro _ (And.intro (wc_130_r41_0t x1 _ _ h) (fun r2 m2 h => ?_))
    refine hY _ _ _ _ (?_ : Y 21 [(0, 5, true, 69), (1, 0, true, x1), (2, 1, true, x2)] [(1, true, x2), (1, true, r2)] (sM s m2))
    refine hY _ _ _ _ ?_
    refine And.intro (fun hc => ?_) (fun hc => ?_)
    · have h := h.1 hc
      refine hY _ _ _ _ (?_ : Y 30 [(0, 5, true, 69), (1, 0, true, x1), (2, 1, true, x2)] [(2, true, 0)] (sM s m2))
      refine hY _ _ _ _ ?_
      exact hQ 0 m2 h
    · have h := h.2 hc
      refine hY _ _ _ _ (hY _ _ _ _ (?_ : Y 30 [(0, 5, true, 69), (1, 0, true, x1), (2, 1, true, x2)] [(2, true, 1)] (sM s m2)))
      refine hY _ _ _ _ ?_
      exact hQ 1 m2 h
def we_164 : sFf := sEf 4 [(0, 5, 69), (1, 0, 0), (2, 1, 0)] (fun xs s Q => ap2 (fun x1 x2 => wq_164 x1 x2 s.1 s.2.2.2 Q) xs)
theorem we_164_ok : kS dC 3 164 2 (.inl we_164) := sEf_ok (mi := im_m164) rfl rfl rfl (fun R xs s r1 hb => by obtain ⟨x1, x2, rfl, hb⟩ := ap2_ok hb; exact wk_164_0 _ R s x1 x2 (fun x m' hx => ⟨m', rfl, hx⟩) r1 hb)
/-- LM$Writer.continueList(I)V -/
def wq_163_76 (T : hy_T) (m : hy_m) (Q : Int → hy_m → Prop) : Prop := wq_168 93 m (fun _ m1 => hy_r 0 ((m1 69 7) - 1) ∧ (Q 0 (hy_u m1 69 7 ((m1 69 7) - 1))))
def wq_163 (x1 : Int) (T : hy_T) (m : hy_m) (Q : Int → hy_m → Prop) : Prop := 0 ≤ ((m 69 7) - 1) ∧ ((m 69 7) - 1) < 120 ∧ (0 ≤ ((m 69 7) - 1) ∧ ((m 69 7) - 1) < 120 ∧ (0 ≤ ((m 69 7) - 1) ∧ ((m 69 7) - 1) < 120 ∧ (hy_r 0 ((m 73 ((m 69 7) - 1)) + 1) ∧ (wq_132 x1 (if 1 < (m 73 ((m 69 7) - 1)) then 1 else (m 73 ((m 69 7) - 1))) T (hy_u m 73 ((m 69 7) - 1) ((m 73 ((m 69 7) - 1)) + 1)) (fun r1 m1 => wq_124 r1 T m1 (fun r2 m2 => ((m 73 ((m 69 7) - 1)) ≠ 0 → ((1 < (m 73 ((m 69 7) - 1)) → (wq_163_76 T m2 Q)) ∧ ((m 73 ((m 69 7) - 1)) ≤ 1 → (wq_164 r2 47980 T m2 (fun r3 m3 => (r3 = 0 → (wq_164 r2 186 T m3 (fun r4 m4 => (r4 = 0 → (wq_168 124 m4 (fun _ m5 => wq_160 r2 T m5 (fun _ m6 => Q 0 m6)))) ∧ (r4 ≠ 0 → (wq_168 44 m4 (fun _ m7 => 0 ≤ ((m7 69 7) - 1) ∧ ((m7 69 7) - 1) < 120 ∧ (0 ≤ ((m7 69 7) - 1) ∧ ((m7 69 7) - 1) < 120 ∧ (Q 0 (hy_u (hy_u m7 72 ((m7 69 7) - 1) r2) 73 ((m7 69 7) - 1) 0))))))))) ∧ (r3 ≠ 0 → (wq_163_76 T m3 Q))))))) ∧ ((m 73 ((m 69 7) - 1)) = 0 → (wq_160 r2 T m2 (fun _ m8 => Q 0 m8)))))))))
theorem wc_132_r41_0t_0t (x1 : Int) (x2 : Int) (s : sS) (R : Int → hy_m → Prop) (h : wq_132 x1 x2 s.1 s.2.2.2 R) : we_132 [(5, true, 41), (0, true, x1), (0, true, x2)] s R := h
theorem wc_124_r41_0t (x1 : Int) (s : sS) (R : Int → hy_m → Prop) (h : wq_124 x1 s.1 s.2.2.2 R) : we_124 [(5, true, 41), (0, true, x1)] s R := h
theorem wc_164_r69_0t_1t (x1 : Int) (x2 : Int) (s : sS) (R : Int → hy_m → Prop) (h : wq_164 x1 x2 s.1 s.2.2.2 R) : we_164 [(5, true, 69), (0, true, x1), (1, true, x2)] s R := h
theorem wc_160_r69_0t (x1 : Int) (s : sS) (R : Int → hy_m → Prop) (h : wq_160 x1 s.1 s.2.2.2 R) : we_160 [(5, true, 69), (0, true, x1)] s R := h
def cs_163 : List (Nat × Nat × sFS) := [(124, 0, .inl we_124), (132, 0, .inl we_132), (160, 9, .inl we_160), (164, 2, .inl we_164), (168, 9, .inl we_168)]
theorem cs_163_ok : kCs dC 4 cs_163 := (kCs_c (Or.inl rfl) (we_124_ok.deep (by decide)) (kCs_c (Or.inl rfl) (we_132_ok.deep (by decide)) (kCs_c (Or.inr (Or.inr (Or.inr (Or.inr rfl)))) (we_160_ok.deep (by decide)) (kCs_c (Or.inr (Or.inr (Or.inl rfl))) (we_164_ok.deep (by decide)) (kCs_c (Or.inr (Or.inr (Or.inr (Or.inr rfl)))) (we_168_ok.deep (by decide)) kCs_n)))))
def lb_163_76 (s : sS) (Q : sQ) (R : Int → hy_m → Prop) : Nat → Option (sL → sS → Prop) := sLb []
set_option maxRecDepth 30000 in
set_option maxHeartbeats 1000000 in
theorem wk_163_76 (Q : sQ) (R : Int → hy_m → Prop) (s : sS) (hQ : ∀ x m', R x m' → Q x (sM s m')) (hr : sRg [(0, 5, 69)] []) (h : wq_163_76 s.1 s.2.2.2 R) : kX dC 4 im_m163 9 76 (sCan [(0, 5, 69)] []) [] s Q := by
  unfold wq_163_76 at h
  refine wz2_ok (cs := cs_163) (wr := []) (lb := lb_163_76 s Q R) cs_163_ok kLb_n (okL_can rfl hr) (fun Y hY hl => ?_)
  refine hY _ _ _ _ (hY _ _ _ _ (?_ : Y 79 [(0, 5, true, 69)] [(0, true, 93), (5, true, 69)] s))
  refine hY _ _ _ _ ?_
  refine Exists.intro _ (And.intro (wc_168_r69_0t 93 _ _ h) (fun r1 m1 h => ?_))
  refine hY _ _ _ _ (hY _ _ _ _ (hY _ _ _ _ (?_ : Y 87 [(0, 5, true, 69)] [(0, true, m1 69 7), (5, true, 69)] (sM s m1))))
  refine hY _ _ _ _ (hY _ _ _ _ (?_ : Y 89 [(0, 5, true, 69)] [(0, false, (m1 69 7) - 1), (5, true, 69)] (sM s m1)))
  refine hY _ _ _ _ ?_
  refine And.intro h.1 ?_
  refine hY _ _ _ _ (?_ : Y 150 [(0, 5, true, 69)] [] (sM s (hy_u m1 69 7 ((m1 69 7) - 1))))
  refine hY _ _ _ _ ?_
  exact hQ 0 (hy_u m1 69 7 ((m1 69 7) - 1)) h.2
def lb_163_0 (s : sS) (Q : sQ) (R : Int → hy_m → Prop) (x1 : Int) : Nat → Option (sL → sS → Prop) := sLb [(76, fun lv t => sG [(0, 5, 69)] lv (ap0 (∃ m', t = sM s m' ∧ wq_163_76 s.1 m' R)))]
set_option maxRecDepth 30000 in
set_option maxHeartbeats 1000000 in
theorem wk_163_0 (Q : sQ) (R : Int → hy_m → Prop) (s : sS) (x1 : Int) (hQ : ∀ x m', R x m' → Q x (sM s m')) (hr : sRg [(0, 5, 69), (1, 0, 0)] [x1]) (h : wq_163 x1 s.1 s.2.2.2 R) : kX dC 4 im_m163 9 0 (sCan [(0, 5, 69), (1, 0, 0)] [x1]) [] s Q := by
  unfold wq_163 at h
  refine wz2_ok (cs := cs_163) (wr := []) (lb := lb_163_0 s Q R x1) cs_163_ok (kLb_c (kLab (Bd := fun xs t => ap0 (∃ m', t = sM s m' ∧ wq_163_76 s.1 m' R) xs) rfl (fun xs t r1 r2 hb => by obtain ⟨rfl, hb⟩ := ap0_ok hb; obtain ⟨m', rfl, hx⟩ := hb; exact wk_163_76 Q R (sM s m')  (fun x m'' hy => hQ x m'' hy) r1 hx)) kLb_n) (okL_can rfl hr) (fun Y hY hl => ?_)
  have l76 := hl 76 _ rfl
  refine hY _ _ _ _ (hY _ _ _ _ (hY _ _ _ _ (?_ : Y 5 [(0, 5, true, 69), (1, 0, true, x1)] [(5, true, 69), (5, true, 73)] s)))
  refine hY _ _ _ _ (hY _ _ _ _ (hY _ _ _ _ (?_ : Y 10 [(0, 5, true, 69), (1, 0, true, x1)] [(0, false, (s.2.2.2 69 7) - 1), (5, true, 73)] s)))
  refine hY _ _ _ _ ?_
  refine (And.intro h.1 (And.intro h.2.1 ?_))
  refine hY _ _ _ _ (hY _ _ _ _ (hY _ _ _ _ (?_ : Y 16 [(2, 0, true, s.2.2.2 73 ((s.2.2.2 69 7) - 1)), (0, 5, true, 69), (1, 0, true, x1)] [(5, true, 73)] s)))
  refine hY _ _ _ _ (hY _ _ _ _ (hY _ _ _ _ (?_ : Y 21 [(2, 0, true, s.2.2.2 73 ((s.2.2.2 69 7) - 1)), (0, 5, true, 69), (1, 0, true, x1)] [(2, true, 1), (0, true, s.2.2.2 69 7), (5, true, 73)] s)))
  refine hY _ _ _ _ (hY _ _ _ _ (?_ : Y 23 [(2, 0, true, s.2.2.2 73 ((s.2.2.2 69 7) - 1)), (0, 5, true, 69), (1, 0, true, x1)] [(0, false, (s.2.2.2 69 7) - 1), (5, true, 73), (0, false, (s.2.2.2 69 7) - 1), (5, true, 73)] s))
  refine hY _ _ _ _ ?_
  refine (And.intro h.2.2.1 (And.intro h.2.2.2.1 ?_))
  refine hY _ _ _ _ (hY _ _ _ _ (?_ : Y 26 [(2, 0, true, s.2.2.2 73 ((s.2.2.2 69 7) - 1)), (0, 5, true, 69), (1, 0, true, x1)] [(0, false, (s.2.2.2 73 ((s.2.2.2 69 7) - 1)) + 1), (0, false, (s.2.2.2 69 7) - 1), (5, true, 73)] s))
  refine hY _ _ _ _ ?_
  refine (And.intro h.2.2.2.2.1 (And.intro h.2.2.2.2.2.1 ?_))
  refine And.intro h.2.2.2.2.2.2.1 ?_
  refine hY _ _ _ _ (hY _ _ _ _ (hY _ _ _ _ (?_ : Y 32 [(2, 0, true, s.2.2.2 73 ((s.2.2.2 69 7) - 1)), (0, 5, true, 69), (1, 0, true, x1)] [(5, true, 69), (5, true, 41)] (sM s (hy_u s.2.2.2 73 ((s.2.2.2 69 7) - 1) ((s.2.2.2 73 ((s.2.2.2 69 7) - 1)) + 1))))))
  refine hY _ _ _ _ (hY _ _ _ _ (hY _ _ _ _ (?_ : Y 37 [(2, 0, true, s.2.2.2 73 ((s.2.2.2 69 7) - 1)), (0, 5, true, 69), (1, 0, true, x1)] [(0, true, s.2.2.2 73 ((s.2.2.2 69 7) - 1)), (0, true, x1), (5, true, 41), (5, true, 41)] (sM s (hy_u s.2.2.2 73 ((s.2.2.2 69 7) - 1) ((s.2.2.2 73 ((s.2.2.2 69 7) - 1)) + 1))))))
  refine hY _ _ _ _ (?_ : Y 38 [(2, 0, true, s.2.2.2 73 ((s.2.2.2 69 7) - 1)), (0, 5, true, 69), (1, 0, true, x1)] [(2, true, 1), (0, true, s.2.2.2 73 ((s.2.2.2 69 7) - 1)), (0, true, x1), (5, true, 41), (5, true, 41)] (sM s (hy_u s.2.2.2 73 ((s.2.2.2 69 7) - 1) ((s.2.2.2 73 ((s.2.2.2 69 7) - 1)) + 1))))
  refine hY _ _ _ _ ?_
  show Y 41 [(2, 0, true, s.2.2.2 73 ((s.2.2.2 69 7) - 1)), (0, 5, true, 69), (1, 0, true, x1)] [(0, true, (if 1 < (s.2.2.2 73 ((s.2.2.2 69 7) - 1)) then 1 else (s.2.2.2 73 ((s.2.2.2 69 7) - 1)))), (0, true, x1), (5, true, 41), (5, true, 41)] (sM s (hy_u s.2.2.2 73 ((s.2.2.2 69 7) - 1) ((s.2.2.2 73 ((s.2.2.2 69 7) - 1)) + 1)))
  refine hY _ _ _ _ ?_
  refine Exists.intro _ (And.intro (wc_132_r41_0t_0t x1 (if 1 < (s.2.2.2 73 ((s.2.2.2 69 7) - 1)) then 1 else (s.2.2.2 73 ((s.2.2.2 69 7) - 1))) _ _ h.2.2.2.2.2.2.2) (fun r1 m1 h => ?_))
  show Y 44 [(2, 0, true, s.2.2.2 73 ((s.2.2.2 69 7) - 1)), (0, 5, true, 69), (1, 0, true, x1)] [(0, true, r1), (5, true, 41)] (sM s m1)
  refine hY _ _ _ _ ?_
  refine Exists.intro _ (And.intro (wc_124_r41_0t r1 _ _ h) (fun r2 m2 h => ?_))
  refine hY _ _ _ _ (hY _ _ _ _ (?_ : Y 49 [(3, 0, true, r2), (2, 0, true, s.2.2.2 73 ((s.2.2.2 69 7) - 1)), (0, 5, true, 69), (1, 0, true, x1)] [(0, true, s.2.2.2 73 ((s.2.2.2 69 7) - 1))] (sM s m2)))
  refine hY _ _ _ _ ?_
  refine And.intro (fun hc => ?_) (fun hc => ?_)
  · have h := h.1 hc
    refine hY _ _ _ _ (hY _ _ _ _ (?_ : Y 62 [(3, 0, true, r2), (2, 0, true, s.2.2.2 73 ((s.2.2.2 69 7) - 1)), (0, 5, true, 69), (1, 0, true, x1)] [(2, true, 1), (0, true, s.2.2.2 73 ((s.2.2.2 69 7) - 1))] (sM s m2)))
    refine hY _ _ _ _ ?_
    refine And.intro (fun hc => ?_) (fun hc => ?_)
    · have h := h.1 hc
      show Y 76 [(3, 0, true, r2), (2, 0, true, s.2.2.2 73 ((s.2.2.2 69 7) - 1)), (0, 5, true, 69), (1, 0, true, x1)] [] (sM s m2)
      refine l76 _ _ ?_
      exact (Exists.intro m2 (And.intro rfl h))
    · have h := h.2 hc
      refine hY _ _ _ _ (hY _ _ _ _ (hY _ _ _ _ (?_ : Y 70 [(3, 0, true, r2), (2, 0, true, s.2.2.2 73 ((s.2.2.2 69 7) - 1)), (0, 5, true, 69), (1, 0, true, x1)] [(1, true, 47980), (0, true, r2), (5, true, 69)] (sM s m2))))
      refine hY _ _ _ _ ?_
      refine Exists.intro _ (And.intro (wc_164_r69_0t_1t r2 47980 _ _ h) (fun r3 m3 h => ?_))
      show Y 73 [(3, 0, true, r2), (2, 0, true, s.2.2.2 73 ((s.2.2.2 69 7) - 1)), (0, 5, true, 69), (1, 0, true, x1)] [(2, true, r3)] (sM s m3)
      refine hY _ _ _ _ ?_
      refine And.intro (fun hc => ?_) (fun hc => ?_)
      · have h := h.1 hc
        refine hY _ _ _ _ (hY _ _ _ _ (hY _ _ _ _ (?_ : Y 100 [(3, 0, true, r2), (2, 0, true, s.2.2.2 73 ((s.2.2.2 69 7) - 1)), (0, 5, true, 69), (1, 0, true, x1)] [(1, true, 186), (0, true, r2), (5, true, 69)] (sM s m3))))
        refine hY _ _ _ _ ?_
        refine Exists.intro _ (And.intro (wc_164_r69_0t_1t r2 186 _ _ h) (fun r4 m4 h => ?_))
        show Y 103 [(3, 0, true, r2), (2, 0, true, s.2.2.2 73 ((s.2.2.2 69 7) - 1)), (0, 5, true, 69), (1, 0, true, x1)] [(2, true, r4)] (sM s m4)
        refine hY _ _ _ _ ?_
        refine And.intro (fun hc => ?_) (fun hc => ?_)
        · have h := h.1 hc
          refine hY _ _ _ _ (hY _ _ _ _ (?_ : Y 142 [(3, 0, true, r2), (2, 0, true, s.2.2.2 73 ((s.2.2.2 69 7) - 1)), (0, 5, true, 69), (1, 0, true, x1)] [(0, true, 124), (5, true, 69)] (sM s m4)))
          refine hY _ _ _ _ ?_
          refine Exists.intro _ (And.intro (wc_168_r69_0t 124 _ _ h) (fun r5 m5 h => ?_))
          refine hY _ _ _ _ (hY _ _ _ _ (?_ : Y 147 [(3, 0, true, r2), (2, 0, true, s.2.2.2 73 ((s.2.2.2 69 7) - 1)), (0, 5, true, 69), (1, 0, true, x1)] [(0, true, r2), (5, true, 69)] (sM s m5)))
          refine hY _ _ _ _ ?_
          refine Exists.intro _ (And.intro (wc_160_r69_0t r2 _ _ h) (fun r6 m6 h => ?_))
          show Y 150 [(3, 0, true, r2), (2, 0, true, s.2.2.2 73 ((s.2.2.2 69 7) - 1)), (0, 5, true, 69), (1, 0, true, x1)] [] (sM s m6)
          refine hY _ _ _ _ ?_
          exact hQ 0 m6 h
        · have h := h.2 hc
          refine hY _ _ _ _ (hY _ _ _ _ (?_ : Y 109 [(3, 0, true, r2), (2, 0, true, s.2.2.2 73 ((s.2.2.2 69 7) - 1)), (0, 5, true, 69), (1, 0, true, x1)] [(0, true, 44), (5, true, 69)] (sM s m4)))
          refine hY _ _ _ _ ?_
          refine Exists.intro _ (And.intro (wc_168_r69_0t 44 _ _ h) (fun r7 m7 h => ?_))
          refine hY _ _ _ _ (hY _ _ _ _ (hY _ _ _ _ (?_ : Y 117 [(3, 0, true, r2), (2, 0, true, s.2.2.2 73 ((s.2.2.2 69 7) - 1)), (0, 5, true, 69), (1, 0, true, x1)] [(5, true, 69), (5, true, 72)] (sM s m7))))
          refine hY _ _ _ _ (hY _ _ _ _ (hY _ _ _ _ (?_ : Y 122 [(3, 0, true, r2), (2, 0, true, s.2.2.2 73 ((s.2.2.2 69 7) - 1)), (0, 5, true, 69), (1, 0, true, x1)] [(0, false, (m7 69 7) - 1), (5, true, 72)] (sM s m7))))
          refine hY _ _ _ _ (?_ : Y 123 [(3, 0, true, r2), (2, 0, true, s.2.2.2 73 ((s.2.2.2 69 7) - 1)), (0, 5, true, 69), (1, 0, true, x1)] [(0, true, r2), (0, false, (m7 69 7) - 1), (5, true, 72)] (sM s m7))
          refine hY _ _ _ _ ?_
          refine (And.intro h.1 (And.intro h.2.1 ?_))
          refine hY _ _ _ _ (hY _ _ _ _ (hY _ _ _ _ (?_ : Y 129 [(3, 0, true, r2), (2, 0, true, s.2.2.2 73 ((s.2.2.2 69 7) - 1)), (0, 5, true, 69), (1, 0, true, x1)] [(5, true, 69), (5, true, 73)] (sM s (hy_u m7 72 ((m7 69 7) - 1) r2)))))
          refine hY _ _ _ _ (hY _ _ _ _ (hY _ _ _ _ (?_ : Y 134 [(3, 0, true, r2), (2, 0, true, s.2.2.2 73 ((s.2.2.2 69 7) - 1)), (0, 5, true, 69), (1, 0, true, x1)] [(0, false, (m7 69 7) - 1), (5, true, 73)] (sM s (hy_u m7 72 ((m7 69 7) - 1) r2)))))
          refine hY _ _ _ _ (?_ : Y 135 [(3, 0, true, r2), (2, 0, true, s.2.2.2 73 ((s.2.2.2 69 7) - 1)), (0, 5, true, 69), (1, 0, true, x1)] [(2, true, 0), (0, false, (m7 69 7) - 1), (5, true, 73)] (sM s (hy_u m7 72 ((m7 69 7) - 1) r2)))
          refine hY _ _ _ _ ?_
          refine (And.intro h.2.2.1 (And.intro h.2.2.2.1 ?_))
          refine hY _ _ _ _ (?_ : Y 150 [(3, 0, true, r2), (2, 0, true, s.2.2.2 73 ((s.2.2.2 69 7) - 1)), (0, 5, true, 69), (1, 0, true, x1)] [] (sM s (hy_u (hy_u m7 72 ((m7 69 7) - 1) r2) 73 ((m7 69 7) - 1) 0)))
          refine hY _ _ _ _ ?_
          exact hQ 0 (hy_u (hy_u m7 72 ((m7 69 7) - 1) r2) 73 ((m7 69 7) - 1) 0) h.2.2.2.2
      · have h := h.2 hc
        show Y 76 [(3, 0, true, r2), (2, 0, true, s.2.2.2 73 ((s.2.2.2 69 7) - 1)), (0, 5, true, 69), (1, 0, true, x1)] [] (sM s m3)
        refine l76 _ _ ?_
        exact (Exists.intro m3 (And.intro rfl h))
  · have h := h.2 hc
    refine hY _ _ _ _ (hY _ _ _ _ (?_ : Y 54 [(3, 0, true, r2), (2, 0, true, s.2.2.2 73 ((s.2.2.2 69 7) - 1)), (0, 5, true, 69), (1, 0, true, x1)] [(0, true, r2), (5, true, 69)] (sM s m2)))
    refine hY _ _ _ _ ?_
    refine Exists.intro _ (And.intro (wc_160_r69_0t r2 _ _ h) (fun r8 m8 h => ?_))
    refine hY _ _ _ _ (?_ : Y 150 [(3, 0, true, r2), (2, 0, true, s.2.2.2 73 ((s.2.2.2 69 7) - 1)), (0, 5, true, 69), (1, 0, true, x1)] [] (sM s m8))
    refine hY _ _ _ _ ?_
    exact hQ 0 m8 h
def we_163 : sFf := sEf 4 [(0, 5, 69), (1, 0, 0)] (fun xs s Q => ap1 (fun x1 => wq_163 x1 s.1 s.2.2.2 Q) xs)
theorem we_163_ok : kS dC 5 163 9 (.inl we_163) := sEf_ok (mi := im_m163) rfl rfl rfl (fun R xs s r1 hb => by obtain ⟨x1, rfl, hb⟩ := ap1_ok hb; exact wk_163_0 _ R s x1 (fun x m' hx => ⟨m', rfl, hx⟩) r1 hb)
/-- LM$Writer.continueCompound(I)V -/
def wq_162_54 (x1 : Int) (x2 : Int) (T : hy_T) (m : hy_m) (Q : Int → hy_m → Prop) : Prop := 0 ≤ ((m 69 7) - 1) ∧ ((m 69 7) - 1) < 120 ∧ (0 ≤ ((m 69 7) - 1) ∧ ((m 69 7) - 1) < 120 ∧ (hy_r 0 ((m 73 ((m 69 7) - 1)) + 1) ∧ (wq_132 x1 x2 T (hy_u m 73 ((m 69 7) - 1) ((m 73 ((m 69 7) - 1)) + 1)) (fun r1 m1 => wq_124 r1 T m1 (fun r2 m2 => wq_160 r2 T m2 (fun _ m3 => Q 0 m3))))))
def wq_162 (x1 : Int) (T : hy_T) (m : hy_m) (Q : Int → hy_m → Prop) : Prop := 0 ≤ ((m 69 7) - 1) ∧ ((m 69 7) - 1) < 120 ∧ (wq_130 x1 T m (fun r1 m1 => wq_26 r1 m1 (fun r2 m2 => ((m 73 ((m 69 7) - 1)) < r2 → (((m 73 ((m 69 7) - 1)) ≤ 0 → (wq_162_54 x1 (m 73 ((m 69 7) - 1)) T m2 Q)) ∧ (0 < (m 73 ((m 69 7) - 1)) → (wq_168 44 m2 (fun _ m3 => wq_162_54 x1 (m 73 ((m 69 7) - 1)) T m3 Q))))) ∧ (r2 ≤ (m 73 ((m 69 7) - 1)) → (wq_168 41 m2 (fun _ m4 => hy_r 0 ((m4 69 7) - 1) ∧ (Q 0 (hy_u m4 69 7 ((m4 69 7) - 1)))))))))
def cs_162 : List (Nat × Nat × sFS) := [(26, 0, .inl we_26), (124, 0, .inl we_124), (130, 1, .inl we_130), (132, 0, .inl we_132), (160, 9, .inl we_160), (168, 9, .inl we_168)]
theorem cs_162_ok : kCs dC 4 cs_162 := (kCs_c (Or.inl rfl) (we_26_ok.deep (by decide)) (kCs_c (Or.inl rfl) (we_124_ok.deep (by decide)) (kCs_c (Or.inr (Or.inl rfl)) (we_130_ok.deep (by decide)) (kCs_c (Or.inl rfl) (we_132_ok.deep (by decide)) (kCs_c (Or.inr (Or.inr (Or.inr (Or.inr rfl)))) (we_160_ok.deep (by decide)) (kCs_c (Or.inr (Or.inr (Or.inr (Or.inr rfl)))) (we_168_ok.deep (by decide)) kCs_n))))))
def lb_162_54 (s : sS) (Q : sQ) (R : Int → hy_m → Prop) (x1 : Int) (x2 : Int) : Nat → Option (sL → sS → Prop) := sLb []
set_option maxRecDepth 30000 in
set_option maxHeartbeats 1000000 in
theorem wk_162_54 (Q : sQ) (R : Int → hy_m → Prop) (s : sS) (x1 : Int) (x2 : Int) (hQ : ∀ x m', R x m' → Q x (sM s m')) (hr : sRg [(0, 5, 69), (1, 0, 0), (2, 0, 0)] [x1, x2]) (h : wq_162_54 x1 x2 s.1 s.2.2.2 R) : kX dC 4 im_m162 9 54 (sCan [(0, 5, 69), (1, 0, 0), (2, 0, 0)] [x1, x2]) [] s Q := by
  unfold wq_162_54 at h
  refine wz2_ok (cs := cs_162) (wr := []) (lb := lb_162_54 s Q R x1 x2) cs_162_ok kLb_n (okL_can rfl hr) (fun Y hY hl => ?_)
  refine hY _ _ _ _ (hY _ _ _ _ (hY _ _ _ _ (?_ : Y 59 [(0, 5, true, 69), (1, 0, true, x1), (2, 0, true, x2)] [(5, true, 69), (5, true, 73)] s)))
  refine hY _ _ _ _ (hY _ _ _ _ (hY _ _ _ _ (?_ : Y 64 [(0, 5, true, 69), (1, 0, true, x1), (2, 0, true, x2)] [(0, false, (s.2.2.2 69 7) - 1), (5, true, 73)] s)))
  refine hY _ _ _ _ (?_ : Y 65 [(0, 5, true, 69), (1, 0, true, x1), (2, 0, true, x2)] [(0, false, (s.2.2.2 69 7) - 1), (5, true, 73), (0, false, (s.2.2.2 69 7) - 1), (5, true, 73)] s)
  refine hY _ _ _ _ ?_
  refine (And.intro h.1 (And.intro h.2.1 ?_))
  refine hY _ _ _ _ (hY _ _ _ _ (?_ : Y 68 [(0, 5, true, 69), (1, 0, true, x1), (2, 0, true, x2)] [(0, false, (s.2.2.2 73 ((s.2.2.2 69 7) - 1)) + 1), (0, false, (s.2.2.2 69 7) - 1), (5, true, 73)] s))
  refine hY _ _ _ _ ?_
  refine (And.intro h.2.2.1 (And.intro h.2.2.2.1 ?_))
  refine And.intro h.2.2.2.2.1 ?_
  refine hY _ _ _ _ (hY _ _ _ _ (hY _ _ _ _ (?_ : Y 74 [(0, 5, true, 69), (1, 0, true, x1), (2, 0, true, x2)] [(5, true, 41), (5, true, 69)] (sM s (hy_u s.2.2.2 73 ((s.2.2.2 69 7) - 1) ((s.2.2.2 73 ((s.2.2.2 69 7) - 1)) + 1))))))
  refine hY _ _ _ _ (hY _ _ _ _ (hY _ _ _ _ (?_ : Y 79 [(0, 5, true, 69), (1, 0, true, x1), (2, 0, true, x2)] [(0, true, x1), (5, true, 41), (5, true, 41), (5, true, 69)] (sM s (hy_u s.2.2.2 73 ((s.2.2.2 69 7) - 1) ((s.2.2.2 73 ((s.2.2.2 69 7) - 1)) + 1))))))
  refine hY _ _ _ _ (?_ : Y 80 [(0, 5, true, 69), (1, 0, true, x1), (2, 0, true, x2)] [(0, true, x2), (0, true, x1), (5, true, 41), (5, true, 41), (5, true, 69)] (sM s (hy_u s.2.2.2 73 ((s.2.2.2 69 7) - 1) ((s.2.2.2 73 ((s.2.2.2 69 7) - 1)) + 1))))
  refine hY _ _ _ _ ?_
  refine Exists.intro _ (And.intro (wc_132_r41_0t_0t x1 x2 _ _ h.2.2.2.2.2) (fun r1 m1 h => ?_))
  show Y 83 [(0, 5, true, 69), (1, 0, true, x1), (2, 0, true, x2)] [(0, true, r1), (5, true, 41), (5, true, 69)] (sM s m1)
  refine hY _ _ _ _ ?_
  refine Exists.intro _ (And.intro (wc_124_r41_0t r1 _ _ h) (fun r2 m2 h => ?_))
  show Y 86 [(0, 5, true, 69), (1, 0, true, x1), (2, 0, true, x2)] [(0, true, r2), (5, true, 69)] (sM s m2)
  refine hY _ _ _ _ ?_
  refine Exists.intro _ (And.intro (wc_160_r69_0t r2 _ _ h) (fun r3 m3 h => ?_))
  show Y 89 [(0, 5, true, 69), (1, 0, true, x1), (2, 0, true, x2)] [] (sM s m3)
  refine hY _ _ _ _ ?_
  exact hQ 0 m3 h
def lb_162_0 (s : sS) (Q : sQ) (R : Int → hy_m → Prop) (x1 : Int) : Nat → Option (sL → sS → Prop) := sLb [(54, fun lv t => sG [(0, 5, 69), (1, 0, 0), (2, 0, 0)] lv (ap2 (fun w1 w2 => ∃ m', t = sM s m' ∧ wq_162_54 w1 w2 s.1 m' R)))]
set_option maxRecDepth 30000 in
set_option maxHeartbeats 1000000 in
theorem wk_162_0 (Q : sQ) (R : Int → hy_m → Prop) (s : sS) (x1 : Int) (hQ : ∀ x m', R x m' → Q x (sM s m')) (hr : sRg [(0, 5, 69), (1, 0, 0)] [x1]) (h : wq_162 x1 s.1 s.2.2.2 R) : kX dC 4 im_m162 9 0 (sCan [(0, 5, 69), (1, 0, 0)] [x1]) [] s Q := by
  unfold wq_162 at h
  refine wz2_ok (cs := cs_162) (wr := []) (lb := lb_162_0 s Q R x1) cs_162_ok (kLb_c (kLab (Bd := fun xs t => ap2 (fun w1 w2 => ∃ m', t = sM s m' ∧ wq_162_54 w1 w2 s.1 m' R) xs) rfl (fun xs t r1 r2 hb => by obtain ⟨w1, w2, rfl, hb⟩ := ap2_ok hb; obtain ⟨m', rfl, hx⟩ := hb; exact wk_162_54 Q R (sM s m') _ _ (fun x m'' hy => hQ x m'' hy) r1 hx)) kLb_n) (okL_can rfl hr) (fun Y hY hl => ?_)
  have l54 := hl 54 _ rfl
  refine hY _ _ _ _ (hY _ _ _ _ (hY _ _ _ _ (?_ : Y 5 [(0, 5, true, 69), (1, 0, true, x1)] [(5, true, 69), (5, true, 73)] s)))
  refine hY _ _ _ _ (hY _ _ _ _ (hY _ _ _ _ (?_ : Y 10 [(0, 5, true, 69), (1, 0, true, x1)] [(0, false, (s.2.2.2 69 7) - 1), (5, true, 73)] s)))
  refine hY _ _ _ _ ?_
  refine (And.intro h.1 (And.intro h.2.1 ?_))
  refine hY _ _ _ _ (hY _ _ _ _ (hY _ _ _ _ (?_ : Y 14 [(2, 0, true, s.2.2.2 73 ((s.2.2.2 69 7) - 1)), (0, 5, true, 69), (1, 0, true, x1)] [(5, true, 69), (0, true, s.2.2.2 73 ((s.2.2.2 69 7) - 1))] s)))
  refine hY _ _ _ _ (hY _ _ _ _ (?_ : Y 18 [(2, 0, true, s.2.2.2 73 ((s.2.2.2 69 7) - 1)), (0, 5, true, 69), (1, 0, true, x1)] [(0, true, x1), (5, true, 41), (0, true, s.2.2.2 73 ((s.2.2.2 69 7) - 1))] s))
  refine hY _ _ _ _ ?_
  refine Exists.intro _ (And.intro (wc_130_r41_0t x1 _ _ h.2.2) (fun r1 m1 h => ?_))
  show Y 21 [(2, 0, true, s.2.2.2 73 ((s.2.2.2 69 7) - 1)), (0, 5, true, 69), (1, 0, true, x1)] [(1, true, r1), (0, true, s.2.2.2 73 ((s.2.2.2 69 7) - 1))] (sM s m1)
  refine hY _ _ _ _ ?_
  refine Exists.intro _ (And.intro (wc_26_1t r1 _ _ h) (fun r2 m2 h => ?_))
  show Y 24 [(2, 0, true, s.2.2.2 73 ((s.2.2.2 69 7) - 1)), (0, 5, true, 69), (1, 0, true, x1)] [(0, true, r2), (0, true, s.2.2.2 73 ((s.2.2.2 69 7) - 1))] (sM s m2)
  refine hY _ _ _ _ ?_
  refine And.intro (fun hc => ?_) (fun hc => ?_)
  · have h := h.1 hc
    refine hY _ _ _ _ (?_ : Y 45 [(2, 0, true, s.2.2.2 73 ((s.2.2.2 69 7) - 1)), (0, 5, true, 69), (1, 0, true, x1)] [(0, true, s.2.2.2 73 ((s.2.2.2 69 7) - 1))] (sM s m2))
    refine hY _ _ _ _ ?_
    refine And.intro (fun hc => ?_) (fun hc => ?_)
    · have h := h.1 hc
      show Y 54 [(2, 0, true, s.2.2.2 73 ((s.2.2.2 69 7) - 1)), (0, 5, true, 69), (1, 0, true, x1)] [] (sM s m2)
      refine l54 _ _ ?_
      exact (Exists.intro m2 (And.intro rfl h))
    · have h := h.2 hc
      refine hY _ _ _ _ (hY _ _ _ _ (?_ : Y 51 [(2, 0, true, s.2.2.2 73 ((s.2.2.2 69 7) - 1)), (0, 5, true, 69), (1, 0, true, x1)] [(0, true, 44), (5, true, 69)] (sM s m2)))
      refine hY _ _ _ _ ?_
      refine Exists.intro _ (And.intro (wc_168_r69_0t 44 _ _ h) (fun r3 m3 h => ?_))
      show Y 54 [(2, 0, true, s.2.2.2 73 ((s.2.2.2 69 7) - 1)), (0, 5, true, 69), (1, 0, true, x1)] [] (sM s m3)
      refine l54 _ _ ?_
      exact (Exists.intro m3 (And.intro rfl h))
  · have h := h.2 hc
    refine hY _ _ _ _ (hY _ _ _ _ (?_ : Y 30 [(2, 0, true, s.2.2.2 73 ((s.2.2.2 69 7) - 1)), (0, 5, true, 69), (1, 0, true, x1)] [(0, true, 41), (5, true, 69)] (sM s m2)))
    refine hY _ _ _ _ ?_
    refine Exists.intro _ (And.intro (wc_168_r69_0t 41 _ _ h) (fun r4 m4 h => ?_))
    refine hY _ _ _ _ (hY _ _ _ _ (hY _ _ _ _ (?_ : Y 38 [(2, 0, true, s.2.2.2 73 ((s.2.2.2 69 7) - 1)), (0, 5, true, 69), (1, 0, true, x1)] [(0, true, m4 69 7), (5, true, 69)] (sM s m4))))
    refine hY _ _ _ _ (hY _ _ _ _ (?_ : Y 40 [(2, 0, true, s.2.2.2 73 ((s.2.2.2 69 7) - 1)), (0, 5, true, 69), (1, 0, true, x1)] [(0, false, (m4 69 7) - 1), (5, true, 69)] (sM s m4)))
    refine hY _ _ _ _ ?_
    refine And.intro h.1 ?_
    show Y 43 [(2, 0, true, s.2.2.2 73 ((s.2.2.2 69 7) - 1)), (0, 5, true, 69), (1, 0, true, x1)] [] (sM s (hy_u m4 69 7 ((m4 69 7) - 1)))
    refine hY _ _ _ _ ?_
    exact hQ 0 (hy_u m4 69 7 ((m4 69 7) - 1)) h.2
def we_162 : sFf := sEf 3 [(0, 5, 69), (1, 0, 0)] (fun xs s Q => ap1 (fun x1 => wq_162 x1 s.1 s.2.2.2 Q) xs)
theorem we_162_ok : kS dC 5 162 9 (.inl we_162) := sEf_ok (mi := im_m162) rfl rfl rfl (fun R xs s r1 hb => by obtain ⟨x1, rfl, hb⟩ := ap1_ok hb; exact wk_162_0 _ R s x1 (fun x m' hx => ⟨m', rfl, hx⟩) r1 hb)
/-- LM$Writer.addTerm(I)V -/
def wf_159_19 (T : hy_T) (Q : Int → hy_m → Prop) (P19 : Int → hy_m → Prop) (x2 : Int) (m : hy_m) : Prop := (1000000 ≤ x2 → (Q 0 m)) ∧ (x2 < 1000000 → (((m 69 7) ≤ 0 → (Q 0 m)) ∧ (0 < (m 69 7) → ((120 ≤ (m 69 2) → (Q 0 m)) ∧ ((m 69 2) < 120 → (0 ≤ ((m 69 7) - 1) ∧ ((m 69 7) - 1) < 120 ∧ (wq_130 (m 72 ((m 69 7) - 1)) T m (fun r1 m1 => (r1 ≠ 186 → (wq_162 (m 72 ((m 69 7) - 1)) T m1 (fun _ m2 => hy_r 0 (x2 + 1) ∧ (P19 (x2 + 1) m2)))) ∧ (r1 = 186 → (wq_163 (m 72 ((m 69 7) - 1)) T m1 (fun _ m3 => hy_r 0 (x2 + 1) ∧ (P19 (x2 + 1) m3))))))))))))
def wq_159_19 (x2 : Int) (T : hy_T) (m : hy_m) (Q : Int → hy_m → Prop) : Prop := wL1 hy_m (wf_159_19 T Q) x2 m
def wq_159 (x1 : Int) (T : hy_T) (m : hy_m) (Q : Int → hy_m → Prop) : Prop := wq_124 x1 T (hy_u m 69 7 0) (fun r1 m1 => wq_160 r1 T m1 (fun _ m2 => wq_159_19 0 T m2 Q))
theorem wc_162_r69_0t (x1 : Int) (s : sS) (R : Int → hy_m → Prop) (h : wq_162 x1 s.1 s.2.2.2 R) : we_162 [(5, true, 69), (0, true, x1)] s R := h
theorem wc_163_r69_0t (x1 : Int) (s : sS) (R : Int → hy_m → Prop) (h : wq_163 x1 s.1 s.2.2.2 R) : we_163 [(5, true, 69), (0, true, x1)] s R := h
def cs_159 : List (Nat × Nat × sFS) := [(124, 0, .inl we_124), (130, 1, .inl we_130), (160, 9, .inl we_160), (162, 9, .inl we_162), (163, 9, .inl we_163)]
theorem cs_159_ok : kCs dC 5 cs_159 := (kCs_c (Or.inl rfl) (we_124_ok.deep (by decide)) (kCs_c (Or.inr (Or.inl rfl)) (we_130_ok.deep (by decide)) (kCs_c (Or.inr (Or.inr (Or.inr (Or.inr rfl)))) (we_160_ok.deep (by decide)) (kCs_c (Or.inr (Or.inr (Or.inr (Or.inr rfl)))) (we_162_ok.deep (by decide)) (kCs_c (Or.inr (Or.inr (Or.inr (Or.inr rfl)))) (we_163_ok.deep (by decide)) kCs_n)))))
def lb_159_19 (s : sS) (Q : sQ) (P19 : Int → hy_m → Prop) (R : Int → hy_m → Prop) (x2 : Int) : Nat → Option (sL → sS → Prop) := sLb [(19, fun lv t => sG [(0, 5, 69), (2, 0, 0)] lv (ap1 (fun w2 => ∃ m', t = sM s m' ∧ P19 w2 m')))]
set_option maxRecDepth 30000 in
set_option maxHeartbeats 1000000 in
theorem wj_159_19 (Q : sQ) (R : Int → hy_m → Prop) (s : sS) (P19 : Int → hy_m → Prop) (x2 : Int) (m : hy_m) (hP19 : ∀ (z2 : Int) (m : hy_m), P19 z2 m → sRg [(0, 5, 69), (2, 0, 0)] [z2] → kX dC 5 im_m159 9 19 (sCan [(0, 5, 69), (2, 0, 0)] [z2]) [] (sM s m) Q) (hQ : ∀ x m', R x m' → Q x (sM s m')) (hr : sRg [(0, 5, 69), (2, 0, 0)] [x2]) (h : wf_159_19 s.1 R P19 x2 m) : kX dC 5 im_m159 9 19 (sCan [(0, 5, 69), (2, 0, 0)] [x2]) [] (sM s m) Q := by
  unfold wf_159_19 at h
  refine wz2_ok (cs := cs_159) (wr := []) (lb := lb_159_19 s Q P19 R x2) cs_159_ok (kLb_c (kLab (Bd := fun xs t => ap1 (fun w2 => ∃ m', t = sM s m' ∧ P19 w2 m') xs) rfl (fun xs t r1 r2 hb => by obtain ⟨w2, rfl, hb⟩ := ap1_ok hb; obtain ⟨m', rfl, hx⟩ := hb; exact hP19 _ m' hx r1)) kLb_n) (okL_can rfl hr) (fun Y hY hl => ?_)
  have l19 := hl 19 _ rfl
  refine hY _ _ _ _ (hY _ _ _ _ (?_ : Y 22 [(0, 5, true, 69), (2, 0, true, x2)] [(0, true, 1000000), (0, true, x2)] (sM s m)))
  refine hY _ _ _ _ ?_
  refine And.intro (fun hc => ?_) (fun hc => ?_)
  · have h := h.1 hc
    show Y 90 [(0, 5, true, 69), (2, 0, true, x2)] [] (sM s m)
    refine hY _ _ _ _ ?_
    exact hQ 0 m h
  · have h := h.2 hc
    refine hY _ _ _ _ (hY _ _ _ _ (?_ : Y 29 [(0, 5, true, 69), (2, 0, true, x2)] [(0, true, m 69 7)] (sM s m)))
    refine hY _ _ _ _ ?_
    refine And.intro (fun hc => ?_) (fun hc => ?_)
    · have h := h.1 hc
      show Y 90 [(0, 5, true, 69), (2, 0, true, x2)] [] (sM s m)
      refine hY _ _ _ _ ?_
      exact hQ 0 m h
    · have h := h.2 hc
      refine hY _ _ _ _ (hY _ _ _ _ (hY _ _ _ _ (?_ : Y 37 [(0, 5, true, 69), (2, 0, true, x2)] [(5, true, 69), (0, true, m 69 2)] (sM s m))))
      refine hY _ _ _ _ (hY _ _ _ _ (?_ : Y 41 [(0, 5, true, 69), (2, 0, true, x2)] [(0, true, 120), (0, true, m 69 2)] (sM s m)))
      refine hY _ _ _ _ ?_
      refine And.intro (fun hc => ?_) (fun hc => ?_)
      · have h := h.1 hc
        show Y 90 [(0, 5, true, 69), (2, 0, true, x2)] [] (sM s m)
        refine hY _ _ _ _ ?_
        exact hQ 0 m h
      · have h := h.2 hc
        refine hY _ _ _ _ (hY _ _ _ _ (hY _ _ _ _ (?_ : Y 49 [(0, 5, true, 69), (2, 0, true, x2)] [(5, true, 69), (5, true, 72)] (sM s m))))
        refine hY _ _ _ _ (hY _ _ _ _ (hY _ _ _ _ (?_ : Y 54 [(0, 5, true, 69), (2, 0, true, x2)] [(0, false, (m 69 7) - 1), (5, true, 72)] (sM s m))))
        refine hY _ _ _ _ ?_
        refine (And.intro h.1 (And.intro h.2.1 ?_))
        refine hY _ _ _ _ (hY _ _ _ _ (hY _ _ _ _ (?_ : Y 60 [(3, 0, true, m 72 ((m 69 7) - 1)), (0, 5, true, 69), (2, 0, true, x2)] [(5, true, 41)] (sM s m))))
        refine hY _ _ _ _ (?_ : Y 61 [(3, 0, true, m 72 ((m 69 7) - 1)), (0, 5, true, 69), (2, 0, true, x2)] [(0, true, m 72 ((m 69 7) - 1)), (5, true, 41)] (sM s m))
        refine hY _ _ _ _ ?_
        refine Exists.intro _ (And.intro (wc_130_r41_0t (m 72 ((m 69 7) - 1)) _ _ h.2.2) (fun r1 m1 h => ?_))
        refine hY _ _ _ _ (?_ : Y 67 [(3, 0, true, m 72 ((m 69 7) - 1)), (0, 5, true, 69), (2, 0, true, x2)] [(1, true, 186), (1, true, r1)] (sM s m1))
        refine hY _ _ _ _ ?_
        refine And.intro (fun hc => ?_) (fun hc => ?_)
        · have h := h.1 hc
          refine hY _ _ _ _ (hY _ _ _ _ (?_ : Y 81 [(3, 0, true, m 72 ((m 69 7) - 1)), (0, 5, true, 69), (2, 0, true, x2)] [(0, true, m 72 ((m 69 7) - 1)), (5, true, 69)] (sM s m1)))
          refine hY _ _ _ _ ?_
          refine Exists.intro _ (And.intro (wc_162_r69_0t (m 72 ((m 69 7) - 1)) _ _ h) (fun r2 m2 h => ?_))
          refine hY _ _ _ _ (hY _ _ _ _ (?_ : Y 19 [(2, 0, false, x2 + 1), (3, 0, true, m 72 ((m 69 7) - 1)), (0, 5, true, 69)] [] (sM s m2)))
          refine l19 _ _ ?_
          refine And.intro h.1 ?_
          exact (Exists.intro m2 (And.intro rfl h.2))
        · have h := h.2 hc
          refine hY _ _ _ _ (hY _ _ _ _ (?_ : Y 73 [(3, 0, true, m 72 ((m 69 7) - 1)), (0, 5, true, 69), (2, 0, true, x2)] [(0, true, m 72 ((m 69 7) - 1)), (5, true, 69)] (sM s m1)))
          refine hY _ _ _ _ ?_
          refine Exists.intro _ (And.intro (wc_163_r69_0t (m 72 ((m 69 7) - 1)) _ _ h) (fun r3 m3 h => ?_))
          refine hY _ _ _ _ (hY _ _ _ _ (hY _ _ _ _ (?_ : Y 19 [(2, 0, false, x2 + 1), (3, 0, true, m 72 ((m 69 7) - 1)), (0, 5, true, 69)] [] (sM s m3))))
          refine l19 _ _ ?_
          refine And.intro h.1 ?_
          exact (Exists.intro m3 (And.intro rfl h.2))
theorem wk_159_19 (Q : sQ) (R : Int → hy_m → Prop) (s : sS) (x2 : Int) (hQ : ∀ x m', R x m' → Q x (sM s m')) (hr : sRg [(0, 5, 69), (2, 0, 0)] [x2]) (h : wq_159_19 x2 s.1 s.2.2.2 R) : kX dC 5 im_m159 9 19 (sCan [(0, 5, 69), (2, 0, 0)] [x2]) [] s Q :=
  h (fun x2 m => sRg [(0, 5, 69), (2, 0, 0)] [x2] → kX dC 5 im_m159 9 19 (sCan [(0, 5, 69), (2, 0, 0)] [x2]) [] (sM s m) Q) (fun x2 m h hr => wj_159_19 Q R s (fun x2 m => sRg [(0, 5, 69), (2, 0, 0)] [x2] → kX dC 5 im_m159 9 19 (sCan [(0, 5, 69), (2, 0, 0)] [x2]) [] (sM s m) Q) x2 m  (fun _ _ hp hr => hp hr) hQ hr h) hr
def lb_159_0 (s : sS) (Q : sQ) (R : Int → hy_m → Prop) (x1 : Int) : Nat → Option (sL → sS → Prop) := sLb [(19, fun lv t => sG [(0, 5, 69), (2, 0, 0)] lv (ap1 (fun w2 => ∃ m', t = sM s m' ∧ wq_159_19 w2 s.1 m' R)))]
set_option maxRecDepth 30000 in
set_option maxHeartbeats 1000000 in
theorem wk_159_0 (Q : sQ) (R : Int → hy_m → Prop) (s : sS) (x1 : Int) (hQ : ∀ x m', R x m' → Q x (sM s m')) (hr : sRg [(0, 5, 69), (1, 0, 0)] [x1]) (h : wq_159 x1 s.1 s.2.2.2 R) : kX dC 5 im_m159 9 0 (sCan [(0, 5, 69), (1, 0, 0)] [x1]) [] s Q := by
  unfold wq_159 at h
  refine wz2_ok (cs := cs_159) (wr := []) (lb := lb_159_0 s Q R x1) cs_159_ok (kLb_c (kLab (Bd := fun xs t => ap1 (fun w2 => ∃ m', t = sM s m' ∧ wq_159_19 w2 s.1 m' R) xs) rfl (fun xs t r1 r2 hb => by obtain ⟨w2, rfl, hb⟩ := ap1_ok hb; obtain ⟨m', rfl, hx⟩ := hb; exact wk_159_19 Q R (sM s m') _ (fun x m'' hy => hQ x m'' hy) r1 hx)) kLb_n) (okL_can rfl hr) (fun Y hY hl => ?_)
  have l19 := hl 19 _ rfl
  refine hY _ _ _ _ (hY _ _ _ _ (?_ : Y 2 [(0, 5, true, 69), (1, 0, true, x1)] [(2, true, 0), (5, true, 69)] s))
  refine hY _ _ _ _ ?_
  refine hY _ _ _ _ (hY _ _ _ _ (hY _ _ _ _ (?_ : Y 10 [(0, 5, true, 69), (1, 0, true, x1)] [(5, true, 41), (5, true, 69)] (sM s (hy_u s.2.2.2 69 7 0)))))
  refine hY _ _ _ _ (?_ : Y 11 [(0, 5, true, 69), (1, 0, true, x1)] [(0, true, x1), (5, true, 41), (5, true, 69)] (sM s (hy_u s.2.2.2 69 7 0)))
  refine hY _ _ _ _ ?_
  refine Exists.intro _ (And.intro (wc_124_r41_0t x1 _ _ h) (fun r1 m1 h => ?_))
  show Y 14 [(0, 5, true, 69), (1, 0, true, x1)] [(0, true, r1), (5, true, 69)] (sM s m1)
  refine hY _ _ _ _ ?_
  refine Exists.intro _ (And.intro (wc_160_r69_0t r1 _ _ h) (fun r2 m2 h => ?_))
  refine hY _ _ _ _ (hY _ _ _ _ (?_ : Y 19 [(2, 2, true, 0), (0, 5, true, 69), (1, 0, true, x1)] [] (sM s m2)))
  refine l19 _ _ ?_
  exact (Exists.intro m2 (And.intro rfl h))
def we_159 : sFf := sEf 4 [(0, 5, 69), (1, 0, 0)] (fun xs s Q => ap1 (fun x1 => wq_159 x1 s.1 s.2.2.2 Q) xs)
theorem we_159_ok : kS dC 6 159 9 (.inl we_159) := sEf_ok (mi := im_m159) rfl rfl rfl (fun R xs s r1 hb => by obtain ⟨x1, rfl, hb⟩ := ap1_ok hb; exact wk_159_0 _ R s x1 (fun x m' hx => ⟨m', rfl, hx⟩) r1 hb)
/-- LM$Writer.addClause(LLogicMachine$Clause;)V -/
def wq_158_58 (P24 : Int → hy_m → Prop) (x1 : Int) (x2 : Int) (x3 : Int) (T : hy_T) (m : hy_m) (Q : Int → hy_m → Prop) : Prop := T.1 (x1).toNat = some (3, 9) ∧ (∃ n1 : Nat, T.1 (m ((x1).toNat) 4).toNat = some (100, n1) ∧ (0 ≤ x3 ∧ x3 < (n1 : Int) ∧ (hy_r 0 (x2 + (m ((m ((x1).toNat) 4).toNat) x3)) ∧ (wq_159 (x2 + (m ((m ((x1).toNat) 4).toNat) x3)) T m (fun _ m2 => hy_r 0 (x3 + 1) ∧ (P24 (x3 + 1) m2))))))
def wf_158_24 (x1 : Int) (x2 : Int) (T : hy_T) (Q : Int → hy_m → Prop) (P24 : Int → hy_m → Prop) (x3 : Int) (m : hy_m) : Prop := T.1 (x1).toNat = some (3, 9) ∧ (∃ t1 n1 : Nat, T.1 (m ((x1).toNat) 4).toNat = some (t1, n1) ∧ 99 ≤ t1 ∧ (((n1 : Int) ≤ x3 → (wq_168 46 m (fun _ m2 => Q 0 m2))) ∧ (x3 < (n1 : Int) → ((x3 ≠ 0 → (wq_168 44 m (fun _ m3 => wq_158_58 P24 x1 x2 x3 T m3 Q))) ∧ (x3 = 0 → (wq_168 58 m (fun _ m4 => wq_168 45 m4 (fun _ m5 => wq_158_58 P24 x1 x2 x3 T m5 Q))))))))
def wq_158_24 (x1 : Int) (x2 : Int) (x3 : Int) (T : hy_T) (m : hy_m) (Q : Int → hy_m → Prop) : Prop := wL1 hy_m (wf_158_24 x1 x2 T Q) x3 m
def wq_158 (x1 : Int) (T : hy_T) (m : hy_m) (Q : Int → hy_m → Prop) : Prop := wq_118 1 x1 (-9) T m (fun r1 m1 => T.1 (x1).toNat = some (3, 9) ∧ (hy_r 0 (r1 + (m1 ((x1).toNat) 3)) ∧ (wq_159 (r1 + (m1 ((x1).toNat) 3)) T m1 (fun _ m2 => wq_158_24 x1 r1 0 T m2 Q))))
theorem wc_159_r69_0f (x1 : Int) (s : sS) (R : Int → hy_m → Prop) (h : hy_r 0 x1 ∧ wq_159 x1 s.1 s.2.2.2 R) : we_159 [(5, true, 69), (0, false, x1)] s R := h
theorem wc_118_r41_2t_3t_0t (x1 : Int) (x2 : Int) (x3 : Int) (s : sS) (R : Int → hy_m → Prop) (h : wq_118 x1 x2 x3 s.1 s.2.2.2 R) : we_118 [(5, true, 41), (2, true, x1), (3, true, x2), (0, true, x3)] s R := h
def cs_158 : List (Nat × Nat × sFS) := [(118, 0, .inl we_118), (159, 9, .inl we_159), (168, 9, .inl we_168)]
theorem cs_158_ok : kCs dC 6 cs_158 := (kCs_c (Or.inl rfl) (we_118_ok.deep (by decide)) (kCs_c (Or.inr (Or.inr (Or.inr (Or.inr rfl)))) (we_159_ok.deep (by decide)) (kCs_c (Or.inr (Or.inr (Or.inr (Or.inr rfl)))) (we_168_ok.deep (by decide)) kCs_n)))
def lb_158_58 (s : sS) (Q : sQ) (P24 : Int → hy_m → Prop) (R : Int → hy_m → Prop) (x1 : Int) (x2 : Int) (x3 : Int) : Nat → Option (sL → sS → Prop) := sLb [(24, fun lv t => sG [(0, 5, 69), (1, 3, 0), (2, 0, 0), (3, 0, 0)] lv (ap3 (fun w1 w2 w3 => ∃ m', t = sM s m' ∧ w1 = x1 ∧ w2 = x2 ∧ P24 w3 m')))]
set_option maxRecDepth 30000 in
set_option maxHeartbeats 1000000 in
theorem wk_158_58 (Q : sQ) (R : Int → hy_m → Prop) (s : sS) (P24 : Int → hy_m → Prop) (x1 : Int) (x2 : Int) (x3 : Int) (hP24 : ∀ (z3 : Int) (m : hy_m), P24 z3 m → sRg [(0, 5, 69), (1, 3, 0), (2, 0, 0), (3, 0, 0)] [x1, x2, z3] → kX dC 6 im_m158 9 24 (sCan [(0, 5, 69), (1, 3, 0), (2, 0, 0), (3, 0, 0)] [x1, x2, z3]) [] (sM s m) Q) (hQ : ∀ x m', R x m' → Q x (sM s m')) (hr : sRg [(0, 5, 69), (1, 3, 0), (2, 0, 0), (3, 0, 0)] [x1, x2, x3]) (h : wq_158_58 P24 x1 x2 x3 s.1 s.2.2.2 R) : kX dC 6 im_m158 9 58 (sCan [(0, 5, 69), (1, 3, 0), (2, 0, 0), (3, 0, 0)] [x1, x2, x3]) [] s Q := by
  unfold wq_158_58 at h
  refine wz2_ok (cs := cs_158) (wr := []) (lb := lb_158_58 s Q P24 R x1 x2 x3) cs_158_ok (kLb_c (kLab (Bd := fun xs t => ap3 (fun w1 w2 w3 => ∃ m', t = sM s m' ∧ w1 = x1 ∧ w2 = x2 ∧ P24 w3 m') xs) rfl (fun xs t r1 r2 hb => by obtain ⟨w1, w2, w3, rfl, hb⟩ := ap3_ok hb; obtain ⟨m', rfl, rfl, rfl, hx⟩ := hb; exact hP24 _ m' hx r1)) kLb_n) (okL_can rfl hr) (fun Y hY hl => ?_)
  have l24 := hl 24 _ rfl
  refine hY _ _ _ _ (hY _ _ _ _ (hY _ _ _ _ (?_ : Y 61 [(0, 5, true, 69), (1, 3, true, x1), (2, 0, true, x2), (3, 0, true, x3)] [(3, true, x1), (0, true, x2), (5, true, 69)] s)))
  refine hY _ _ _ _ ?_
  refine (And.intro h.1 ?_)
  refine hY _ _ _ _ (?_ : Y 65 [(0, 5, true, 69), (1, 3, true, x1), (2, 0, true, x2), (3, 0, true, x3)] [(0, true, x3), (3, true, s.2.2.2 ((x1).toNat) 4), (0, true, x2), (5, true, 69)] s)
  refine hY _ _ _ _ ?_
  obtain ⟨n1, h⟩ := h.2
  refine Exists.intro n1 (And.intro h.1 ?_)
  refine (And.intro h.2.1 (And.intro h.2.2.1 ?_))
  refine hY _ _ _ _ (?_ : Y 67 [(0, 5, true, 69), (1, 3, true, x1), (2, 0, true, x2), (3, 0, true, x3)] [(0, false, x2 + (s.2.2.2 ((s.2.2.2 ((x1).toNat) 4).toNat) x3)), (5, true, 69)] s)
  refine hY _ _ _ _ ?_
  refine Exists.intro _ (And.intro (wc_159_r69_0f (x2 + (s.2.2.2 ((s.2.2.2 ((x1).toNat) 4).toNat) x3)) _ _ h.2.2.2) (fun r2 m2 h => ?_))
  refine hY _ _ _ _ (hY _ _ _ _ (?_ : Y 24 [(3, 0, false, x3 + 1), (0, 5, true, 69), (1, 3, true, x1), (2, 0, true, x2)] [] (sM s m2)))
  refine l24 _ _ ?_
  refine And.intro h.1 ?_
  exact (Exists.intro m2 (And.intro rfl (And.intro rfl (And.intro rfl h.2))))
def lb_158_24 (s : sS) (Q : sQ) (P24 : Int → hy_m → Prop) (R : Int → hy_m → Prop) (x1 : Int) (x2 : Int) (x3 : Int) : Nat → Option (sL → sS → Prop) := sLb [(58, fun lv t => sG [(0, 5, 69), (1, 3, 0), (2, 0, 0), (3, 0, 0)] lv (ap3 (fun w1 w2 w3 => ∃ m', t = sM s m' ∧ w1 = x1 ∧ w2 = x2 ∧ wq_158_58 P24 w1 w2 w3 s.1 m' R))), (24, fun lv t => sG [(0, 5, 69), (1, 3, 0), (2, 0, 0), (3, 0, 0)] lv (ap3 (fun w1 w2 w3 => ∃ m', t = sM s m' ∧ w1 = x1 ∧ w2 = x2 ∧ P24 w3 m')))]
set_option maxRecDepth 30000 in
set_option maxHeartbeats 1000000 in
theorem wj_158_24 (Q : sQ) (R : Int → hy_m → Prop) (s : sS) (P24 : Int → hy_m → Prop) (x1 : Int) (x2 : Int) (x3 : Int) (m : hy_m) (hP24 : ∀ (z3 : Int) (m : hy_m), P24 z3 m → sRg [(0, 5, 69), (1, 3, 0), (2, 0, 0), (3, 0, 0)] [x1, x2, z3] → kX dC 6 im_m158 9 24 (sCan [(0, 5, 69), (1, 3, 0), (2, 0, 0), (3, 0, 0)] [x1, x2, z3]) [] (sM s m) Q) (hQ : ∀ x m', R x m' → Q x (sM s m')) (hr : sRg [(0, 5, 69), (1, 3, 0), (2, 0, 0), (3, 0, 0)] [x1, x2, x3]) (h : wf_158_24 x1 x2 s.1 R P24 x3 m) : kX dC 6 im_m158 9 24 (sCan [(0, 5, 69), (1, 3, 0), (2, 0, 0), (3, 0, 0)] [x1, x2, x3]) [] (sM s m) Q := by
  unfold wf_158_24 at h
  refine wz2_ok (cs := cs_158) (wr := []) (lb := lb_158_24 s Q P24 R x1 x2 x3) cs_158_ok (kLb_c (kLab (Bd := fun xs t => ap3 (fun w1 w2 w3 => ∃ m', t = sM s m' ∧ w1 = x1 ∧ w2 = x2 ∧ wq_158_58 P24 w1 w2 w3 s.1 m' R) xs) rfl (fun xs t r1 r2 hb => by obtain ⟨w1, w2, w3, rfl, hb⟩ := ap3_ok hb; obtain ⟨m', rfl, rfl, rfl, hx⟩ := hb; exact wk_158_58 Q R (sM s m') P24 _ _ _ hP24 (fun x m'' hy => hQ x m'' hy) r1 hx)) (kLb_c (kLab (Bd := fun xs t => ap3 (fun w1 w2 w3 => ∃ m', t = sM s m' ∧ w1 = x1 ∧ w2 = x2 ∧ P24 w3 m') xs) rfl (fun xs t r1 r2 hb => by obtain ⟨w1, w2, w3, rfl, hb⟩ := ap3_ok hb; obtain ⟨m', rfl, rfl, rfl, hx⟩ := hb; exact hP24 _ m' hx r1)) kLb_n)) (okL_can rfl hr) (fun Y hY hl => ?_)
  have l58 := hl 58 _ rfl
  have l24 := hl 24 _ rfl
  refine hY _ _ _ _ (hY _ _ _ _ (?_ : Y 26 [(0, 5, true, 69), (1, 3, true, x1), (2, 0, true, x2), (3, 0, true, x3)] [(3, true, x1), (0, true, x3)] (sM s m)))
  refine hY _ _ _ _ ?_
  refine (And.intro h.1 ?_)
  show Y 29 [(0, 5, true, 69), (1, 3, true, x1), (2, 0, true, x2), (3, 0, true, x3)] [(3, true, m ((x1).toNat) 4), (0, true, x3)] (sM s m)
  refine hY _ _ _ _ ?_
  obtain ⟨t1, n1, h⟩ := h.2
  refine Exists.intro t1 (Exists.intro n1 (And.intro h.1 (And.intro h.2.1 ?_)))
  show Y 30 [(0, 5, true, 69), (1, 3, true, x1), (2, 0, true, x2), (3, 0, true, x3)] [(0, true, (n1 : Int)), (0, true, x3)] (sM s m)
  refine hY _ _ _ _ ?_
  refine And.intro (fun hc => ?_) (fun hc => ?_)
  · have h := h.2.2.1 hc
    refine hY _ _ _ _ (hY _ _ _ _ (?_ : Y 79 [(0, 5, true, 69), (1, 3, true, x1), (2, 0, true, x2), (3, 0, true, x3)] [(0, true, 46), (5, true, 69)] (sM s m)))
    refine hY _ _ _ _ ?_
    refine Exists.intro _ (And.intro (wc_168_r69_0t 46 _ _ h) (fun r2 m2 h => ?_))
    show Y 82 [(0, 5, true, 69), (1, 3, true, x1), (2, 0, true, x2), (3, 0, true, x3)] [] (sM s m2)
    refine hY _ _ _ _ ?_
    exact hQ 0 m2 h
  · have h := h.2.2.2 hc
    refine hY _ _ _ _ (?_ : Y 34 [(0, 5, true, 69), (1, 3, true, x1), (2, 0, true, x2), (3, 0, true, x3)] [(0, true, x3)] (sM s m))
    refine hY _ _ _ _ ?_
    refine And.intro (fun hc => ?_) (fun hc => ?_)
    · have h := h.1 hc
      refine hY _ _ _ _ (hY _ _ _ _ (?_ : Y 55 [(0, 5, true, 69), (1, 3, true, x1), (2, 0, true, x2), (3, 0, true, x3)] [(0, true, 44), (5, true, 69)] (sM s m)))
      refine hY _ _ _ _ ?_
      refine Exists.intro _ (And.intro (wc_168_r69_0t 44 _ _ h) (fun r3 m3 h => ?_))
      show Y 58 [(0, 5, true, 69), (1, 3, true, x1), (2, 0, true, x2), (3, 0, true, x3)] [] (sM s m3)
      refine l58 _ _ ?_
      exact (Exists.intro m3 (And.intro rfl (And.intro rfl (And.intro rfl h))))
    · have h := h.2 hc
      refine hY _ _ _ _ (hY _ _ _ _ (?_ : Y 40 [(0, 5, true, 69), (1, 3, true, x1), (2, 0, true, x2), (3, 0, true, x3)] [(0, true, 58), (5, true, 69)] (sM s m)))
      refine hY _ _ _ _ ?_
      refine Exists.intro _ (And.intro (wc_168_r69_0t 58 _ _ h) (fun r4 m4 h => ?_))
      refine hY _ _ _ _ (hY _ _ _ _ (?_ : Y 46 [(0, 5, true, 69), (1, 3, true, x1), (2, 0, true, x2), (3, 0, true, x3)] [(0, true, 45), (5, true, 69)] (sM s m4)))
      refine hY _ _ _ _ ?_
      refine Exists.intro _ (And.intro (wc_168_r69_0t 45 _ _ h) (fun r5 m5 h => ?_))
      refine hY _ _ _ _ (?_ : Y 58 [(0, 5, true, 69), (1, 3, true, x1), (2, 0, true, x2), (3, 0, true, x3)] [] (sM s m5))
      refine l58 _ _ ?_
      exact (Exists.intro m5 (And.intro rfl (And.intro rfl (And.intro rfl h))))
theorem wk_158_24 (Q : sQ) (R : Int → hy_m → Prop) (s : sS) (x1 : Int) (x2 : Int) (x3 : Int) (hQ : ∀ x m', R x m' → Q x (sM s m')) (hr : sRg [(0, 5, 69), (1, 3, 0), (2, 0, 0), (3, 0, 0)] [x1, x2, x3]) (h : wq_158_24 x1 x2 x3 s.1 s.2.2.2 R) : kX dC 6 im_m158 9 24 (sCan [(0, 5, 69), (1, 3, 0), (2, 0, 0), (3, 0, 0)] [x1, x2, x3]) [] s Q :=
  h (fun x3 m => sRg [(0, 5, 69), (1, 3, 0), (2, 0, 0), (3, 0, 0)] [x1, x2, x3] → kX dC 6 im_m158 9 24 (sCan [(0, 5, 69), (1, 3, 0), (2, 0, 0), (3, 0, 0)] [x1, x2, x3]) [] (sM s m) Q) (fun x3 m h hr => wj_158_24 Q R s (fun x3 m => sRg [(0, 5, 69), (1, 3, 0), (2, 0, 0), (3, 0, 0)] [x1, x2, x3] → kX dC 6 im_m158 9 24 (sCan [(0, 5, 69), (1, 3, 0), (2, 0, 0), (3, 0, 0)] [x1, x2, x3]) [] (sM s m) Q) x1 x2 x3 m  (fun _ _ hp hr => hp hr) hQ hr h) hr
def lb_158_0 (s : sS) (Q : sQ) (R : Int → hy_m → Prop) (x1 : Int) : Nat → Option (sL → sS → Prop) := sLb [(24, fun lv t => sG [(0, 5, 69), (1, 3, 0), (2, 0, 0), (3, 0, 0)] lv (ap3 (fun w1 w2 w3 => ∃ m', t = sM s m' ∧ wq_158_24 w1 w2 w3 s.1 m' R)))]
set_option maxRecDepth 30000 in
set_option maxHeartbeats 1000000 in
theorem wk_158_0 (Q : sQ) (R : Int → hy_m → Prop) (s : sS) (x1 : Int) (hQ : ∀ x m', R x m' → Q x (sM s m')) (hr : sRg [(0, 5, 69), (1, 3, 0)] [x1]) (h : wq_158 x1 s.1 s.2.2.2 R) : kX dC 6 im_m158 9 0 (sCan [(0, 5, 69), (1, 3, 0)] [x1]) [] s Q := by
  unfold wq_158 at h
  refine wz2_ok (cs := cs_158) (wr := []) (lb := lb_158_0 s Q R x1) cs_158_ok (kLb_c (kLab (Bd := fun xs t => ap3 (fun w1 w2 w3 => ∃ m', t = sM s m' ∧ wq_158_24 w1 w2 w3 s.1 m' R) xs) rfl (fun xs t r1 r2 hb => by obtain ⟨w1, w2, w3, rfl, hb⟩ := ap3_ok hb; obtain ⟨m', rfl, hx⟩ := hb; exact wk_158_24 Q R (sM s m') _ _ _ (fun x m'' hy => hQ x m'' hy) r1 hx)) kLb_n) (okL_can rfl hr) (fun Y hY hl => ?_)
  have l24 := hl 24 _ rfl
  refine hY _ _ _ _ (hY _ _ _ _ (hY _ _ _ _ (?_ : Y 5 [(0, 5, true, 69), (1, 3, true, x1)] [(2, true, 1), (5, true, 41)] s)))
  refine hY _ _ _ _ (hY _ _ _ _ (?_ : Y 8 [(0, 5, true, 69), (1, 3, true, x1)] [(0, true, (-9)), (3, true, x1), (2, true, 1), (5, true, 41)] s))
  refine hY _ _ _ _ ?_
  refine Exists.intro _ (And.intro (wc_118_r41_2t_3t_0t 1 x1 (-9) _ _ h) (fun r1 m1 h => ?_))
  refine hY _ _ _ _ (hY _ _ _ _ (hY _ _ _ _ (?_ : Y 14 [(2, 0, true, r1), (0, 5, true, 69), (1, 3, true, x1)] [(0, true, r1), (5, true, 69)] (sM s m1))))
  refine hY _ _ _ _ (?_ : Y 15 [(2, 0, true, r1), (0, 5, true, 69), (1, 3, true, x1)] [(3, true, x1), (0, true, r1), (5, true, 69)] (sM s m1))
  refine hY _ _ _ _ ?_
  refine (And.intro h.1 ?_)
  refine hY _ _ _ _ (?_ : Y 19 [(2, 0, true, r1), (0, 5, true, 69), (1, 3, true, x1)] [(0, false, r1 + (m1 ((x1).toNat) 3)), (5, true, 69)] (sM s m1))
  refine hY _ _ _ _ ?_
  refine Exists.intro _ (And.intro (wc_159_r69_0f (r1 + (m1 ((x1).toNat) 3)) _ _ h.2) (fun r2 m2 h => ?_))
  refine hY _ _ _ _ (hY _ _ _ _ (?_ : Y 24 [(3, 2, true, 0), (2, 0, true, r1), (0, 5, true, 69), (1, 3, true, x1)] [] (sM s m2)))
  refine l24 _ _ ?_
  exact (Exists.intro m2 (And.intro rfl h))
def we_158 : sFf := sEf 4 [(0, 5, 69), (1, 3, 0)] (fun xs s Q => ap1 (fun x1 => wq_158 x1 s.1 s.2.2.2 Q) xs)
theorem we_158_ok : kS dC 7 158 9 (.inl we_158) := sEf_ok (mi := im_m158) rfl rfl rfl (fun R xs s r1 hb => by obtain ⟨x1, rfl, hb⟩ := ap1_ok hb; exact wk_158_0 _ R s x1 (fun x m' hx => ⟨m', rfl, hx⟩) r1 hb)
/-- LM$Writer.at(I)I -/
def wq_157 (x1 : Int) (m : hy_m) (Q : Int → hy_m → Prop) : Prop := (x1 < 0 → (Q (-9) m)) ∧ (0 ≤ x1 → (((m 69 2) ≤ x1 → (Q (-9) m)) ∧ (x1 < (m 69 2) → (0 ≤ x1 ∧ x1 < 120 ∧ (Q (m 70 x1) m)))))
def cs_157 : List (Nat × Nat × sFS) := []
theorem cs_157_ok : kCs dC 0 cs_157 := kCs_n
def lb_157_0 (s : sS) (Q : sQ) (R : Int → hy_m → Prop) (x1 : Int) : Nat → Option (sL → sS → Prop) := sLb []
set_option maxRecDepth 30000 in
set_option maxHeartbeats 1000000 in
theorem wk_157_0 (Q : sQ) (R : Int → hy_m → Prop) (s : sS) (x1 : Int) (hQ : ∀ x m', R x m' → Q x (sM s m')) (hr : sRg [(0, 5, 69), (1, 0, 0)] [x1]) (h : wq_157 x1 s.2.2.2 R) : kX dC 0 im_m157 0 0 (sCan [(0, 5, 69), (1, 0, 0)] [x1]) [] s Q := by
  unfold wq_157 at h
  refine wz2_ok (cs := cs_157) (wr := []) (lb := lb_157_0 s Q R x1) cs_157_ok kLb_n (okL_can rfl hr) (fun Y hY hl => ?_)
  refine hY _ _ _ _ (?_ : Y 1 [(0, 5, true, 69), (1, 0, true, x1)] [(0, true, x1)] s)
  refine hY _ _ _ _ ?_
  refine And.intro (fun hc => ?_) (fun hc => ?_)
  · have h := h.1 hc
    refine hY _ _ _ _ (?_ : Y 23 [(0, 5, true, 69), (1, 0, true, x1)] [(0, true, (-9))] s)
    refine hY _ _ _ _ ?_
    exact hQ (-9) s.2.2.2 h
  · have h := h.2 hc
    refine hY _ _ _ _ (hY _ _ _ _ (hY _ _ _ _ (?_ : Y 9 [(0, 5, true, 69), (1, 0, true, x1)] [(0, true, s.2.2.2 69 2), (0, true, x1)] s)))
    refine hY _ _ _ _ ?_
    refine And.intro (fun hc => ?_) (fun hc => ?_)
    · have h := h.1 hc
      refine hY _ _ _ _ (?_ : Y 23 [(0, 5, true, 69), (1, 0, true, x1)] [(0, true, (-9))] s)
      refine hY _ _ _ _ ?_
      exact hQ (-9) s.2.2.2 h
    · have h := h.2 hc
      refine hY _ _ _ _ (hY _ _ _ _ (hY _ _ _ _ (?_ : Y 17 [(0, 5, true, 69), (1, 0, true, x1)] [(0, true, x1), (5, true, 70)] s)))
      refine hY _ _ _ _ ?_
      refine (And.intro h.1 (And.intro h.2.1 ?_))
      refine hY _ _ _ _ (?_ : Y 23 [(0, 5, true, 69), (1, 0, true, x1)] [(4, true, s.2.2.2 70 x1)] s)
      refine hY _ _ _ _ ?_
      exact hQ (s.2.2.2 70 x1) s.2.2.2 h.2.2
def we_157 : sFf := sEf 2 [(0, 5, 69), (1, 0, 0)] (fun xs s Q => ap1 (fun x1 => wq_157 x1 s.2.2.2 Q) xs)
theorem we_157_ok : kS dC 1 157 0 (.inl we_157) := sEf_ok (mi := im_m157) rfl rfl rfl (fun R xs s r1 hb => by obtain ⟨x1, rfl, hb⟩ := ap1_ok hb; exact wk_157_0 _ R s x1 (fun x m' hx => ⟨m', rfl, hx⟩) r1 hb)
/-- LM.listing(II)I -/
def wq_10 (x1 : Int) (x2 : Int) (T : hy_T) (m : hy_m) (Q : Int → hy_m → Prop) : Prop := wq_52 21 x1 T m (fun r1 m1 => (r1 = 0 → (Q (-1) m1)) ∧ (r1 ≠ 0 → ((0 ≤ x2 → (wq_156 m1 (fun _ m2 => wq_53 21 x1 T m2 (fun r3 m3 => wq_158 r3 T m3 (fun _ m4 => wq_157 x2 m4 (fun r5 m5 => Q r5 m5)))))) ∧ (x2 < 0 → (Q (-1) m1)))))
theorem wc_156_r69 (s : sS) (R : Int → hy_m → Prop) (h : wq_156 s.2.2.2 R) : we_156 [(5, true, 69)] s R := h
theorem wc_158_r69_3t (x1 : Int) (s : sS) (R : Int → hy_m → Prop) (h : wq_158 x1 s.1 s.2.2.2 R) : we_158 [(5, true, 69), (3, true, x1)] s R := h
theorem wc_157_r69_0t (x1 : Int) (s : sS) (R : Int → hy_m → Prop) (h : wq_157 x1 s.2.2.2 R) : we_157 [(5, true, 69), (0, true, x1)] s R := h
def cs_10 : List (Nat × Nat × sFS) := [(52, 2, .inl we_52), (53, 3, .inl we_53), (156, 9, .inl we_156), (157, 0, .inl we_157), (158, 9, .inl we_158)]
theorem cs_10_ok : kCs dC 7 cs_10 := (kCs_c (Or.inr (Or.inr (Or.inl rfl))) (we_52_ok.deep (by decide)) (kCs_c (Or.inr (Or.inr (Or.inr (Or.inl rfl)))) (we_53_ok.deep (by decide)) (kCs_c (Or.inr (Or.inr (Or.inr (Or.inr rfl)))) (we_156_ok.deep (by decide)) (kCs_c (Or.inl rfl) (we_157_ok.deep (by decide)) (kCs_c (Or.inr (Or.inr (Or.inr (Or.inr rfl)))) (we_158_ok.deep (by decide)) kCs_n)))))
def lb_10_0 (s : sS) (Q : sQ) (R : Int → hy_m → Prop) (x1 : Int) (x2 : Int) : Nat → Option (sL → sS → Prop) := sLb []
set_option maxRecDepth 30000 in
set_option maxHeartbeats 1000000 in
theorem wk_10_0 (Q : sQ) (R : Int → hy_m → Prop) (s : sS) (x1 : Int) (x2 : Int) (hQ : ∀ x m', R x m' → Q x (sM s m')) (hr : sRg [(0, 5, 1), (1, 0, 0), (2, 0, 0)] [x1, x2]) (h : wq_10 x1 x2 s.1 s.2.2.2 R) : kX dC 7 im_m10 0 0 (sCan [(0, 5, 1), (1, 0, 0), (2, 0, 0)] [x1, x2]) [] s Q := by
  unfold wq_10 at h
  refine wz2_ok (cs := cs_10) (wr := []) (lb := lb_10_0 s Q R x1 x2) cs_10_ok kLb_n (okL_can rfl hr) (fun Y hY hl => ?_)
  refine hY _ _ _ _ (hY _ _ _ _ (hY _ _ _ _ (?_ : Y 5 [(0, 5, true, 1), (1, 0, true, x1), (2, 0, true, x2)] [(0, true, x1), (5, true, 21)] s)))
  refine hY _ _ _ _ ?_
  refine Exists.intro _ (And.intro (wc_52_r21_0t x1 _ _ h) (fun r1 m1 h => ?_))
  show Y 8 [(0, 5, true, 1), (1, 0, true, x1), (2, 0, true, x2)] [(2, true, r1)] (sM s m1)
  refine hY _ _ _ _ ?_
  refine And.intro (fun hc => ?_) (fun hc => ?_)
  · have h := h.1 hc
    refine hY _ _ _ _ (?_ : Y 16 [(0, 5, true, 1), (1, 0, true, x1), (2, 0, true, x2)] [(0, true, (-1))] (sM s m1))
    refine hY _ _ _ _ ?_
    exact hQ (-1) m1 h
  · have h := h.2 hc
    refine hY _ _ _ _ (?_ : Y 12 [(0, 5, true, 1), (1, 0, true, x1), (2, 0, true, x2)] [(0, true, x2)] (sM s m1))
    refine hY _ _ _ _ ?_
    refine And.intro (fun hc => ?_) (fun hc => ?_)
    · have h := h.1 hc
      refine hY _ _ _ _ (hY _ _ _ _ (?_ : Y 21 [(0, 5, true, 1), (1, 0, true, x1), (2, 0, true, x2)] [(5, true, 69)] (sM s m1)))
      refine hY _ _ _ _ ?_
      refine Exists.intro _ (And.intro (wc_156_r69 _ _ h) (fun r2 m2 h => ?_))
      refine hY _ _ _ _ (hY _ _ _ _ (hY _ _ _ _ (?_ : Y 29 [(0, 5, true, 1), (1, 0, true, x1), (2, 0, true, x2)] [(5, true, 1), (5, true, 69)] (sM s m2))))
      refine hY _ _ _ _ (hY _ _ _ _ (?_ : Y 33 [(0, 5, true, 1), (1, 0, true, x1), (2, 0, true, x2)] [(0, true, x1), (5, true, 21), (5, true, 69)] (sM s m2)))
      refine hY _ _ _ _ ?_
      refine Exists.intro _ (And.intro (wc_53_r21_0t x1 _ _ h) (fun r3 m3 h => ?_))
      show Y 36 [(0, 5, true, 1), (1, 0, true, x1), (2, 0, true, x2)] [(3, true, r3), (5, true, 69)] (sM s m3)
      refine hY _ _ _ _ ?_
      refine Exists.intro _ (And.intro (wc_158_r69_3t r3 _ _ h) (fun r4 m4 h => ?_))
      refine hY _ _ _ _ (hY _ _ _ _ (hY _ _ _ _ (?_ : Y 44 [(0, 5, true, 1), (1, 0, true, x1), (2, 0, true, x2)] [(0, true, x2), (5, true, 69)] (sM s m4))))
      refine hY _ _ _ _ ?_
      refine Exists.intro _ (And.intro (wc_157_r69_0t x2 _ _ h) (fun r5 m5 h => ?_))
      show Y 47 [(0, 5, true, 1), (1, 0, true, x1), (2, 0, true, x2)] [(0, true, r5)] (sM s m5)
      refine hY _ _ _ _ ?_
      exact hQ r5 m5 h
    · have h := h.2 hc
      refine hY _ _ _ _ (?_ : Y 16 [(0, 5, true, 1), (1, 0, true, x1), (2, 0, true, x2)] [(0, true, (-1))] (sM s m1))
      refine hY _ _ _ _ ?_
      exact hQ (-1) m1 h
def we_10 : sFf := sEf 3 [(0, 5, 1), (1, 0, 0), (2, 0, 0)] (fun xs s Q => ap2 (fun x1 x2 => wq_10 x1 x2 s.1 s.2.2.2 Q) xs)
theorem we_10_ok : kS dC 8 10 0 (.inl we_10) := sEf_ok (mi := im_m10) rfl rfl rfl (fun R xs s r1 hb => by obtain ⟨x1, x2, rfl, hb⟩ := ap2_ok hb; exact wk_10_0 _ R s x1 x2 (fun x m' hx => ⟨m', rfl, hx⟩) r1 hb)
