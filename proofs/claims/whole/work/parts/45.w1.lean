def dM (a : Nat) : Bool := Nat.ble 74 a
def dC (a : Nat) : Bool := Nat.blt a 74
/-- LMModel.letter()I -/
def wq_172 (m : hy_m) (Q : Int → hy_m → Prop) : Prop := ((m 74 1) ≤ (m 74 14) → (Q 0 m)) ∧ ((m 74 14) < (m 74 1) → (0 ≤ (m 74 14) ∧ (m 74 14) < 120 ∧ (Q (m 75 (m 74 14)) m)))
def cs_172 : List (Nat × Nat × sFS) := []
theorem cs_172_ok : kCs dM 0 cs_172 := kCs_n
def lb_172_0 (s : sS) (Q : sQ) (R : Int → hy_m → Prop) : Nat → Option (sL → sS → Prop) := sLb []
set_option maxRecDepth 30000 in
set_option maxHeartbeats 1000000 in
theorem wk_172_0 (Q : sQ) (R : Int → hy_m → Prop) (s : sS) (hQ : ∀ x m', R x m' → Q x (sM s m')) (hr : sRg [(0, 5, 74)] []) (h : wq_172 s.2.2.2 R) : kX dM 0 im_m172 0 0 (sCan [(0, 5, 74)] []) [] s Q := by
  unfold wq_172 at h
  refine wz2_ok (cs := cs_172) (wr := []) (lb := lb_172_0 s Q R) cs_172_ok kLb_n (okL_can rfl hr) (fun Y hY hl => ?_)
  refine hY _ _ _ _ (hY _ _ _ _ (hY _ _ _ _ (?_ : Y 5 [(0, 5, true, 74)] [(5, true, 74), (0, true, s.2.2.2 74 14)] s)))
  refine hY _ _ _ _ (?_ : Y 8 [(0, 5, true, 74)] [(0, true, s.2.2.2 74 1), (0, true, s.2.2.2 74 14)] s)
  refine hY _ _ _ _ ?_
  refine And.intro (fun hc => ?_) (fun hc => ?_)
  · have h := h.1 hc
    refine hY _ _ _ _ (?_ : Y 24 [(0, 5, true, 74)] [(2, true, 0)] s)
    refine hY _ _ _ _ ?_
    exact hQ 0 s.2.2.2 h
  · have h := h.2 hc
    refine hY _ _ _ _ (hY _ _ _ _ (hY _ _ _ _ (?_ : Y 16 [(0, 5, true, 74)] [(5, true, 74), (5, true, 75)] s)))
    refine hY _ _ _ _ (?_ : Y 19 [(0, 5, true, 74)] [(0, true, s.2.2.2 74 14), (5, true, 75)] s)
    refine hY _ _ _ _ ?_
    refine (And.intro h.1 (And.intro h.2.1 ?_))
    refine hY _ _ _ _ (?_ : Y 24 [(0, 5, true, 74)] [(0, true, s.2.2.2 75 (s.2.2.2 74 14))] s)
    refine hY _ _ _ _ ?_
    exact hQ (s.2.2.2 75 (s.2.2.2 74 14)) s.2.2.2 h.2.2
def we_172 : sFf := sEf 1 [(0, 5, 74)] (fun xs s Q => ap0 (wq_172 s.2.2.2 Q) xs)
theorem we_172_ok : kS dM 1 172 0 (.inl we_172) := sEf_ok (mi := im_m172) rfl rfl rfl (fun R xs s r1 hb => by obtain ⟨rfl, hb⟩ := ap0_ok hb; exact wk_172_0 _ R s (fun x m' hx => ⟨m', rfl, hx⟩) r1 hb)
/-- LMModel.isSmall(I)Z -/
def wq_173 (x0 : Int) (m : hy_m) (Q : Int → hy_m → Prop) : Prop := (x0 < 97 → (Q 0 m)) ∧ (97 ≤ x0 → ((122 < x0 → (Q 0 m)) ∧ (x0 ≤ 122 → (Q 1 m))))
def cs_173 : List (Nat × Nat × sFS) := []
theorem cs_173_ok : kCs dM 0 cs_173 := kCs_n
def lb_173_0 (s : sS) (Q : sQ) (R : Int → hy_m → Prop) (x0 : Int) : Nat → Option (sL → sS → Prop) := sLb []
set_option maxRecDepth 30000 in
set_option maxHeartbeats 1000000 in
theorem wk_173_0 (Q : sQ) (R : Int → hy_m → Prop) (s : sS) (x0 : Int) (hQ : ∀ x m', R x m' → Q x (sM s m')) (hr : sRg [(0, 0, 0)] [x0]) (h : wq_173 x0 s.2.2.2 R) : kX dM 0 im_m173 2 0 (sCan [(0, 0, 0)] [x0]) [] s Q := by
  unfold wq_173 at h
  refine wz2_ok (cs := cs_173) (wr := []) (lb := lb_173_0 s Q R x0) cs_173_ok kLb_n (okL_can rfl hr) (fun Y hY hl => ?_)
  refine hY _ _ _ _ (hY _ _ _ _ (?_ : Y 3 [(0, 0, true, x0)] [(0, true, 97), (0, true, x0)] s))
  refine hY _ _ _ _ ?_
  refine And.intro (fun hc => ?_) (fun hc => ?_)
  · have h := h.1 hc
    refine hY _ _ _ _ (?_ : Y 17 [(0, 0, true, x0)] [(2, true, 0)] s)
    refine hY _ _ _ _ ?_
    exact hQ 0 s.2.2.2 h
  · have h := h.2 hc
    refine hY _ _ _ _ (hY _ _ _ _ (?_ : Y 9 [(0, 0, true, x0)] [(0, true, 122), (0, true, x0)] s))
    refine hY _ _ _ _ ?_
    refine And.intro (fun hc => ?_) (fun hc => ?_)
    · have h := h.1 hc
      refine hY _ _ _ _ (?_ : Y 17 [(0, 0, true, x0)] [(2, true, 0)] s)
      refine hY _ _ _ _ ?_
      exact hQ 0 s.2.2.2 h
    · have h := h.2 hc
      refine hY _ _ _ _ (hY _ _ _ _ (?_ : Y 17 [(0, 0, true, x0)] [(2, true, 1)] s))
      refine hY _ _ _ _ ?_
      exact hQ 1 s.2.2.2 h
def we_173 : sFf := sEf 1 [(0, 0, 0)] (fun xs s Q => ap1 (fun x0 => wq_173 x0 s.2.2.2 Q) xs)
theorem we_173_ok : kS dM 1 173 2 (.inl we_173) := sEf_ok (mi := im_m173) rfl rfl rfl (fun R xs s r1 hb => by obtain ⟨x0, rfl, hb⟩ := ap1_ok hb; exact wk_173_0 _ R s x0 (fun x m' hx => ⟨m', rfl, hx⟩) r1 hb)
/-- LMModel.puts(I)V -/
def wq_286 (x1 : Int) (m : hy_m) (Q : Int → hy_m → Prop) : Prop := (120 ≤ (m 74 70) → (Q 0 m)) ∧ ((m 74 70) < 120 → (0 ≤ (m 74 70) ∧ (m 74 70) < 120 ∧ (hy_r 0 ((m 74 70) + 1) ∧ (Q 0 (hy_u (hy_u m 117 (m 74 70) x1) 74 70 ((m 74 70) + 1))))))
def cs_286 : List (Nat × Nat × sFS) := []
theorem cs_286_ok : kCs dM 0 cs_286 := kCs_n
def lb_286_0 (s : sS) (Q : sQ) (R : Int → hy_m → Prop) (x1 : Int) : Nat → Option (sL → sS → Prop) := sLb []
set_option maxRecDepth 30000 in
set_option maxHeartbeats 1000000 in
theorem wk_286_0 (Q : sQ) (R : Int → hy_m → Prop) (s : sS) (x1 : Int) (hQ : ∀ x m', R x m' → Q x (sM s m')) (hr : sRg [(0, 5, 74), (1, 0, 0)] [x1]) (h : wq_286 x1 s.2.2.2 R) : kX dM 0 im_m286 9 0 (sCan [(0, 5, 74), (1, 0, 0)] [x1]) [] s Q := by
  unfold wq_286 at h
  refine wz2_ok (cs := cs_286) (wr := []) (lb := lb_286_0 s Q R x1) cs_286_ok kLb_n (okL_can rfl hr) (fun Y hY hl => ?_)
  refine hY _ _ _ _ (hY _ _ _ _ (hY _ _ _ _ (?_ : Y 6 [(0, 5, true, 74), (1, 0, true, x1)] [(0, true, 120), (0, true, s.2.2.2 74 70)] s)))
  refine hY _ _ _ _ ?_
  refine And.intro (fun hc => ?_) (fun hc => ?_)
  · have h := h.1 hc
    show Y 29 [(0, 5, true, 74), (1, 0, true, x1)] [] s
    refine hY _ _ _ _ ?_
    exact hQ 0 s.2.2.2 h
  · have h := h.2 hc
    refine hY _ _ _ _ (hY _ _ _ _ (hY _ _ _ _ (?_ : Y 14 [(0, 5, true, 74), (1, 0, true, x1)] [(5, true, 74), (5, true, 117)] s)))
    refine hY _ _ _ _ (hY _ _ _ _ (?_ : Y 18 [(0, 5, true, 74), (1, 0, true, x1)] [(0, true, x1), (0, true, s.2.2.2 74 70), (5, true, 117)] s))
    refine hY _ _ _ _ ?_
    refine (And.intro h.1 (And.intro h.2.1 ?_))
    refine hY _ _ _ _ (hY _ _ _ _ (hY _ _ _ _ (?_ : Y 24 [(0, 5, true, 74), (1, 0, true, x1)] [(0, true, s.2.2.2 74 70), (5, true, 74)] (sM s (hy_u s.2.2.2 117 (s.2.2.2 74 70) x1)))))
    refine hY _ _ _ _ (hY _ _ _ _ (?_ : Y 26 [(0, 5, true, 74), (1, 0, true, x1)] [(0, false, (s.2.2.2 74 70) + 1), (5, true, 74)] (sM s (hy_u s.2.2.2 117 (s.2.2.2 74 70) x1))))
    refine hY _ _ _ _ ?_
    refine And.intro h.2.2.1 ?_
    show Y 29 [(0, 5, true, 74), (1, 0, true, x1)] [] (sM s (hy_u (hy_u s.2.2.2 117 (s.2.2.2 74 70) x1) 74 70 ((s.2.2.2 74 70) + 1)))
    refine hY _ _ _ _ ?_
    exact hQ 0 (hy_u (hy_u s.2.2.2 117 (s.2.2.2 74 70) x1) 74 70 ((s.2.2.2 74 70) + 1)) h.2.2.2
def we_286 : sFf := sEf 2 [(0, 5, 74), (1, 0, 0)] (fun xs s Q => ap1 (fun x1 => wq_286 x1 s.2.2.2 Q) xs)
theorem we_286_ok : kS dM 1 286 9 (.inl we_286) := sEf_ok (mi := im_m286) rfl rfl rfl (fun R xs s r1 hb => by obtain ⟨x1, rfl, hb⟩ := ap1_ok hb; exact wk_286_0 _ R s x1 (fun x m' hx => ⟨m', rfl, hx⟩) r1 hb)
