/-- LM$Unifier.join(III)Z -/
def wq_149_118 (x5 : Int) (T : hy_T) (m : hy_m) (Q : Int → hy_m → Prop) : Prop := ∃ t1 n1 : Nat, T.1 (m 47 4).toNat = some (t1, n1) ∧ 99 ≤ t1 ∧ (((n1 : Int) ≤ (m 47 5) → (Q 1 m)) ∧ ((m 47 5) < (n1 : Int) → (∃ n2 : Nat, T.1 (m 47 4).toNat = some (100, n2) ∧ (0 ≤ (m 47 5) ∧ (m 47 5) < (n2 : Int) ∧ (hy_r 0 (((hy_u m ((m 47 4).toNat) (m 47 5) x5) 47 5) + 1) ∧ (Q 1 (hy_u (hy_u m ((m 47 4).toNat) (m 47 5) x5) 47 5 (((hy_u m ((m 47 4).toNat) (m 47 5) x5) 47 5) + 1))))))))
def wq_149_83 (x3 : Int) (x4 : Int) (x5 : Int) (x6 : Int) (x7 : Int) (T : hy_T) (m : hy_m) (Q : Int → hy_m → Prop) : Prop := (x6 ≠ 1 → ((x6 ≠ x7 → (Q 0 m)) ∧ (x6 = x7 → (wq_130 x5 T m (fun r1 m1 => wq_130 x4 T m1 (fun r2 m2 => (r1 = r2 → ((x6 ≠ 4 → (Q 1 m2)) ∧ (x6 = 4 → (∃ t3 n3 : Nat, T.1 (m2 47 2).toNat = some (t3, n3) ∧ 99 ≤ t3 ∧ (((n3 : Int) ≤ (m2 47 3) → (Q 1 m2)) ∧ ((m2 47 3) < (n3 : Int) → (∃ t4 n4 : Nat, T.1 (m2 47 1).toNat = some (t4, n4) ∧ 99 ≤ t4 ∧ (((n4 : Int) ≤ x5 → (Q 1 m2)) ∧ (x5 < (n4 : Int) → (∃ n5 : Nat, T.1 (m2 47 1).toNat = some (100, n5) ∧ (0 ≤ x5 ∧ x5 < (n5 : Int) ∧ (∃ n6 : Nat, T.1 ((hy_u m2 ((m2 47 1).toNat) x5 x4) 47 2).toNat = some (100, n6) ∧ (0 ≤ ((hy_u m2 ((m2 47 1).toNat) x5 x4) 47 3) ∧ ((hy_u m2 ((m2 47 1).toNat) x5 x4) 47 3) < (n6 : Int) ∧ (hy_r 0 (((hy_u (hy_u m2 ((m2 47 1).toNat) x5 x4) (((hy_u m2 ((m2 47 1).toNat) x5 x4) 47 2).toNat) ((hy_u m2 ((m2 47 1).toNat) x5 x4) 47 3) x5) 47 3) + 1) ∧ (Q 1 (hy_u (hy_u (hy_u m2 ((m2 47 1).toNat) x5 x4) (((hy_u m2 ((m2 47 1).toNat) x5 x4) 47 2).toNat) ((hy_u m2 ((m2 47 1).toNat) x5 x4) 47 3) x5) 47 3 (((hy_u (hy_u m2 ((m2 47 1).toNat) x5 x4) (((hy_u m2 ((m2 47 1).toNat) x5 x4) 47 2).toNat) ((hy_u m2 ((m2 47 1).toNat) x5 x4) 47 3) x5) 47 3) + 1))))))))))))))))) ∧ (r1 ≠ r2 → (Q 0 m2)))))))) ∧ (x6 = 1 → (wq_122 x5 x4 T m (fun _ m7 => (x7 ≠ 4 → (Q 1 m7)) ∧ (x7 = 4 → ((x5 < x3 → (wq_149_118 x5 T m7 Q)) ∧ (x3 ≤ x5 → ((x4 < x3 → (Q 1 m7)) ∧ (x3 ≤ x4 → (wq_149_118 x5 T m7 Q)))))))))
def wq_149 (x1 : Int) (x2 : Int) (x3 : Int) (T : hy_T) (m : hy_m) (Q : Int → hy_m → Prop) : Prop := wq_150 x1 T m (fun r1 m1 => wq_150 x2 T m1 (fun r2 m2 => (r2 ≠ r1 → (wq_129 r2 T m2 (fun r3 m3 => wq_129 r1 T m3 (fun r4 m4 => (r4 ≠ 1 → (wq_149_83 x3 r1 r2 r3 r4 T m4 Q)) ∧ (r4 = 1 → ((r3 ≠ 1 → (wq_149_83 x3 r2 r1 1 r3 T m4 Q)) ∧ (r3 = 1 → ((r1 ≤ r2 → (wq_149_83 x3 r1 r2 r3 r4 T m4 Q)) ∧ (r2 < r1 → (wq_149_83 x3 r2 r1 1 r3 T m4 Q)))))))))) ∧ (r2 = r1 → (Q 1 m2))))
theorem wc_122_r41_0t_0t (x1 : Int) (x2 : Int) (s : sS) (R : Int → hy_m → Prop) (h : wq_122 x1 x2 s.1 s.2.2.2 R) : we_122 [(5, true, 41), (0, true, x1), (0, true, x2)] s R := h
theorem wc_150_r47_0t (x1 : Int) (s : sS) (R : Int → hy_m → Prop) (h : wq_150 x1 s.1 s.2.2.2 R) : we_150 [(5, true, 47), (0, true, x1)] s R := h
def cs_149 : List (Nat × Nat × sFS) := [(122, 9, .inl we_122), (129, 0, .inl we_129), (130, 1, .inl we_130), (150, 0, .inl we_150)]
theorem cs_149_ok : kCs dC 2 cs_149 := (kCs_c (Or.inr (Or.inr (Or.inr (Or.inr rfl)))) (we_122_ok.deep (by decide)) (kCs_c (Or.inl rfl) (we_129_ok.deep (by decide)) (kCs_c (Or.inr (Or.inl rfl)) (we_130_ok.deep (by decide)) (kCs_c (Or.inl rfl) (we_150_ok.deep (by decide)) kCs_n))))
def lb_149_118 (s : sS) (Q : sQ) (R : Int → hy_m → Prop) (x5 : Int) : Nat → Option (sL → sS → Prop) := sLb []
set_option maxRecDepth 30000 in
set_option maxHeartbeats 1000000 in
theorem wk_149_118 (Q : sQ) (R : Int → hy_m → Prop) (s : sS) (x5 : Int) (hQ : ∀ x m', R x m' → Q x (sM s m')) (hr : sRg [(0, 5, 47), (5, 0, 0)] [x5]) (h : wq_149_118 x5 s.1 s.2.2.2 R) : kX dC 2 im_m149 2 118 (sCan [(0, 5, 47), (5, 0, 0)] [x5]) [] s Q := by
  unfold wq_149_118 at h
  refine wz2_ok (cs := cs_149) (wr := []) (lb := lb_149_118 s Q R x5) cs_149_ok kLb_n (okL_can rfl hr) (fun Y hY hl => ?_)
  refine hY _ _ _ _ (hY _ _ _ _ (hY _ _ _ _ (?_ : Y 123 [(0, 5, true, 47), (5, 0, true, x5)] [(5, true, 47), (0, true, s.2.2.2 47 5)] s)))
  refine hY _ _ _ _ (?_ : Y 126 [(0, 5, true, 47), (5, 0, true, x5)] [(3, true, s.2.2.2 47 4), (0, true, s.2.2.2 47 5)] s)
  refine hY _ _ _ _ ?_
  obtain ⟨t1, n1, h⟩ := h
  refine Exists.intro t1 (Exists.intro n1 (And.intro h.1 (And.intro h.2.1 ?_)))
  show Y 127 [(0, 5, true, 47), (5, 0, true, x5)] [(0, true, (n1 : Int)), (0, true, s.2.2.2 47 5)] s
  refine hY _ _ _ _ ?_
  refine And.intro (fun hc => ?_) (fun hc => ?_)
  · have h := h.2.2.1 hc
    refine hY _ _ _ _ (?_ : Y 152 [(0, 5, true, 47), (5, 0, true, x5)] [(2, true, 1)] s)
    refine hY _ _ _ _ ?_
    exact hQ 1 s.2.2.2 h
  · have h := h.2.2.2 hc
    refine hY _ _ _ _ (hY _ _ _ _ (hY _ _ _ _ (?_ : Y 135 [(0, 5, true, 47), (5, 0, true, x5)] [(5, true, 47), (3, true, s.2.2.2 47 4)] s)))
    refine hY _ _ _ _ (hY _ _ _ _ (?_ : Y 140 [(0, 5, true, 47), (5, 0, true, x5)] [(0, true, x5), (0, true, s.2.2.2 47 5), (3, true, s.2.2.2 47 4)] s))
    refine hY _ _ _ _ ?_
    obtain ⟨n2, h⟩ := h
    refine Exists.intro n2 (And.intro h.1 ?_)
    refine (And.intro h.2.1 (And.intro h.2.2.1 ?_))
    refine hY _ _ _ _ (hY _ _ _ _ (hY _ _ _ _ (?_ : Y 146 [(0, 5, true, 47), (5, 0, true, x5)] [(0, true, (hy_u s.2.2.2 ((s.2.2.2 47 4).toNat) (s.2.2.2 47 5) x5) 47 5), (5, true, 47)] (sM s (hy_u s.2.2.2 ((s.2.2.2 47 4).toNat) (s.2.2.2 47 5) x5)))))
    refine hY _ _ _ _ (hY _ _ _ _ (?_ : Y 148 [(0, 5, true, 47), (5, 0, true, x5)] [(0, false, ((hy_u s.2.2.2 ((s.2.2.2 47 4).toNat) (s.2.2.2 47 5) x5) 47 5) + 1), (5, true, 47)] (sM s (hy_u s.2.2.2 ((s.2.2.2 47 4).toNat) (s.2.2.2 47 5) x5))))
    refine hY _ _ _ _ ?_
    refine And.intro h.2.2.2.1 ?_
    refine hY _ _ _ _ (?_ : Y 152 [(0, 5, true, 47), (5, 0, true, x5)] [(2, true, 1)] (sM s (hy_u (hy_u s.2.2.2 ((s.2.2.2 47 4).toNat) (s.2.2.2 47 5) x5) 47 5 (((hy_u s.2.2.2 ((s.2.2.2 47 4).toNat) (s.2.2.2 47 5) x5) 47 5) + 1))))
    refine hY _ _ _ _ ?_
    exact hQ 1 (hy_u (hy_u s.2.2.2 ((s.2.2.2 47 4).toNat) (s.2.2.2 47 5) x5) 47 5 (((hy_u s.2.2.2 ((s.2.2.2 47 4).toNat) (s.2.2.2 47 5) x5) 47 5) + 1)) h.2.2.2.2
def lb_149_83 (s : sS) (Q : sQ) (R : Int → hy_m → Prop) (x3 : Int) (x4 : Int) (x5 : Int) (x6 : Int) (x7 : Int) : Nat → Option (sL → sS → Prop) := sLb [(118, fun lv t => sG [(0, 5, 47), (5, 0, 0)] lv (ap1 (fun w5 => ∃ m', t = sM s m' ∧ wq_149_118 w5 s.1 m' R)))]
set_option maxRecDepth 30000 in
set_option maxHeartbeats 1000000 in
theorem wk_149_83 (Q : sQ) (R : Int → hy_m → Prop) (s : sS) (x3 : Int) (x4 : Int) (x5 : Int) (x6 : Int) (x7 : Int) (hQ : ∀ x m', R x m' → Q x (sM s m')) (hr : sRg [(0, 5, 47), (3, 0, 0), (4, 0, 0), (5, 0, 0), (6, 0, 0), (7, 0, 0)] [x3, x4, x5, x6, x7]) (h : wq_149_83 x3 x4 x5 x6 x7 s.1 s.2.2.2 R) : kX dC 2 im_m149 2 83 (sCan [(0, 5, 47), (3, 0, 0), (4, 0, 0), (5, 0, 0), (6, 0, 0), (7, 0, 0)] [x3, x4, x5, x6, x7]) [] s Q := by
  unfold wq_149_83 at h
  refine wz2_ok (cs := cs_149) (wr := []) (lb := lb_149_83 s Q R x3 x4 x5 x6 x7) cs_149_ok (kLb_c (kLab (Bd := fun xs t => ap1 (fun w5 => ∃ m', t = sM s m' ∧ wq_149_118 w5 s.1 m' R) xs) rfl (fun xs t r1 r2 hb => by obtain ⟨w5, rfl, hb⟩ := ap1_ok hb; obtain ⟨m', rfl, hx⟩ := hb; exact wk_149_118 Q R (sM s m') _ (fun x m'' hy => hQ x m'' hy) r1 hx)) kLb_n) (okL_can rfl hr) (fun Y hY hl => ?_)
  have l118 := hl 118 _ rfl
  refine hY _ _ _ _ (hY _ _ _ _ (?_ : Y 86 [(0, 5, true, 47), (3, 0, true, x3), (4, 0, true, x4), (5, 0, true, x5), (6, 0, true, x6), (7, 0, true, x7)] [(2, true, 1), (0, true, x6)] s))
  refine hY _ _ _ _ ?_
  refine And.intro (fun hc => ?_) (fun hc => ?_)
  · have h := h.1 hc
    refine hY _ _ _ _ (hY _ _ _ _ (?_ : Y 157 [(0, 5, true, 47), (3, 0, true, x3), (4, 0, true, x4), (5, 0, true, x5), (6, 0, true, x6), (7, 0, true, x7)] [(0, true, x7), (0, true, x6)] s))
    refine hY _ _ _ _ ?_
    refine And.intro (fun hc => ?_) (fun hc => ?_)
    · have h := h.1 hc
      refine hY _ _ _ _ (?_ : Y 183 [(0, 5, true, 47), (3, 0, true, x3), (4, 0, true, x4), (5, 0, true, x5), (6, 0, true, x6), (7, 0, true, x7)] [(2, true, 0)] s)
      refine hY _ _ _ _ ?_
      exact hQ 0 s.2.2.2 h
    · have h := h.2 hc
      refine hY _ _ _ _ (hY _ _ _ _ (hY _ _ _ _ (?_ : Y 166 [(0, 5, true, 47), (3, 0, true, x3), (4, 0, true, x4), (5, 0, true, x5), (6, 0, true, x6), (7, 0, true, x7)] [(0, true, x5), (5, true, 41)] s)))
      refine hY _ _ _ _ ?_
      refine Exists.intro _ (And.intro (wc_130_r41_0t x5 _ _ h) (fun r1 m1 h => ?_))
      refine hY _ _ _ _ (hY _ _ _ _ (hY _ _ _ _ (?_ : Y 175 [(0, 5, true, 47), (3, 0, true, x3), (4, 0, true, x4), (5, 0, true, x5), (6, 0, true, x6), (7, 0, true, x7)] [(0, true, x4), (5, true, 41), (1, true, r1)] (sM s m1))))
      refine hY _ _ _ _ ?_
      refine Exists.intro _ (And.intro (wc_130_r41_0t x4 _ _ h) (fun r2 m2 h => ?_))
      show Y 178 [(0, 5, true, 47), (3, 0, true, x3), (4, 0, true, x4), (5, 0, true, x5), (6, 0, true, x6), (7, 0, true, x7)] [(1, true, r2), (1, true, r1)] (sM s m2)
      refine hY _ _ _ _ ?_
      refine And.intro (fun hc => ?_) (fun hc => ?_)
      · have h := h.1 hc
        refine hY _ _ _ _ (hY _ _ _ _ (?_ : Y 187 [(0, 5, true, 47), (3, 0, true, x3), (4, 0, true, x4), (5, 0, true, x5), (6, 0, true, x6), (7, 0, true, x7)] [(0, true, 4), (0, true, x6)] (sM s m2)))
        refine hY _ _ _ _ ?_
        refine And.intro (fun hc => ?_) (fun hc => ?_)
        · have h := h.1 hc
          refine hY _ _ _ _ (?_ : Y 243 [(0, 5, true, 47), (3, 0, true, x3), (4, 0, true, x4), (5, 0, true, x5), (6, 0, true, x6), (7, 0, true, x7)] [(2, true, 1)] (sM s m2))
          refine hY _ _ _ _ ?_
          exact hQ 1 m2 h
        · have h := h.2 hc
          refine hY _ _ _ _ (hY _ _ _ _ (hY _ _ _ _ (?_ : Y 195 [(0, 5, true, 47), (3, 0, true, x3), (4, 0, true, x4), (5, 0, true, x5), (6, 0, true, x6), (7, 0, true, x7)] [(5, true, 47), (0, true, m2 47 3)] (sM s m2))))
          refine hY _ _ _ _ (?_ : Y 198 [(0, 5, true, 47), (3, 0, true, x3), (4, 0, true, x4), (5, 0, true, x5), (6, 0, true, x6), (7, 0, true, x7)] [(3, true, m2 47 2), (0, true, m2 47 3)] (sM s m2))
          refine hY _ _ _ _ ?_
          obtain ⟨t3, n3, h⟩ := h
          refine Exists.intro t3 (Exists.intro n3 (And.intro h.1 (And.intro h.2.1 ?_)))
          show Y 199 [(0, 5, true, 47), (3, 0, true, x3), (4, 0, true, x4), (5, 0, true, x5), (6, 0, true, x6), (7, 0, true, x7)] [(0, true, (n3 : Int)), (0, true, m2 47 3)] (sM s m2)
          refine hY _ _ _ _ ?_
          refine And.intro (fun hc => ?_) (fun hc => ?_)
          · have h := h.2.2.1 hc
            refine hY _ _ _ _ (?_ : Y 243 [(0, 5, true, 47), (3, 0, true, x3), (4, 0, true, x4), (5, 0, true, x5), (6, 0, true, x6), (7, 0, true, x7)] [(2, true, 1)] (sM s m2))
            refine hY _ _ _ _ ?_
            exact hQ 1 m2 h
          · have h := h.2.2.2 hc
            refine hY _ _ _ _ (hY _ _ _ _ (hY _ _ _ _ (?_ : Y 208 [(0, 5, true, 47), (3, 0, true, x3), (4, 0, true, x4), (5, 0, true, x5), (6, 0, true, x6), (7, 0, true, x7)] [(3, true, m2 47 1), (0, true, x5)] (sM s m2))))
            refine hY _ _ _ _ ?_
            obtain ⟨t4, n4, h⟩ := h
            refine Exists.intro t4 (Exists.intro n4 (And.intro h.1 (And.intro h.2.1 ?_)))
            show Y 209 [(0, 5, true, 47), (3, 0, true, x3), (4, 0, true, x4), (5, 0, true, x5), (6, 0, true, x6), (7, 0, true, x7)] [(0, true, (n4 : Int)), (0, true, x5)] (sM s m2)
            refine hY _ _ _ _ ?_
            refine And.intro (fun hc => ?_) (fun hc => ?_)
            · have h := h.2.2.1 hc
              refine hY _ _ _ _ (?_ : Y 243 [(0, 5, true, 47), (3, 0, true, x3), (4, 0, true, x4), (5, 0, true, x5), (6, 0, true, x6), (7, 0, true, x7)] [(2, true, 1)] (sM s m2))
              refine hY _ _ _ _ ?_
              exact hQ 1 m2 h
            · have h := h.2.2.2 hc
              refine hY _ _ _ _ (hY _ _ _ _ (hY _ _ _ _ (?_ : Y 218 [(0, 5, true, 47), (3, 0, true, x3), (4, 0, true, x4), (5, 0, true, x5), (6, 0, true, x6), (7, 0, true, x7)] [(0, true, x5), (3, true, m2 47 1)] (sM s m2))))
              refine hY _ _ _ _ (?_ : Y 220 [(0, 5, true, 47), (3, 0, true, x3), (4, 0, true, x4), (5, 0, true, x5), (6, 0, true, x6), (7, 0, true, x7)] [(0, true, x4), (0, true, x5), (3, true, m2 47 1)] (sM s m2))
              refine hY _ _ _ _ ?_
              obtain ⟨n5, h⟩ := h
              refine Exists.intro n5 (And.intro h.1 ?_)
              refine (And.intro h.2.1 (And.intro h.2.2.1 ?_))
              refine hY _ _ _ _ (hY _ _ _ _ (hY _ _ _ _ (?_ : Y 226 [(0, 5, true, 47), (3, 0, true, x3), (4, 0, true, x4), (5, 0, true, x5), (6, 0, true, x6), (7, 0, true, x7)] [(5, true, 47), (3, true, (hy_u m2 ((m2 47 1).toNat) x5 x4) 47 2)] (sM s (hy_u m2 ((m2 47 1).toNat) x5 x4)))))
              refine hY _ _ _ _ (hY _ _ _ _ (?_ : Y 231 [(0, 5, true, 47), (3, 0, true, x3), (4, 0, true, x4), (5, 0, true, x5), (6, 0, true, x6), (7, 0, true, x7)] [(0, true, x5), (0, true, (hy_u m2 ((m2 47 1).toNat) x5 x4) 47 3), (3, true, (hy_u m2 ((m2 47 1).toNat) x5 x4) 47 2)] (sM s (hy_u m2 ((m2 47 1).toNat) x5 x4))))
              refine hY _ _ _ _ ?_
              obtain ⟨n6, h⟩ := h.2.2.2
              refine Exists.intro n6 (And.intro h.1 ?_)
              refine (And.intro h.2.1 (And.intro h.2.2.1 ?_))
              refine hY _ _ _ _ (hY _ _ _ _ (hY _ _ _ _ (?_ : Y 237 [(0, 5, true, 47), (3, 0, true, x3), (4, 0, true, x4), (5, 0, true, x5), (6, 0, true, x6), (7, 0, true, x7)] [(0, true, (hy_u (hy_u m2 ((m2 47 1).toNat) x5 x4) (((hy_u m2 ((m2 47 1).toNat) x5 x4) 47 2).toNat) ((hy_u m2 ((m2 47 1).toNat) x5 x4) 47 3) x5) 47 3), (5, true, 47)] (sM s (hy_u (hy_u m2 ((m2 47 1).toNat) x5 x4) (((hy_u m2 ((m2 47 1).toNat) x5 x4) 47 2).toNat) ((hy_u m2 ((m2 47 1).toNat) x5 x4) 47 3) x5)))))
              refine hY _ _ _ _ (hY _ _ _ _ (?_ : Y 239 [(0, 5, true, 47), (3, 0, true, x3), (4, 0, true, x4), (5, 0, true, x5), (6, 0, true, x6), (7, 0, true, x7)] [(0, false, ((hy_u (hy_u m2 ((m2 47 1).toNat) x5 x4) (((hy_u m2 ((m2 47 1).toNat) x5 x4) 47 2).toNat) ((hy_u m2 ((m2 47 1).toNat) x5 x4) 47 3) x5) 47 3) + 1), (5, true, 47)] (sM s (hy_u (hy_u m2 ((m2 47 1).toNat) x5 x4) (((hy_u m2 ((m2 47 1).toNat) x5 x4) 47 2).toNat) ((hy_u m2 ((m2 47 1).toNat) x5 x4) 47 3) x5))))
              refine hY _ _ _ _ ?_
              refine And.intro h.2.2.2.1 ?_
              refine hY _ _ _ _ (?_ : Y 243 [(0, 5, true, 47), (3, 0, true, x3), (4, 0, true, x4), (5, 0, true, x5), (6, 0, true, x6), (7, 0, true, x7)] [(2, true, 1)] (sM s (hy_u (hy_u (hy_u m2 ((m2 47 1).toNat) x5 x4) (((hy_u m2 ((m2 47 1).toNat) x5 x4) 47 2).toNat) ((hy_u m2 ((m2 47 1).toNat) x5 x4) 47 3) x5) 47 3 (((hy_u (hy_u m2 ((m2 47 1).toNat) x5 x4) (((hy_u m2 ((m2 47 1).toNat) x5 x4) 47 2).toNat) ((hy_u m2 ((m2 47 1).toNat) x5 x4) 47 3) x5) 47 3) + 1))))
              refine hY _ _ _ _ ?_
              exact hQ 1 (hy_u (hy_u (hy_u m2 ((m2 47 1).toNat) x5 x4) (((hy_u m2 ((m2 47 1).toNat) x5 x4) 47 2).toNat) ((hy_u m2 ((m2 47 1).toNat) x5 x4) 47 3) x5) 47 3 (((hy_u (hy_u m2 ((m2 47 1).toNat) x5 x4) (((hy_u m2 ((m2 47 1).toNat) x5 x4) 47 2).toNat) ((hy_u m2 ((m2 47 1).toNat) x5 x4) 47 3) x5) 47 3) + 1)) h.2.2.2.2
      · have h := h.2 hc
        refine hY _ _ _ _ (?_ : Y 183 [(0, 5, true, 47), (3, 0, true, x3), (4, 0, true, x4), (5, 0, true, x5), (6, 0, true, x6), (7, 0, true, x7)] [(2, true, 0)] (sM s m2))
        refine hY _ _ _ _ ?_
        exact hQ 0 m2 h
  · have h := h.2 hc
    refine hY _ _ _ _ (hY _ _ _ _ (hY _ _ _ _ (?_ : Y 95 [(0, 5, true, 47), (3, 0, true, x3), (4, 0, true, x4), (5, 0, true, x5), (6, 0, true, x6), (7, 0, true, x7)] [(0, true, x5), (5, true, 41)] s)))
    refine hY _ _ _ _ (?_ : Y 97 [(0, 5, true, 47), (3, 0, true, x3), (4, 0, true, x4), (5, 0, true, x5), (6, 0, true, x6), (7, 0, true, x7)] [(0, true, x4), (0, true, x5), (5, true, 41)] s)
    refine hY _ _ _ _ ?_
    refine Exists.intro _ (And.intro (wc_122_r41_0t_0t x5 x4 _ _ h) (fun r7 m7 h => ?_))
    refine hY _ _ _ _ (hY _ _ _ _ (?_ : Y 103 [(0, 5, true, 47), (3, 0, true, x3), (4, 0, true, x4), (5, 0, true, x5), (6, 0, true, x6), (7, 0, true, x7)] [(0, true, 4), (0, true, x7)] (sM s m7)))
    refine hY _ _ _ _ ?_
    refine And.intro (fun hc => ?_) (fun hc => ?_)
    · have h := h.1 hc
      refine hY _ _ _ _ (?_ : Y 152 [(0, 5, true, 47), (3, 0, true, x3), (4, 0, true, x4), (5, 0, true, x5), (6, 0, true, x6), (7, 0, true, x7)] [(2, true, 1)] (sM s m7))
      refine hY _ _ _ _ ?_
      exact hQ 1 m7 h
    · have h := h.2 hc
      refine hY _ _ _ _ (hY _ _ _ _ (?_ : Y 109 [(0, 5, true, 47), (3, 0, true, x3), (4, 0, true, x4), (5, 0, true, x5), (6, 0, true, x6), (7, 0, true, x7)] [(0, true, x3), (0, true, x5)] (sM s m7)))
      refine hY _ _ _ _ ?_
      refine And.intro (fun hc => ?_) (fun hc => ?_)
      · have h := h.1 hc
        show Y 118 [(0, 5, true, 47), (3, 0, true, x3), (4, 0, true, x4), (5, 0, true, x5), (6, 0, true, x6), (7, 0, true, x7)] [] (sM s m7)
        refine l118 _ _ ?_
        exact (Exists.intro m7 (And.intro rfl h))
      · have h := h.2 hc
        refine hY _ _ _ _ (hY _ _ _ _ (?_ : Y 115 [(0, 5, true, 47), (3, 0, true, x3), (4, 0, true, x4), (5, 0, true, x5), (6, 0, true, x6), (7, 0, true, x7)] [(0, true, x3), (0, true, x4)] (sM s m7)))
        refine hY _ _ _ _ ?_
        refine And.intro (fun hc => ?_) (fun hc => ?_)
        · have h := h.1 hc
          refine hY _ _ _ _ (?_ : Y 152 [(0, 5, true, 47), (3, 0, true, x3), (4, 0, true, x4), (5, 0, true, x5), (6, 0, true, x6), (7, 0, true, x7)] [(2, true, 1)] (sM s m7))
          refine hY _ _ _ _ ?_
          exact hQ 1 m7 h
        · have h := h.2 hc
          show Y 118 [(0, 5, true, 47), (3, 0, true, x3), (4, 0, true, x4), (5, 0, true, x5), (6, 0, true, x6), (7, 0, true, x7)] [] (sM s m7)
          refine l118 _ _ ?_
          exact (Exists.intro m7 (And.intro rfl h))
def lb_149_0 (s : sS) (Q : sQ) (R : Int → hy_m → Prop) (x1 : Int) (x2 : Int) (x3 : Int) : Nat → Option (sL → sS → Prop) := sLb [(83, fun lv t => sG [(0, 5, 47), (3, 0, 0), (4, 0, 0), (5, 0, 0), (6, 0, 0), (7, 0, 0)] lv (ap5 (fun w3 w4 w5 w6 w7 => ∃ m', t = sM s m' ∧ wq_149_83 w3 w4 w5 w6 w7 s.1 m' R)))]
set_option maxRecDepth 30000 in
set_option maxHeartbeats 1000000 in
theorem wk_149_0 (Q : sQ) (R : Int → hy_m → Prop) (s : sS) (x1 : Int) (x2 : Int) (x3 : Int) (hQ : ∀ x m', R x m' → Q x (sM s m')) (hr : sRg [(0, 5, 47), (1, 0, 0), (2, 0, 0), (3, 0, 0)] [x1, x2, x3]) (h : wq_149 x1 x2 x3 s.1 s.2.2.2 R) : kX dC 2 im_m149 2 0 (sCan [(0, 5, 47), (1, 0, 0), (2, 0, 0), (3, 0, 0)] [x1, x2, x3]) [] s Q := by
  unfold wq_149 at h
  refine wz2_ok (cs := cs_149) (wr := []) (lb := lb_149_0 s Q R x1 x2 x3) cs_149_ok (kLb_c (kLab (Bd := fun xs t => ap5 (fun w3 w4 w5 w6 w7 => ∃ m', t = sM s m' ∧ wq_149_83 w3 w4 w5 w6 w7 s.1 m' R) xs) rfl (fun xs t r1 r2 hb => by obtain ⟨w3, w4, w5, w6, w7, rfl, hb⟩ := ap5_ok hb; obtain ⟨m', rfl, hx⟩ := hb; exact wk_149_83 Q R (sM s m') _ _ _ _ _ (fun x m'' hy => hQ x m'' hy) r1 hx)) kLb_n) (okL_can rfl hr) (fun Y hY hl => ?_)
  have l83 := hl 83 _ rfl
  refine hY _ _ _ _ (hY _ _ _ _ (?_ : Y 2 [(0, 5, true, 47), (1, 0, true, x1), (2, 0, true, x2), (3, 0, true, x3)] [(0, true, x1), (5, true, 47)] s))
  refine hY _ _ _ _ ?_
  refine Exists.intro _ (And.intro (wc_150_r47_0t x1 _ _ h) (fun r1 m1 h => ?_))
  refine hY _ _ _ _ (hY _ _ _ _ (hY _ _ _ _ (?_ : Y 9 [(4, 0, true, r1), (0, 5, true, 47), (1, 0, true, x1), (2, 0, true, x2), (3, 0, true, x3)] [(0, true, x2), (5, true, 47)] (sM s m1))))
  refine hY _ _ _ _ ?_
  refine Exists.intro _ (And.intro (wc_150_r47_0t x2 _ _ h) (fun r2 m2 h => ?_))
  refine hY _ _ _ _ (hY _ _ _ _ (hY _ _ _ _ (?_ : Y 18 [(5, 0, true, r2), (4, 0, true, r1), (0, 5, true, 47), (1, 0, true, x1), (2, 0, true, x2), (3, 0, true, x3)] [(0, true, r1), (0, true, r2)] (sM s m2))))
  refine hY _ _ _ _ ?_
  refine And.intro (fun hc => ?_) (fun hc => ?_)
  · have h := h.1 hc
    refine hY _ _ _ _ (hY _ _ _ _ (hY _ _ _ _ (?_ : Y 29 [(5, 0, true, r2), (4, 0, true, r1), (0, 5, true, 47), (1, 0, true, x1), (2, 0, true, x2), (3, 0, true, x3)] [(0, true, r2), (5, true, 41)] (sM s m2))))
    refine hY _ _ _ _ ?_
    refine Exists.intro _ (And.intro (wc_129_r41_0t r2 _ _ h) (fun r3 m3 h => ?_))
    refine hY _ _ _ _ (hY _ _ _ _ (hY _ _ _ _ (?_ : Y 38 [(6, 0, true, r3), (5, 0, true, r2), (4, 0, true, r1), (0, 5, true, 47), (1, 0, true, x1), (2, 0, true, x2), (3, 0, true, x3)] [(5, true, 41)] (sM s m3))))
    refine hY _ _ _ _ (?_ : Y 40 [(6, 0, true, r3), (5, 0, true, r2), (4, 0, true, r1), (0, 5, true, 47), (1, 0, true, x1), (2, 0, true, x2), (3, 0, true, x3)] [(0, true, r1), (5, true, 41)] (sM s m3))
    refine hY _ _ _ _ ?_
    refine Exists.intro _ (And.intro (wc_129_r41_0t r1 _ _ h) (fun r4 m4 h => ?_))
    refine hY _ _ _ _ (hY _ _ _ _ (hY _ _ _ _ (?_ : Y 48 [(7, 0, true, r4), (6, 0, true, r3), (5, 0, true, r2), (4, 0, true, r1), (0, 5, true, 47), (1, 0, true, x1), (2, 0, true, x2), (3, 0, true, x3)] [(2, true, 1), (0, true, r4)] (sM s m4))))
    refine hY _ _ _ _ ?_
    refine And.intro (fun hc => ?_) (fun hc => ?_)
    · have h := h.1 hc
      show Y 83 [(7, 0, true, r4), (6, 0, true, r3), (5, 0, true, r2), (4, 0, true, r1), (0, 5, true, 47), (1, 0, true, x1), (2, 0, true, x2), (3, 0, true, x3)] [] (sM s m4)
      refine l83 _ _ ?_
      exact (Exists.intro m4 (And.intro rfl h))
    · have h := h.2 hc
      refine hY _ _ _ _ (hY _ _ _ _ (?_ : Y 54 [(7, 0, true, r4), (6, 0, true, r3), (5, 0, true, r2), (4, 0, true, r1), (0, 5, true, 47), (1, 0, true, x1), (2, 0, true, x2), (3, 0, true, x3)] [(2, true, 1), (0, true, r3)] (sM s m4)))
      refine hY _ _ _ _ ?_
      refine And.intro (fun hc => ?_) (fun hc => ?_)
      · have h := h.1 hc
        refine hY _ _ _ _ (hY _ _ _ _ (hY _ _ _ _ (?_ : Y 70 [(8, 0, true, r1), (7, 0, true, r4), (6, 0, true, r3), (5, 0, true, r2), (4, 0, true, r1), (0, 5, true, 47), (1, 0, true, x1), (2, 0, true, x2), (3, 0, true, x3)] [(0, true, r2)] (sM s m4))))
        refine hY _ _ _ _ (hY _ _ _ _ (hY _ _ _ _ (?_ : Y 76 [(5, 0, true, r1), (4, 0, true, r2), (8, 0, true, r1), (7, 0, true, r4), (6, 0, true, r3), (0, 5, true, 47), (1, 0, true, x1), (2, 0, true, x2), (3, 0, true, x3)] [] (sM s m4))))
        refine hY _ _ _ _ (hY _ _ _ _ (hY _ _ _ _ (?_ : Y 81 [(7, 0, true, r3), (5, 0, true, r1), (4, 0, true, r2), (8, 0, true, r1), (6, 0, true, r3), (0, 5, true, 47), (1, 0, true, x1), (2, 0, true, x2), (3, 0, true, x3)] [(2, true, 1)] (sM s m4))))
        refine hY _ _ _ _ (?_ : Y 83 [(6, 2, true, 1), (7, 0, true, r3), (5, 0, true, r1), (4, 0, true, r2), (8, 0, true, r1), (0, 5, true, 47), (1, 0, true, x1), (2, 0, true, x2), (3, 0, true, x3)] [] (sM s m4))
        refine l83 _ _ ?_
        exact (Exists.intro m4 (And.intro rfl h))
      · have h := h.2 hc
        refine hY _ _ _ _ (hY _ _ _ _ (?_ : Y 61 [(7, 0, true, r4), (6, 0, true, r3), (5, 0, true, r2), (4, 0, true, r1), (0, 5, true, 47), (1, 0, true, x1), (2, 0, true, x2), (3, 0, true, x3)] [(0, true, r2), (0, true, r1)] (sM s m4)))
        refine hY _ _ _ _ ?_
        refine And.intro (fun hc => ?_) (fun hc => ?_)
        · have h := h.1 hc
          show Y 83 [(7, 0, true, r4), (6, 0, true, r3), (5, 0, true, r2), (4, 0, true, r1), (0, 5, true, 47), (1, 0, true, x1), (2, 0, true, x2), (3, 0, true, x3)] [] (sM s m4)
          refine l83 _ _ ?_
          exact (Exists.intro m4 (And.intro rfl h))
        · have h := h.2 hc
          refine hY _ _ _ _ (hY _ _ _ _ (hY _ _ _ _ (?_ : Y 70 [(8, 0, true, r1), (7, 0, true, r4), (6, 0, true, r3), (5, 0, true, r2), (4, 0, true, r1), (0, 5, true, 47), (1, 0, true, x1), (2, 0, true, x2), (3, 0, true, x3)] [(0, true, r2)] (sM s m4))))
          refine hY _ _ _ _ (hY _ _ _ _ (hY _ _ _ _ (?_ : Y 76 [(5, 0, true, r1), (4, 0, true, r2), (8, 0, true, r1), (7, 0, true, r4), (6, 0, true, r3), (0, 5, true, 47), (1, 0, true, x1), (2, 0, true, x2), (3, 0, true, x3)] [] (sM s m4))))
          refine hY _ _ _ _ (hY _ _ _ _ (hY _ _ _ _ (?_ : Y 81 [(7, 0, true, r3), (5, 0, true, r1), (4, 0, true, r2), (8, 0, true, r1), (6, 0, true, r3), (0, 5, true, 47), (1, 0, true, x1), (2, 0, true, x2), (3, 0, true, x3)] [(2, true, 1)] (sM s m4))))
          refine hY _ _ _ _ (?_ : Y 83 [(6, 2, true, 1), (7, 0, true, r3), (5, 0, true, r1), (4, 0, true, r2), (8, 0, true, r1), (0, 5, true, 47), (1, 0, true, x1), (2, 0, true, x2), (3, 0, true, x3)] [] (sM s m4))
          refine l83 _ _ ?_
          exact (Exists.intro m4 (And.intro rfl h))
  · have h := h.2 hc
    refine hY _ _ _ _ (?_ : Y 22 [(5, 0, true, r2), (4, 0, true, r1), (0, 5, true, 47), (1, 0, true, x1), (2, 0, true, x2), (3, 0, true, x3)] [(2, true, 1)] (sM s m2))
    refine hY _ _ _ _ ?_
    exact hQ 1 m2 h
def we_149 : sFf := sEf 9 [(0, 5, 47), (1, 0, 0), (2, 0, 0), (3, 0, 0)] (fun xs s Q => ap3 (fun x1 x2 x3 => wq_149 x1 x2 x3 s.1 s.2.2.2 Q) xs)
theorem we_149_ok : kS dC 3 149 2 (.inl we_149) := sEf_ok (mi := im_m149) rfl rfl rfl (fun R xs s r1 hb => by obtain ⟨x1, x2, x3, rfl, hb⟩ := ap3_ok hb; exact wk_149_0 _ R s x1 x2 x3 (fun x m' hx => ⟨m', rfl, hx⟩) r1 hb)
/-- LM$Unifier.push(I)V -/
def wq_154 (x1 : Int) (T : hy_T) (m : hy_m) (Q : Int → hy_m → Prop) : Prop := ∃ t1 n1 : Nat, T.1 (m 47 6).toNat = some (t1, n1) ∧ 99 ≤ t1 ∧ (((n1 : Int) ≤ (m 47 7) → (Q 0 m)) ∧ ((m 47 7) < (n1 : Int) → (∃ n2 : Nat, T.1 (m 47 6).toNat = some (100, n2) ∧ (0 ≤ (m 47 7) ∧ (m 47 7) < (n2 : Int) ∧ (hy_r 0 (((hy_u m ((m 47 6).toNat) (m 47 7) x1) 47 7) + 1) ∧ (Q 0 (hy_u (hy_u m ((m 47 6).toNat) (m 47 7) x1) 47 7 (((hy_u m ((m 47 6).toNat) (m 47 7) x1) 47 7) + 1))))))))
def cs_154 : List (Nat × Nat × sFS) := []
theorem cs_154_ok : kCs dC 0 cs_154 := kCs_n
def lb_154_0 (s : sS) (Q : sQ) (R : Int → hy_m → Prop) (x1 : Int) : Nat → Option (sL → sS → Prop) := sLb []
set_option maxRecDepth 30000 in
set_option maxHeartbeats 1000000 in
theorem wk_154_0 (Q : sQ) (R : Int → hy_m → Prop) (s : sS) (x1 : Int) (hQ : ∀ x m', R x m' → Q x (sM s m')) (hr : sRg [(0, 5, 47), (1, 0, 0)] [x1]) (h : wq_154 x1 s.1 s.2.2.2 R) : kX dC 0 im_m154 9 0 (sCan [(0, 5, 47), (1, 0, 0)] [x1]) [] s Q := by
  unfold wq_154 at h
  refine wz2_ok (cs := cs_154) (wr := []) (lb := lb_154_0 s Q R x1) cs_154_ok kLb_n (okL_can rfl hr) (fun Y hY hl => ?_)
  refine hY _ _ _ _ (hY _ _ _ _ (hY _ _ _ _ (?_ : Y 5 [(0, 5, true, 47), (1, 0, true, x1)] [(5, true, 47), (0, true, s.2.2.2 47 7)] s)))
  refine hY _ _ _ _ (?_ : Y 8 [(0, 5, true, 47), (1, 0, true, x1)] [(3, true, s.2.2.2 47 6), (0, true, s.2.2.2 47 7)] s)
  refine hY _ _ _ _ ?_
  obtain ⟨t1, n1, h⟩ := h
  refine Exists.intro t1 (Exists.intro n1 (And.intro h.1 (And.intro h.2.1 ?_)))
  show Y 9 [(0, 5, true, 47), (1, 0, true, x1)] [(0, true, (n1 : Int)), (0, true, s.2.2.2 47 7)] s
  refine hY _ _ _ _ ?_
  refine And.intro (fun hc => ?_) (fun hc => ?_)
  · have h := h.2.2.1 hc
    show Y 32 [(0, 5, true, 47), (1, 0, true, x1)] [] s
    refine hY _ _ _ _ ?_
    exact hQ 0 s.2.2.2 h
  · have h := h.2.2.2 hc
    refine hY _ _ _ _ (hY _ _ _ _ (hY _ _ _ _ (?_ : Y 17 [(0, 5, true, 47), (1, 0, true, x1)] [(5, true, 47), (3, true, s.2.2.2 47 6)] s)))
    refine hY _ _ _ _ (hY _ _ _ _ (?_ : Y 21 [(0, 5, true, 47), (1, 0, true, x1)] [(0, true, x1), (0, true, s.2.2.2 47 7), (3, true, s.2.2.2 47 6)] s))
    refine hY _ _ _ _ ?_
    obtain ⟨n2, h⟩ := h
    refine Exists.intro n2 (And.intro h.1 ?_)
    refine (And.intro h.2.1 (And.intro h.2.2.1 ?_))
    refine hY _ _ _ _ (hY _ _ _ _ (hY _ _ _ _ (?_ : Y 27 [(0, 5, true, 47), (1, 0, true, x1)] [(0, true, (hy_u s.2.2.2 ((s.2.2.2 47 6).toNat) (s.2.2.2 47 7) x1) 47 7), (5, true, 47)] (sM s (hy_u s.2.2.2 ((s.2.2.2 47 6).toNat) (s.2.2.2 47 7) x1)))))
    refine hY _ _ _ _ (hY _ _ _ _ (?_ : Y 29 [(0, 5, true, 47), (1, 0, true, x1)] [(0, false, ((hy_u s.2.2.2 ((s.2.2.2 47 6).toNat) (s.2.2.2 47 7) x1) 47 7) + 1), (5, true, 47)] (sM s (hy_u s.2.2.2 ((s.2.2.2 47 6).toNat) (s.2.2.2 47 7) x1))))
    refine hY _ _ _ _ ?_
    refine And.intro h.2.2.2.1 ?_
    show Y 32 [(0, 5, true, 47), (1, 0, true, x1)] [] (sM s (hy_u (hy_u s.2.2.2 ((s.2.2.2 47 6).toNat) (s.2.2.2 47 7) x1) 47 7 (((hy_u s.2.2.2 ((s.2.2.2 47 6).toNat) (s.2.2.2 47 7) x1) 47 7) + 1)))
    refine hY _ _ _ _ ?_
    exact hQ 0 (hy_u (hy_u s.2.2.2 ((s.2.2.2 47 6).toNat) (s.2.2.2 47 7) x1) 47 7 (((hy_u s.2.2.2 ((s.2.2.2 47 6).toNat) (s.2.2.2 47 7) x1) 47 7) + 1)) h.2.2.2.2
def we_154 : sFf := sEf 2 [(0, 5, 47), (1, 0, 0)] (fun xs s Q => ap1 (fun x1 => wq_154 x1 s.1 s.2.2.2 Q) xs)
theorem we_154_ok : kS dC 1 154 9 (.inl we_154) := sEf_ok (mi := im_m154) rfl rfl rfl (fun R xs s r1 hb => by obtain ⟨x1, rfl, hb⟩ := ap1_ok hb; exact wk_154_0 _ R s x1 (fun x m' hx => ⟨m', rfl, hx⟩) r1 hb)
/-- LM$Unifier.leave(I)V -/
def wq_153 (x1 : Int) (T : hy_T) (m : hy_m) (Q : Int → hy_m → Prop) : Prop := (x1 < 0 → (Q 0 m)) ∧ (0 ≤ x1 → (∃ t1 n1 : Nat, T.1 (m 47 8).toNat = some (t1, n1) ∧ 99 ≤ t1 ∧ (((n1 : Int) ≤ x1 → (Q 0 m)) ∧ (x1 < (n1 : Int) → (∃ n2 : Nat, T.1 (m 47 8).toNat = some (100, n2) ∧ (0 ≤ x1 ∧ x1 < (n2 : Int) ∧ (Q 0 (hy_u m ((m 47 8).toNat) x1 (m 47 10)))))))))
def cs_153 : List (Nat × Nat × sFS) := []
theorem cs_153_ok : kCs dC 0 cs_153 := kCs_n
def lb_153_0 (s : sS) (Q : sQ) (R : Int → hy_m → Prop) (x1 : Int) : Nat → Option (sL → sS → Prop) := sLb []
set_option maxRecDepth 30000 in
set_option maxHeartbeats 1000000 in
theorem wk_153_0 (Q : sQ) (R : Int → hy_m → Prop) (s : sS) (x1 : Int) (hQ : ∀ x m', R x m' → Q x (sM s m')) (hr : sRg [(0, 5, 47), (1, 0, 0)] [x1]) (h : wq_153 x1 s.1 s.2.2.2 R) : kX dC 0 im_m153 9 0 (sCan [(0, 5, 47), (1, 0, 0)] [x1]) [] s Q := by
  unfold wq_153 at h
  refine wz2_ok (cs := cs_153) (wr := []) (lb := lb_153_0 s Q R x1) cs_153_ok kLb_n (okL_can rfl hr) (fun Y hY hl => ?_)
  refine hY _ _ _ _ (?_ : Y 1 [(0, 5, true, 47), (1, 0, true, x1)] [(0, true, x1)] s)
  refine hY _ _ _ _ ?_
  refine And.intro (fun hc => ?_) (fun hc => ?_)
  · have h := h.1 hc
    show Y 23 [(0, 5, true, 47), (1, 0, true, x1)] [] s
    refine hY _ _ _ _ ?_
    exact hQ 0 s.2.2.2 h
  · have h := h.2 hc
    refine hY _ _ _ _ (hY _ _ _ _ (hY _ _ _ _ (?_ : Y 9 [(0, 5, true, 47), (1, 0, true, x1)] [(3, true, s.2.2.2 47 8), (0, true, x1)] s)))
    refine hY _ _ _ _ ?_
    obtain ⟨t1, n1, h⟩ := h
    refine Exists.intro t1 (Exists.intro n1 (And.intro h.1 (And.intro h.2.1 ?_)))
    show Y 10 [(0, 5, true, 47), (1, 0, true, x1)] [(0, true, (n1 : Int)), (0, true, x1)] s
    refine hY _ _ _ _ ?_
    refine And.intro (fun hc => ?_) (fun hc => ?_)
    · have h := h.2.2.1 hc
      show Y 23 [(0, 5, true, 47), (1, 0, true, x1)] [] s
      refine hY _ _ _ _ ?_
      exact hQ 0 s.2.2.2 h
    · have h := h.2.2.2 hc
      refine hY _ _ _ _ (hY _ _ _ _ (hY _ _ _ _ (?_ : Y 18 [(0, 5, true, 47), (1, 0, true, x1)] [(0, true, x1), (3, true, s.2.2.2 47 8)] s)))
      refine hY _ _ _ _ (hY _ _ _ _ (?_ : Y 22 [(0, 5, true, 47), (1, 0, true, x1)] [(0, true, s.2.2.2 47 10), (0, true, x1), (3, true, s.2.2.2 47 8)] s))
      refine hY _ _ _ _ ?_
      obtain ⟨n2, h⟩ := h
      refine Exists.intro n2 (And.intro h.1 ?_)
      refine (And.intro h.2.1 (And.intro h.2.2.1 ?_))
      show Y 23 [(0, 5, true, 47), (1, 0, true, x1)] [] (sM s (hy_u s.2.2.2 ((s.2.2.2 47 8).toNat) x1 (s.2.2.2 47 10)))
      refine hY _ _ _ _ ?_
      exact hQ 0 (hy_u s.2.2.2 ((s.2.2.2 47 8).toNat) x1 (s.2.2.2 47 10)) h.2.2.2
def we_153 : sFf := sEf 2 [(0, 5, 47), (1, 0, 0)] (fun xs s Q => ap1 (fun x1 => wq_153 x1 s.1 s.2.2.2 Q) xs)
theorem we_153_ok : kS dC 1 153 9 (.inl we_153) := sEf_ok (mi := im_m153) rfl rfl rfl (fun R xs s r1 hb => by obtain ⟨x1, rfl, hb⟩ := ap1_ok hb; exact wk_153_0 _ R s x1 (fun x m' hx => ⟨m', rfl, hx⟩) r1 hb)
/-- LM$Store.bindingAt(I)I -/
def wq_126 (x1 : Int) (T : hy_T) (m : hy_m) (Q : Int → hy_m → Prop) : Prop := (x1 < 0 → (Q (-1) m)) ∧ (0 ≤ x1 → (∃ t1 n1 : Nat, T.1 (m 41 4).toNat = some (t1, n1) ∧ 99 ≤ t1 ∧ (((n1 : Int) ≤ x1 → (Q (-1) m)) ∧ (x1 < (n1 : Int) → (∃ n2 : Nat, T.1 (m 41 4).toNat = some (100, n2) ∧ (0 ≤ x1 ∧ x1 < (n2 : Int) ∧ (Q (m ((m 41 4).toNat) x1) m)))))))
def cs_126 : List (Nat × Nat × sFS) := []
theorem cs_126_ok : kCs dC 0 cs_126 := kCs_n
def lb_126_0 (s : sS) (Q : sQ) (R : Int → hy_m → Prop) (x1 : Int) : Nat → Option (sL → sS → Prop) := sLb []
set_option maxRecDepth 30000 in
set_option maxHeartbeats 1000000 in
theorem wk_126_0 (Q : sQ) (R : Int → hy_m → Prop) (s : sS) (x1 : Int) (hQ : ∀ x m', R x m' → Q x (sM s m')) (hr : sRg [(0, 5, 41), (1, 0, 0)] [x1]) (h : wq_126 x1 s.1 s.2.2.2 R) : kX dC 0 im_m126 0 0 (sCan [(0, 5, 41), (1, 0, 0)] [x1]) [] s Q := by
  unfold wq_126 at h
  refine wz2_ok (cs := cs_126) (wr := []) (lb := lb_126_0 s Q R x1) cs_126_ok kLb_n (okL_can rfl hr) (fun Y hY hl => ?_)
  refine hY _ _ _ _ (?_ : Y 1 [(0, 5, true, 41), (1, 0, true, x1)] [(0, true, x1)] s)
  refine hY _ _ _ _ ?_
  refine And.intro (fun hc => ?_) (fun hc => ?_)
  · have h := h.1 hc
    refine hY _ _ _ _ (?_ : Y 23 [(0, 5, true, 41), (1, 0, true, x1)] [(0, true, (-1))] s)
    refine hY _ _ _ _ ?_
    exact hQ (-1) s.2.2.2 h
  · have h := h.2 hc
    refine hY _ _ _ _ (hY _ _ _ _ (hY _ _ _ _ (?_ : Y 9 [(0, 5, true, 41), (1, 0, true, x1)] [(3, true, s.2.2.2 41 4), (0, true, x1)] s)))
    refine hY _ _ _ _ ?_
    obtain ⟨t1, n1, h⟩ := h
    refine Exists.intro t1 (Exists.intro n1 (And.intro h.1 (And.intro h.2.1 ?_)))
    show Y 10 [(0, 5, true, 41), (1, 0, true, x1)] [(0, true, (n1 : Int)), (0, true, x1)] s
    refine hY _ _ _ _ ?_
    refine And.intro (fun hc => ?_) (fun hc => ?_)
    · have h := h.2.2.1 hc
      refine hY _ _ _ _ (?_ : Y 23 [(0, 5, true, 41), (1, 0, true, x1)] [(0, true, (-1))] s)
      refine hY _ _ _ _ ?_
      exact hQ (-1) s.2.2.2 h
    · have h := h.2.2.2 hc
      refine hY _ _ _ _ (hY _ _ _ _ (hY _ _ _ _ (?_ : Y 18 [(0, 5, true, 41), (1, 0, true, x1)] [(0, true, x1), (3, true, s.2.2.2 41 4)] s)))
      refine hY _ _ _ _ ?_
      obtain ⟨n2, h⟩ := h
      refine Exists.intro n2 (And.intro h.1 ?_)
      refine (And.intro h.2.1 (And.intro h.2.2.1 ?_))
      refine hY _ _ _ _ (?_ : Y 23 [(0, 5, true, 41), (1, 0, true, x1)] [(0, true, s.2.2.2 ((s.2.2.2 41 4).toNat) x1)] s)
      refine hY _ _ _ _ ?_
      exact hQ (s.2.2.2 ((s.2.2.2 41 4).toNat) x1) s.2.2.2 h.2.2.2
def we_126 : sFf := sEf 2 [(0, 5, 41), (1, 0, 0)] (fun xs s Q => ap1 (fun x1 => wq_126 x1 s.1 s.2.2.2 Q) xs)
theorem we_126_ok : kS dC 1 126 0 (.inl we_126) := sEf_ok (mi := im_m126) rfl rfl rfl (fun R xs s r1 hb => by obtain ⟨x1, rfl, hb⟩ := ap1_ok hb; exact wk_126_0 _ R s x1 (fun x m' hx => ⟨m', rfl, hx⟩) r1 hb)
/-- LM$Unifier.enter(I)V -/
def wq_152 (x1 : Int) (T : hy_T) (m : hy_m) (Q : Int → hy_m → Prop) : Prop := wq_126 x1 T m (fun r1 m1 => (0 ≤ r1 → (∃ n2 : Nat, T.1 (m1 47 8).toNat = some (100, n2) ∧ (0 ≤ x1 ∧ x1 < (n2 : Int) ∧ (hy_r 0 ((-1) - x1) ∧ (wq_154 ((-1) - x1) T (hy_u m1 ((m1 47 8).toNat) x1 (m1 47 9)) (fun _ m3 => wq_154 r1 T m3 (fun _ m4 => Q 0 m4))))))) ∧ (r1 < 0 → (wq_153 x1 T m1 (fun _ m5 => Q 0 m5))))
theorem wc_126_r41_0t (x1 : Int) (s : sS) (R : Int → hy_m → Prop) (h : wq_126 x1 s.1 s.2.2.2 R) : we_126 [(5, true, 41), (0, true, x1)] s R := h
theorem wc_154_r47_0f (x1 : Int) (s : sS) (R : Int → hy_m → Prop) (h : hy_r 0 x1 ∧ wq_154 x1 s.1 s.2.2.2 R) : we_154 [(5, true, 47), (0, false, x1)] s R := h
theorem wc_154_r47_0t (x1 : Int) (s : sS) (R : Int → hy_m → Prop) (h : wq_154 x1 s.1 s.2.2.2 R) : we_154 [(5, true, 47), (0, true, x1)] s R := h
theorem wc_153_r47_0t (x1 : Int) (s : sS) (R : Int → hy_m → Prop) (h : wq_153 x1 s.1 s.2.2.2 R) : we_153 [(5, true, 47), (0, true, x1)] s R := h
def cs_152 : List (Nat × Nat × sFS) := [(126, 0, .inl we_126), (153, 9, .inl we_153), (154, 9, .inl we_154)]
theorem cs_152_ok : kCs dC 1 cs_152 := (kCs_c (Or.inl rfl) (we_126_ok.deep (by decide)) (kCs_c (Or.inr (Or.inr (Or.inr (Or.inr rfl)))) (we_153_ok.deep (by decide)) (kCs_c (Or.inr (Or.inr (Or.inr (Or.inr rfl)))) (we_154_ok.deep (by decide)) kCs_n)))
def lb_152_0 (s : sS) (Q : sQ) (R : Int → hy_m → Prop) (x1 : Int) : Nat → Option (sL → sS → Prop) := sLb []
set_option maxRecDepth 30000 in
set_option maxHeartbeats 1000000 in
theorem wk_152_0 (Q : sQ) (R : Int → hy_m → Prop) (s : sS) (x1 : Int) (hQ : ∀ x m', R x m' → Q x (sM s m')) (hr : sRg [(0, 5, 47), (1, 0, 0)] [x1]) (h : wq_152 x1 s.1 s.2.2.2 R) : kX dC 1 im_m152 9 0 (sCan [(0, 5, 47), (1, 0, 0)] [x1]) [] s Q := by
  unfold wq_152 at h
  refine wz2_ok (cs := cs_152) (wr := []) (lb := lb_152_0 s Q R x1) cs_152_ok kLb_n (okL_can rfl hr) (fun Y hY hl => ?_)
  refine hY _ _ _ _ (hY _ _ _ _ (hY _ _ _ _ (?_ : Y 5 [(0, 5, true, 47), (1, 0, true, x1)] [(0, true, x1), (5, true, 41)] s)))
  refine hY _ _ _ _ ?_
  refine Exists.intro _ (And.intro (wc_126_r41_0t x1 _ _ h) (fun r1 m1 h => ?_))
  refine hY _ _ _ _ (hY _ _ _ _ (?_ : Y 10 [(2, 0, true, r1), (0, 5, true, 47), (1, 0, true, x1)] [(0, true, r1)] (sM s m1)))
  refine hY _ _ _ _ ?_
  refine And.intro (fun hc => ?_) (fun hc => ?_)
  · have h := h.1 hc
    refine hY _ _ _ _ (hY _ _ _ _ (hY _ _ _ _ (?_ : Y 24 [(2, 0, true, r1), (0, 5, true, 47), (1, 0, true, x1)] [(0, true, x1), (3, true, m1 47 8)] (sM s m1))))
    refine hY _ _ _ _ (hY _ _ _ _ (?_ : Y 28 [(2, 0, true, r1), (0, 5, true, 47), (1, 0, true, x1)] [(0, true, m1 47 9), (0, true, x1), (3, true, m1 47 8)] (sM s m1)))
    refine hY _ _ _ _ ?_
    obtain ⟨n2, h⟩ := h
    refine Exists.intro n2 (And.intro h.1 ?_)
    refine (And.intro h.2.1 (And.intro h.2.2.1 ?_))
    refine hY _ _ _ _ (hY _ _ _ _ (hY _ _ _ _ (?_ : Y 32 [(2, 0, true, r1), (0, 5, true, 47), (1, 0, true, x1)] [(0, true, x1), (0, true, (-1)), (5, true, 47)] (sM s (hy_u m1 ((m1 47 8).toNat) x1 (m1 47 9))))))
    refine hY _ _ _ _ (?_ : Y 33 [(2, 0, true, r1), (0, 5, true, 47), (1, 0, true, x1)] [(0, false, (-1) - x1), (5, true, 47)] (sM s (hy_u m1 ((m1 47 8).toNat) x1 (m1 47 9))))
    refine hY _ _ _ _ ?_
    refine Exists.intro _ (And.intro (wc_154_r47_0f ((-1) - x1) _ _ h.2.2.2) (fun r3 m3 h => ?_))
    refine hY _ _ _ _ (hY _ _ _ _ (?_ : Y 38 [(2, 0, true, r1), (0, 5, true, 47), (1, 0, true, x1)] [(0, true, r1), (5, true, 47)] (sM s m3)))
    refine hY _ _ _ _ ?_
    refine Exists.intro _ (And.intro (wc_154_r47_0t r1 _ _ h) (fun r4 m4 h => ?_))
    show Y 41 [(2, 0, true, r1), (0, 5, true, 47), (1, 0, true, x1)] [] (sM s m4)
    refine hY _ _ _ _ ?_
    exact hQ 0 m4 h
  · have h := h.2 hc
    refine hY _ _ _ _ (hY _ _ _ _ (?_ : Y 15 [(2, 0, true, r1), (0, 5, true, 47), (1, 0, true, x1)] [(0, true, x1), (5, true, 47)] (sM s m1)))
    refine hY _ _ _ _ ?_
    refine Exists.intro _ (And.intro (wc_153_r47_0t x1 _ _ h) (fun r5 m5 h => ?_))
    show Y 18 [(2, 0, true, r1), (0, 5, true, 47), (1, 0, true, x1)] [] (sM s m5)
    refine hY _ _ _ _ ?_
    exact hQ 0 m5 h
def we_152 : sFf := sEf 3 [(0, 5, 47), (1, 0, 0)] (fun xs s Q => ap1 (fun x1 => wq_152 x1 s.1 s.2.2.2 Q) xs)
theorem we_152_ok : kS dC 2 152 9 (.inl we_152) := sEf_ok (mi := im_m152) rfl rfl rfl (fun R xs s r1 hb => by obtain ⟨x1, rfl, hb⟩ := ap1_ok hb; exact wk_152_0 _ R s x1 (fun x m' hx => ⟨m', rfl, hx⟩) r1 hb)
/-- LM$Unifier.hasLoop()Z -/
def wf_151_163 (P53 : Int → hy_m → Prop) (x1 : Int) (x2 : Int) (x4 : Int) (T : hy_T) (Q : Int → hy_m → Prop) (P163 : Int → hy_m → Prop) (x5 : Int) (m : hy_m) : Prop := (x4 ≤ x5 → (hy_r 0 (x1 + 1) ∧ (P53 (x1 + 1) m))) ∧ (x5 < x4 → (wq_132 x2 x5 T m (fun r1 m1 => wq_154 r1 T m1 (fun _ m2 => hy_r 0 (x5 + 1) ∧ (P163 (x5 + 1) m2)))))
def wq_151_163 (P53 : Int → hy_m → Prop) (x1 : Int) (x2 : Int) (x4 : Int) (x5 : Int) (T : hy_T) (m : hy_m) (Q : Int → hy_m → Prop) : Prop := wL1 hy_m (wf_151_163 P53 x1 x2 x4 T Q) x5 m
def wf_151_53 (T : hy_T) (Q : Int → hy_m → Prop) (P53 : Int → hy_m → Prop) (x1 : Int) (m : hy_m) : Prop := (1000000 ≤ x1 → (Q 0 m)) ∧ (x1 < 1000000 → (((m 47 7) ≤ 0 → (Q 0 m)) ∧ (0 < (m 47 7) → (∃ t1 n1 : Nat, T.1 (m 47 6).toNat = some (t1, n1) ∧ 99 ≤ t1 ∧ (hy_r 0 ((m 47 7) + 3) ∧ ((((m 47 7) + 3) ≤ (n1 : Int) → (hy_r 0 ((m 47 7) - 1) ∧ (∃ n2 : Nat, T.1 (m 47 6).toNat = some (100, n2) ∧ (0 ≤ ((m 47 7) - 1) ∧ ((m 47 7) - 1) < (n2 : Int) ∧ (wq_125 ((hy_u m 47 7 ((m 47 7) - 1)) ((m 47 6).toNat) ((m 47 7) - 1)) T (hy_u m 47 7 ((m 47 7) - 1)) (fun r3 m3 => (0 ≤ ((hy_u m 47 7 ((m 47 7) - 1)) ((m 47 6).toNat) ((m 47 7) - 1)) → ((r3 ≠ (-9) → (∃ n4 : Nat, T.1 (m3 47 8).toNat = some (100, n4) ∧ (0 ≤ r3 ∧ r3 < (n4 : Int) ∧ (((m3 ((m3 47 8).toNat) r3) ≠ (m3 47 9) → (∃ n5 : Nat, T.1 (m3 47 8).toNat = some (100, n5) ∧ (0 ≤ r3 ∧ r3 < (n5 : Int) ∧ (((m3 ((m3 47 8).toNat) r3) = (m3 47 10) → (hy_r 0 (x1 + 1) ∧ (P53 (x1 + 1) m3))) ∧ ((m3 ((m3 47 8).toNat) r3) ≠ (m3 47 10) → (wq_152 r3 T m3 (fun _ m6 => hy_r 0 (x1 + 1) ∧ (P53 (x1 + 1) m6)))))))) ∧ ((m3 ((m3 47 8).toNat) r3) = (m3 47 9) → (Q 1 m3)))))) ∧ (r3 = (-9) → (wq_129 ((hy_u m 47 7 ((m 47 7) - 1)) ((m 47 6).toNat) ((m 47 7) - 1)) T m3 (fun r7 m7 => (r7 ≠ 4 → (wq_151_163 P53 x1 ((hy_u m 47 7 ((m 47 7) - 1)) ((m 47 6).toNat) ((m 47 7) - 1)) 0 0 T m7 Q)) ∧ (r7 = 4 → (wq_130 ((hy_u m 47 7 ((m 47 7) - 1)) ((m 47 6).toNat) ((m 47 7) - 1)) T m7 (fun r8 m8 => wq_26 r8 m8 (fun r9 m9 => wq_151_163 P53 x1 ((hy_u m 47 7 ((m 47 7) - 1)) ((m 47 6).toNat) ((m 47 7) - 1)) r9 0 T m9 Q))))))))) ∧ (((hy_u m 47 7 ((m 47 7) - 1)) ((m 47 6).toNat) ((m 47 7) - 1)) < 0 → (hy_r 0 ((-1) - ((hy_u m 47 7 ((m 47 7) - 1)) ((m 47 6).toNat) ((m 47 7) - 1))) ∧ (wq_153 ((-1) - ((hy_u m 47 7 ((m 47 7) - 1)) ((m 47 6).toNat) ((m 47 7) - 1))) T m3 (fun _ m10 => hy_r 0 (x1 + 1) ∧ (P53 (x1 + 1) m10))))))))))) ∧ ((n1 : Int) < ((m 47 7) + 3) → (Q 1 m))))))))
def wq_151_53 (x1 : Int) (T : hy_T) (m : hy_m) (Q : Int → hy_m → Prop) : Prop := wL1 hy_m (wf_151_53 T Q) x1 m
def wf_151_27 (T : hy_T) (Q : Int → hy_m → Prop) (P27 : Int → hy_m → Prop) (x1 : Int) (m : hy_m) : Prop := ((m 47 5) ≤ x1 → (wq_151_53 0 T m Q)) ∧ (x1 < (m 47 5) → (∃ n1 : Nat, T.1 (m 47 4).toNat = some (100, n1) ∧ (0 ≤ x1 ∧ x1 < (n1 : Int) ∧ (wq_154 (m ((m 47 4).toNat) x1) T m (fun _ m2 => hy_r 0 (x1 + 1) ∧ (P27 (x1 + 1) m2))))))
def wq_151_27 (x1 : Int) (T : hy_T) (m : hy_m) (Q : Int → hy_m → Prop) : Prop := wL1 hy_m (wf_151_27 T Q) x1 m
def wq_151 (T : hy_T) (m : hy_m) (Q : Int → hy_m → Prop) : Prop := hy_r 0 ((m 47 10) + 1) ∧ (hy_r 0 (((m 47 10) + 1) + 1) ∧ (wq_151_27 0 T (hy_u (hy_u (hy_u m 47 9 ((m 47 10) + 1)) 47 10 (((m 47 10) + 1) + 1)) 47 7 0) Q))
theorem wc_152_r47_0t (x1 : Int) (s : sS) (R : Int → hy_m → Prop) (h : wq_152 x1 s.1 s.2.2.2 R) : we_152 [(5, true, 47), (0, true, x1)] s R := h
theorem wc_153_r47_0f (x1 : Int) (s : sS) (R : Int → hy_m → Prop) (h : hy_r 0 x1 ∧ wq_153 x1 s.1 s.2.2.2 R) : we_153 [(5, true, 47), (0, false, x1)] s R := h
def cs_151 : List (Nat × Nat × sFS) := [(26, 0, .inl we_26), (125, 0, .inl we_125), (129, 0, .inl we_129), (130, 1, .inl we_130), (132, 0, .inl we_132), (152, 9, .inl we_152), (153, 9, .inl we_153), (154, 9, .inl we_154)]
theorem cs_151_ok : kCs dC 2 cs_151 := (kCs_c (Or.inl rfl) (we_26_ok.deep (by decide)) (kCs_c (Or.inl rfl) (we_125_ok.deep (by decide)) (kCs_c (Or.inl rfl) (we_129_ok.deep (by decide)) (kCs_c (Or.inr (Or.inl rfl)) (we_130_ok.deep (by decide)) (kCs_c (Or.inl rfl) (we_132_ok.deep (by decide)) (kCs_c (Or.inr (Or.inr (Or.inr (Or.inr rfl)))) (we_152_ok.deep (by decide)) (kCs_c (Or.inr (Or.inr (Or.inr (Or.inr rfl)))) (we_153_ok.deep (by decide)) (kCs_c (Or.inr (Or.inr (Or.inr (Or.inr rfl)))) (we_154_ok.deep (by decide)) kCs_n))))))))
def lb_151_163 (s : sS) (Q : sQ) (P53 : Int → hy_m → Prop) (P163 : Int → hy_m → Prop) (R : Int → hy_m → Prop) (x1 : Int) (x2 : Int) (x4 : Int) (x5 : Int) : Nat → Option (sL → sS → Prop) := sLb [(53, fun lv t => sG [(0, 5, 47), (1, 0, 0)] lv (ap1 (fun w1 => ∃ m', t = sM s m' ∧ P53 w1 m'))), (163, fun lv t => sG [(0, 5, 47), (1, 0, 0), (2, 0, 0), (4, 0, 0), (5, 0, 0)] lv (ap4 (fun w1 w2 w4 w5 => ∃ m', t = sM s m' ∧ w1 = x1 ∧ w2 = x2 ∧ w4 = x4 ∧ P163 w5 m')))]
set_option maxRecDepth 30000 in
set_option maxHeartbeats 1000000 in
theorem wj_151_163 (Q : sQ) (R : Int → hy_m → Prop) (s : sS) (P53 : Int → hy_m → Prop) (P163 : Int → hy_m → Prop) (x1 : Int) (x2 : Int) (x4 : Int) (x5 : Int) (m : hy_m) (hP53 : ∀ (z1 : Int) (m : hy_m), P53 z1 m → sRg [(0, 5, 47), (1, 0, 0)] [z1] → kX dC 2 im_m151 2 53 (sCan [(0, 5, 47), (1, 0, 0)] [z1]) [] (sM s m) Q) (hP163 : ∀ (z5 : Int) (m : hy_m), P163 z5 m → sRg [(0, 5, 47), (1, 0, 0), (2, 0, 0), (4, 0, 0), (5, 0, 0)] [x1, x2, x4, z5] → kX dC 2 im_m151 2 163 (sCan [(0, 5, 47), (1, 0, 0), (2, 0, 0), (4, 0, 0), (5, 0, 0)] [x1, x2, x4, z5]) [] (sM s m) Q) (hQ : ∀ x m', R x m' → Q x (sM s m')) (hr : sRg [(0, 5, 47), (1, 0, 0), (2, 0, 0), (4, 0, 0), (5, 0, 0)] [x1, x2, x4, x5]) (h : wf_151_163 P53 x1 x2 x4 s.1 R P163 x5 m) : kX dC 2 im_m151 2 163 (sCan [(0, 5, 47), (1, 0, 0), (2, 0, 0), (4, 0, 0), (5, 0, 0)] [x1, x2, x4, x5]) [] (sM s m) Q := by
  unfold wf_151_163 at h
  refine wz2_ok (cs := cs_151) (wr := []) (lb := lb_151_163 s Q P53 P163 R x1 x2 x4 x5) cs_151_ok (kLb_c (kLab (Bd := fun xs t => ap1 (fun w1 => ∃ m', t = sM s m' ∧ P53 w1 m') xs) rfl (fun xs t r1 r2 hb => by obtain ⟨w1, rfl, hb⟩ := ap1_ok hb; obtain ⟨m', rfl, hx⟩ := hb; exact hP53 _ m' hx r1)) (kLb_c (kLab (Bd := fun xs t => ap4 (fun w1 w2 w4 w5 => ∃ m', t = sM s m' ∧ w1 = x1 ∧ w2 = x2 ∧ w4 = x4 ∧ P163 w5 m') xs) rfl (fun xs t r1 r2 hb => by obtain ⟨w1, w2, w4, w5, rfl, hb⟩ := ap4_ok hb; obtain ⟨m', rfl, rfl, rfl, rfl, hx⟩ := hb; exact hP163 _ m' hx r1)) kLb_n)) (okL_can rfl hr) (fun Y hY hl => ?_)
  have l53 := hl 53 _ rfl
  have l163 := hl 163 _ rfl
  refine hY _ _ _ _ (hY _ _ _ _ (?_ : Y 167 [(0, 5, true, 47), (1, 0, true, x1), (2, 0, true, x2), (4, 0, true, x4), (5, 0, true, x5)] [(0, true, x4), (0, true, x5)] (sM s m)))
  refine hY _ _ _ _ ?_
  refine And.intro (fun hc => ?_) (fun hc => ?_)
  · have h := h.1 hc
    refine hY _ _ _ _ (hY _ _ _ _ (hY _ _ _ _ (?_ : Y 53 [(1, 0, false, x1 + 1), (0, 5, true, 47), (2, 0, true, x2), (4, 0, true, x4), (5, 0, true, x5)] [] (sM s m))))
    refine l53 _ _ ?_
    refine And.intro h.1 ?_
    exact (Exists.intro m (And.intro rfl h.2))
  · have h := h.2 hc
    refine hY _ _ _ _ (hY _ _ _ _ (hY _ _ _ _ (?_ : Y 175 [(0, 5, true, 47), (1, 0, true, x1), (2, 0, true, x2), (4, 0, true, x4), (5, 0, true, x5)] [(5, true, 41), (5, true, 47)] (sM s m))))
    refine hY _ _ _ _ (hY _ _ _ _ (?_ : Y 178 [(0, 5, true, 47), (1, 0, true, x1), (2, 0, true, x2), (4, 0, true, x4), (5, 0, true, x5)] [(0, true, x5), (0, true, x2), (5, true, 41), (5, true, 47)] (sM s m)))
    refine hY _ _ _ _ ?_
    refine Exists.intro _ (And.intro (wc_132_r41_0t_0t x2 x5 _ _ h) (fun r1 m1 h => ?_))
    show Y 181 [(0, 5, true, 47), (1, 0, true, x1), (2, 0, true, x2), (4, 0, true, x4), (5, 0, true, x5)] [(0, true, r1), (5, true, 47)] (sM s m1)
    refine hY _ _ _ _ ?_
    refine Exists.intro _ (And.intro (wc_154_r47_0t r1 _ _ h) (fun r2 m2 h => ?_))
    refine hY _ _ _ _ (hY _ _ _ _ (?_ : Y 163 [(5, 0, false, x5 + 1), (0, 5, true, 47), (1, 0, true, x1), (2, 0, true, x2), (4, 0, true, x4)] [] (sM s m2)))
    refine l163 _ _ ?_
    refine And.intro h.1 ?_
    exact (Exists.intro m2 (And.intro rfl (And.intro rfl (And.intro rfl (And.intro rfl h.2)))))
theorem wk_151_163 (Q : sQ) (R : Int → hy_m → Prop) (s : sS) (P53 : Int → hy_m → Prop) (x1 : Int) (x2 : Int) (x4 : Int) (x5 : Int) (hP53 : ∀ (z1 : Int) (m : hy_m), P53 z1 m → sRg [(0, 5, 47), (1, 0, 0)] [z1] → kX dC 2 im_m151 2 53 (sCan [(0, 5, 47), (1, 0, 0)] [z1]) [] (sM s m) Q) (hQ : ∀ x m', R x m' → Q x (sM s m')) (hr : sRg [(0, 5, 47), (1, 0, 0), (2, 0, 0), (4, 0, 0), (5, 0, 0)] [x1, x2, x4, x5]) (h : wq_151_163 P53 x1 x2 x4 x5 s.1 s.2.2.2 R) : kX dC 2 im_m151 2 163 (sCan [(0, 5, 47), (1, 0, 0), (2, 0, 0), (4, 0, 0), (5, 0, 0)] [x1, x2, x4, x5]) [] s Q :=
  h (fun x5 m => sRg [(0, 5, 47), (1, 0, 0), (2, 0, 0), (4, 0, 0), (5, 0, 0)] [x1, x2, x4, x5] → kX dC 2 im_m151 2 163 (sCan [(0, 5, 47), (1, 0, 0), (2, 0, 0), (4, 0, 0), (5, 0, 0)] [x1, x2, x4, x5]) [] (sM s m) Q) (fun x5 m h hr => wj_151_163 Q R s P53 (fun x5 m => sRg [(0, 5, 47), (1, 0, 0), (2, 0, 0), (4, 0, 0), (5, 0, 0)] [x1, x2, x4, x5] → kX dC 2 im_m151 2 163 (sCan [(0, 5, 47), (1, 0, 0), (2, 0, 0), (4, 0, 0), (5, 0, 0)] [x1, x2, x4, x5]) [] (sM s m) Q) x1 x2 x4 x5 m  hP53 (fun _ _ hp hr => hp hr) hQ hr h) hr
def lb_151_53 (s : sS) (Q : sQ) (P53 : Int → hy_m → Prop) (R : Int → hy_m → Prop) (x1 : Int) : Nat → Option (sL → sS → Prop) := sLb [(163, fun lv t => sG [(0, 5, 47), (1, 0, 0), (2, 0, 0), (4, 0, 0), (5, 0, 0)] lv (ap4 (fun w1 w2 w4 w5 => ∃ m', t = sM s m' ∧ wq_151_163 P53 w1 w2 w4 w5 s.1 m' R))), (53, fun lv t => sG [(0, 5, 47), (1, 0, 0)] lv (ap1 (fun w1 => ∃ m', t = sM s m' ∧ P53 w1 m')))]
set_option maxRecDepth 30000 in
set_option maxHeartbeats 1000000 in
theorem wj_151_53 (Q : sQ) (R : Int → hy_m → Prop) (s : sS) (P53 : Int → hy_m → Prop) (x1 : Int) (m : hy_m) (hP53 : ∀ (z1 : Int) (m : hy_m), P53 z1 m → sRg [(0, 5, 47), (1, 0, 0)] [z1] → kX dC 2 im_m151 2 53 (sCan [(0, 5, 47), (1, 0, 0)] [z1]) [] (sM s m) Q) (hQ : ∀ x m', R x m' → Q x (sM s m')) (hr : sRg [(0, 5, 47), (1, 0, 0)] [x1]) (h : wf_151_53 s.1 R P53 x1 m) : kX dC 2 im_m151 2 53 (sCan [(0, 5, 47), (1, 0, 0)] [x1]) [] (sM s m) Q := by
  unfold wf_151_53 at h
  refine wz2_ok (cs := cs_151) (wr := []) (lb := lb_151_53 s Q P53 R x1) cs_151_ok (kLb_c (kLab (Bd := fun xs t => ap4 (fun w1 w2 w4 w5 => ∃ m', t = sM s m' ∧ wq_151_163 P53 w1 w2 w4 w5 s.1 m' R) xs) rfl (fun xs t r1 r2 hb => by obtain ⟨w1, w2, w4, w5, rfl, hb⟩ := ap4_ok hb; obtain ⟨m', rfl, hx⟩ := hb; exact wk_151_163 Q R (sM s m') P53 _ _ _ _ hP53 (fun x m'' hy => hQ x m'' hy) r1 hx)) (kLb_c (kLab (Bd := fun xs t => ap1 (fun w1 => ∃ m', t = sM s m' ∧ P53 w1 m') xs) rfl (fun xs t r1 r2 hb => by obtain ⟨w1, rfl, hb⟩ := ap1_ok hb; obtain ⟨m', rfl, hx⟩ := hb; exact hP53 _ m' hx r1)) kLb_n)) (okL_can rfl hr) (fun Y hY hl => ?_)
  have l163 := hl 163 _ rfl
  have l53 := hl 53 _ rfl
  refine hY _ _ _ _ (hY _ _ _ _ (?_ : Y 56 [(0, 5, true, 47), (1, 0, true, x1)] [(0, true, 1000000), (0, true, x1)] (sM s m)))
  refine hY _ _ _ _ ?_
  refine And.intro (fun hc => ?_) (fun hc => ?_)
  · have h := h.1 hc
    refine hY _ _ _ _ (?_ : Y 233 [(0, 5, true, 47), (1, 0, true, x1)] [(2, true, 0)] (sM s m))
    refine hY _ _ _ _ ?_
    exact hQ 0 m h
  · have h := h.2 hc
    refine hY _ _ _ _ (hY _ _ _ _ (?_ : Y 63 [(0, 5, true, 47), (1, 0, true, x1)] [(0, true, m 47 7)] (sM s m)))
    refine hY _ _ _ _ ?_
    refine And.intro (fun hc => ?_) (fun hc => ?_)
    · have h := h.1 hc
      refine hY _ _ _ _ (?_ : Y 233 [(0, 5, true, 47), (1, 0, true, x1)] [(2, true, 0)] (sM s m))
      refine hY _ _ _ _ ?_
      exact hQ 0 m h
    · have h := h.2 hc
      refine hY _ _ _ _ (hY _ _ _ _ (hY _ _ _ _ (?_ : Y 71 [(0, 5, true, 47), (1, 0, true, x1)] [(0, true, 3), (0, true, m 47 7)] (sM s m))))
      refine hY _ _ _ _ (hY _ _ _ _ (hY _ _ _ _ (?_ : Y 76 [(0, 5, true, 47), (1, 0, true, x1)] [(3, true, m 47 6), (0, false, (m 47 7) + 3)] (sM s m))))
      refine hY _ _ _ _ ?_
      obtain ⟨t1, n1, h⟩ := h
      refine Exists.intro t1 (Exists.intro n1 (And.intro h.1 (And.intro h.2.1 ?_)))
      show Y 77 [(0, 5, true, 47), (1, 0, true, x1)] [(0, true, (n1 : Int)), (0, false, (m 47 7) + 3)] (sM s m)
      refine hY _ _ _ _ ?_
      refine And.intro h.2.2.1 ?_
      refine And.intro (fun hc => ?_) (fun hc => ?_)
      · have h := h.2.2.2.1 hc
        refine hY _ _ _ _ (hY _ _ _ _ (hY _ _ _ _ (?_ : Y 87 [(0, 5, true, 47), (1, 0, true, x1)] [(0, true, m 47 7), (5, true, 47)] (sM s m))))
        refine hY _ _ _ _ (hY _ _ _ _ (?_ : Y 89 [(0, 5, true, 47), (1, 0, true, x1)] [(0, false, (m 47 7) - 1), (5, true, 47)] (sM s m)))
        refine hY _ _ _ _ ?_
        refine And.intro h.1 ?_
        refine hY _ _ _ _ (hY _ _ _ _ (hY _ _ _ _ (?_ : Y 97 [(0, 5, true, 47), (1, 0, true, x1)] [(5, true, 47), (3, true, m 47 6)] (sM s (hy_u m 47 7 ((m 47 7) - 1))))))
        refine hY _ _ _ _ (?_ : Y 100 [(0, 5, true, 47), (1, 0, true, x1)] [(0, true, (m 47 7) - 1), (3, true, m 47 6)] (sM s (hy_u m 47 7 ((m 47 7) - 1))))
        refine hY _ _ _ _ ?_
        obtain ⟨n2, h⟩ := h.2
        refine Exists.intro n2 (And.intro h.1 ?_)
        refine (And.intro h.2.1 (And.intro h.2.2.1 ?_))
        refine hY _ _ _ _ (hY _ _ _ _ (hY _ _ _ _ (?_ : Y 106 [(2, 0, true, (hy_u m 47 7 ((m 47 7) - 1)) ((m 47 6).toNat) ((m 47 7) - 1)), (0, 5, true, 47), (1, 0, true, x1)] [(5, true, 41)] (sM s (hy_u m 47 7 ((m 47 7) - 1))))))
        refine hY _ _ _ _ (?_ : Y 107 [(2, 0, true, (hy_u m 47 7 ((m 47 7) - 1)) ((m 47 6).toNat) ((m 47 7) - 1)), (0, 5, true, 47), (1, 0, true, x1)] [(0, true, (hy_u m 47 7 ((m 47 7) - 1)) ((m 47 6).toNat) ((m 47 7) - 1)), (5, true, 41)] (sM s (hy_u m 47 7 ((m 47 7) - 1))))
        refine hY _ _ _ _ ?_
        refine Exists.intro _ (And.intro (wc_125_r41_0t ((hy_u m 47 7 ((m 47 7) - 1)) ((m 47 6).toNat) ((m 47 7) - 1)) _ _ h.2.2.2) (fun r3 m3 h => ?_))
        refine hY _ _ _ _ (hY _ _ _ _ (?_ : Y 112 [(3, 0, true, r3), (2, 0, true, (hy_u m 47 7 ((m 47 7) - 1)) ((m 47 6).toNat) ((m 47 7) - 1)), (0, 5, true, 47), (1, 0, true, x1)] [(0, true, (hy_u m 47 7 ((m 47 7) - 1)) ((m 47 6).toNat) ((m 47 7) - 1))] (sM s m3)))
        refine hY _ _ _ _ ?_
        refine And.intro (fun hc => ?_) (fun hc => ?_)
        · have h := h.1 hc
          refine hY _ _ _ _ (hY _ _ _ _ (?_ : Y 128 [(3, 0, true, r3), (2, 0, true, (hy_u m 47 7 ((m 47 7) - 1)) ((m 47 6).toNat) ((m 47 7) - 1)), (0, 5, true, 47), (1, 0, true, x1)] [(0, true, (-9)), (0, true, r3)] (sM s m3)))
          refine hY _ _ _ _ ?_
          refine And.intro (fun hc => ?_) (fun hc => ?_)
          · have h := h.1 hc
            refine hY _ _ _ _ (hY _ _ _ _ (hY _ _ _ _ (?_ : Y 198 [(3, 0, true, r3), (2, 0, true, (hy_u m 47 7 ((m 47 7) - 1)) ((m 47 6).toNat) ((m 47 7) - 1)), (0, 5, true, 47), (1, 0, true, x1)] [(0, true, r3), (3, true, m3 47 8)] (sM s m3))))
            refine hY _ _ _ _ ?_
            obtain ⟨n4, h⟩ := h
            refine Exists.intro n4 (And.intro h.1 ?_)
            refine (And.intro h.2.1 (And.intro h.2.2.1 ?_))
            refine hY _ _ _ _ (hY _ _ _ _ (?_ : Y 203 [(3, 0, true, r3), (2, 0, true, (hy_u m 47 7 ((m 47 7) - 1)) ((m 47 6).toNat) ((m 47 7) - 1)), (0, 5, true, 47), (1, 0, true, x1)] [(0, true, m3 47 9), (0, true, m3 ((m3 47 8).toNat) r3)] (sM s m3)))
            refine hY _ _ _ _ ?_
            refine And.intro (fun hc => ?_) (fun hc => ?_)
            · have h := h.2.2.2.1 hc
              refine hY _ _ _ _ (hY _ _ _ _ (hY _ _ _ _ (?_ : Y 213 [(3, 0, true, r3), (2, 0, true, (hy_u m 47 7 ((m 47 7) - 1)) ((m 47 6).toNat) ((m 47 7) - 1)), (0, 5, true, 47), (1, 0, true, x1)] [(0, true, r3), (3, true, m3 47 8)] (sM s m3))))
              refine hY _ _ _ _ ?_
              obtain ⟨n5, h⟩ := h
              refine Exists.intro n5 (And.intro h.1 ?_)
              refine (And.intro h.2.1 (And.intro h.2.2.1 ?_))
              refine hY _ _ _ _ (hY _ _ _ _ (?_ : Y 218 [(3, 0, true, r3), (2, 0, true, (hy_u m 47 7 ((m 47 7) - 1)) ((m 47 6).toNat) ((m 47 7) - 1)), (0, 5, true, 47), (1, 0, true, x1)] [(0, true, m3 47 10), (0, true, m3 ((m3 47 8).toNat) r3)] (sM s m3)))
              refine hY _ _ _ _ ?_
              refine And.intro (fun hc => ?_) (fun hc => ?_)
              · have h := h.2.2.2.1 hc
                refine hY _ _ _ _ (hY _ _ _ _ (?_ : Y 53 [(1, 0, false, x1 + 1), (3, 0, true, r3), (2, 0, true, (hy_u m 47 7 ((m 47 7) - 1)) ((m 47 6).toNat) ((m 47 7) - 1)), (0, 5, true, 47)] [] (sM s m3)))
                refine l53 _ _ ?_
                refine And.intro h.1 ?_
                exact (Exists.intro m3 (And.intro rfl h.2))
              · have h := h.2.2.2.2 hc
                refine hY _ _ _ _ (hY _ _ _ _ (?_ : Y 223 [(3, 0, true, r3), (2, 0, true, (hy_u m 47 7 ((m 47 7) - 1)) ((m 47 6).toNat) ((m 47 7) - 1)), (0, 5, true, 47), (1, 0, true, x1)] [(0, true, r3), (5, true, 47)] (sM s m3)))
                refine hY _ _ _ _ ?_
                refine Exists.intro _ (And.intro (wc_152_r47_0t r3 _ _ h) (fun r6 m6 h => ?_))
                refine hY _ _ _ _ (hY _ _ _ _ (?_ : Y 53 [(1, 0, false, x1 + 1), (3, 0, true, r3), (2, 0, true, (hy_u m 47 7 ((m 47 7) - 1)) ((m 47 6).toNat) ((m 47 7) - 1)), (0, 5, true, 47)] [] (sM s m6)))
                refine l53 _ _ ?_
                refine And.intro h.1 ?_
                exact (Exists.intro m6 (And.intro rfl h.2))
            · have h := h.2.2.2.2 hc
              refine hY _ _ _ _ (?_ : Y 207 [(3, 0, true, r3), (2, 0, true, (hy_u m 47 7 ((m 47 7) - 1)) ((m 47 6).toNat) ((m 47 7) - 1)), (0, 5, true, 47), (1, 0, true, x1)] [(2, true, 1)] (sM s m3))
              refine hY _ _ _ _ ?_
              exact hQ 1 m3 h
          · have h := h.2 hc
            refine hY _ _ _ _ (hY _ _ _ _ (hY _ _ _ _ (?_ : Y 136 [(3, 0, true, r3), (2, 0, true, (hy_u m 47 7 ((m 47 7) - 1)) ((m 47 6).toNat) ((m 47 7) - 1)), (0, 5, true, 47), (1, 0, true, x1)] [(0, true, (hy_u m 47 7 ((m 47 7) - 1)) ((m 47 6).toNat) ((m 47 7) - 1)), (5, true, 41)] (sM s m3))))
            refine hY _ _ _ _ ?_
            refine Exists.intro _ (And.intro (wc_129_r41_0t ((hy_u m 47 7 ((m 47 7) - 1)) ((m 47 6).toNat) ((m 47 7) - 1)) _ _ h) (fun r7 m7 h => ?_))
            refine hY _ _ _ _ (?_ : Y 140 [(3, 0, true, r3), (2, 0, true, (hy_u m 47 7 ((m 47 7) - 1)) ((m 47 6).toNat) ((m 47 7) - 1)), (0, 5, true, 47), (1, 0, true, x1)] [(0, true, 4), (0, true, r7)] (sM s m7))
            refine hY _ _ _ _ ?_
            refine And.intro (fun hc => ?_) (fun hc => ?_)
            · have h := h.1 hc
              refine hY _ _ _ _ (hY _ _ _ _ (hY _ _ _ _ (?_ : Y 161 [(4, 2, true, 0), (3, 0, true, r3), (2, 0, true, (hy_u m 47 7 ((m 47 7) - 1)) ((m 47 6).toNat) ((m 47 7) - 1)), (0, 5, true, 47), (1, 0, true, x1)] [(2, true, 0)] (sM s m7))))
              refine hY _ _ _ _ (?_ : Y 163 [(5, 2, true, 0), (4, 2, true, 0), (3, 0, true, r3), (2, 0, true, (hy_u m 47 7 ((m 47 7) - 1)) ((m 47 6).toNat) ((m 47 7) - 1)), (0, 5, true, 47), (1, 0, true, x1)] [] (sM s m7))
              refine l163 _ _ ?_
              exact (Exists.intro m7 (And.intro rfl h))
            · have h := h.2 hc
              refine hY _ _ _ _ (hY _ _ _ _ (hY _ _ _ _ (?_ : Y 148 [(3, 0, true, r3), (2, 0, true, (hy_u m 47 7 ((m 47 7) - 1)) ((m 47 6).toNat) ((m 47 7) - 1)), (0, 5, true, 47), (1, 0, true, x1)] [(0, true, (hy_u m 47 7 ((m 47 7) - 1)) ((m 47 6).toNat) ((m 47 7) - 1)), (5, true, 41)] (sM s m7))))
              refine hY _ _ _ _ ?_
              refine Exists.intro _ (And.intro (wc_130_r41_0t ((hy_u m 47 7 ((m 47 7) - 1)) ((m 47 6).toNat) ((m 47 7) - 1)) _ _ h) (fun r8 m8 h => ?_))
              show Y 151 [(3, 0, true, r3), (2, 0, true, (hy_u m 47 7 ((m 47 7) - 1)) ((m 47 6).toNat) ((m 47 7) - 1)), (0, 5, true, 47), (1, 0, true, x1)] [(1, true, r8)] (sM s m8)
              refine hY _ _ _ _ ?_
              refine Exists.intro _ (And.intro (wc_26_1t r8 _ _ h) (fun r9 m9 h => ?_))
              refine hY _ _ _ _ (hY _ _ _ _ (hY _ _ _ _ (?_ : Y 161 [(4, 0, true, r9), (3, 0, true, r3), (2, 0, true, (hy_u m 47 7 ((m 47 7) - 1)) ((m 47 6).toNat) ((m 47 7) - 1)), (0, 5, true, 47), (1, 0, true, x1)] [(2, true, 0)] (sM s m9))))
              refine hY _ _ _ _ (?_ : Y 163 [(5, 2, true, 0), (4, 0, true, r9), (3, 0, true, r3), (2, 0, true, (hy_u m 47 7 ((m 47 7) - 1)) ((m 47 6).toNat) ((m 47 7) - 1)), (0, 5, true, 47), (1, 0, true, x1)] [] (sM s m9))
              refine l163 _ _ ?_
              exact (Exists.intro m9 (And.intro rfl h))
        · have h := h.2 hc
          refine hY _ _ _ _ (hY _ _ _ _ (hY _ _ _ _ (?_ : Y 118 [(3, 0, true, r3), (2, 0, true, (hy_u m 47 7 ((m 47 7) - 1)) ((m 47 6).toNat) ((m 47 7) - 1)), (0, 5, true, 47), (1, 0, true, x1)] [(0, true, (hy_u m 47 7 ((m 47 7) - 1)) ((m 47 6).toNat) ((m 47 7) - 1)), (0, true, (-1)), (5, true, 47)] (sM s m3))))
          refine hY _ _ _ _ (?_ : Y 119 [(3, 0, true, r3), (2, 0, true, (hy_u m 47 7 ((m 47 7) - 1)) ((m 47 6).toNat) ((m 47 7) - 1)), (0, 5, true, 47), (1, 0, true, x1)] [(0, false, (-1) - ((hy_u m 47 7 ((m 47 7) - 1)) ((m 47 6).toNat) ((m 47 7) - 1))), (5, true, 47)] (sM s m3))
          refine hY _ _ _ _ ?_
          refine Exists.intro _ (And.intro (wc_153_r47_0f ((-1) - ((hy_u m 47 7 ((m 47 7) - 1)) ((m 47 6).toNat) ((m 47 7) - 1))) _ _ h) (fun r10 m10 h => ?_))
          refine hY _ _ _ _ (hY _ _ _ _ (hY _ _ _ _ (?_ : Y 53 [(1, 0, false, x1 + 1), (3, 0, true, r3), (2, 0, true, (hy_u m 47 7 ((m 47 7) - 1)) ((m 47 6).toNat) ((m 47 7) - 1)), (0, 5, true, 47)] [] (sM s m10))))
          refine l53 _ _ ?_
          refine And.intro h.1 ?_
          exact (Exists.intro m10 (And.intro rfl h.2))
      · have h := h.2.2.2.2 hc
        refine hY _ _ _ _ (?_ : Y 81 [(0, 5, true, 47), (1, 0, true, x1)] [(2, true, 1)] (sM s m))
        refine hY _ _ _ _ ?_
        exact hQ 1 m h
theorem wk_151_53 (Q : sQ) (R : Int → hy_m → Prop) (s : sS) (x1 : Int) (hQ : ∀ x m', R x m' → Q x (sM s m')) (hr : sRg [(0, 5, 47), (1, 0, 0)] [x1]) (h : wq_151_53 x1 s.1 s.2.2.2 R) : kX dC 2 im_m151 2 53 (sCan [(0, 5, 47), (1, 0, 0)] [x1]) [] s Q :=
  h (fun x1 m => sRg [(0, 5, 47), (1, 0, 0)] [x1] → kX dC 2 im_m151 2 53 (sCan [(0, 5, 47), (1, 0, 0)] [x1]) [] (sM s m) Q) (fun x1 m h hr => wj_151_53 Q R s (fun x1 m => sRg [(0, 5, 47), (1, 0, 0)] [x1] → kX dC 2 im_m151 2 53 (sCan [(0, 5, 47), (1, 0, 0)] [x1]) [] (sM s m) Q) x1 m  (fun _ _ hp hr => hp hr) hQ hr h) hr
def lb_151_27 (s : sS) (Q : sQ) (P27 : Int → hy_m → Prop) (R : Int → hy_m → Prop) (x1 : Int) : Nat → Option (sL → sS → Prop) := sLb [(53, fun lv t => sG [(0, 5, 47), (1, 0, 0)] lv (ap1 (fun w1 => ∃ m', t = sM s m' ∧ wq_151_53 w1 s.1 m' R))), (27, fun lv t => sG [(0, 5, 47), (1, 0, 0)] lv (ap1 (fun w1 => ∃ m', t = sM s m' ∧ P27 w1 m')))]
set_option maxRecDepth 30000 in
set_option maxHeartbeats 1000000 in
theorem wj_151_27 (Q : sQ) (R : Int → hy_m → Prop) (s : sS) (P27 : Int → hy_m → Prop) (x1 : Int) (m : hy_m) (hP27 : ∀ (z1 : Int) (m : hy_m), P27 z1 m → sRg [(0, 5, 47), (1, 0, 0)] [z1] → kX dC 2 im_m151 2 27 (sCan [(0, 5, 47), (1, 0, 0)] [z1]) [] (sM s m) Q) (hQ : ∀ x m', R x m' → Q x (sM s m')) (hr : sRg [(0, 5, 47), (1, 0, 0)] [x1]) (h : wf_151_27 s.1 R P27 x1 m) : kX dC 2 im_m151 2 27 (sCan [(0, 5, 47), (1, 0, 0)] [x1]) [] (sM s m) Q := by
  unfold wf_151_27 at h
  refine wz2_ok (cs := cs_151) (wr := []) (lb := lb_151_27 s Q P27 R x1) cs_151_ok (kLb_c (kLab (Bd := fun xs t => ap1 (fun w1 => ∃ m', t = sM s m' ∧ wq_151_53 w1 s.1 m' R) xs) rfl (fun xs t r1 r2 hb => by obtain ⟨w1, rfl, hb⟩ := ap1_ok hb; obtain ⟨m', rfl, hx⟩ := hb; exact wk_151_53 Q R (sM s m') _ (fun x m'' hy => hQ x m'' hy) r1 hx)) (kLb_c (kLab (Bd := fun xs t => ap1 (fun w1 => ∃ m', t = sM s m' ∧ P27 w1 m') xs) rfl (fun xs t r1 r2 hb => by obtain ⟨w1, rfl, hb⟩ := ap1_ok hb; obtain ⟨m', rfl, hx⟩ := hb; exact hP27 _ m' hx r1)) kLb_n)) (okL_can rfl hr) (fun Y hY hl => ?_)
  have l53 := hl 53 _ rfl
  have l27 := hl 27 _ rfl
  refine hY _ _ _ _ (hY _ _ _ _ (hY _ _ _ _ (?_ : Y 32 [(0, 5, true, 47), (1, 0, true, x1)] [(0, true, m 47 5), (0, true, x1)] (sM s m))))
  refine hY _ _ _ _ ?_
  refine And.intro (fun hc => ?_) (fun hc => ?_)
  · have h := h.1 hc
    refine hY _ _ _ _ (hY _ _ _ _ (?_ : Y 53 [(1, 2, true, 0), (0, 5, true, 47)] [] (sM s m)))
    refine l53 _ _ ?_
    exact (Exists.intro m (And.intro rfl h))
  · have h := h.2 hc
    refine hY _ _ _ _ (hY _ _ _ _ (hY _ _ _ _ (?_ : Y 40 [(0, 5, true, 47), (1, 0, true, x1)] [(3, true, m 47 4), (5, true, 47)] (sM s m))))
    refine hY _ _ _ _ (?_ : Y 41 [(0, 5, true, 47), (1, 0, true, x1)] [(0, true, x1), (3, true, m 47 4), (5, true, 47)] (sM s m))
    refine hY _ _ _ _ ?_
    obtain ⟨n1, h⟩ := h
    refine Exists.intro n1 (And.intro h.1 ?_)
    refine (And.intro h.2.1 (And.intro h.2.2.1 ?_))
    show Y 42 [(0, 5, true, 47), (1, 0, true, x1)] [(0, true, m ((m 47 4).toNat) x1), (5, true, 47)] (sM s m)
    refine hY _ _ _ _ ?_
    refine Exists.intro _ (And.intro (wc_154_r47_0t (m ((m 47 4).toNat) x1) _ _ h.2.2.2) (fun r2 m2 h => ?_))
    refine hY _ _ _ _ (hY _ _ _ _ (?_ : Y 27 [(1, 0, false, x1 + 1), (0, 5, true, 47)] [] (sM s m2)))
    refine l27 _ _ ?_
    refine And.intro h.1 ?_
    exact (Exists.intro m2 (And.intro rfl h.2))
theorem wk_151_27 (Q : sQ) (R : Int → hy_m → Prop) (s : sS) (x1 : Int) (hQ : ∀ x m', R x m' → Q x (sM s m')) (hr : sRg [(0, 5, 47), (1, 0, 0)] [x1]) (h : wq_151_27 x1 s.1 s.2.2.2 R) : kX dC 2 im_m151 2 27 (sCan [(0, 5, 47), (1, 0, 0)] [x1]) [] s Q :=
  h (fun x1 m => sRg [(0, 5, 47), (1, 0, 0)] [x1] → kX dC 2 im_m151 2 27 (sCan [(0, 5, 47), (1, 0, 0)] [x1]) [] (sM s m) Q) (fun x1 m h hr => wj_151_27 Q R s (fun x1 m => sRg [(0, 5, 47), (1, 0, 0)] [x1] → kX dC 2 im_m151 2 27 (sCan [(0, 5, 47), (1, 0, 0)] [x1]) [] (sM s m) Q) x1 m  (fun _ _ hp hr => hp hr) hQ hr h) hr
def lb_151_0 (s : sS) (Q : sQ) (R : Int → hy_m → Prop) : Nat → Option (sL → sS → Prop) := sLb [(27, fun lv t => sG [(0, 5, 47), (1, 0, 0)] lv (ap1 (fun w1 => ∃ m', t = sM s m' ∧ wq_151_27 w1 s.1 m' R)))]
set_option maxRecDepth 30000 in
set_option maxHeartbeats 1000000 in
theorem wk_151_0 (Q : sQ) (R : Int → hy_m → Prop) (s : sS) (hQ : ∀ x m', R x m' → Q x (sM s m')) (hr : sRg [(0, 5, 47)] []) (h : wq_151 s.1 s.2.2.2 R) : kX dC 2 im_m151 2 0 (sCan [(0, 5, 47)] []) [] s Q := by
  unfold wq_151 at h
  refine wz2_ok (cs := cs_151) (wr := []) (lb := lb_151_0 s Q R) cs_151_ok (kLb_c (kLab (Bd := fun xs t => ap1 (fun w1 => ∃ m', t = sM s m' ∧ wq_151_27 w1 s.1 m' R) xs) rfl (fun xs t r1 r2 hb => by obtain ⟨w1, rfl, hb⟩ := ap1_ok hb; obtain ⟨m', rfl, hx⟩ := hb; exact wk_151_27 Q R (sM s m') _ (fun x m'' hy => hQ x m'' hy) r1 hx)) kLb_n) (okL_can rfl hr) (fun Y hY hl => ?_)
  have l27 := hl 27 _ rfl
  refine hY _ _ _ _ (hY _ _ _ _ (hY _ _ _ _ (?_ : Y 5 [(0, 5, true, 47)] [(0, true, s.2.2.2 47 10), (5, true, 47)] s)))
  refine hY _ _ _ _ (hY _ _ _ _ (?_ : Y 7 [(0, 5, true, 47)] [(0, false, (s.2.2.2 47 10) + 1), (5, true, 47)] s))
  refine hY _ _ _ _ ?_
  refine And.intro h.1 ?_
  refine hY _ _ _ _ (hY _ _ _ _ (hY _ _ _ _ (?_ : Y 15 [(0, 5, true, 47)] [(0, true, (s.2.2.2 47 10) + 1), (5, true, 47)] (sM s (hy_u s.2.2.2 47 9 ((s.2.2.2 47 10) + 1))))))
  refine hY _ _ _ _ (hY _ _ _ _ (?_ : Y 17 [(0, 5, true, 47)] [(0, false, ((s.2.2.2 47 10) + 1) + 1), (5, true, 47)] (sM s (hy_u s.2.2.2 47 9 ((s.2.2.2 47 10) + 1)))))
  refine hY _ _ _ _ ?_
  refine And.intro h.2.1 ?_
  refine hY _ _ _ _ (hY _ _ _ _ (?_ : Y 22 [(0, 5, true, 47)] [(2, true, 0), (5, true, 47)] (sM s (hy_u (hy_u s.2.2.2 47 9 ((s.2.2.2 47 10) + 1)) 47 10 (((s.2.2.2 47 10) + 1) + 1)))))
  refine hY _ _ _ _ ?_
  refine hY _ _ _ _ (hY _ _ _ _ (?_ : Y 27 [(1, 2, true, 0), (0, 5, true, 47)] [] (sM s (hy_u (hy_u (hy_u s.2.2.2 47 9 ((s.2.2.2 47 10) + 1)) 47 10 (((s.2.2.2 47 10) + 1) + 1)) 47 7 0))))
  refine l27 _ _ ?_
  exact (Exists.intro (hy_u (hy_u (hy_u s.2.2.2 47 9 ((s.2.2.2 47 10) + 1)) 47 10 (((s.2.2.2 47 10) + 1) + 1)) 47 7 0) (And.intro rfl h.2.2))
def we_151 : sFf := sEf 6 [(0, 5, 47)] (fun xs s Q => ap0 (wq_151 s.1 s.2.2.2 Q) xs)
theorem we_151_ok : kS dC 3 151 2 (.inl we_151) := sEf_ok (mi := im_m151) rfl rfl rfl (fun R xs s r1 hb => by obtain ⟨rfl, hb⟩ := ap0_ok hb; exact wk_151_0 _ R s (fun x m' hx => ⟨m', rfl, hx⟩) r1 hb)
/-- LM$Unifier.unify(III)Z -/
def wf_148_62 (P22 : Int → Int → hy_m → Prop) (x3 : Int) (x5 : Int) (x6 : Int) (x7 : Int) (T : hy_T) (Q : Int → hy_m → Prop) (P62 : Int → Int → hy_m → Prop) (x4 : Int) (x8 : Int) (m : hy_m) : Prop := (x4 = 0 → (hy_r 0 (x5 + 1) ∧ (P22 x4 (x5 + 1) m))) ∧ (x4 ≠ 0 → ((x7 ≤ x8 → (hy_r 0 (x5 + 1) ∧ (P22 x4 (x5 + 1) m))) ∧ (x8 < x7 → (wq_132 x6 x8 T m (fun r1 m1 => ∃ n2 : Nat, T.1 (m1 47 1).toNat = some (100, n2) ∧ (0 ≤ x6 ∧ x6 < (n2 : Int) ∧ (wq_132 (m1 ((m1 47 1).toNat) x6) x8 T m1 (fun r3 m3 => wq_149 r1 r3 x3 T m3 (fun r4 m4 => hy_r 0 (x8 + 1) ∧ (P62 r4 (x8 + 1) m4))))))))))
def wq_148_62 (P22 : Int → Int → hy_m → Prop) (x3 : Int) (x4 : Int) (x5 : Int) (x6 : Int) (x7 : Int) (x8 : Int) (T : hy_T) (m : hy_m) (Q : Int → hy_m → Prop) : Prop := wL2 hy_m (wf_148_62 P22 x3 x5 x6 x7 T Q) x4 x8 m
def wf_148_127 (x4 : Int) (T : hy_T) (Q : Int → hy_m → Prop) (P127 : Int → hy_m → Prop) (x5 : Int) (m : hy_m) : Prop := ((m 47 3) ≤ x5 → ((x4 = 0 → (Q 0 m)) ∧ (x4 ≠ 0 → (wq_151 T m (fun r1 m1 => (r1 ≠ 0 → (Q 0 m1)) ∧ (r1 = 0 → (Q 1 m1))))))) ∧ (x5 < (m 47 3) → (∃ n2 : Nat, T.1 (m 47 2).toNat = some (100, n2) ∧ (0 ≤ x5 ∧ x5 < (n2 : Int) ∧ (∃ n3 : Nat, T.1 (m 47 1).toNat = some (100, n3) ∧ (0 ≤ (m ((m 47 2).toNat) x5) ∧ (m ((m 47 2).toNat) x5) < (n3 : Int) ∧ (hy_r 0 (x5 + 1) ∧ (P127 (x5 + 1) (hy_u m ((m 47 1).toNat) (m ((m 47 2).toNat) x5) 0))))))))
def wq_148_127 (x4 : Int) (x5 : Int) (T : hy_T) (m : hy_m) (Q : Int → hy_m → Prop) : Prop := wL1 hy_m (wf_148_127 x4 T Q) x5 m
def wf_148_22 (x3 : Int) (T : hy_T) (Q : Int → hy_m → Prop) (P22 : Int → Int → hy_m → Prop) (x4 : Int) (x5 : Int) (m : hy_m) : Prop := (x4 = 0 → (wq_148_127 x4 0 T m Q)) ∧ (x4 ≠ 0 → (((m 47 3) ≤ x5 → (wq_148_127 x4 0 T m Q)) ∧ (x5 < (m 47 3) → (∃ n1 : Nat, T.1 (m 47 2).toNat = some (100, n1) ∧ (0 ≤ x5 ∧ x5 < (n1 : Int) ∧ (wq_130 (m ((m 47 2).toNat) x5) T m (fun r2 m2 => wq_26 r2 m2 (fun r3 m3 => wq_148_62 P22 x3 x4 x5 (m ((m 47 2).toNat) x5) r3 0 T m3 Q))))))))
def wq_148_22 (x3 : Int) (x4 : Int) (x5 : Int) (T : hy_T) (m : hy_m) (Q : Int → hy_m → Prop) : Prop := wL2 hy_m (wf_148_22 x3 T Q) x4 x5 m
def wq_148 (x1 : Int) (x2 : Int) (x3 : Int) (T : hy_T) (m : hy_m) (Q : Int → hy_m → Prop) : Prop := wq_149 x1 x2 x3 T (hy_u (hy_u m 47 3 0) 47 5 0) (fun r1 m1 => wq_148_22 x3 r1 0 T m1 Q)
theorem wc_149_r47_0t_0t_0t (x1 : Int) (x2 : Int) (x3 : Int) (s : sS) (R : Int → hy_m → Prop) (h : wq_149 x1 x2 x3 s.1 s.2.2.2 R) : we_149 [(5, true, 47), (0, true, x1), (0, true, x2), (0, true, x3)] s R := h
theorem wc_151_r47 (s : sS) (R : Int → hy_m → Prop) (h : wq_151 s.1 s.2.2.2 R) : we_151 [(5, true, 47)] s R := h
def cs_148 : List (Nat × Nat × sFS) := [(26, 0, .inl we_26), (130, 1, .inl we_130), (132, 0, .inl we_132), (149, 2, .inl we_149), (151, 2, .inl we_151)]
theorem cs_148_ok : kCs dC 3 cs_148 := (kCs_c (Or.inl rfl) (we_26_ok.deep (by decide)) (kCs_c (Or.inr (Or.inl rfl)) (we_130_ok.deep (by decide)) (kCs_c (Or.inl rfl) (we_132_ok.deep (by decide)) (kCs_c (Or.inr (Or.inr (Or.inl rfl))) (we_149_ok.deep (by decide)) (kCs_c (Or.inr (Or.inr (Or.inl rfl))) (we_151_ok.deep (by decide)) kCs_n)))))
def lb_148_62 (s : sS) (Q : sQ) (P22 : Int → Int → hy_m → Prop) (P62 : Int → Int → hy_m → Prop) (R : Int → hy_m → Prop) (x3 : Int) (x4 : Int) (x5 : Int) (x6 : Int) (x7 : Int) (x8 : Int) : Nat → Option (sL → sS → Prop) := sLb [(22, fun lv t => sG [(0, 5, 47), (3, 0, 0), (4, 2, 0), (5, 0, 0)] lv (ap3 (fun w3 w4 w5 => ∃ m', t = sM s m' ∧ w3 = x3 ∧ P22 w4 w5 m'))), (62, fun lv t => sG [(0, 5, 47), (3, 0, 0), (4, 2, 0), (5, 0, 0), (6, 0, 0), (7, 0, 0), (8, 0, 0)] lv (ap6 (fun w3 w4 w5 w6 w7 w8 => ∃ m', t = sM s m' ∧ w3 = x3 ∧ w5 = x5 ∧ w6 = x6 ∧ w7 = x7 ∧ P62 w4 w8 m')))]
set_option maxRecDepth 30000 in
set_option maxHeartbeats 1000000 in
theorem wj_148_62 (Q : sQ) (R : Int → hy_m → Prop) (s : sS) (P22 : Int → Int → hy_m → Prop) (P62 : Int → Int → hy_m → Prop) (x3 : Int) (x4 : Int) (x5 : Int) (x6 : Int) (x7 : Int) (x8 : Int) (m : hy_m) (hP22 : ∀ (z4 z5 : Int) (m : hy_m), P22 z4 z5 m → sRg [(0, 5, 47), (3, 0, 0), (4, 2, 0), (5, 0, 0)] [x3, z4, z5] → kX dC 3 im_m148 2 22 (sCan [(0, 5, 47), (3, 0, 0), (4, 2, 0), (5, 0, 0)] [x3, z4, z5]) [] (sM s m) Q) (hP62 : ∀ (z4 z8 : Int) (m : hy_m), P62 z4 z8 m → sRg [(0, 5, 47), (3, 0, 0), (4, 2, 0), (5, 0, 0), (6, 0, 0), (7, 0, 0), (8, 0, 0)] [x3, z4, x5, x6, x7, z8] → kX dC 3 im_m148 2 62 (sCan [(0, 5, 47), (3, 0, 0), (4, 2, 0), (5, 0, 0), (6, 0, 0), (7, 0, 0), (8, 0, 0)] [x3, z4, x5, x6, x7, z8]) [] (sM s m) Q) (hQ : ∀ x m', R x m' → Q x (sM s m')) (hr : sRg [(0, 5, 47), (3, 0, 0), (4, 2, 0), (5, 0, 0), (6, 0, 0), (7, 0, 0), (8, 0, 0)] [x3, x4, x5, x6, x7, x8]) (h : wf_148_62 P22 x3 x5 x6 x7 s.1 R P62 x4 x8 m) : kX dC 3 im_m148 2 62 (sCan [(0, 5, 47), (3, 0, 0), (4, 2, 0), (5, 0, 0), (6, 0, 0), (7, 0, 0), (8, 0, 0)] [x3, x4, x5, x6, x7, x8]) [] (sM s m) Q := by
  unfold wf_148_62 at h
  refine wz2_ok (cs := cs_148) (wr := []) (lb := lb_148_62 s Q P22 P62 R x3 x4 x5 x6 x7 x8) cs_148_ok (kLb_c (kLab (Bd := fun xs t => ap3 (fun w3 w4 w5 => ∃ m', t = sM s m' ∧ w3 = x3 ∧ P22 w4 w5 m') xs) rfl (fun xs t r1 r2 hb => by obtain ⟨w3, w4, w5, rfl, hb⟩ := ap3_ok hb; obtain ⟨m', rfl, rfl, hx⟩ := hb; exact hP22 _ _ m' hx r1)) (kLb_c (kLab (Bd := fun xs t => ap6 (fun w3 w4 w5 w6 w7 w8 => ∃ m', t = sM s m' ∧ w3 = x3 ∧ w5 = x5 ∧ w6 = x6 ∧ w7 = x7 ∧ P62 w4 w8 m') xs) rfl (fun xs t r1 r2 hb => by obtain ⟨w3, w4, w5, w6, w7, w8, rfl, hb⟩ := ap6_ok hb; obtain ⟨m', rfl, rfl, rfl, rfl, rfl, hx⟩ := hb; exact hP62 _ _ m' hx r1)) kLb_n)) (okL_can rfl hr) (fun Y hY hl => ?_)
  have l22 := hl 22 _ rfl
  have l62 := hl 62 _ rfl
  refine hY _ _ _ _ (?_ : Y 64 [(0, 5, true, 47), (3, 0, true, x3), (4, 2, true, x4), (5, 0, true, x5), (6, 0, true, x6), (7, 0, true, x7), (8, 0, true, x8)] [(2, true, x4)] (sM s m))
  refine hY _ _ _ _ ?_
  refine And.intro (fun hc => ?_) (fun hc => ?_)
  · have h := h.1 hc
    refine hY _ _ _ _ (hY _ _ _ _ (?_ : Y 22 [(5, 0, false, x5 + 1), (0, 5, true, 47), (3, 0, true, x3), (4, 2, true, x4), (6, 0, true, x6), (7, 0, true, x7), (8, 0, true, x8)] [] (sM s m)))
    refine l22 _ _ ?_
    refine And.intro h.1 ?_
    exact (Exists.intro m (And.intro rfl (And.intro rfl h.2)))
  · have h := h.2 hc
    refine hY _ _ _ _ (hY _ _ _ _ (?_ : Y 71 [(0, 5, true, 47), (3, 0, true, x3), (4, 2, true, x4), (5, 0, true, x5), (6, 0, true, x6), (7, 0, true, x7), (8, 0, true, x8)] [(0, true, x7), (0, true, x8)] (sM s m)))
    refine hY _ _ _ _ ?_
    refine And.intro (fun hc => ?_) (fun hc => ?_)
    · have h := h.1 hc
      refine hY _ _ _ _ (hY _ _ _ _ (?_ : Y 22 [(5, 0, false, x5 + 1), (0, 5, true, 47), (3, 0, true, x3), (4, 2, true, x4), (6, 0, true, x6), (7, 0, true, x7), (8, 0, true, x8)] [] (sM s m)))
      refine l22 _ _ ?_
      refine And.intro h.1 ?_
      exact (Exists.intro m (And.intro rfl (And.intro rfl h.2)))
    · have h := h.2 hc
      refine hY _ _ _ _ (hY _ _ _ _ (hY _ _ _ _ (?_ : Y 80 [(0, 5, true, 47), (3, 0, true, x3), (4, 2, true, x4), (5, 0, true, x5), (6, 0, true, x6), (7, 0, true, x7), (8, 0, true, x8)] [(0, true, x6), (5, true, 41)] (sM s m))))
      refine hY _ _ _ _ (?_ : Y 82 [(0, 5, true, 47), (3, 0, true, x3), (4, 2, true, x4), (5, 0, true, x5), (6, 0, true, x6), (7, 0, true, x7), (8, 0, true, x8)] [(0, true, x8), (0, true, x6), (5, true, 41)] (sM s m))
      refine hY _ _ _ _ ?_
      refine Exists.intro _ (And.intro (wc_132_r41_0t_0t x6 x8 _ _ h) (fun r1 m1 h => ?_))
      refine hY _ _ _ _ (hY _ _ _ _ (hY _ _ _ _ (?_ : Y 90 [(9, 0, true, r1), (0, 5, true, 47), (3, 0, true, x3), (4, 2, true, x4), (5, 0, true, x5), (6, 0, true, x6), (7, 0, true, x7), (8, 0, true, x8)] [(0, true, r1), (5, true, 47)] (sM s m1))))
      refine hY _ _ _ _ (hY _ _ _ _ (hY _ _ _ _ (?_ : Y 95 [(9, 0, true, r1), (0, 5, true, 47), (3, 0, true, x3), (4, 2, true, x4), (5, 0, true, x5), (6, 0, true, x6), (7, 0, true, x7), (8, 0, true, x8)] [(5, true, 47), (5, true, 41), (0, true, r1), (5, true, 47)] (sM s m1))))
      refine hY _ _ _ _ (hY _ _ _ _ (?_ : Y 100 [(9, 0, true, r1), (0, 5, true, 47), (3, 0, true, x3), (4, 2, true, x4), (5, 0, true, x5), (6, 0, true, x6), (7, 0, true, x7), (8, 0, true, x8)] [(0, true, x6), (3, true, m1 47 1), (5, true, 41), (0, true, r1), (5, true, 47)] (sM s m1)))
      refine hY _ _ _ _ ?_
      obtain ⟨n2, h⟩ := h
      refine Exists.intro n2 (And.intro h.1 ?_)
      refine (And.intro h.2.1 (And.intro h.2.2.1 ?_))
      refine hY _ _ _ _ (?_ : Y 103 [(9, 0, true, r1), (0, 5, true, 47), (3, 0, true, x3), (4, 2, true, x4), (5, 0, true, x5), (6, 0, true, x6), (7, 0, true, x7), (8, 0, true, x8)] [(0, true, x8), (0, true, m1 ((m1 47 1).toNat) x6), (5, true, 41), (0, true, r1), (5, true, 47)] (sM s m1))
      refine hY _ _ _ _ ?_
      refine Exists.intro _ (And.intro (wc_132_r41_0t_0t (m1 ((m1 47 1).toNat) x6) x8 _ _ h.2.2.2) (fun r3 m3 h => ?_))
      refine hY _ _ _ _ (?_ : Y 107 [(9, 0, true, r1), (0, 5, true, 47), (3, 0, true, x3), (4, 2, true, x4), (5, 0, true, x5), (6, 0, true, x6), (7, 0, true, x7), (8, 0, true, x8)] [(0, true, x3), (0, true, r3), (0, true, r1), (5, true, 47)] (sM s m3))
      refine hY _ _ _ _ ?_
      refine Exists.intro _ (And.intro (wc_149_r47_0t_0t_0t r1 r3 x3 _ _ h) (fun r4 m4 h => ?_))
      refine hY _ _ _ _ (hY _ _ _ _ (hY _ _ _ _ (?_ : Y 62 [(8, 0, false, x8 + 1), (4, 2, true, r4), (9, 0, true, r1), (0, 5, true, 47), (3, 0, true, x3), (5, 0, true, x5), (6, 0, true, x6), (7, 0, true, x7)] [] (sM s m4))))
      refine l62 _ _ ?_
      refine And.intro h.1 ?_
      exact (Exists.intro m4 (And.intro rfl (And.intro rfl (And.intro rfl (And.intro rfl (And.intro rfl h.2))))))
theorem wk_148_62 (Q : sQ) (R : Int → hy_m → Prop) (s : sS) (P22 : Int → Int → hy_m → Prop) (x3 : Int) (x4 : Int) (x5 : Int) (x6 : Int) (x7 : Int) (x8 : Int) (hP22 : ∀ (z4 z5 : Int) (m : hy_m), P22 z4 z5 m → sRg [(0, 5, 47), (3, 0, 0), (4, 2, 0), (5, 0, 0)] [x3, z4, z5] → kX dC 3 im_m148 2 22 (sCan [(0, 5, 47), (3, 0, 0), (4, 2, 0), (5, 0, 0)] [x3, z4, z5]) [] (sM s m) Q) (hQ : ∀ x m', R x m' → Q x (sM s m')) (hr : sRg [(0, 5, 47), (3, 0, 0), (4, 2, 0), (5, 0, 0), (6, 0, 0), (7, 0, 0), (8, 0, 0)] [x3, x4, x5, x6, x7, x8]) (h : wq_148_62 P22 x3 x4 x5 x6 x7 x8 s.1 s.2.2.2 R) : kX dC 3 im_m148 2 62 (sCan [(0, 5, 47), (3, 0, 0), (4, 2, 0), (5, 0, 0), (6, 0, 0), (7, 0, 0), (8, 0, 0)] [x3, x4, x5, x6, x7, x8]) [] s Q :=
  h (fun x4 x8 m => sRg [(0, 5, 47), (3, 0, 0), (4, 2, 0), (5, 0, 0), (6, 0, 0), (7, 0, 0), (8, 0, 0)] [x3, x4, x5, x6, x7, x8] → kX dC 3 im_m148 2 62 (sCan [(0, 5, 47), (3, 0, 0), (4, 2, 0), (5, 0, 0), (6, 0, 0), (7, 0, 0), (8, 0, 0)] [x3, x4, x5, x6, x7, x8]) [] (sM s m) Q) (fun x4 x8 m h hr => wj_148_62 Q R s P22 (fun x4 x8 m => sRg [(0, 5, 47), (3, 0, 0), (4, 2, 0), (5, 0, 0), (6, 0, 0), (7, 0, 0), (8, 0, 0)] [x3, x4, x5, x6, x7, x8] → kX dC 3 im_m148 2 62 (sCan [(0, 5, 47), (3, 0, 0), (4, 2, 0), (5, 0, 0), (6, 0, 0), (7, 0, 0), (8, 0, 0)] [x3, x4, x5, x6, x7, x8]) [] (sM s m) Q) x3 x4 x5 x6 x7 x8 m  hP22 (fun _ _ _ hp hr => hp hr) hQ hr h) hr
def lb_148_127 (s : sS) (Q : sQ) (P127 : Int → hy_m → Prop) (R : Int → hy_m → Prop) (x4 : Int) (x5 : Int) : Nat → Option (sL → sS → Prop) := sLb [(127, fun lv t => sG [(0, 5, 47), (4, 2, 0), (5, 0, 0)] lv (ap2 (fun w4 w5 => ∃ m', t = sM s m' ∧ w4 = x4 ∧ P127 w5 m')))]
set_option maxRecDepth 30000 in
set_option maxHeartbeats 1000000 in
theorem wj_148_127 (Q : sQ) (R : Int → hy_m → Prop) (s : sS) (P127 : Int → hy_m → Prop) (x4 : Int) (x5 : Int) (m : hy_m) (hP127 : ∀ (z5 : Int) (m : hy_m), P127 z5 m → sRg [(0, 5, 47), (4, 2, 0), (5, 0, 0)] [x4, z5] → kX dC 3 im_m148 2 127 (sCan [(0, 5, 47), (4, 2, 0), (5, 0, 0)] [x4, z5]) [] (sM s m) Q) (hQ : ∀ x m', R x m' → Q x (sM s m')) (hr : sRg [(0, 5, 47), (4, 2, 0), (5, 0, 0)] [x4, x5]) (h : wf_148_127 x4 s.1 R P127 x5 m) : kX dC 3 im_m148 2 127 (sCan [(0, 5, 47), (4, 2, 0), (5, 0, 0)] [x4, x5]) [] (sM s m) Q := by
  unfold wf_148_127 at h
  refine wz2_ok (cs := cs_148) (wr := []) (lb := lb_148_127 s Q P127 R x4 x5) cs_148_ok (kLb_c (kLab (Bd := fun xs t => ap2 (fun w4 w5 => ∃ m', t = sM s m' ∧ w4 = x4 ∧ P127 w5 m') xs) rfl (fun xs t r1 r2 hb => by obtain ⟨w4, w5, rfl, hb⟩ := ap2_ok hb; obtain ⟨m', rfl, rfl, hx⟩ := hb; exact hP127 _ m' hx r1)) kLb_n) (okL_can rfl hr) (fun Y hY hl => ?_)
  have l127 := hl 127 _ rfl
  refine hY _ _ _ _ (hY _ _ _ _ (hY _ _ _ _ (?_ : Y 133 [(0, 5, true, 47), (4, 2, true, x4), (5, 0, true, x5)] [(0, true, m 47 3), (0, true, x5)] (sM s m))))
  refine hY _ _ _ _ ?_
  refine And.intro (fun hc => ?_) (fun hc => ?_)
  · have h := h.1 hc
    refine hY _ _ _ _ (?_ : Y 157 [(0, 5, true, 47), (4, 2, true, x4), (5, 0, true, x5)] [(2, true, x4)] (sM s m))
    refine hY _ _ _ _ ?_
    refine And.intro (fun hc => ?_) (fun hc => ?_)
    · have h := h.1 hc
      refine hY _ _ _ _ (?_ : Y 172 [(0, 5, true, 47), (4, 2, true, x4), (5, 0, true, x5)] [(2, true, 0)] (sM s m))
      refine hY _ _ _ _ ?_
      exact hQ 0 m h
    · have h := h.2 hc
      refine hY _ _ _ _ (?_ : Y 161 [(0, 5, true, 47), (4, 2, true, x4), (5, 0, true, x5)] [(5, true, 47)] (sM s m))
      refine hY _ _ _ _ ?_
      refine Exists.intro _ (And.intro (wc_151_r47 _ _ h) (fun r1 m1 h => ?_))
      show Y 164 [(0, 5, true, 47), (4, 2, true, x4), (5, 0, true, x5)] [(2, true, r1)] (sM s m1)
      refine hY _ _ _ _ ?_
      refine And.intro (fun hc => ?_) (fun hc => ?_)
      · have h := h.1 hc
        refine hY _ _ _ _ (?_ : Y 172 [(0, 5, true, 47), (4, 2, true, x4), (5, 0, true, x5)] [(2, true, 0)] (sM s m1))
        refine hY _ _ _ _ ?_
        exact hQ 0 m1 h
      · have h := h.2 hc
        refine hY _ _ _ _ (hY _ _ _ _ (?_ : Y 172 [(0, 5, true, 47), (4, 2, true, x4), (5, 0, true, x5)] [(2, true, 1)] (sM s m1)))
        refine hY _ _ _ _ ?_
        exact hQ 1 m1 h
  · have h := h.2 hc
    refine hY _ _ _ _ (hY _ _ _ _ (hY _ _ _ _ (?_ : Y 141 [(0, 5, true, 47), (4, 2, true, x4), (5, 0, true, x5)] [(5, true, 47), (3, true, m 47 1)] (sM s m))))
    refine hY _ _ _ _ (hY _ _ _ _ (?_ : Y 146 [(0, 5, true, 47), (4, 2, true, x4), (5, 0, true, x5)] [(0, true, x5), (3, true, m 47 2), (3, true, m 47 1)] (sM s m)))
    refine hY _ _ _ _ ?_
    obtain ⟨n2, h⟩ := h
    refine Exists.intro n2 (And.intro h.1 ?_)
    refine (And.intro h.2.1 (And.intro h.2.2.1 ?_))
    refine hY _ _ _ _ (?_ : Y 148 [(0, 5, true, 47), (4, 2, true, x4), (5, 0, true, x5)] [(2, true, 0), (0, true, m ((m 47 2).toNat) x5), (3, true, m 47 1)] (sM s m))
    refine hY _ _ _ _ ?_
    obtain ⟨n3, h⟩ := h.2.2.2
    refine Exists.intro n3 (And.intro h.1 ?_)
    refine (And.intro h.2.1 (And.intro h.2.2.1 ?_))
    refine hY _ _ _ _ (hY _ _ _ _ (?_ : Y 127 [(5, 0, false, x5 + 1), (0, 5, true, 47), (4, 2, true, x4)] [] (sM s (hy_u m ((m 47 1).toNat) (m ((m 47 2).toNat) x5) 0))))
    refine l127 _ _ ?_
    refine And.intro h.2.2.2.1 ?_
    exact (Exists.intro (hy_u m ((m 47 1).toNat) (m ((m 47 2).toNat) x5) 0) (And.intro rfl (And.intro rfl h.2.2.2.2)))
theorem wk_148_127 (Q : sQ) (R : Int → hy_m → Prop) (s : sS) (x4 : Int) (x5 : Int) (hQ : ∀ x m', R x m' → Q x (sM s m')) (hr : sRg [(0, 5, 47), (4, 2, 0), (5, 0, 0)] [x4, x5]) (h : wq_148_127 x4 x5 s.1 s.2.2.2 R) : kX dC 3 im_m148 2 127 (sCan [(0, 5, 47), (4, 2, 0), (5, 0, 0)] [x4, x5]) [] s Q :=
  h (fun x5 m => sRg [(0, 5, 47), (4, 2, 0), (5, 0, 0)] [x4, x5] → kX dC 3 im_m148 2 127 (sCan [(0, 5, 47), (4, 2, 0), (5, 0, 0)] [x4, x5]) [] (sM s m) Q) (fun x5 m h hr => wj_148_127 Q R s (fun x5 m => sRg [(0, 5, 47), (4, 2, 0), (5, 0, 0)] [x4, x5] → kX dC 3 im_m148 2 127 (sCan [(0, 5, 47), (4, 2, 0), (5, 0, 0)] [x4, x5]) [] (sM s m) Q) x4 x5 m  (fun _ _ hp hr => hp hr) hQ hr h) hr
def lb_148_22 (s : sS) (Q : sQ) (P22 : Int → Int → hy_m → Prop) (R : Int → hy_m → Prop) (x3 : Int) (x4 : Int) (x5 : Int) : Nat → Option (sL → sS → Prop) := sLb [(62, fun lv t => sG [(0, 5, 47), (3, 0, 0), (4, 2, 0), (5, 0, 0), (6, 0, 0), (7, 0, 0), (8, 0, 0)] lv (ap6 (fun w3 w4 w5 w6 w7 w8 => ∃ m', t = sM s m' ∧ w3 = x3 ∧ wq_148_62 P22 w3 w4 w5 w6 w7 w8 s.1 m' R))), (127, fun lv t => sG [(0, 5, 47), (4, 2, 0), (5, 0, 0)] lv (ap2 (fun w4 w5 => ∃ m', t = sM s m' ∧ wq_148_127 w4 w5 s.1 m' R))), (22, fun lv t => sG [(0, 5, 47), (3, 0, 0), (4, 2, 0), (5, 0, 0)] lv (ap3 (fun w3 w4 w5 => ∃ m', t = sM s m' ∧ w3 = x3 ∧ P22 w4 w5 m')))]
set_option maxRecDepth 30000 in
set_option maxHeartbeats 1000000 in
theorem wj_148_22 (Q : sQ) (R : Int → hy_m → Prop) (s : sS) (P22 : Int → Int → hy_m → Prop) (x3 : Int) (x4 : Int) (x5 : Int) (m : hy_m) (hP22 : ∀ (z4 z5 : Int) (m : hy_m), P22 z4 z5 m → sRg [(0, 5, 47), (3, 0, 0), (4, 2, 0), (5, 0, 0)] [x3, z4, z5] → kX dC 3 im_m148 2 22 (sCan [(0, 5, 47), (3, 0, 0), (4, 2, 0), (5, 0, 0)] [x3, z4, z5]) [] (sM s m) Q) (hQ : ∀ x m', R x m' → Q x (sM s m')) (hr : sRg [(0, 5, 47), (3, 0, 0), (4, 2, 0), (5, 0, 0)] [x3, x4, x5]) (h : wf_148_22 x3 s.1 R P22 x4 x5 m) : kX dC 3 im_m148 2 22 (sCan [(0, 5, 47), (3, 0, 0), (4, 2, 0), (5, 0, 0)] [x3, x4, x5]) [] (sM s m) Q := by
  unfold wf_148_22 at h
  refine wz2_ok (cs := cs_148) (wr := []) (lb := lb_148_22 s Q P22 R x3 x4 x5) cs_148_ok (kLb_c (kLab (Bd := fun xs t => ap6 (fun w3 w4 w5 w6 w7 w8 => ∃ m', t = sM s m' ∧ w3 = x3 ∧ wq_148_62 P22 w3 w4 w5 w6 w7 w8 s.1 m' R) xs) rfl (fun xs t r1 r2 hb => by obtain ⟨w3, w4, w5, w6, w7, w8, rfl, hb⟩ := ap6_ok hb; obtain ⟨m', rfl, rfl, hx⟩ := hb; exact wk_148_62 Q R (sM s m') P22 _ _ _ _ _ _ hP22 (fun x m'' hy => hQ x m'' hy) r1 hx)) (kLb_c (kLab (Bd := fun xs t => ap2 (fun w4 w5 => ∃ m', t = sM s m' ∧ wq_148_127 w4 w5 s.1 m' R) xs) rfl (fun xs t r1 r2 hb => by obtain ⟨w4, w5, rfl, hb⟩ := ap2_ok hb; obtain ⟨m', rfl, hx⟩ := hb; exact wk_148_127 Q R (sM s m') _ _ (fun x m'' hy => hQ x m'' hy) r1 hx)) (kLb_c (kLab (Bd := fun xs t => ap3 (fun w3 w4 w5 => ∃ m', t = sM s m' ∧ w3 = x3 ∧ P22 w4 w5 m') xs) rfl (fun xs t r1 r2 hb => by obtain ⟨w3, w4, w5, rfl, hb⟩ := ap3_ok hb; obtain ⟨m', rfl, rfl, hx⟩ := hb; exact hP22 _ _ m' hx r1)) kLb_n))) (okL_can rfl hr) (fun Y hY hl => ?_)
  have l62 := hl 62 _ rfl
  have l127 := hl 127 _ rfl
  have l22 := hl 22 _ rfl
  refine hY _ _ _ _ (?_ : Y 24 [(0, 5, true, 47), (3, 0, true, x3), (4, 2, true, x4), (5, 0, true, x5)] [(2, true, x4)] (sM s m))
  refine hY _ _ _ _ ?_
  refine And.intro (fun hc => ?_) (fun hc => ?_)
  · have h := h.1 hc
    refine hY _ _ _ _ (hY _ _ _ _ (?_ : Y 127 [(5, 2, true, 0), (0, 5, true, 47), (3, 0, true, x3), (4, 2, true, x4)] [] (sM s m)))
    refine l127 _ _ ?_
    exact (Exists.intro m (And.intro rfl h))
  · have h := h.2 hc
    refine hY _ _ _ _ (hY _ _ _ _ (hY _ _ _ _ (?_ : Y 33 [(0, 5, true, 47), (3, 0, true, x3), (4, 2, true, x4), (5, 0, true, x5)] [(0, true, m 47 3), (0, true, x5)] (sM s m))))
    refine hY _ _ _ _ ?_
    refine And.intro (fun hc => ?_) (fun hc => ?_)
    · have h := h.1 hc
      refine hY _ _ _ _ (hY _ _ _ _ (?_ : Y 127 [(5, 2, true, 0), (0, 5, true, 47), (3, 0, true, x3), (4, 2, true, x4)] [] (sM s m)))
      refine l127 _ _ ?_
      exact (Exists.intro m (And.intro rfl h))
    · have h := h.2 hc
      refine hY _ _ _ _ (hY _ _ _ _ (hY _ _ _ _ (?_ : Y 42 [(0, 5, true, 47), (3, 0, true, x3), (4, 2, true, x4), (5, 0, true, x5)] [(0, true, x5), (3, true, m 47 2)] (sM s m))))
      refine hY _ _ _ _ ?_
      obtain ⟨n1, h⟩ := h
      refine Exists.intro n1 (And.intro h.1 ?_)
      refine (And.intro h.2.1 (And.intro h.2.2.1 ?_))
      refine hY _ _ _ _ (hY _ _ _ _ (hY _ _ _ _ (?_ : Y 49 [(6, 0, true, m ((m 47 2).toNat) x5), (0, 5, true, 47), (3, 0, true, x3), (4, 2, true, x4), (5, 0, true, x5)] [(5, true, 41)] (sM s m))))
      refine hY _ _ _ _ (?_ : Y 51 [(6, 0, true, m ((m 47 2).toNat) x5), (0, 5, true, 47), (3, 0, true, x3), (4, 2, true, x4), (5, 0, true, x5)] [(0, true, m ((m 47 2).toNat) x5), (5, true, 41)] (sM s m))
      refine hY _ _ _ _ ?_
      refine Exists.intro _ (And.intro (wc_130_r41_0t (m ((m 47 2).toNat) x5) _ _ h.2.2.2) (fun r2 m2 h => ?_))
      show Y 54 [(6, 0, true, m ((m 47 2).toNat) x5), (0, 5, true, 47), (3, 0, true, x3), (4, 2, true, x4), (5, 0, true, x5)] [(1, true, r2)] (sM s m2)
      refine hY _ _ _ _ ?_
      refine Exists.intro _ (And.intro (wc_26_1t r2 _ _ h) (fun r3 m3 h => ?_))
      refine hY _ _ _ _ (hY _ _ _ _ (hY _ _ _ _ (?_ : Y 62 [(8, 2, true, 0), (7, 0, true, r3), (6, 0, true, m ((m 47 2).toNat) x5), (0, 5, true, 47), (3, 0, true, x3), (4, 2, true, x4), (5, 0, true, x5)] [] (sM s m3))))
      refine l62 _ _ ?_
      exact (Exists.intro m3 (And.intro rfl (And.intro rfl h)))
theorem wk_148_22 (Q : sQ) (R : Int → hy_m → Prop) (s : sS) (x3 : Int) (x4 : Int) (x5 : Int) (hQ : ∀ x m', R x m' → Q x (sM s m')) (hr : sRg [(0, 5, 47), (3, 0, 0), (4, 2, 0), (5, 0, 0)] [x3, x4, x5]) (h : wq_148_22 x3 x4 x5 s.1 s.2.2.2 R) : kX dC 3 im_m148 2 22 (sCan [(0, 5, 47), (3, 0, 0), (4, 2, 0), (5, 0, 0)] [x3, x4, x5]) [] s Q :=
  h (fun x4 x5 m => sRg [(0, 5, 47), (3, 0, 0), (4, 2, 0), (5, 0, 0)] [x3, x4, x5] → kX dC 3 im_m148 2 22 (sCan [(0, 5, 47), (3, 0, 0), (4, 2, 0), (5, 0, 0)] [x3, x4, x5]) [] (sM s m) Q) (fun x4 x5 m h hr => wj_148_22 Q R s (fun x4 x5 m => sRg [(0, 5, 47), (3, 0, 0), (4, 2, 0), (5, 0, 0)] [x3, x4, x5] → kX dC 3 im_m148 2 22 (sCan [(0, 5, 47), (3, 0, 0), (4, 2, 0), (5, 0, 0)] [x3, x4, x5]) [] (sM s m) Q) x3 x4 x5 m  (fun _ _ _ hp hr => hp hr) hQ hr h) hr
def lb_148_0 (s : sS) (Q : sQ) (R : Int → hy_m → Prop) (x1 : Int) (x2 : Int) (x3 : Int) : Nat → Option (sL → sS → Prop) := sLb [(22, fun lv t => sG [(0, 5, 47), (3, 0, 0), (4, 2, 0), (5, 0, 0)] lv (ap3 (fun w3 w4 w5 => ∃ m', t = sM s m' ∧ wq_148_22 w3 w4 w5 s.1 m' R)))]
set_option maxRecDepth 30000 in
set_option maxHeartbeats 1000000 in
theorem wk_148_0 (Q : sQ) (R : Int → hy_m → Prop) (s : sS) (x1 : Int) (x2 : Int) (x3 : Int) (hQ : ∀ x m', R x m' → Q x (sM s m')) (hr : sRg [(0, 5, 47), (1, 0, 0), (2, 0, 0), (3, 0, 0)] [x1, x2, x3]) (h : wq_148 x1 x2 x3 s.1 s.2.2.2 R) : kX dC 3 im_m148 2 0 (sCan [(0, 5, 47), (1, 0, 0), (2, 0, 0), (3, 0, 0)] [x1, x2, x3]) [] s Q := by
  unfold wq_148 at h
  refine wz2_ok (cs := cs_148) (wr := []) (lb := lb_148_0 s Q R x1 x2 x3) cs_148_ok (kLb_c (kLab (Bd := fun xs t => ap3 (fun w3 w4 w5 => ∃ m', t = sM s m' ∧ wq_148_22 w3 w4 w5 s.1 m' R) xs) rfl (fun xs t r1 r2 hb => by obtain ⟨w3, w4, w5, rfl, hb⟩ := ap3_ok hb; obtain ⟨m', rfl, hx⟩ := hb; exact wk_148_22 Q R (sM s m') _ _ _ (fun x m'' hy => hQ x m'' hy) r1 hx)) kLb_n) (okL_can rfl hr) (fun Y hY hl => ?_)
  have l22 := hl 22 _ rfl
  refine hY _ _ _ _ (hY _ _ _ _ (?_ : Y 2 [(0, 5, true, 47), (1, 0, true, x1), (2, 0, true, x2), (3, 0, true, x3)] [(2, true, 0), (5, true, 47)] s))
  refine hY _ _ _ _ ?_
  refine hY _ _ _ _ (hY _ _ _ _ (?_ : Y 7 [(0, 5, true, 47), (1, 0, true, x1), (2, 0, true, x2), (3, 0, true, x3)] [(2, true, 0), (5, true, 47)] (sM s (hy_u s.2.2.2 47 3 0))))
  refine hY _ _ _ _ ?_
  refine hY _ _ _ _ (hY _ _ _ _ (hY _ _ _ _ (?_ : Y 13 [(0, 5, true, 47), (1, 0, true, x1), (2, 0, true, x2), (3, 0, true, x3)] [(0, true, x2), (0, true, x1), (5, true, 47)] (sM s (hy_u (hy_u s.2.2.2 47 3 0) 47 5 0)))))
  refine hY _ _ _ _ (?_ : Y 14 [(0, 5, true, 47), (1, 0, true, x1), (2, 0, true, x2), (3, 0, true, x3)] [(0, true, x3), (0, true, x2), (0, true, x1), (5, true, 47)] (sM s (hy_u (hy_u s.2.2.2 47 3 0) 47 5 0)))
  refine hY _ _ _ _ ?_
  refine Exists.intro _ (And.intro (wc_149_r47_0t_0t_0t x1 x2 x3 _ _ h) (fun r1 m1 h => ?_))
  refine hY _ _ _ _ (hY _ _ _ _ (hY _ _ _ _ (?_ : Y 22 [(5, 2, true, 0), (4, 2, true, r1), (0, 5, true, 47), (1, 0, true, x1), (2, 0, true, x2), (3, 0, true, x3)] [] (sM s m1))))
  refine l22 _ _ ?_
  exact (Exists.intro m1 (And.intro rfl h))
def we_148 : sFf := sEf 10 [(0, 5, 47), (1, 0, 0), (2, 0, 0), (3, 0, 0)] (fun xs s Q => ap3 (fun x1 x2 x3 => wq_148 x1 x2 x3 s.1 s.2.2.2 Q) xs)
theorem we_148_ok : kS dC 4 148 2 (.inl we_148) := sEf_ok (mi := im_m148) rfl rfl rfl (fun R xs s r1 hb => by obtain ⟨x1, x2, x3, rfl, hb⟩ := ap3_ok hb; exact wk_148_0 _ R s x1 x2 x3 (fun x m' hx => ⟨m', rfl, hx⟩) r1 hb)
/-- LM$Search.tryClause(III)Z -/
def wq_101_81 (x1 : Int) (x2 : Int) (x3 : Int) (x4 : Int) (s : sS) (Q : sQ) : Prop := wq_119 x4 x1 s.1 s.2.2.2 (fun r1 m1 => s.1.1 (x4).toNat = some (3, 9) ∧ (hy_r 0 (r1 + (m1 ((x4).toNat) 3)) ∧ (wq_148 x2 (r1 + (m1 ((x4).toNat) 3)) r1 s.1 m1 (fun r2 m2 => (r2 ≠ 0 → (0 ≤ x1 ∧ x1 < 20 ∧ (0 ≤ x1 ∧ x1 < 20 ∧ (hy_r 0 ((m2 40 x1) + 1) ∧ (s.1.1 (x4).toNat = some (3, 9) ∧ (∃ t3 n3 : Nat, s.1.1 ((hy_u m2 40 x1 ((m2 40 x1) + 1)) ((x4).toNat) 4).toNat = some (t3, n3) ∧ 99 ≤ t3 ∧ (((n3 : Int) ≤ 0 → (Q 1 (s.1, s.2.1, s.2.2.1, hy_u m2 40 x1 ((m2 40 x1) + 1)))) ∧ (0 < (n3 : Int) → (0 ≤ r1 ∧ 0 < (128 : Int) ∧ (wq_102 (r1 / 128) 0 (m2 36 6) x3 (s.1, s.2.1, s.2.2.1, hy_u m2 40 x1 ((m2 40 x1) + 1)) (fun r4 s4 => Q 1 (s4.1, s4.2.1, s4.2.2.1, hy_u s4.2.2.2 36 6 r4)))))))))))) ∧ (r2 = 0 → (Q 0 (s.1, s.2.1, s.2.2.1, m2)))))))
def wq_101 (x1 : Int) (x2 : Int) (x3 : Int) (s : sS) (Q : sQ) : Prop := (x1 < 0 → (Q 0 s)) ∧ (0 ≤ x1 → ((x1 < 20 → (hy_r 0 ((s.2.2.2 36 14) + 1) ∧ (0 ≤ x1 ∧ x1 < 20 ∧ (0 ≤ x1 ∧ x1 < 20 ∧ (hy_r 0 ((s.2.2.2 39 x1) + 1) ∧ (wq_53 21 x1 s.1 (hy_u (hy_u s.2.2.2 36 14 ((s.2.2.2 36 14) + 1)) 39 x1 ((s.2.2.2 39 x1) + 1)) (fun r1 m1 => wq_117 s.1 m1 (fun r2 m2 => ((m1 41 3) < r2 → (wq_101_81 x1 x2 x3 r1 (s.1, s.2.1, s.2.2.1, m2) Q)) ∧ (r2 ≤ (m1 41 3) → (wq_117 s.1 m2 (fun r3 m3 => hy_r 0 (r3 * 4) ∧ (wq_85 (if (r3 * 4) < 302 then (r3 * 4) else 302) (s.1, s.2.1, s.2.2.1, m3) (fun _ s4 => wq_101_81 x1 x2 x3 r1 s4 Q))))))))))))) ∧ (20 ≤ x1 → (Q 0 s))))
theorem wc_119_r41_3t_0t (x1 : Int) (x2 : Int) (s : sS) (R : Int → hy_m → Prop) (h : wq_119 x1 x2 s.1 s.2.2.2 R) : we_119 [(5, true, 41), (3, true, x1), (0, true, x2)] s R := h
theorem wc_148_r47_0t_0f_0t (x1 : Int) (x2 : Int) (x3 : Int) (s : sS) (R : Int → hy_m → Prop) (h : hy_r 0 x2 ∧ wq_148 x1 x2 x3 s.1 s.2.2.2 R) : we_148 [(5, true, 47), (0, true, x1), (0, false, x2), (0, true, x3)] s R := h
theorem wc_102_r36_0t_2t_3t_0t (x1 : Int) (x2 : Int) (x3 : Int) (x4 : Int) (s : sS) (R : Int → sS → Prop) (h : wq_102 x1 x2 x3 x4 s R) : we_102 [(5, true, 36), (0, true, x1), (2, true, x2), (3, true, x3), (0, true, x4)] s R := h
theorem wc_117_r41 (s : sS) (R : Int → hy_m → Prop) (h : wq_117 s.1 s.2.2.2 R) : we_117 [(5, true, 41)] s R := h
theorem wc_85_r36_0t (x1 : Int) (s : sS) (R : Int → sS → Prop) (h : wq_85 x1 s R) : we_85 [(5, true, 36), (0, true, x1)] s R := h
def cs_101 : List (Nat × Nat × sFS) := [(53, 3, .inl we_53), (85, 9, .inr we_85), (102, 3, .inr we_102), (117, 0, .inl we_117), (119, 0, .inl we_119), (148, 2, .inl we_148)]
theorem cs_101_ok : kCs dC 4 cs_101 := (kCs_c (Or.inr (Or.inr (Or.inr (Or.inl rfl)))) (we_53_ok.deep (by decide)) (kCs_c (Or.inr (Or.inr (Or.inr (Or.inr rfl)))) (we_85_ok.deep (by decide)) (kCs_c (Or.inr (Or.inr (Or.inr (Or.inl rfl)))) (we_102_ok.deep (by decide)) (kCs_c (Or.inl rfl) (we_117_ok.deep (by decide)) (kCs_c (Or.inl rfl) (we_119_ok.deep (by decide)) (kCs_c (Or.inr (Or.inr (Or.inl rfl))) (we_148_ok.deep (by decide)) kCs_n))))))
def lb_101_81 (s : sS) (Q : sQ) (x1 : Int) (x2 : Int) (x3 : Int) (x4 : Int) : Nat → Option (sL → sS → Prop) := sLb []
set_option maxRecDepth 30000 in
set_option maxHeartbeats 1000000 in
theorem wk_101_81 (Q : sQ) (s : sS) (x1 : Int) (x2 : Int) (x3 : Int) (x4 : Int) (hr : sRg [(0, 5, 36), (1, 0, 0), (2, 0, 0), (3, 0, 0), (4, 3, 0)] [x1, x2, x3, x4]) (h : wq_101_81 x1 x2 x3 x4 s Q) : kX dC 4 im_m101 2 81 (sCan [(0, 5, 36), (1, 0, 0), (2, 0, 0), (3, 0, 0), (4, 3, 0)] [x1, x2, x3, x4]) [] s Q := by
  unfold wq_101_81 at h
  refine wz2_ok (cs := cs_101) (wr := []) (lb := lb_101_81 s Q x1 x2 x3 x4) cs_101_ok kLb_n (okL_can rfl hr) (fun Y hY hl => ?_)
  refine hY _ _ _ _ (hY _ _ _ _ (hY _ _ _ _ (?_ : Y 87 [(0, 5, true, 36), (1, 0, true, x1), (2, 0, true, x2), (3, 0, true, x3), (4, 3, true, x4)] [(3, true, x4), (5, true, 41)] s)))
  refine hY _ _ _ _ (?_ : Y 88 [(0, 5, true, 36), (1, 0, true, x1), (2, 0, true, x2), (3, 0, true, x3), (4, 3, true, x4)] [(0, true, x1), (3, true, x4), (5, true, 41)] s)
  refine hY _ _ _ _ ?_
  refine Exists.intro _ (And.intro (wc_119_r41_3t_0t x4 x1 _ _ h) (fun r1 m1 h => ?_))
  refine hY _ _ _ _ (hY _ _ _ _ (hY _ _ _ _ (?_ : Y 97 [(5, 0, true, r1), (0, 5, true, 36), (1, 0, true, x1), (2, 0, true, x2), (3, 0, true, x3), (4, 3, true, x4)] [(5, true, 47)] (s.1, s.2.1, s.2.2.1, m1))))
  refine hY _ _ _ _ (hY _ _ _ _ (hY _ _ _ _ (?_ : Y 102 [(5, 0, true, r1), (0, 5, true, 36), (1, 0, true, x1), (2, 0, true, x2), (3, 0, true, x3), (4, 3, true, x4)] [(3, true, x4), (0, true, r1), (0, true, x2), (5, true, 47)] (s.1, s.2.1, s.2.2.1, m1))))
  refine hY _ _ _ _ ?_
  refine (And.intro h.1 ?_)
  refine hY _ _ _ _ (hY _ _ _ _ (?_ : Y 108 [(5, 0, true, r1), (0, 5, true, 36), (1, 0, true, x1), (2, 0, true, x2), (3, 0, true, x3), (4, 3, true, x4)] [(0, true, r1), (0, false, r1 + (m1 ((x4).toNat) 3)), (0, true, x2), (5, true, 47)] (s.1, s.2.1, s.2.2.1, m1)))
  refine hY _ _ _ _ ?_
  refine Exists.intro _ (And.intro (wc_148_r47_0t_0f_0t x2 (r1 + (m1 ((x4).toNat) 3)) r1 _ _ h.2) (fun r2 m2 h => ?_))
  show Y 111 [(5, 0, true, r1), (0, 5, true, 36), (1, 0, true, x1), (2, 0, true, x2), (3, 0, true, x3), (4, 3, true, x4)] [(2, true, r2)] (s.1, s.2.1, s.2.2.1, m2)
  refine hY _ _ _ _ ?_
  refine And.intro (fun hc => ?_) (fun hc => ?_)
  · have h := h.1 hc
    refine hY _ _ _ _ (hY _ _ _ _ (hY _ _ _ _ (?_ : Y 121 [(5, 0, true, r1), (0, 5, true, 36), (1, 0, true, x1), (2, 0, true, x2), (3, 0, true, x3), (4, 3, true, x4)] [(0, true, x1), (5, true, 40)] (s.1, s.2.1, s.2.2.1, m2))))
    refine hY _ _ _ _ (?_ : Y 122 [(5, 0, true, r1), (0, 5, true, 36), (1, 0, true, x1), (2, 0, true, x2), (3, 0, true, x3), (4, 3, true, x4)] [(0, true, x1), (5, true, 40), (0, true, x1), (5, true, 40)] (s.1, s.2.1, s.2.2.1, m2))
    refine hY _ _ _ _ ?_
    refine (And.intro h.1 (And.intro h.2.1 ?_))
    refine hY _ _ _ _ (hY _ _ _ _ (?_ : Y 125 [(5, 0, true, r1), (0, 5, true, 36), (1, 0, true, x1), (2, 0, true, x2), (3, 0, true, x3), (4, 3, true, x4)] [(0, false, (m2 40 x1) + 1), (0, true, x1), (5, true, 40)] (s.1, s.2.1, s.2.2.1, m2)))
    refine hY _ _ _ _ ?_
    refine (And.intro h.2.2.1 (And.intro h.2.2.2.1 ?_))
    refine And.intro h.2.2.2.2.1 ?_
    refine hY _ _ _ _ (?_ : Y 128 [(5, 0, true, r1), (0, 5, true, 36), (1, 0, true, x1), (2, 0, true, x2), (3, 0, true, x3), (4, 3, true, x4)] [(3, true, x4)] (s.1, s.2.1, s.2.2.1, hy_u m2 40 x1 ((m2 40 x1) + 1)))
    refine hY _ _ _ _ ?_
    refine (And.intro h.2.2.2.2.2.1 ?_)
    show Y 131 [(5, 0, true, r1), (0, 5, true, 36), (1, 0, true, x1), (2, 0, true, x2), (3, 0, true, x3), (4, 3, true, x4)] [(3, true, (hy_u m2 40 x1 ((m2 40 x1) + 1)) ((x4).toNat) 4)] (s.1, s.2.1, s.2.2.1, hy_u m2 40 x1 ((m2 40 x1) + 1))
    refine hY _ _ _ _ ?_
    obtain ⟨t3, n3, h⟩ := h.2.2.2.2.2.2
    refine Exists.intro t3 (Exists.intro n3 (And.intro h.1 (And.intro h.2.1 ?_)))
    show Y 132 [(5, 0, true, r1), (0, 5, true, 36), (1, 0, true, x1), (2, 0, true, x2), (3, 0, true, x3), (4, 3, true, x4)] [(0, true, (n3 : Int))] (s.1, s.2.1, s.2.2.1, hy_u m2 40 x1 ((m2 40 x1) + 1))
    refine hY _ _ _ _ ?_
    refine And.intro (fun hc => ?_) (fun hc => ?_)
    · have h := h.2.2.1 hc
      refine hY _ _ _ _ (?_ : Y 156 [(5, 0, true, r1), (0, 5, true, 36), (1, 0, true, x1), (2, 0, true, x2), (3, 0, true, x3), (4, 3, true, x4)] [(2, true, 1)] (s.1, s.2.1, s.2.2.1, hy_u m2 40 x1 ((m2 40 x1) + 1)))
      refine hY _ _ _ _ ?_
      exact h
    · have h := h.2.2.2 hc
      refine hY _ _ _ _ (hY _ _ _ _ (hY _ _ _ _ (?_ : Y 139 [(5, 0, true, r1), (0, 5, true, 36), (1, 0, true, x1), (2, 0, true, x2), (3, 0, true, x3), (4, 3, true, x4)] [(0, true, r1), (5, true, 36), (5, true, 36)] (s.1, s.2.1, s.2.2.1, hy_u m2 40 x1 ((m2 40 x1) + 1)))))
      refine hY _ _ _ _ (?_ : Y 142 [(5, 0, true, r1), (0, 5, true, 36), (1, 0, true, x1), (2, 0, true, x2), (3, 0, true, x3), (4, 3, true, x4)] [(0, true, 128), (0, true, r1), (5, true, 36), (5, true, 36)] (s.1, s.2.1, s.2.2.1, hy_u m2 40 x1 ((m2 40 x1) + 1)))
      refine hY _ _ _ _ ?_
      refine (And.intro h.1 (And.intro h.2.1 ?_))
      refine hY _ _ _ _ (hY _ _ _ _ (hY _ _ _ _ (?_ : Y 148 [(5, 0, true, r1), (0, 5, true, 36), (1, 0, true, x1), (2, 0, true, x2), (3, 0, true, x3), (4, 3, true, x4)] [(3, true, m2 36 6), (2, true, 0), (0, true, r1 / 128), (5, true, 36), (5, true, 36)] (s.1, s.2.1, s.2.2.1, hy_u m2 40 x1 ((m2 40 x1) + 1)))))
      refine hY _ _ _ _ (?_ : Y 149 [(5, 0, true, r1), (0, 5, true, 36), (1, 0, true, x1), (2, 0, true, x2), (3, 0, true, x3), (4, 3, true, x4)] [(0, true, x3), (3, true, m2 36 6), (2, true, 0), (0, true, r1 / 128), (5, true, 36), (5, true, 36)] (s.1, s.2.1, s.2.2.1, hy_u m2 40 x1 ((m2 40 x1) + 1)))
      refine hY _ _ _ _ ?_
      refine Exists.intro _ (And.intro (wc_102_r36_0t_2t_3t_0t (r1 / 128) 0 (m2 36 6) x3 _ _ h.2.2) (fun r4 s4 h => ?_))
      show Y 152 [(5, 0, true, r1), (0, 5, true, 36), (1, 0, true, x1), (2, 0, true, x2), (3, 0, true, x3), (4, 3, true, x4)] [(3, true, r4), (5, true, 36)] s4
      refine hY _ _ _ _ ?_
      refine hY _ _ _ _ (?_ : Y 156 [(5, 0, true, r1), (0, 5, true, 36), (1, 0, true, x1), (2, 0, true, x2), (3, 0, true, x3), (4, 3, true, x4)] [(2, true, 1)] (s4.1, s4.2.1, s4.2.2.1, hy_u s4.2.2.2 36 6 r4))
      refine hY _ _ _ _ ?_
      exact h
  · have h := h.2 hc
    refine hY _ _ _ _ (?_ : Y 115 [(5, 0, true, r1), (0, 5, true, 36), (1, 0, true, x1), (2, 0, true, x2), (3, 0, true, x3), (4, 3, true, x4)] [(2, true, 0)] (s.1, s.2.1, s.2.2.1, m2))
    refine hY _ _ _ _ ?_
    exact h
def lb_101_0 (s : sS) (Q : sQ) (x1 : Int) (x2 : Int) (x3 : Int) : Nat → Option (sL → sS → Prop) := sLb [(81, fun lv t => sG [(0, 5, 36), (1, 0, 0), (2, 0, 0), (3, 0, 0), (4, 3, 0)] lv (ap4 (fun w1 w2 w3 w4 => wq_101_81 w1 w2 w3 w4 t Q)))]
set_option maxRecDepth 30000 in
set_option maxHeartbeats 1000000 in
theorem wk_101_0 (Q : sQ) (s : sS) (x1 : Int) (x2 : Int) (x3 : Int) (hr : sRg [(0, 5, 36), (1, 0, 0), (2, 0, 0), (3, 0, 0)] [x1, x2, x3]) (h : wq_101 x1 x2 x3 s Q) : kX dC 4 im_m101 2 0 (sCan [(0, 5, 36), (1, 0, 0), (2, 0, 0), (3, 0, 0)] [x1, x2, x3]) [] s Q := by
  unfold wq_101 at h
  refine wz2_ok (cs := cs_101) (wr := []) (lb := lb_101_0 s Q x1 x2 x3) cs_101_ok (kLb_c (kLab (Bd := fun xs t => ap4 (fun w1 w2 w3 w4 => wq_101_81 w1 w2 w3 w4 t Q) xs) rfl (fun xs t r1 r2 hb => by obtain ⟨w1, w2, w3, w4, rfl, hb⟩ := ap4_ok hb; exact wk_101_81 Q t _ _ _ _ r1 hb)) kLb_n) (okL_can rfl hr) (fun Y hY hl => ?_)
  have l81 := hl 81 _ rfl
  refine hY _ _ _ _ (?_ : Y 1 [(0, 5, true, 36), (1, 0, true, x1), (2, 0, true, x2), (3, 0, true, x3)] [(0, true, x1)] s)
  refine hY _ _ _ _ ?_
  refine And.intro (fun hc => ?_) (fun hc => ?_)
  · have h := h.1 hc
    refine hY _ _ _ _ (?_ : Y 14 [(0, 5, true, 36), (1, 0, true, x1), (2, 0, true, x2), (3, 0, true, x3)] [(2, true, 0)] s)
    refine hY _ _ _ _ ?_
    exact h
  · have h := h.2 hc
    refine hY _ _ _ _ (hY _ _ _ _ (hY _ _ _ _ (?_ : Y 9 [(0, 5, true, 36), (1, 0, true, x1), (2, 0, true, x2), (3, 0, true, x3)] [(5, true, 39), (0, true, x1)] s)))
    refine hY _ _ _ _ (?_ : Y 10 [(0, 5, true, 36), (1, 0, true, x1), (2, 0, true, x2), (3, 0, true, x3)] [(0, true, 20), (0, true, x1)] s)
    refine hY _ _ _ _ ?_
    refine And.intro (fun hc => ?_) (fun hc => ?_)
    · have h := h.1 hc
      refine hY _ _ _ _ (hY _ _ _ _ (hY _ _ _ _ (?_ : Y 20 [(0, 5, true, 36), (1, 0, true, x1), (2, 0, true, x2), (3, 0, true, x3)] [(0, true, s.2.2.2 36 14), (5, true, 36)] s)))
      refine hY _ _ _ _ (hY _ _ _ _ (?_ : Y 22 [(0, 5, true, 36), (1, 0, true, x1), (2, 0, true, x2), (3, 0, true, x3)] [(0, false, (s.2.2.2 36 14) + 1), (5, true, 36)] s))
      refine hY _ _ _ _ ?_
      refine And.intro h.1 ?_
      refine hY _ _ _ _ (hY _ _ _ _ (hY _ _ _ _ (?_ : Y 30 [(0, 5, true, 36), (1, 0, true, x1), (2, 0, true, x2), (3, 0, true, x3)] [(0, true, x1), (5, true, 39)] (s.1, s.2.1, s.2.2.1, hy_u s.2.2.2 36 14 ((s.2.2.2 36 14) + 1)))))
      refine hY _ _ _ _ (?_ : Y 31 [(0, 5, true, 36), (1, 0, true, x1), (2, 0, true, x2), (3, 0, true, x3)] [(0, true, x1), (5, true, 39), (0, true, x1), (5, true, 39)] (s.1, s.2.1, s.2.2.1, hy_u s.2.2.2 36 14 ((s.2.2.2 36 14) + 1)))
      refine hY _ _ _ _ ?_
      refine (And.intro h.2.1 (And.intro h.2.2.1 ?_))
      refine hY _ _ _ _ (hY _ _ _ _ (?_ : Y 34 [(0, 5, true, 36), (1, 0, true, x1), (2, 0, true, x2), (3, 0, true, x3)] [(0, false, (s.2.2.2 39 x1) + 1), (0, true, x1), (5, true, 39)] (s.1, s.2.1, s.2.2.1, hy_u s.2.2.2 36 14 ((s.2.2.2 36 14) + 1))))
      refine hY _ _ _ _ ?_
      refine (And.intro h.2.2.2.1 (And.intro h.2.2.2.2.1 ?_))
      refine And.intro h.2.2.2.2.2.1 ?_
      refine hY _ _ _ _ (hY _ _ _ _ (hY _ _ _ _ (?_ : Y 40 [(0, 5, true, 36), (1, 0, true, x1), (2, 0, true, x2), (3, 0, true, x3)] [(0, true, x1), (5, true, 21)] (s.1, s.2.1, s.2.2.1, hy_u (hy_u s.2.2.2 36 14 ((s.2.2.2 36 14) + 1)) 39 x1 ((s.2.2.2 39 x1) + 1)))))
      refine hY _ _ _ _ ?_
      refine Exists.intro _ (And.intro (wc_53_r21_0t x1 _ _ h.2.2.2.2.2.2) (fun r1 m1 h => ?_))
      refine hY _ _ _ _ (hY _ _ _ _ (hY _ _ _ _ (?_ : Y 49 [(4, 3, true, r1), (0, 5, true, 36), (1, 0, true, x1), (2, 0, true, x2), (3, 0, true, x3)] [(5, true, 41)] (s.1, s.2.1, s.2.2.1, m1))))
      refine hY _ _ _ _ (hY _ _ _ _ (hY _ _ _ _ (?_ : Y 56 [(4, 3, true, r1), (0, 5, true, 36), (1, 0, true, x1), (2, 0, true, x2), (3, 0, true, x3)] [(5, true, 41), (0, true, m1 41 3)] (s.1, s.2.1, s.2.2.1, m1))))
      refine hY _ _ _ _ ?_
      refine Exists.intro _ (And.intro (wc_117_r41 _ _ h) (fun r2 m2 h => ?_))
      show Y 59 [(4, 3, true, r1), (0, 5, true, 36), (1, 0, true, x1), (2, 0, true, x2), (3, 0, true, x3)] [(0, true, r2), (0, true, m1 41 3)] (s.1, s.2.1, s.2.2.1, m2)
      refine hY _ _ _ _ ?_
      refine And.intro (fun hc => ?_) (fun hc => ?_)
      · have h := h.1 hc
        show Y 81 [(4, 3, true, r1), (0, 5, true, 36), (1, 0, true, x1), (2, 0, true, x2), (3, 0, true, x3)] [] (s.1, s.2.1, s.2.2.1, m2)
        refine l81 _ _ ?_
        exact h
      · have h := h.2 hc
        refine hY _ _ _ _ (hY _ _ _ _ (hY _ _ _ _ (?_ : Y 67 [(4, 3, true, r1), (0, 5, true, 36), (1, 0, true, x1), (2, 0, true, x2), (3, 0, true, x3)] [(5, true, 36), (0, true, 302), (5, true, 36)] (s.1, s.2.1, s.2.2.1, m2))))
        refine hY _ _ _ _ (?_ : Y 70 [(4, 3, true, r1), (0, 5, true, 36), (1, 0, true, x1), (2, 0, true, x2), (3, 0, true, x3)] [(5, true, 41), (0, true, 302), (5, true, 36)] (s.1, s.2.1, s.2.2.1, m2))
        refine hY _ _ _ _ ?_
        refine Exists.intro _ (And.intro (wc_117_r41 _ _ h) (fun r3 m3 h => ?_))
        refine hY _ _ _ _ (hY _ _ _ _ (?_ : Y 75 [(4, 3, true, r1), (0, 5, true, 36), (1, 0, true, x1), (2, 0, true, x2), (3, 0, true, x3)] [(0, false, r3 * 4), (0, true, 302), (5, true, 36)] (s.1, s.2.1, s.2.2.1, m3)))
        refine hY _ _ _ _ ?_
        refine And.intro h.1 ?_
        show Y 78 [(4, 3, true, r1), (0, 5, true, 36), (1, 0, true, x1), (2, 0, true, x2), (3, 0, true, x3)] [(0, true, (if (r3 * 4) < 302 then (r3 * 4) else 302)), (5, true, 36)] (s.1, s.2.1, s.2.2.1, m3)
        refine hY _ _ _ _ ?_
        refine Exists.intro _ (And.intro (wc_85_r36_0t (if (r3 * 4) < 302 then (r3 * 4) else 302) _ _ h.2) (fun r4 s4 h => ?_))
        show Y 81 [(4, 3, true, r1), (0, 5, true, 36), (1, 0, true, x1), (2, 0, true, x2), (3, 0, true, x3)] [] s4
        refine l81 _ _ ?_
        exact h
    · have h := h.2 hc
      refine hY _ _ _ _ (?_ : Y 14 [(0, 5, true, 36), (1, 0, true, x1), (2, 0, true, x2), (3, 0, true, x3)] [(2, true, 0)] s)
      refine hY _ _ _ _ ?_
      exact h
def we_101 : sF := sE 6 [(0, 5, 36), (1, 0, 0), (2, 0, 0), (3, 0, 0)] (fun xs s Q => ap3 (fun x1 x2 x3 => wq_101 x1 x2 x3 s Q) xs)
theorem we_101_ok : kS dC 5 101 2 (.inr we_101) := sE_ok (mi := im_m101) rfl rfl rfl (fun Q xs s r1 hb => by obtain ⟨x1, x2, x3, rfl, hb⟩ := ap3_ok hb; exact wk_101_0 Q s x1 x2 x3 r1 hb)
/-- LM$Search.backtrack()V -/
def wq_100_99 (P2 : Int → sS → Prop) (x1 : Int) (x2 : Int) (x3 : Int) (x4 : Int) (s : sS) (Q : sQ) : Prop := s.1.1 (x2).toNat = some (2, 6) ∧ (wq_38 x2 s.1 s.2.2.2 (fun r1 m1 => (r1 ≠ 0 → (Q 0 (s.1, s.2.1, s.2.2.1, m1))) ∧ (r1 = 0 → (s.1.1 (x2).toNat = some (2, 6) ∧ (wq_101 x4 (m1 ((x2).toNat) 1) x3 (s.1, s.2.1, s.2.2.1, m1) (fun r2 s2 => (r2 = 0 → (hy_r 0 (x1 + 1) ∧ (P2 (x1 + 1) s2))) ∧ (r2 ≠ 0 → (Q 0 s2))))))))
def wf_100_2 (Q : sQ) (P2 : Int → sS → Prop) (x1 : Int) (s : sS) : Prop := (1000000 ≤ x1 → (Q 0 s)) ∧ (x1 < 1000000 → (wq_110 0 s.2.2.2 (fun r1 m1 => (r1 = 0 → (wq_88 3 0 s.1 m1 (fun _ m2 => Q 0 (s.1, s.2.1, s.2.2.1, m2)))) ∧ (r1 ≠ 0 → (s.1.1 (r1).toNat = some (2, 6) ∧ (s.1.1 (r1).toNat = some (2, 6) ∧ (wq_121 (m1 ((r1).toNat) 3) (m1 ((r1).toNat) 4) s.1 m1 (fun _ m3 => s.1.1 (r1).toNat = some (2, 6) ∧ (s.1.1 (r1).toNat = some (2, 6) ∧ (s.1.1 (r1).toNat = some (2, 6) ∧ (wq_27 ((hy_u (hy_u m3 36 5 (m3 ((r1).toNat) 5)) 36 6 ((hy_u m3 36 5 (m3 ((r1).toNat) 5)) ((r1).toNat) 0)) ((r1).toNat) 2) (hy_u (hy_u m3 36 5 (m3 ((r1).toNat) 5)) 36 6 ((hy_u m3 36 5 (m3 ((r1).toNat) 5)) ((r1).toNat) 0)) (fun r4 m4 => s.1.1 (r1).toNat = some (2, 6) ∧ (s.1.1 (r1).toNat = some (2, 6) ∧ (s.1.1 (r1).toNat = some (2, 6) ∧ (s.1.1 (r1).toNat = some (2, 6) ∧ ((((hy_u m4 ((r1).toNat) 2 (iA (m4 ((r1).toNat) 2) ((m4 ((r1).toNat) 2) - 1))) ((r1).toNat) 2) ≠ 0 → (hy_r 0 ((m1 36 8) - 1) ∧ (wq_100_99 P2 x1 r1 ((m1 36 8) - 1) r4 (s.1, s.2.1, s.2.2.1, hy_u m4 ((r1).toNat) 2 (iA (m4 ((r1).toNat) 2) ((m4 ((r1).toNat) 2) - 1))) Q))) ∧ (((hy_u m4 ((r1).toNat) 2 (iA (m4 ((r1).toNat) 2) ((m4 ((r1).toNat) 2) - 1))) ((r1).toNat) 2) = 0 → (hy_r 0 ((m1 36 8) - 1) ∧ (wq_99 ((m1 36 8) - 1) s.1 (hy_u m4 ((r1).toNat) 2 (iA (m4 ((r1).toNat) 2) ((m4 ((r1).toNat) 2) - 1))) (fun _ m5 => hy_r 0 ((m1 36 8) - 1) ∧ (wq_100_99 P2 x1 r1 ((m1 36 8) - 1) r4 (s.1, s.2.1, s.2.2.1, m5) Q)))))))))))))))))))))
def wq_100_2 (x1 : Int) (s : sS) (Q : sQ) : Prop := wL1 sS (wf_100_2 Q) x1 s
def wq_100 (s : sS) (Q : sQ) : Prop := wq_100_2 0 s Q
theorem wc_38_3t (x0 : Int) (s : sS) (R : Int → hy_m → Prop) (h : wq_38 x0 s.1 s.2.2.2 R) : we_38 [(3, true, x0)] s R := h
theorem wc_101_r36_0t_0t_0t (x1 : Int) (x2 : Int) (x3 : Int) (s : sS) (R : Int → sS → Prop) (h : wq_101 x1 x2 x3 s R) : we_101 [(5, true, 36), (0, true, x1), (0, true, x2), (0, true, x3)] s R := h
theorem wc_88_r36_0t_2t (x1 : Int) (x2 : Int) (s : sS) (R : Int → hy_m → Prop) (h : wq_88 x1 x2 s.1 s.2.2.2 R) : we_88 [(5, true, 36), (0, true, x1), (2, true, x2)] s R := h
theorem wc_121_r41_0t_0t (x1 : Int) (x2 : Int) (s : sS) (R : Int → hy_m → Prop) (h : wq_121 x1 x2 s.1 s.2.2.2 R) : we_121 [(5, true, 41), (0, true, x1), (0, true, x2)] s R := h
theorem wc_99_r36_0f (x1 : Int) (s : sS) (R : Int → hy_m → Prop) (h : hy_r 0 x1 ∧ wq_99 x1 s.1 s.2.2.2 R) : we_99 [(5, true, 36), (0, false, x1)] s R := h
def cs_100 : List (Nat × Nat × sFS) := [(27, 0, .inl we_27), (38, 2, .inl we_38), (88, 9, .inl we_88), (99, 9, .inl we_99), (101, 2, .inr we_101), (110, 3, .inl we_110), (121, 9, .inl we_121)]
theorem cs_100_ok : kCs dC 5 cs_100 := (kCs_c (Or.inl rfl) (we_27_ok.deep (by decide)) (kCs_c (Or.inr (Or.inr (Or.inl rfl))) (we_38_ok.deep (by decide)) (kCs_c (Or.inr (Or.inr (Or.inr (Or.inr rfl)))) (we_88_ok.deep (by decide)) (kCs_c (Or.inr (Or.inr (Or.inr (Or.inr rfl)))) (we_99_ok.deep (by decide)) (kCs_c (Or.inr (Or.inr (Or.inl rfl))) (we_101_ok.deep (by decide)) (kCs_c (Or.inr (Or.inr (Or.inr (Or.inl rfl)))) (we_110_ok.deep (by decide)) (kCs_c (Or.inr (Or.inr (Or.inr (Or.inr rfl)))) (we_121_ok.deep (by decide)) kCs_n)))))))
def lb_100_99 (s : sS) (Q : sQ) (P2 : Int → sS → Prop) (x1 : Int) (x2 : Int) (x3 : Int) (x4 : Int) : Nat → Option (sL → sS → Prop) := sLb [(2, fun lv t => sG [(0, 5, 36), (1, 0, 0)] lv (ap1 (fun w1 => P2 w1 t)))]
set_option maxRecDepth 30000 in
set_option maxHeartbeats 1000000 in
theorem wk_100_99 (Q : sQ) (s : sS) (P2 : Int → sS → Prop) (x1 : Int) (x2 : Int) (x3 : Int) (x4 : Int) (hP2 : ∀ (z1 : Int) (t : sS), P2 z1 t → sRg [(0, 5, 36), (1, 0, 0)] [z1] → kX dC 5 im_m100 9 2 (sCan [(0, 5, 36), (1, 0, 0)] [z1]) [] t Q) (hr : sRg [(0, 5, 36), (1, 0, 0), (2, 3, 0), (3, 0, 0), (4, 0, 0)] [x1, x2, x3, x4]) (h : wq_100_99 P2 x1 x2 x3 x4 s Q) : kX dC 5 im_m100 9 99 (sCan [(0, 5, 36), (1, 0, 0), (2, 3, 0), (3, 0, 0), (4, 0, 0)] [x1, x2, x3, x4]) [] s Q := by
  unfold wq_100_99 at h
  refine wz2_ok (cs := cs_100) (wr := []) (lb := lb_100_99 s Q P2 x1 x2 x3 x4) cs_100_ok (kLb_c (kLab (Bd := fun xs t => ap1 (fun w1 => P2 w1 t) xs) rfl (fun xs t r1 r2 hb => by obtain ⟨w1, rfl, hb⟩ := ap1_ok hb; exact hP2 _ t hb r1)) kLb_n) (okL_can rfl hr) (fun Y hY hl => ?_)
  have l2 := hl 2 _ rfl
  refine hY _ _ _ _ (?_ : Y 100 [(0, 5, true, 36), (1, 0, true, x1), (2, 3, true, x2), (3, 0, true, x3), (4, 0, true, x4)] [(3, true, x2)] s)
  refine hY _ _ _ _ ?_
  refine (And.intro h.1 ?_)
  refine Exists.intro _ (And.intro (wc_38_3t x2 _ _ h.2) (fun r1 m1 h => ?_))
  show Y 103 [(0, 5, true, 36), (1, 0, true, x1), (2, 3, true, x2), (3, 0, true, x3), (4, 0, true, x4)] [(2, true, r1)] (s.1, s.2.1, s.2.2.1, m1)
  refine hY _ _ _ _ ?_
  refine And.intro (fun hc => ?_) (fun hc => ?_)
  · have h := h.1 hc
    show Y 120 [(0, 5, true, 36), (1, 0, true, x1), (2, 3, true, x2), (3, 0, true, x3), (4, 0, true, x4)] [] (s.1, s.2.1, s.2.2.1, m1)
    refine hY _ _ _ _ ?_
    exact h
  · have h := h.2 hc
    refine hY _ _ _ _ (hY _ _ _ _ (hY _ _ _ _ (?_ : Y 110 [(0, 5, true, 36), (1, 0, true, x1), (2, 3, true, x2), (3, 0, true, x3), (4, 0, true, x4)] [(3, true, x2), (0, true, x4), (5, true, 36)] (s.1, s.2.1, s.2.2.1, m1))))
    refine hY _ _ _ _ ?_
    refine (And.intro h.1 ?_)
    refine hY _ _ _ _ (?_ : Y 114 [(0, 5, true, 36), (1, 0, true, x1), (2, 3, true, x2), (3, 0, true, x3), (4, 0, true, x4)] [(0, true, x3), (0, true, m1 ((x2).toNat) 1), (0, true, x4), (5, true, 36)] (s.1, s.2.1, s.2.2.1, m1))
    refine hY _ _ _ _ ?_
    refine Exists.intro _ (And.intro (wc_101_r36_0t_0t_0t x4 (m1 ((x2).toNat) 1) x3 _ _ h.2) (fun r2 s2 h => ?_))
    show Y 117 [(0, 5, true, 36), (1, 0, true, x1), (2, 3, true, x2), (3, 0, true, x3), (4, 0, true, x4)] [(2, true, r2)] s2
    refine hY _ _ _ _ ?_
    refine And.intro (fun hc => ?_) (fun hc => ?_)
    · have h := h.1 hc
      refine hY _ _ _ _ (hY _ _ _ _ (?_ : Y 2 [(1, 0, false, x1 + 1), (0, 5, true, 36), (2, 3, true, x2), (3, 0, true, x3), (4, 0, true, x4)] [] s2))
      refine l2 _ _ ?_
      refine And.intro h.1 ?_
      exact h.2
    · have h := h.2 hc
      show Y 120 [(0, 5, true, 36), (1, 0, true, x1), (2, 3, true, x2), (3, 0, true, x3), (4, 0, true, x4)] [] s2
      refine hY _ _ _ _ ?_
      exact h
def lb_100_2 (s : sS) (Q : sQ) (P2 : Int → sS → Prop) (x1 : Int) : Nat → Option (sL → sS → Prop) := sLb [(99, fun lv t => sG [(0, 5, 36), (1, 0, 0), (2, 3, 0), (3, 0, 0), (4, 0, 0)] lv (ap4 (fun w1 w2 w3 w4 => wq_100_99 P2 w1 w2 w3 w4 t Q))), (2, fun lv t => sG [(0, 5, 36), (1, 0, 0)] lv (ap1 (fun w1 => P2 w1 t)))]
set_option maxRecDepth 30000 in
set_option maxHeartbeats 1000000 in
theorem wj_100_2 (Q : sQ) (s : sS) (P2 : Int → sS → Prop) (x1 : Int) (hP2 : ∀ (z1 : Int) (t : sS), P2 z1 t → sRg [(0, 5, 36), (1, 0, 0)] [z1] → kX dC 5 im_m100 9 2 (sCan [(0, 5, 36), (1, 0, 0)] [z1]) [] t Q) (hr : sRg [(0, 5, 36), (1, 0, 0)] [x1]) (h : wf_100_2 Q P2 x1 s) : kX dC 5 im_m100 9 2 (sCan [(0, 5, 36), (1, 0, 0)] [x1]) [] s Q := by
  unfold wf_100_2 at h
  refine wz2_ok (cs := cs_100) (wr := []) (lb := lb_100_2 s Q P2 x1) cs_100_ok (kLb_c (kLab (Bd := fun xs t => ap4 (fun w1 w2 w3 w4 => wq_100_99 P2 w1 w2 w3 w4 t Q) xs) rfl (fun xs t r1 r2 hb => by obtain ⟨w1, w2, w3, w4, rfl, hb⟩ := ap4_ok hb; exact wk_100_99 Q t P2 _ _ _ _ hP2 r1 hb)) (kLb_c (kLab (Bd := fun xs t => ap1 (fun w1 => P2 w1 t) xs) rfl (fun xs t r1 r2 hb => by obtain ⟨w1, rfl, hb⟩ := ap1_ok hb; exact hP2 _ t hb r1)) kLb_n)) (okL_can rfl hr) (fun Y hY hl => ?_)
  have l99 := hl 99 _ rfl
  have l2 := hl 2 _ rfl
  refine hY _ _ _ _ (hY _ _ _ _ (?_ : Y 5 [(0, 5, true, 36), (1, 0, true, x1)] [(0, true, 1000000), (0, true, x1)] s))
  refine hY _ _ _ _ ?_
  refine And.intro (fun hc => ?_) (fun hc => ?_)
  · have h := h.1 hc
    show Y 127 [(0, 5, true, 36), (1, 0, true, x1)] [] s
    refine hY _ _ _ _ ?_
    exact h
  · have h := h.2 hc
    refine hY _ _ _ _ (hY _ _ _ _ (?_ : Y 10 [(0, 5, true, 36), (1, 0, true, x1)] [(2, true, 0), (5, true, 36)] s))
    refine hY _ _ _ _ ?_
    refine Exists.intro _ (And.intro (wc_110_r36_2t 0 _ _ h) (fun r1 m1 h => ?_))
    refine hY _ _ _ _ (hY _ _ _ _ (?_ : Y 15 [(2, 3, true, r1), (0, 5, true, 36), (1, 0, true, x1)] [(3, true, r1)] (s.1, s.2.1, s.2.2.1, m1)))
    refine hY _ _ _ _ ?_
    refine And.intro (fun hc => ?_) (fun hc => ?_)
    · have h := h.1 hc
      refine hY _ _ _ _ (hY _ _ _ _ (hY _ _ _ _ (?_ : Y 21 [(2, 3, true, r1), (0, 5, true, 36), (1, 0, true, x1)] [(2, true, 0), (0, true, 3), (5, true, 36)] (s.1, s.2.1, s.2.2.1, m1))))
      refine hY _ _ _ _ ?_
      refine Exists.intro _ (And.intro (wc_88_r36_0t_2t 3 0 _ _ h) (fun r2 m2 h => ?_))
      show Y 24 [(2, 3, true, r1), (0, 5, true, 36), (1, 0, true, x1)] [] (s.1, s.2.1, s.2.2.1, m2)
      refine hY _ _ _ _ ?_
      exact h
    · have h := h.2 hc
      refine hY _ _ _ _ (hY _ _ _ _ (hY _ _ _ _ (?_ : Y 30 [(2, 3, true, r1), (0, 5, true, 36), (1, 0, true, x1)] [(2, true, 1), (0, true, m1 36 8)] (s.1, s.2.1, s.2.2.1, m1))))
      refine hY _ _ _ _ (hY _ _ _ _ (hY _ _ _ _ (?_ : Y 33 [(3, 0, false, (m1 36 8) - 1), (2, 3, true, r1), (0, 5, true, 36), (1, 0, true, x1)] [(5, true, 36)] (s.1, s.2.1, s.2.2.1, m1))))
      refine hY _ _ _ _ (hY _ _ _ _ (?_ : Y 37 [(3, 0, false, (m1 36 8) - 1), (2, 3, true, r1), (0, 5, true, 36), (1, 0, true, x1)] [(3, true, r1), (5, true, 41)] (s.1, s.2.1, s.2.2.1, m1)))
      refine hY _ _ _ _ ?_
      refine (And.intro h.1 ?_)
      refine hY _ _ _ _ (?_ : Y 41 [(3, 0, false, (m1 36 8) - 1), (2, 3, true, r1), (0, 5, true, 36), (1, 0, true, x1)] [(3, true, r1), (0, true, m1 ((r1).toNat) 3), (5, true, 41)] (s.1, s.2.1, s.2.2.1, m1))
      refine hY _ _ _ _ ?_
      refine (And.intro h.2.1 ?_)
      show Y 44 [(3, 0, false, (m1 36 8) - 1), (2, 3, true, r1), (0, 5, true, 36), (1, 0, true, x1)] [(0, true, m1 ((r1).toNat) 4), (0, true, m1 ((r1).toNat) 3), (5, true, 41)] (s.1, s.2.1, s.2.2.1, m1)
      refine hY _ _ _ _ ?_
      refine Exists.intro _ (And.intro (wc_121_r41_0t_0t (m1 ((r1).toNat) 3) (m1 ((r1).toNat) 4) _ _ h.2.2) (fun r3 m3 h => ?_))
      refine hY _ _ _ _ (hY _ _ _ _ (?_ : Y 49 [(3, 0, false, (m1 36 8) - 1), (2, 3, true, r1), (0, 5, true, 36), (1, 0, true, x1)] [(3, true, r1), (5, true, 36)] (s.1, s.2.1, s.2.2.1, m3)))
      refine hY _ _ _ _ ?_
      refine (And.intro h.1 ?_)
      show Y 52 [(3, 0, false, (m1 36 8) - 1), (2, 3, true, r1), (0, 5, true, 36), (1, 0, true, x1)] [(0, true, m3 ((r1).toNat) 5), (5, true, 36)] (s.1, s.2.1, s.2.2.1, m3)
      refine hY _ _ _ _ ?_
      refine hY _ _ _ _ (hY _ _ _ _ (?_ : Y 57 [(3, 0, false, (m1 36 8) - 1), (2, 3, true, r1), (0, 5, true, 36), (1, 0, true, x1)] [(3, true, r1), (5, true, 36)] (s.1, s.2.1, s.2.2.1, hy_u m3 36 5 (m3 ((r1).toNat) 5))))
      refine hY _ _ _ _ ?_
      refine (And.intro h.2.1 ?_)
      show Y 60 [(3, 0, false, (m1 36 8) - 1), (2, 3, true, r1), (0, 5, true, 36), (1, 0, true, x1)] [(3, true, (hy_u m3 36 5 (m3 ((r1).toNat) 5)) ((r1).toNat) 0), (5, true, 36)] (s.1, s.2.1, s.2.2.1, hy_u m3 36 5 (m3 ((r1).toNat) 5))
      refine hY _ _ _ _ ?_
      refine hY _ _ _ _ (?_ : Y 64 [(3, 0, false, (m1 36 8) - 1), (2, 3, true, r1), (0, 5, true, 36), (1, 0, true, x1)] [(3, true, r1)] (s.1, s.2.1, s.2.2.1, hy_u (hy_u m3 36 5 (m3 ((r1).toNat) 5)) 36 6 ((hy_u m3 36 5 (m3 ((r1).toNat) 5)) ((r1).toNat) 0)))
      refine hY _ _ _ _ ?_
      refine (And.intro h.2.2.1 ?_)
      show Y 67 [(3, 0, false, (m1 36 8) - 1), (2, 3, true, r1), (0, 5, true, 36), (1, 0, true, x1)] [(0, true, (hy_u (hy_u m3 36 5 (m3 ((r1).toNat) 5)) 36 6 ((hy_u m3 36 5 (m3 ((r1).toNat) 5)) ((r1).toNat) 0)) ((r1).toNat) 2)] (s.1, s.2.1, s.2.2.1, hy_u (hy_u m3 36 5 (m3 ((r1).toNat) 5)) 36 6 ((hy_u m3 36 5 (m3 ((r1).toNat) 5)) ((r1).toNat) 0))
      refine hY _ _ _ _ ?_
      refine Exists.intro _ (And.intro (wc_27_0t ((hy_u (hy_u m3 36 5 (m3 ((r1).toNat) 5)) 36 6 ((hy_u m3 36 5 (m3 ((r1).toNat) 5)) ((r1).toNat) 0)) ((r1).toNat) 2) _ _ h.2.2.2) (fun r4 m4 h => ?_))
      refine hY _ _ _ _ (hY _ _ _ _ (hY _ _ _ _ (?_ : Y 74 [(4, 0, true, r4), (3, 0, false, (m1 36 8) - 1), (2, 3, true, r1), (0, 5, true, 36), (1, 0, true, x1)] [(3, true, r1), (3, true, r1)] (s.1, s.2.1, s.2.2.1, m4))))
      refine hY _ _ _ _ ?_
      refine (And.intro h.1 ?_)
      refine hY _ _ _ _ (?_ : Y 78 [(4, 0, true, r4), (3, 0, false, (m1 36 8) - 1), (2, 3, true, r1), (0, 5, true, 36), (1, 0, true, x1)] [(3, true, r1), (0, true, m4 ((r1).toNat) 2), (3, true, r1)] (s.1, s.2.1, s.2.2.1, m4))
      refine hY _ _ _ _ ?_
      refine (And.intro h.2.1 ?_)
      refine hY _ _ _ _ (hY _ _ _ _ (?_ : Y 83 [(4, 0, true, r4), (3, 0, false, (m1 36 8) - 1), (2, 3, true, r1), (0, 5, true, 36), (1, 0, true, x1)] [(0, false, (m4 ((r1).toNat) 2) - 1), (0, true, m4 ((r1).toNat) 2), (3, true, r1)] (s.1, s.2.1, s.2.2.1, m4)))
      refine hY _ _ _ _ (?_ : Y 84 [(4, 0, true, r4), (3, 0, false, (m1 36 8) - 1), (2, 3, true, r1), (0, 5, true, 36), (1, 0, true, x1)] [(0, true, iA (m4 ((r1).toNat) 2) ((m4 ((r1).toNat) 2) - 1)), (3, true, r1)] (s.1, s.2.1, s.2.2.1, m4))
      refine hY _ _ _ _ ?_
      refine (And.intro h.2.2.1 ?_)
      refine hY _ _ _ _ (?_ : Y 88 [(4, 0, true, r4), (3, 0, false, (m1 36 8) - 1), (2, 3, true, r1), (0, 5, true, 36), (1, 0, true, x1)] [(3, true, r1)] (s.1, s.2.1, s.2.2.1, hy_u m4 ((r1).toNat) 2 (iA (m4 ((r1).toNat) 2) ((m4 ((r1).toNat) 2) - 1))))
      refine hY _ _ _ _ ?_
      refine (And.intro h.2.2.2.1 ?_)
      show Y 91 [(4, 0, true, r4), (3, 0, false, (m1 36 8) - 1), (2, 3, true, r1), (0, 5, true, 36), (1, 0, true, x1)] [(0, true, (hy_u m4 ((r1).toNat) 2 (iA (m4 ((r1).toNat) 2) ((m4 ((r1).toNat) 2) - 1))) ((r1).toNat) 2)] (s.1, s.2.1, s.2.2.1, hy_u m4 ((r1).toNat) 2 (iA (m4 ((r1).toNat) 2) ((m4 ((r1).toNat) 2) - 1)))
      refine hY _ _ _ _ ?_
      refine And.intro (fun hc => ?_) (fun hc => ?_)
      · have h := h.2.2.2.2.1 hc
        show Y 99 [(4, 0, true, r4), (3, 0, false, (m1 36 8) - 1), (2, 3, true, r1), (0, 5, true, 36), (1, 0, true, x1)] [] (s.1, s.2.1, s.2.2.1, hy_u m4 ((r1).toNat) 2 (iA (m4 ((r1).toNat) 2) ((m4 ((r1).toNat) 2) - 1)))
        refine l99 _ _ ?_
        refine And.intro h.1 ?_
        exact h.2
      · have h := h.2.2.2.2.2 hc
        refine hY _ _ _ _ (hY _ _ _ _ (?_ : Y 96 [(4, 0, true, r4), (3, 0, false, (m1 36 8) - 1), (2, 3, true, r1), (0, 5, true, 36), (1, 0, true, x1)] [(0, false, (m1 36 8) - 1), (5, true, 36)] (s.1, s.2.1, s.2.2.1, hy_u m4 ((r1).toNat) 2 (iA (m4 ((r1).toNat) 2) ((m4 ((r1).toNat) 2) - 1)))))
        refine hY _ _ _ _ ?_
        refine Exists.intro _ (And.intro (wc_99_r36_0f ((m1 36 8) - 1) _ _ h) (fun r5 m5 h => ?_))
        show Y 99 [(4, 0, true, r4), (3, 0, false, (m1 36 8) - 1), (2, 3, true, r1), (0, 5, true, 36), (1, 0, true, x1)] [] (s.1, s.2.1, s.2.2.1, m5)
        refine l99 _ _ ?_
        refine And.intro h.1 ?_
        exact h.2
theorem wk_100_2 (Q : sQ) (s : sS) (x1 : Int) (hr : sRg [(0, 5, 36), (1, 0, 0)] [x1]) (h : wq_100_2 x1 s Q) : kX dC 5 im_m100 9 2 (sCan [(0, 5, 36), (1, 0, 0)] [x1]) [] s Q :=
  h (fun x1 s => sRg [(0, 5, 36), (1, 0, 0)] [x1] → kX dC 5 im_m100 9 2 (sCan [(0, 5, 36), (1, 0, 0)] [x1]) [] s Q) (fun x1 s h hr => wj_100_2 Q s (fun x1 s => sRg [(0, 5, 36), (1, 0, 0)] [x1] → kX dC 5 im_m100 9 2 (sCan [(0, 5, 36), (1, 0, 0)] [x1]) [] s Q) x1  (fun _ _ hp hr => hp hr) hr h) hr
def lb_100_0 (s : sS) (Q : sQ) : Nat → Option (sL → sS → Prop) := sLb [(2, fun lv t => sG [(0, 5, 36), (1, 0, 0)] lv (ap1 (fun w1 => wq_100_2 w1 t Q)))]
set_option maxRecDepth 30000 in
set_option maxHeartbeats 1000000 in
theorem wk_100_0 (Q : sQ) (s : sS) (hr : sRg [(0, 5, 36)] []) (h : wq_100 s Q) : kX dC 5 im_m100 9 0 (sCan [(0, 5, 36)] []) [] s Q := by
  unfold wq_100 at h
  refine wz2_ok (cs := cs_100) (wr := []) (lb := lb_100_0 s Q) cs_100_ok (kLb_c (kLab (Bd := fun xs t => ap1 (fun w1 => wq_100_2 w1 t Q) xs) rfl (fun xs t r1 r2 hb => by obtain ⟨w1, rfl, hb⟩ := ap1_ok hb; exact wk_100_2 Q t _ r1 hb)) kLb_n) (okL_can rfl hr) (fun Y hY hl => ?_)
  have l2 := hl 2 _ rfl
  refine hY _ _ _ _ (hY _ _ _ _ (?_ : Y 2 [(1, 2, true, 0), (0, 5, true, 36)] [] s))
  refine l2 _ _ ?_
  exact h
def we_100 : sF := sE 5 [(0, 5, 36)] (fun xs s Q => ap0 (wq_100 s Q) xs)
theorem we_100_ok : kS dC 6 100 9 (.inr we_100) := sE_ok (mi := im_m100) rfl rfl rfl (fun Q xs s r1 hb => by obtain ⟨rfl, hb⟩ := ap0_ok hb; exact wk_100_0 Q s r1 hb)
/-- LM$Clause.goalAt(I)I -/
def wq_43 (x0 : Int) (x1 : Int) (T : hy_T) (m : hy_m) (Q : Int → hy_m → Prop) : Prop := (x1 < 0 → (Q 0 m)) ∧ (0 ≤ x1 → (T.1 (x0).toNat = some (3, 9) ∧ (∃ t1 n1 : Nat, T.1 (m ((x0).toNat) 4).toNat = some (t1, n1) ∧ 99 ≤ t1 ∧ (((n1 : Int) ≤ x1 → (Q 0 m)) ∧ (x1 < (n1 : Int) → (T.1 (x0).toNat = some (3, 9) ∧ (∃ n2 : Nat, T.1 (m ((x0).toNat) 4).toNat = some (100, n2) ∧ (0 ≤ x1 ∧ x1 < (n2 : Int) ∧ (Q (m ((m ((x0).toNat) 4).toNat) x1) m)))))))))
def cs_43 : List (Nat × Nat × sFS) := []
theorem cs_43_ok : kCs dC 0 cs_43 := kCs_n
def lb_43_0 (s : sS) (Q : sQ) (R : Int → hy_m → Prop) (x0 : Int) (x1 : Int) : Nat → Option (sL → sS → Prop) := sLb []
set_option maxRecDepth 30000 in
set_option maxHeartbeats 1000000 in
theorem wk_43_0 (Q : sQ) (R : Int → hy_m → Prop) (s : sS) (x0 : Int) (x1 : Int) (hQ : ∀ x m', R x m' → Q x (sM s m')) (hr : sRg [(0, 3, 0), (1, 0, 0)] [x0, x1]) (h : wq_43 x0 x1 s.1 s.2.2.2 R) : kX dC 0 im_m43 0 0 (sCan [(0, 3, 0), (1, 0, 0)] [x0, x1]) [] s Q := by
  unfold wq_43 at h
  refine wz2_ok (cs := cs_43) (wr := []) (lb := lb_43_0 s Q R x0 x1) cs_43_ok kLb_n (okL_can rfl hr) (fun Y hY hl => ?_)
  refine hY _ _ _ _ (?_ : Y 1 [(0, 3, true, x0), (1, 0, true, x1)] [(0, true, x1)] s)
  refine hY _ _ _ _ ?_
  refine And.intro (fun hc => ?_) (fun hc => ?_)
  · have h := h.1 hc
    refine hY _ _ _ _ (?_ : Y 23 [(0, 3, true, x0), (1, 0, true, x1)] [(2, true, 0)] s)
    refine hY _ _ _ _ ?_
    exact hQ 0 s.2.2.2 h
  · have h := h.2 hc
    refine hY _ _ _ _ (hY _ _ _ _ (?_ : Y 6 [(0, 3, true, x0), (1, 0, true, x1)] [(3, true, x0), (0, true, x1)] s))
    refine hY _ _ _ _ ?_
    refine (And.intro h.1 ?_)
    show Y 9 [(0, 3, true, x0), (1, 0, true, x1)] [(3, true, s.2.2.2 ((x0).toNat) 4), (0, true, x1)] s
    refine hY _ _ _ _ ?_
    obtain ⟨t1, n1, h⟩ := h.2
    refine Exists.intro t1 (Exists.intro n1 (And.intro h.1 (And.intro h.2.1 ?_)))
    show Y 10 [(0, 3, true, x0), (1, 0, true, x1)] [(0, true, (n1 : Int)), (0, true, x1)] s
    refine hY _ _ _ _ ?_
    refine And.intro (fun hc => ?_) (fun hc => ?_)
    · have h := h.2.2.1 hc
      refine hY _ _ _ _ (?_ : Y 23 [(0, 3, true, x0), (1, 0, true, x1)] [(2, true, 0)] s)
      refine hY _ _ _ _ ?_
      exact hQ 0 s.2.2.2 h
    · have h := h.2.2.2 hc
      refine hY _ _ _ _ (?_ : Y 14 [(0, 3, true, x0), (1, 0, true, x1)] [(3, true, x0)] s)
      refine hY _ _ _ _ ?_
      refine (And.intro h.1 ?_)
      refine hY _ _ _ _ (?_ : Y 18 [(0, 3, true, x0), (1, 0, true, x1)] [(0, true, x1), (3, true, s.2.2.2 ((x0).toNat) 4)] s)
      refine hY _ _ _ _ ?_
      obtain ⟨n2, h⟩ := h.2
      refine Exists.intro n2 (And.intro h.1 ?_)
      refine (And.intro h.2.1 (And.intro h.2.2.1 ?_))
      refine hY _ _ _ _ (?_ : Y 23 [(0, 3, true, x0), (1, 0, true, x1)] [(0, true, s.2.2.2 ((s.2.2.2 ((x0).toNat) 4).toNat) x1)] s)
      refine hY _ _ _ _ ?_
      exact hQ (s.2.2.2 ((s.2.2.2 ((x0).toNat) 4).toNat) x1) s.2.2.2 h.2.2.2
def we_43 : sFf := sEf 2 [(0, 3, 0), (1, 0, 0)] (fun xs s Q => ap2 (fun x0 x1 => wq_43 x0 x1 s.1 s.2.2.2 Q) xs)
theorem we_43_ok : kS dC 1 43 0 (.inl we_43) := sEf_ok (mi := im_m43) rfl rfl rfl (fun R xs s r1 hb => by obtain ⟨x0, x1, rfl, hb⟩ := ap2_ok hb; exact wk_43_0 _ R s x0 x1 (fun x m' hx => ⟨m', rfl, hx⟩) r1 hb)
/-- LM$Search.goalOf(LLogicMachine$Frame;)I -/
def wq_91 (x1 : Int) (T : hy_T) (m : hy_m) (Q : Int → hy_m → Prop) : Prop := T.1 (x1).toNat = some (4, 5) ∧ ((0 ≤ (m ((x1).toNat) 0) → (T.1 (x1).toNat = some (4, 5) ∧ (T.1 (x1).toNat = some (4, 5) ∧ (wq_127 (m ((x1).toNat) 0) T m (fun r1 m1 => T.1 (x1).toNat = some (4, 5) ∧ (T.1 (r1).toNat = some (3, 9) ∧ (wq_43 r1 (m1 ((x1).toNat) 1) T m1 (fun r2 m2 => hy_r 0 (((m ((x1).toNat) 0) * 128) + r2) ∧ (Q (((m ((x1).toNat) 0) * 128) + r2) m2))))))))) ∧ ((m ((x1).toNat) 0) < 0 → (T.1 (x1).toNat = some (4, 5) ∧ (Q (m ((x1).toNat) 1) m))))
theorem wc_43_3t_0t (x0 : Int) (x1 : Int) (s : sS) (R : Int → hy_m → Prop) (h : wq_43 x0 x1 s.1 s.2.2.2 R) : we_43 [(3, true, x0), (0, true, x1)] s R := h
def cs_91 : List (Nat × Nat × sFS) := [(43, 0, .inl we_43), (127, 3, .inl we_127)]
theorem cs_91_ok : kCs dC 1 cs_91 := (kCs_c (Or.inl rfl) (we_43_ok.deep (by decide)) (kCs_c (Or.inr (Or.inr (Or.inr (Or.inl rfl)))) (we_127_ok.deep (by decide)) kCs_n))
def lb_91_0 (s : sS) (Q : sQ) (R : Int → hy_m → Prop) (x1 : Int) : Nat → Option (sL → sS → Prop) := sLb []
set_option maxRecDepth 30000 in
set_option maxHeartbeats 1000000 in
theorem wk_91_0 (Q : sQ) (R : Int → hy_m → Prop) (s : sS) (x1 : Int) (hQ : ∀ x m', R x m' → Q x (sM s m')) (hr : sRg [(0, 5, 36), (1, 3, 0)] [x1]) (h : wq_91 x1 s.1 s.2.2.2 R) : kX dC 1 im_m91 0 0 (sCan [(0, 5, 36), (1, 3, 0)] [x1]) [] s Q := by
  unfold wq_91 at h
  refine wz2_ok (cs := cs_91) (wr := []) (lb := lb_91_0 s Q R x1) cs_91_ok kLb_n (okL_can rfl hr) (fun Y hY hl => ?_)
  refine hY _ _ _ _ (?_ : Y 1 [(0, 5, true, 36), (1, 3, true, x1)] [(3, true, x1)] s)
  refine hY _ _ _ _ ?_
  refine (And.intro h.1 ?_)
  show Y 4 [(0, 5, true, 36), (1, 3, true, x1)] [(0, true, s.2.2.2 ((x1).toNat) 0)] s
  refine hY _ _ _ _ ?_
  refine And.intro (fun hc => ?_) (fun hc => ?_)
  · have h := h.2.1 hc
    refine hY _ _ _ _ (?_ : Y 13 [(0, 5, true, 36), (1, 3, true, x1)] [(3, true, x1)] s)
    refine hY _ _ _ _ ?_
    refine (And.intro h.1 ?_)
    refine hY _ _ _ _ (hY _ _ _ _ (hY _ _ _ _ (?_ : Y 21 [(0, 5, true, 36), (1, 3, true, x1)] [(5, true, 36), (0, false, (s.2.2.2 ((x1).toNat) 0) * 128)] s)))
    refine hY _ _ _ _ (hY _ _ _ _ (?_ : Y 25 [(0, 5, true, 36), (1, 3, true, x1)] [(3, true, x1), (5, true, 41), (0, false, (s.2.2.2 ((x1).toNat) 0) * 128)] s))
    refine hY _ _ _ _ ?_
    refine (And.intro h.2.1 ?_)
    show Y 28 [(0, 5, true, 36), (1, 3, true, x1)] [(0, true, s.2.2.2 ((x1).toNat) 0), (5, true, 41), (0, false, (s.2.2.2 ((x1).toNat) 0) * 128)] s
    refine hY _ _ _ _ ?_
    refine Exists.intro _ (And.intro (wc_127_r41_0t (s.2.2.2 ((x1).toNat) 0) _ _ h.2.2) (fun r1 m1 h => ?_))
    refine hY _ _ _ _ (?_ : Y 32 [(0, 5, true, 36), (1, 3, true, x1)] [(3, true, x1), (3, true, r1), (0, false, (s.2.2.2 ((x1).toNat) 0) * 128)] (sM s m1))
    refine hY _ _ _ _ ?_
    refine (And.intro h.1 ?_)
    show Y 35 [(0, 5, true, 36), (1, 3, true, x1)] [(0, true, m1 ((x1).toNat) 1), (3, true, r1), (0, false, (s.2.2.2 ((x1).toNat) 0) * 128)] (sM s m1)
    refine hY _ _ _ _ ?_
    refine (And.intro h.2.1 ?_)
    refine Exists.intro _ (And.intro (wc_43_3t_0t r1 (m1 ((x1).toNat) 1) _ _ h.2.2) (fun r2 m2 h => ?_))
    refine hY _ _ _ _ (?_ : Y 39 [(0, 5, true, 36), (1, 3, true, x1)] [(0, false, ((s.2.2.2 ((x1).toNat) 0) * 128) + r2)] (sM s m2))
    refine hY _ _ _ _ ?_
    refine And.intro h.1 ?_
    exact hQ (((s.2.2.2 ((x1).toNat) 0) * 128) + r2) m2 h.2
  · have h := h.2.2 hc
    refine hY _ _ _ _ (?_ : Y 8 [(0, 5, true, 36), (1, 3, true, x1)] [(3, true, x1)] s)
    refine hY _ _ _ _ ?_
    refine (And.intro h.1 ?_)
    show Y 11 [(0, 5, true, 36), (1, 3, true, x1)] [(0, true, s.2.2.2 ((x1).toNat) 1)] s
    refine hY _ _ _ _ ?_
    exact hQ (s.2.2.2 ((x1).toNat) 1) s.2.2.2 h.2
def we_91 : sFf := sEf 2 [(0, 5, 36), (1, 3, 0)] (fun xs s Q => ap1 (fun x1 => wq_91 x1 s.1 s.2.2.2 Q) xs)
theorem we_91_ok : kS dC 2 91 0 (.inl we_91) := sEf_ok (mi := im_m91) rfl rfl rfl (fun R xs s r1 hb => by obtain ⟨x1, rfl, hb⟩ := ap1_ok hb; exact wk_91_0 _ R s x1 (fun x m' hx => ⟨m', rfl, hx⟩) r1 hb)
