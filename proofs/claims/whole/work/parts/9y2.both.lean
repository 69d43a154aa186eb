/-! GLUE: a call of both sides; the loop of the law -/
/-- the model's cells, so that nobody can use them -/
def gG98 : Nat → Option im_C := fun a => if 74 ≤ a ∧ a < 119 then some (98, 0, fun _ => .null) else none
def gGh (h : im_H) : Nat → Option im_C := fun a => if 74 ≤ a ∧ a < 119 then h.2.2 a else none
def gTM : hy_T := (sT dM, fun a k => match dM a with
  | true => sF0 a k
  | false => none)
def gMain (L : Nat) (xs : Nat → Int32) (k : Nat) (h : im_H) : Prop := ∃ (A : jst) (T : hy_T) (n u : Nat) (mC mM : hy_m), jV k A ∧ jC k A T n u mC ∧ jM k A mM ∧ (∀ a, 74 ≤ a → a < 119 → T.1 a = some (98, 0)) ∧ kR dC (im_rq gG98 h).2.2 (im_rq gG98 h) (T, n, u, mC) ∧ hy_R gTM h mM ∧ h.2.2 0 = some (99, L, fun j => .int (xs j))
theorem gTM_len : fr_cells.length = 118 := by decide +kernel
theorem gTM_sz : ∀ q ∈ fr_cells, q.2.2.1 ≤ 10000000 := by decide +kernel
theorem sT0_some {a : Nat} {q : Nat × Nat} (h : sT0 a = some q) : 1 ≤ a ∧ a < 119 ∧ q.2 ≤ 10000000 ∧ ∃ r, fr_cells[a - 1]? = some r ∧ q = (r.2.1, r.2.2.1) := by
  cases a with
  | zero => cases h
  | succ i =>
    have h : (match fr_cells[i]? with
      | some q => some (q.2.1, q.2.2.1)
      | none => none) = some q := h
    split at h
    · rename_i r hr
      cases h
      have hl := (List.getElem?_eq_some_iff.mp hr).1
      rw [gTM_len] at hl
      exact ⟨by omega, by omega, gTM_sz r (List.mem_of_getElem? hr), r, hr, rfl⟩
    · cases h
theorem gTM_r {a : Nat} {q : Nat × Nat} (h : gTM.1 a = some q) : 74 ≤ a ∧ a < 119 ∧ q.2 ≤ 10000000 := by
  have h : (match dM a with
    | true => sT0 a
    | false => none) = some q := h
  split at h
  · rename_i hd
    have h1 := sT0_some h
    exact ⟨Nat.le_of_ble_eq_true hd, h1.2.1, h1.2.2.1⟩
  · cases h
theorem gTM_s0 : ∀ i : Nat, i < 45 → (gTM.1 (74 + i)).isSome = true := by decide +kernel
theorem gTM_s {a : Nat} (h1 : 74 ≤ a) (h2 : a < 119) : ∃ q, gTM.1 a = some q := by
  have h := gTM_s0 (a - 74) (by omega)
  rw [show 74 + (a - 74) = a by omega] at h
  exact Option.isSome_iff_exists.mp h
theorem gTM_n {a : Nat} (h : ¬ (74 ≤ a ∧ a < 119)) : gTM.1 a = none := by
  cases e : gTM.1 a with
  | none => rfl
  | some q => exact absurd ⟨(gTM_r e).1, (gTM_r e).2.1⟩ h
theorem gTM_fix : sFix dM gTM := ⟨fun _ _ h => h, fun a k b h1 h2 => by
  show (match dM a with
    | true => sF0 a k
    | false => none) = some b
  rw [h1]
  exact h2⟩
theorem gTM_T : mTt gTM := ⟨rfl, rfl⟩
/-- the model sees its cells -/
theorem gM_k {h : im_H} {m : hy_m} (hR : hy_R gTM h m) (hn : 0 < h.1) : kR dM h.2.2 h (gTM, h.1, h.2.1, m) := ⟨rfl, rfl, fun _ _ _ => rfl, ⟨rfl, hn⟩, hR, fun a t n q => (gTM_r q).2.2, gTM_fix⟩
theorem gM_at {h : im_H} {m : hy_m} (hR : hy_R gTM h m) {a : Nat} (h1 : 74 ≤ a) (h2 : a < 119) : a < h.1 ∧ ∃ c, h.2.2 a = some c := by
  obtain ⟨⟨t, n⟩, hq⟩ := gTM_s h1 h2
  obtain ⟨g1, f, g2, -⟩ := hR.2 a t n hq
  exact ⟨g1, _, g2⟩
/-- cells put back -/
theorem g_back {h : im_H} (hh : ∀ a, 74 ≤ a → a < 119 → ∃ c, h.2.2 a = some c) : im_rq (gGh h) (im_rq gG98 h) = h := by
  unfold im_rq
  dsimp only
  refine Prod.ext rfl (Prod.ext rfl (funext fun a => ?_))
  by_cases c : 74 ≤ a ∧ a < 119
  · obtain ⟨d, hd⟩ := hh a c.1 c.2
    show (match gGh h a with
      | some c => some c
      | none => _) = h.2.2 a
    rw [show gGh h a = some d by unfold gGh; rw [if_pos c]; exact hd, hd]
  · show (match gGh h a with
      | some c => some c
      | none => (match gG98 a with
        | some c => some c
        | none => h.2.2 a)) = h.2.2 a
    rw [show gGh h a = none from if_neg c, show gG98 a = none from if_neg c]
theorem gMain_s {L k : Nat} {xs : Nat → Int32} {h : im_H} (hM : gMain L xs k h) : gMain L xs (k + 1) h := by
  obtain ⟨A, T, n, u, mC, mM, v1, v2, v3, v4⟩ := hM
  exact ⟨A, T, n, u, mC, mM, jV_s v1, jC_s v1 v2, jM_s v1 v3, v4⟩
theorem gMain_ok {L k : Nat} {xs : Nat → Int32} {h : im_H} (hk : k ≤ 600) (hM : gMain L xs k h) : lw_Ok L xs h := by
  obtain ⟨A, T, n, u, mC, mM, v1, v2, v3, v4, ⟨r1, r2, r3, r4, r5, r6, r7⟩, v6, v7⟩ := hM
  obtain ⟨n1, n2, n3⟩ := jC_room hk v2
  obtain ⟨-, f, f2, -⟩ := r5.2 1 0 7 (r7.1 1 (0, 7) rfl)
  have r1 : h.1 = n := r1
  have r2 : h.2.1 = u := r2
  refine ⟨v7, ⟨_, (im_rq_o (G := gG98) (a := 1) (h := h) rfl).symm.trans f2, rfl⟩, by omega, by omega⟩
/-- a call of both -/
theorem g_both {L k : Nat} {xs : Nat → Int32} {h : im_H} (hk : k ≤ 511) (hM : gMain L xs k h) (j M1 M2 nn : Nat) (hj : lw_ops[j]? = some (M1, M2, nn)) : lw_Pr L xs k h M1 M2 nn (gMain L xs (k + 1)) := by
  obtain ⟨A, T, n, u, mC, mM, v1, v2, v3, v4, v5, v6, v7⟩ := hM
  have hat : ∀ a, 74 ≤ a → a < 119 → ∃ c, h.2.2 a = some c := fun a q1 q2 => (gM_at v6 q1 q2).2
  obtain ⟨h1, x, ⟨T', n', u', mC'⟩, ⟨F, r, w1, rfl⟩, r1, A1, q1, q2, q3⟩ := gc_step (L := L) (xs := xs) hk v1 v2 v5 j M1 M2 nn hj
  dsimp only at q2 q3
  have hokq : im_okq (gGh h) (im_rq gG98 h) := fun a c hc => by
    by_cases d : 74 ≤ a ∧ a < 119
    · exact ⟨(gM_at v6 d.1 d.2).1, 0, fun _ => .null, im_rq_i (if_pos d)⟩
    · have e : gGh h a = none := if_neg d
      rw [e] at hc
      cases hc
  obtain ⟨w2, -⟩ := im_rn_rp_q fr_tb98 _ _ _ _ _ hokq w1
  rw [g_back hat] at w2
  dsimp only at w2
  generalize hh1 : im_rq (gGh h) h1 = g at w2
  obtain ⟨k1, k2, k3, k4, k5, k6, k7⟩ := r1
  have k1 : h1.1 = n' := k1
  have k2 : h1.2.1 = u' := k2
  have k3 : ∀ a, T'.1 a = none → a < n' → h1.2.2 a = (im_rq gG98 h).2.2 a := k3
  have k4 : T'.1 0 = none ∧ 0 < n' := k4
  have gi : ∀ a, 74 ≤ a → a < 119 → g.2.2 a = h.2.2 a := fun a a1 a2 => by
    obtain ⟨c, hc⟩ := hat a a1 a2
    rw [← hh1, im_rq_i (c := c) (by unfold gGh; rw [if_pos ⟨a1, a2⟩]; exact hc), hc]
  have go : ∀ a, ¬ (74 ≤ a ∧ a < 119) → g.2.2 a = h1.2.2 a := fun a q => by
    rw [← hh1, im_rq_o (if_neg q)]
  have g1 : g.1 = n' := by rw [← hh1]; exact k1
  have g2 : g.2.1 = u' := by rw [← hh1]; exact k2
  obtain ⟨n1, n2, n3⟩ := jC_room (by omega) q2
  have hRg : hy_R gTM g mM := ⟨v6.1, fun a t l ha => by
    obtain ⟨a1, a2, -⟩ := gTM_r ha
    obtain ⟨-, f, f2, f3⟩ := v6.2 a t l ha
    exact ⟨by omega, f, by rw [gi a a1 a2]; exact f2, f3⟩⟩
  have hkg := gM_k hRg (by omega)
  obtain ⟨h2, x2, s2, w3, r2, A2, mM', rfl, p1, p2⟩ := gm_step (L := L) (xs := xs) hk gTM_T v1 v3 hkg j M1 M2 nn hj
  obtain ⟨e1, e2⟩ := jS_u q1 p1
  subst e1
  subst e2
  obtain ⟨l1, l2, l3, l4, l5, l6, l7⟩ := r2
  have l1 : h2.1 = g.1 := l1
  have l2 : h2.2.1 = g.2.1 := l2
  have l3 : ∀ a, gTM.1 a = none → a < g.1 → h2.2.2 a = g.2.2 a := l3
  have z0 : g.2.2 0 = some (99, L, fun j => .int (xs j)) := by
    rw [go 0 (by omega), k3 0 k4.1 k4.2, im_rq_o (a := 0) (if_neg (by omega))]
    exact v7
  obtain ⟨t74, c74⟩ : ∃ c, g.2.2 74 = some c ∧ c.1 = 12 := by
    obtain ⟨-, f, f2, -⟩ := hRg.2 74 12 74 rfl
    exact ⟨_, f2, rfl⟩
  have hj2 := jM_pl v3
  refine ⟨g, h2, iI x, t74, ⟨F, _, w2, rfl⟩, z0, c74.1, c74.2, w3, A1, T', n', u', mC', mM', jV_S q1 v1 v3.1.2.2.2 v3.1.2.1 hj2.1, q2, p2, fun a a1 a2 => q3 a _ (v4 a a1 a2), ⟨?_, ?_, fun _ _ _ => rfl, k4, ⟨k5.1, fun a t l ha => ?_⟩, k6, k7⟩, l5, ?_⟩
  · show h2.1 = n'
    omega
  · show h2.2.1 = u'
    omega
  · obtain ⟨b1, f, b2, b3, b4⟩ := k5.2 a t l ha
    refine ⟨by show a < h2.1; omega, ?_⟩
    by_cases c : 74 ≤ a ∧ a < 119
    · have h98 := q3 a _ (v4 a c.1 c.2)
      have ha' : T'.1 a = some (t, l) := ha
      rw [h98] at ha'
      cases ha'
      refine ⟨fun _ => .null, im_rq_i (if_pos c), fun k hk => absurd hk (Nat.not_lt_zero k), fun k b hb => ?_⟩
      obtain ⟨t', l', y1, y2⟩ := k5.1 a k b hb
      have y1 : T'.1 a = some (t', l') := y1
      rw [h98] at y1
      cases y1
      have y2 : false = true := y2
      cases y2
    · refine ⟨f, ?_, b3, b4⟩
      rw [im_rq_o (G := gG98) (if_neg c), l3 a (gTM_n c) (by omega), go a c]
      exact b2
  · rw [l3 0 (gTM_n (by omega)) (by omega)]
    exact z0
def gIv (L : Nat) (xs : Nat → Int32) (k : Nat) (h : im_H) : Prop := lw_Ok L xs h ∧ (k ≤ 600 → gMain L xs k h)
theorem g_loop {L : Nat} {xs : Nat → Int32} (hL : L ≤ 1536) (h0 : gMain L xs 0 (im_rp (99, L, fun j => .int (xs j)) fr_h4)) : im_Goal L xs :=
  wp_goal (lw_begin (lw_loop hL (gIv L xs) (fun k h q => q.1) (fun k h q => ⟨q.1, fun hk => gMain_s (q.2 (by omega))⟩) (fun k h q hk j M1 M2 nn hj => by
    obtain ⟨h1, h2, x, c1, a1, a2, a3, a4, a5, a6⟩ := g_both (by omega) (q.2 (by omega)) j M1 M2 nn hj
    exact ⟨h1, h2, x, c1, a1, a2, a3, a4, a5, gMain_ok (by omega) a6, fun _ => a6⟩) L 0 _ (by omega) (by omega) (by omega) ⟨gMain_ok (by omega) h0, fun _ => h0⟩))
