/-! THE FRESH HEAP over every script -/
theorem fr_98 : mm_tb.all (fun mi => !(Nat.beq mi.2.2.2.2.1 98) && mi.2.2.2.2.2.all (fun e => !(Nat.beq e.2.2.2.1 98))) = true := by decide +kernel
theorem fr_tb98 : ∀ (M : Nat) (mi : im_M), mm_tb[M]? = some mi → mi.2.2.2.2.1 ≠ 98 ∧ ∀ e ∈ mi.2.2.2.2.2, e.2.2.2.1 ≠ 98 := by
  intro M mi hm
  have h1 := List.all_eq_true.mp fr_98 mi (List.mem_of_getElem? hm)
  rw [Bool.and_eq_true] at h1
  refine ⟨fun q => ?_, fun e he q => ?_⟩
  · have h2 := h1.1
    rw [q] at h2
    exact absurd h2 (by decide)
  · have h2 := List.all_eq_true.mp h1.2 e he
    rw [q] at h2
    exact absurd h2 (by decide)
theorem fr_ok0_0 : im_ok0 fr_h0 := ⟨Nat.le_refl _, 0, _, rfl⟩
theorem fr_ok0_1 : im_ok0 fr_h1 := (im_rp_mk (c0 := (98, 0, fun _ => .null)) fr_ok0_0).2
theorem fr_e2 : fr_o2 = some (fr_h2, none) := (fr_ce_ok fr_h1 fr_ok2).1
theorem fr_e2x : im_rn mm_tb mx_kd mx_nf 100000 11 0 [.ref 1] fr_h1 = some (fr_h2, none) := by
  have h := fr_e2
  unfold fr_o2 at h
  exact h
theorem fr_rpx {F M : Nat} {as : List Value} {h h' : im_H} {v : Option Value} (c0 : im_C) (h0 : im_ok0 h) (he : im_rn mm_tb mx_kd mx_nf F 11 M as h = some (h', v)) : wp_M 11 M as (im_rp c0 h) (fun r => r = (im_rp c0 h', v)) ∧ im_ok0 h' := by
  obtain ⟨g1, g2⟩ := im_rn_rp (c0 := c0) fr_tb98 _ _ _ _ _ h0 he
  exact ⟨⟨F, _, g1, rfl⟩, g2⟩
theorem fr_ok0_2 : im_ok0 fr_h2 := (fr_rpx (98, 0, fun _ => .null) fr_ok0_1 fr_e2x).2
theorem fr_ok0_3 : im_ok0 fr_h3 := (im_rp_mk (c0 := (98, 0, fun _ => .null)) fr_ok0_2).2
theorem fr_e4 : fr_o4 = some (fr_h4, none) ∧ fr_h4.1 = 119 ∧ fr_h4.2.1 = 170454 := by
  have h := fr_ce_ok fr_h3 fr_ok4
  unfold fr_h4
  exact h
theorem fr_e4x : im_rn mm_tb mx_kd mx_nf 100000 11 58 [.ref 74] fr_h3 = some (fr_h4, none) := by
  have h := fr_e4.1
  unfold fr_o4 at h
  exact h
theorem fr_ok0_4 : im_ok0 fr_h4 := (fr_rpx (98, 0, fun _ => .null) fr_ok0_3 fr_e4x).2
/-- what the fresh heap holds -/
def fr_HF (H : im_H) : Prop := ∀ (i : Nat) (q : fr_X), fr_cells[i]? = some q → fr_is H q
theorem fr_n98 : fr_cells.all (fun q => !(Nat.beq q.2.1 98)) = true := by decide +kernel
theorem fr_HF_rp (c0 : im_C) : fr_HF (im_rp c0 fr_h4) := by
  intro i q hq
  obtain ⟨f, h1, h2⟩ := fr_cell i hq
  refine ⟨f, (im_rp_at (c0 := c0) fr_ok0_4 h1 (fun e => ?_)).1, h2⟩
  have h3 := List.all_eq_true.mp fr_n98 q (List.mem_of_getElem? hq)
  have e : q.2.1 = 98 := e
  rw [e] at h3
  exact absurd h3 (by decide)
theorem fr_ctA (c0 : im_C) : wp_M 11 0 [.ref 1] (im_rp c0 fr_h1) (fun r => r = (im_rp c0 fr_h2, none)) := (fr_rpx c0 fr_ok0_1 fr_e2x).1
theorem fr_ctB (c0 : im_C) : wp_M 11 58 [.ref 74] (im_rp c0 fr_h3) (fun r => r = (im_rp c0 fr_h4, none)) := (fr_rpx c0 fr_ok0_3 fr_e4x).1
theorem fr_rp0 (L : Nat) (xs : Nat → Int32) : im_rp (99, L, fun j => .int (xs j)) fr_h0 = im_h0 L xs := by
  unfold im_rp im_h0 fr_h0
  dsimp only
  congr 2
  funext j
  unfold va_up
  by_cases h : j = 0
  · rw [if_pos h, if_pos h]
  · rw [if_neg h, if_neg h]
    show (if j = 0 then _ else none) = none
    rw [if_neg h]
theorem fr_n2 : fr_h2.1 = 74 := by
  have h := (fr_ce_ok fr_h1 fr_ok2).2.1
  unfold fr_h2
  exact h
theorem im_rp_1 (c0 : im_C) (h : im_H) : (im_rp c0 h).1 = h.1 := rfl
theorem im_rp_2 (c0 : im_C) (h : im_H) : (im_rp c0 h).2.1 = h.2.1 := rfl
theorem im_rp_0 (c0 : im_C) (h : im_H) : (im_rp c0 h).2.2 0 = some c0 := rfl
theorem im_mk_top (h : im_H) (c : im_C) : (im_mk h c).2.2 h.1 = some c := by
  show va_up h.2.2 h.1 (some c) h.1 = _
  unfold va_up
  rw [if_pos rfl]
set_option maxRecDepth 20000 in
/-- the law's beginning: both objects are made, and its loop begins -/
theorem lw_begin_g {L : Nat} {xs : Nat → Int32} {Q : im_R → Prop} {g1 g2 g3 g4 : im_H} (h1 : im_mk (im_h0 L xs) (0, mx_nf 0, fun k => im_dv (mx_kd 0 k)) = g1) (hA : wp_M 11 0 [.ref 1] g1 (fun r => r = (g2, none))) (hn2 : g2.1 = 74) (h3 : im_mk g2 (12, mx_nf 12, fun k => im_dv (mx_kd 12 k)) = g3) (hB : wp_M 11 58 [.ref 74] g3 (fun r => r = (g4, none)))
    (K : wp_X 12 im_m104 18 [(3, .int (nI (3 * 0))), (2, .ref 74), (1, .ref 1), (0, .ref 0)] [] g4 Q) : wp_X 12 im_m104 0 (lv_args 0 [.ref 0]) [] (im_h0 L xs) Q := by
  have hb1 : g1.2.2 1 = some (0, mx_nf 0, fun k => im_dv (mx_kd 0 k)) := by rw [← h1]; exact im_mk_top _ _
  have hb3 : g3.2.2 74 = some (12, mx_nf 12, fun k => im_dv (mx_kd 12 k)) := by rw [← h3, ← hn2]; exact im_mk_top _ _
  refine wp_h (t := 3) (st' := [.ref 1]) (h' := g1) rfl rfl (by show some (Value.ref 1 :: [], im_mk (im_h0 L xs) _) = _; rw [← h1]) rfl ?_
  refine wp_s (pc' := 4) (lv' := [(0, .ref 0)]) (st' := [.ref 1, .ref 1]) (h' := g1) rfl (fun _ => rfl) ?_
  refine wp_vi (t := 7) rfl rfl (Or.inr (Or.inl rfl)) rfl rfl (by decide) hb1 rfl (wp_M.deep hA (by decide)) rfl (fun h' v hP => ?_)
  cases hP
  refine wp_s (pc' := 8) (lv' := [(1, .ref 1), (0, .ref 0)]) (st' := []) (h' := g2) rfl (fun _ => rfl) ?_
  refine wp_h (t := 11) (st' := [.ref 74]) (h' := g3) rfl rfl (by show some (Value.ref g2.1 :: [], im_mk g2 _) = _; rw [← h3, hn2]) rfl ?_
  refine wp_s (pc' := 12) (lv' := [(1, .ref 1), (0, .ref 0)]) (st' := [.ref 74, .ref 74]) (h' := g3) rfl (fun _ => rfl) ?_
  refine wp_vi (t := 15) rfl rfl (Or.inr (Or.inl rfl)) rfl rfl (by decide) hb3 rfl (wp_M.deep hB (by decide)) rfl (fun h' v hP => ?_)
  cases hP
  refine wp_s (pc' := 16) (lv' := [(2, .ref 74), (1, .ref 1), (0, .ref 0)]) (st' := []) (h' := g4) rfl (fun _ => rfl) ?_
  refine wp_s (pc' := 17) (lv' := [(2, .ref 74), (1, .ref 1), (0, .ref 0)]) (st' := [.int 0]) (h' := g4) rfl (fun _ => rfl) ?_
  exact wp_s (pc' := 18) rfl (fun _ => rfl) K
theorem fr_mk1 (L : Nat) (xs : Nat → Int32) : im_mk (im_h0 L xs) (0, mx_nf 0, fun k => im_dv (mx_kd 0 k)) = im_rp (99, L, fun j => .int (xs j)) fr_h1 := by
  rw [← fr_rp0]
  unfold fr_h1
  exact (im_rp_mk fr_ok0_0).1.symm
theorem fr_mk3 (c0 : im_C) : im_mk (im_rp c0 fr_h2) (12, mx_nf 12, fun k => im_dv (mx_kd 12 k)) = im_rp c0 fr_h3 := by
  unfold fr_h3
  exact (im_rp_mk fr_ok0_2).1.symm
theorem lw_begin {L : Nat} {xs : Nat → Int32} {Q : im_R → Prop} (K : wp_X 12 im_m104 18 [(3, .int (nI (3 * 0))), (2, .ref 74), (1, .ref 1), (0, .ref 0)] [] (im_rp (99, L, fun j => .int (xs j)) fr_h4) Q) : wp_X 12 im_m104 0 (lv_args 0 [.ref 0]) [] (im_h0 L xs) Q :=
  lw_begin_g (fr_mk1 L xs) (fr_ctA _) ((im_rp_1 _ _).trans fr_n2) (fr_mk3 _) (fr_ctB _) K
