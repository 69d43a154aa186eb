/-! THE HEAP: the machine's cells as the interpreter's, and what stays true of a state -/
def im_ty (cl : List vw_C) (t : Nat) : Option FieldType := if t = 100 then some .int else if t = 101 then some .long else if t = 102 then some .char else (cl[t - 110]?).map (fun r => .object r.1)
def im_tag (rA : List Nat) (t : Nat) : Prop := t = 100 ∨ t = 101 ∨ t = 102 ∨ ∃ c, c ∈ rA ∧ t = 110 + c
/-- what rows of ints and of longs hold -/
def im_wt (c : im_C) : Prop := (c.1 = 100 → ∀ k, ∃ x, c.2.2 k = .int x) ∧ (c.1 = 101 → ∀ k, ∃ x, c.2.2 k = .long x)
def im_ca (D : va_G) (dA : Nat → ClassId) (cl : List vw_C) (rA : List Nat) (b z a : Nat) (c : im_C) (H : Heap) : Prop :=
  (c.1 < 50 ∧ ∃ r : vw_C, cl[c.1]? = some r ∧ r.2.2 = c.2.1 ∧ t_OB a (D.1 c.1) c.2.1 (D.2 c.1) H (fun k => im_sh b z (c.2.2 k))) ∨
  (im_tag rA c.1 ∧ im_wt c ∧ H[a]? = some (arrV (dA c.1) c.2.1 (fun k => im_sh b z (c.2.2 k))))
def im_Rl (D : va_G) (dA : Nat → ClassId) (cl : List vw_C) (rA : List Nat) (b z L : Nat) (xs : Nat → Int32) (Hs H : Heap) (h : im_H) : Prop :=
  H.size + 1 = z + h.1 ∧ 1 ≤ h.1 ∧ (∀ q, q < z → H[q]? = Hs[q]?) ∧ h.2.2 0 = some (99, L, fun k => .int (xs k)) ∧ (∀ k c, h.2.2 (k + 1) = some c → im_ca D dA cl rA b z (z + k) c H) ∧ ∀ k, h.1 ≤ k → h.2.2 k = none
/-- what holds of every state: classes, array classes, words of nest mates and casts, the script -/
def im_K (D : va_G) (dA : Nat → ClassId) (cl : List vw_C) (rA : List Nat) (nw : List Cond) (b L : Nat) (xs : Nat → Int32) (Hs : Heap) (U : State) : Prop :=
  va_K D cl [] U ∧ (∀ t ty, im_tag rA t → im_ty cl t = some ty → ArrOfT U (dA t) ty ∧ va_RA U (dA t) ty) ∧ (∀ w ∈ nw, va_Nw w U) ∧ (∀ c ∈ rA, ∀ r, cl[c]? = some r → va_AO r.1 U) ∧ va_X b L xs U Hs
/-- words that may stand among 'nw' -/
def im_nw (nw : List Cond) : Prop := ∀ w ∈ nw, (∃ a i x h, w = .methodLinkNest a i x h) ∨ ∃ C T, w = .castable C T
theorem im_sh_upd (b z : Nat) (f : Nat → Value) (k : Nat) (v : Value) : (fun j => im_sh b z (updV f k v j)) = updV (fun j => im_sh b z (f j)) k (im_sh b z v) := by
  funext j
  unfold updV
  split <;> rfl
theorem im_kf_sh (b z k : Nat) (v : Value) : im_kf k (im_sh b z v) = im_kf k v := by cases v <;> rfl
theorem im_ix_ok {i : Int32} {n j : Nat} (h : im_ix i n = some j) : ¬ i < 0 ∧ i.toNatClampNeg = j ∧ j < n := by
  unfold im_ix at h
  split at h
  · cases h
  · split at h
    · cases h
    · cases h
      exact ⟨by assumption, rfl, by omega⟩
theorem im_tag_ge {rA : List Nat} {t : Nat} (h : im_tag rA t) : 100 ≤ t := by
  rcases h with h | h | h | ⟨c, -, h⟩ <;> omega
theorem im_ad_pos (b z : Nat) {a : Nat} (h : a ≠ 0) : im_ad b z a = z + (a - 1) := by
  cases a with
  | zero => exact absurd rfl h
  | succ k => rfl
section IM2
variable {D : va_G} {dA : Nat → ClassId} {cl : List vw_C} {rA : List Nat} {nw : List Cond} {b z L : Nat} {xs : Nat → Int32} {Hs H H' : Heap} {h : im_H} {s U : State}
theorem im_ca.kept {a : Nat} {c : im_C} (hc : im_ca D dA cl rA b z a c H) (e : H'[a]? = H[a]?) : im_ca D dA cl rA b z a c H' := by
  rcases hc with ⟨h1, r, h2, h3, h4⟩ | ⟨h1, h2, h3⟩
  · exact Or.inl ⟨h1, r, h2, h3, h4.kept e⟩
  · exact Or.inr ⟨h1, h2, e.trans h3⟩
theorem im_ca.lt {a : Nat} {c : im_C} (hc : im_ca D dA cl rA b z a c H) : a < H.size := by
  rcases hc with ⟨h1, r, h2, h3, cell, h4, -⟩ | ⟨h1, h2, h3⟩
  · exact (Array.getElem?_eq_some_iff.mp h4).1
  · exact (Array.getElem?_eq_some_iff.mp h3).1
theorem im_Rl.cell (hR : im_Rl D dA cl rA b z L xs Hs H h) {a : Nat} {c : im_C} (ha : h.2.2 a = some c) (h9 : c.1 ≠ 99) : a ≠ 0 ∧ im_ca D dA cl rA b z (im_ad b z a) c H := by
  obtain ⟨-, -, -, h0, hc, -⟩ := hR
  cases a with
  | zero =>
    rw [h0] at ha
    cases ha
    exact absurd rfl h9
  | succ k => exact ⟨Nat.succ_ne_zero k, hc k c ha⟩
theorem im_Rl.obj (hR : im_Rl D dA cl rA b z L xs Hs H h) {a t n : Nat} {f : Nat → Value} (ha : h.2.2 a = some (t, n, f)) (ht : t < 50) : ∃ r : vw_C, cl[t]? = some r ∧ r.2.2 = n ∧ t_OB (im_ad b z a) (D.1 t) n (D.2 t) H (fun k => im_sh b z (f k)) := by
  obtain ⟨-, h1 | h1⟩ := hR.cell ha (show t ≠ 99 by omega)
  · exact h1.2
  · exact absurd (im_tag_ge h1.1) (show ¬ 100 ≤ t by omega)
theorem im_Rl.arr (hR : im_Rl D dA cl rA b z L xs Hs H h) {a t n : Nat} {f : Nat → Value} (ha : h.2.2 a = some (t, n, f)) (ht : 100 ≤ t) : im_tag rA t ∧ im_wt (t, n, f) ∧ H[im_ad b z a]? = some (arrV (dA t) n (fun k => im_sh b z (f k))) := by
  obtain ⟨-, h1 | h1⟩ := hR.cell ha (show t ≠ 99 by omega)
  · exact absurd h1.1 (show ¬ t < 50 by omega)
  · exact h1
theorem im_Rl.scr (hR : im_Rl D dA cl rA b z L xs Hs H h) {a n : Nat} {f : Nat → Value} (ha : h.2.2 a = some (99, n, f)) : a = 0 ∧ n = L ∧ f = fun k => .int (xs k) := by
  obtain ⟨-, -, -, h0, hc, -⟩ := hR
  cases a with
  | zero =>
    rw [h0] at ha
    cases ha
    exact ⟨rfl, rfl, rfl⟩
  | succ k =>
    rcases hc k _ ha with h1 | h1
    · exact absurd h1.1 (show ¬ 99 < 50 by omega)
    · exact absurd (im_tag_ge h1.1) (show ¬ 100 ≤ 99 by omega)
theorem im_Rl.wr (hR : im_Rl D dA cl rA b z L xs Hs H h) {a : Nat} {c c' : im_C} (ha : h.2.2 a = some c) (h9 : c.1 ≠ 99) (hn : im_ca D dA cl rA b z (im_ad b z a) c' H') (hs : H'.size = H.size) (ho : ∀ q, q ≠ im_ad b z a → H'[q]? = H[q]?) : im_Rl D dA cl rA b z L xs Hs H' (im_wr h a c') := by
  obtain ⟨a0, -⟩ := hR.cell ha h9
  obtain ⟨h1, h2, h3, h4, h5, h6⟩ := hR
  cases a with
  | zero => exact absurd rfl a0
  | succ k0 =>
    have hk : im_ad b z (k0 + 1) = z + k0 := rfl
    rw [hk] at ho hn
    refine ⟨by rw [hs]; exact h1, h2, fun q hq => (ho q (by omega)).trans (h3 q hq), ?_, fun k c hc => ?_, fun k hk => ?_⟩
    · show va_up h.2.2 (k0 + 1) (some c') 0 = _
      unfold va_up
      rw [if_neg (by omega)]
      exact h4
    · have hc' : va_up h.2.2 (k0 + 1) (some c') (k + 1) = some c := hc
      unfold va_up at hc'
      by_cases e : k = k0
      · subst e
        rw [if_pos rfl] at hc'
        cases hc'
        exact hn
      · rw [if_neg (by omega)] at hc'
        exact (h5 k c hc').kept (ho _ (by omega))
    · show va_up h.2.2 (k0 + 1) (some c') k = none
      unfold va_up
      by_cases e : k = k0 + 1
      · subst e
        rw [h6 _ hk] at ha
        cases ha
      · rw [if_neg e]
        exact h6 k hk
theorem im_Rl.top (hR : im_Rl D dA cl rA b z L xs Hs H h) : im_ad b z h.1 = H.size := by
  obtain ⟨h1, h2, -⟩ := hR
  rw [im_ad_pos b z (by omega)]
  omega
theorem im_Rl.mk (hR : im_Rl D dA cl rA b z L xs Hs H h) {c : im_C} (hs : H'.size = H.size + 1) (hn : im_ca D dA cl rA b z H.size c H') (ho : ∀ q, q < H.size → H'[q]? = H[q]?) : im_Rl D dA cl rA b z L xs Hs H' (im_mk h c) := by
  obtain ⟨h1, h2, h3, h4, h5, h6⟩ := hR
  refine ⟨by show H'.size + 1 = z + (h.1 + 1); omega, by show 1 ≤ h.1 + 1; omega, fun q hq => (ho q (by omega)).trans (h3 q hq), ?_, fun k c' hc => ?_, fun k hk => ?_⟩
  · show va_up h.2.2 h.1 (some c) 0 = _
    unfold va_up
    rw [if_neg (by omega)]
    exact h4
  · have hc' : va_up h.2.2 h.1 (some c) (k + 1) = some c' := hc
    unfold va_up at hc'
    by_cases e : k + 1 = h.1
    · rw [if_pos e] at hc'
      cases hc'
      rw [show z + k = H.size by omega]
      exact hn
    · rw [if_neg e] at hc'
      have := h5 k c' hc'
      exact this.kept (ho _ this.lt)
  · show va_up h.2.2 h.1 (some c) k = none
    have hk : h.1 + 1 ≤ k := hk
    unfold va_up
    rw [if_neg (by omega)]
    exact h6 k (by omega)
theorem im_K.warm (hn : im_nw nw) (hW : s.WarmedH U.vm) (hK : im_K D dA cl rA nw b L xs Hs s) : im_K D dA cl rA nw b L xs Hs U := by
  obtain ⟨h1, h2, h3, h4, scr, h5, h6, h7⟩ := hK
  refine ⟨h1.moved hW.alike, fun t ty ht hty => ⟨arrOfT_moved hW.alike (h2 t ty ht hty).1, (h2 t ty ht hty).2.moved hW.alike⟩, fun w hw => ?_, fun c hc r hr => (h4 c hc r hr).moved hW.alike, scr, h5, State.isArrayOf_alike hW.alike h6, h7⟩
  rcases hn w hw with ⟨_, _, _, _, rfl⟩ | ⟨_, _, rfl⟩
  · exact va_Nw.warmM hW (h3 _ hw)
  · exact va_Nw.warmC hW (h3 _ hw)
theorem im_K.same (hn : im_nw nw) (hv : s.vm = U.vm) (hK : im_K D dA cl rA nw b L xs Hs s) : im_K D dA cl rA nw b L xs Hs U := by
  have ha : s.vm.Alike U.vm := by rw [hv]; exact Vm.Alike.refl _
  obtain ⟨h1, h2, h3, h4, scr, h5, h6, h7⟩ := hK
  refine ⟨h1.moved ha, fun t ty ht hty => ⟨arrOfT_moved ha (h2 t ty ht hty).1, (h2 t ty ht hty).2.moved ha⟩, fun w hw => ?_, fun c hc r hr => (h4 c hc r hr).moved ha, scr, h5, State.isArrayOf_alike ha h6, h7⟩
  refine va_Nw.same ?_ hv (h3 w hw)
  rcases hn w hw with ⟨_, _, _, _, rfl⟩ | ⟨_, _, rfl⟩ <;> rfl
end IM2
