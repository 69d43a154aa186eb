/-! OBSERVERS on the heap; what every run keeps: kinds, tags and lengths -/
/-- what a place of a cell may hold, by the cell's tag -/
def ob_k (t k : Nat) (v : Value) : Bool := match v with
  | .int _ => if t < 50 then !(Nat.beq (mx_kd t k) 1) && !(Nat.beq (mx_kd t k) 3) else decide (t < 110) && !(Nat.beq t 101)
  | .long _ => if t < 50 then Nat.beq (mx_kd t k) 1 else Nat.beq t 101
  | .null => if t < 50 then Nat.beq (mx_kd t k) 3 else decide (110 ≤ t)
  | .ref _ => if t < 50 then Nat.beq (mx_kd t k) 3 else decide (110 ≤ t)
  | _ => false
/-- a heap whose places hold what their kinds say, and which is empty from its top on -/
def ob_W (h : im_H) : Prop := (∀ a t n f, h.2.2 a = some (t, n, f) → ∀ k, k < n → ob_k t k (f k) = true) ∧ ∀ k, h.1 ≤ k → h.2.2 k = none
/-- tag and length of a cell -/
def ob_t (h : im_H) (a : Nat) : Option (Nat × Nat) := (h.2.2 a).map (fun c => (c.1, c.2.1))
/-- what a run keeps -/
def ob_S (h h' : im_H) : Prop := ob_W h → ob_W h' ∧ ∀ a q, ob_t h a = some q → ob_t h' a = some q
theorem ob_S.rf {h : im_H} : ob_S h h := fun hw => ⟨hw, fun _ _ h => h⟩
theorem ob_S.tr {h h' h2 : im_H} (a : ob_S h h') (b : ob_S h' h2) : ob_S h h2 := fun hw => by
  obtain ⟨h1, h2⟩ := a hw
  obtain ⟨h3, h4⟩ := b h1
  exact ⟨h3, fun a q hq => h4 a q (h2 a q hq)⟩
theorem ob_k_kf {t k : Nat} {v : Value} (ht : t < 50) (h : im_kf (mx_kd t k) v = true) : ob_k t k v = true := by
  cases v with
  | int x =>
    show (if t < 50 then !(Nat.beq (mx_kd t k) 1) && !(Nat.beq (mx_kd t k) 3) else _) = true
    rw [if_pos ht]
    generalize mx_kd t k = q at h
    match q, h with
    | 0, _ => rfl
    | 1, h => cases h
    | 2, _ => rfl
    | q + 3, h => cases h
  | long x =>
    show (if t < 50 then Nat.beq (mx_kd t k) 1 else _) = true
    rw [if_pos ht]
    exact h
  | null =>
    show (if t < 50 then Nat.beq (mx_kd t k) 3 else _) = true
    rw [if_pos ht]
    exact h
  | ref x =>
    show (if t < 50 then Nat.beq (mx_kd t k) 3 else _) = true
    rw [if_pos ht]
    exact h
  | _ => cases h
theorem ob_k_dv (t k : Nat) (ht : t < 50) : ob_k t k (im_dv (mx_kd t k)) = true := by
  unfold im_dv
  split
  · rename_i e
    show (if t < 50 then Nat.beq (mx_kd t k) 1 else _) = true
    rw [if_pos ht, e]
    rfl
  · rename_i e
    show (if t < 50 then Nat.beq (mx_kd t k) 3 else _) = true
    rw [if_pos ht, e]
    rfl
  · rename_i e1 e2
    show (if t < 50 then !(Nat.beq (mx_kd t k) 1) && !(Nat.beq (mx_kd t k) 3) else _) = true
    rw [if_pos ht, Bool.and_eq_true]
    refine ⟨?_, ?_⟩
    · cases hb : Nat.beq (mx_kd t k) 1
      · rfl
      · exact absurd (Nat.eq_of_beq_eq_true hb) e1
    · cases hb : Nat.beq (mx_kd t k) 3
      · rfl
      · exact absurd (Nat.eq_of_beq_eq_true hb) e2
/-- a write that keeps kinds -/
theorem ob_S.wr {h : im_H} {a t n : Nat} {f g : Nat → Value} (ha : h.2.2 a = some (t, n, f)) (hg : ob_W h → ∀ k, k < n → ob_k t k (g k) = true) : ob_S h (im_wr h a (t, n, g)) := by
  intro hw
  refine ⟨⟨fun b t' n' f' hb k hk => ?_, fun k hk => ?_⟩, fun b q hb => ?_⟩
  · have hb : va_up h.2.2 a (some (t, n, g)) b = some (t', n', f') := hb
    unfold va_up at hb
    by_cases e : b = a
    · rw [if_pos e] at hb
      cases hb
      exact hg hw k hk
    · rw [if_neg e] at hb
      exact hw.1 b _ _ _ hb k hk
  · show va_up h.2.2 a (some (t, n, g)) k = none
    unfold va_up
    by_cases e : k = a
    · subst e
      rw [hw.2 _ hk] at ha
      cases ha
    · rw [if_neg e]
      exact hw.2 k hk
  · show (va_up h.2.2 a (some (t, n, g)) b).map _ = some q
    unfold va_up
    by_cases e : b = a
    · subst e
      rw [if_pos rfl]
      unfold ob_t at hb
      rw [ha] at hb
      exact hb
    · rw [if_neg e]
      exact hb
theorem ob_S.mk {h : im_H} {c : im_C} (hg : ob_W h → ∀ k, k < c.2.1 → ob_k c.1 k (c.2.2 k) = true) : ob_S h (im_mk h c) := by
  intro hw
  refine ⟨⟨fun b t' n' f' hb k hk => ?_, fun k hk => ?_⟩, fun b q hb => ?_⟩
  · have hb : va_up h.2.2 h.1 (some c) b = some (t', n', f') := hb
    unfold va_up at hb
    by_cases e : b = h.1
    · rw [if_pos e] at hb
      cases hb
      exact hg hw k hk
    · rw [if_neg e] at hb
      exact hw.1 b _ _ _ hb k hk
  · have hk : h.1 + 1 ≤ k := hk
    show va_up h.2.2 h.1 (some c) k = none
    unfold va_up
    rw [if_neg (by omega)]
    exact hw.2 k (by omega)
  · show (va_up h.2.2 h.1 (some c) b).map _ = some q
    unfold va_up
    by_cases e : b = h.1
    · subst e
      unfold ob_t at hb
      rw [hw.2 _ (Nat.le_refl _)] at hb
      cases hb
    · rw [if_neg e]
      exact hb
theorem ob_upd {t n j : Nat} {f : Nat → Value} {v : Value} (hf : ∀ k, k < n → ob_k t k (f k) = true) (hv : ob_k t j v = true) : ∀ k, k < n → ob_k t k (updV f j v k) = true := by
  intro k hk
  unfold updV
  by_cases e : k = j
  · rw [if_pos e, e]; exact hv
  · rw [if_neg e]; exact hf k hk
