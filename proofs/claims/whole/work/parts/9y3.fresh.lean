/-! GLUE: the heap behind both constructors shows the empty state -/
def gxI : Value → Int
  | .int w => w.toInt
  | .long w => w.toInt
  | .ref b => (b : Nat)
  | _ => 0
def gm0 : hy_m := fun a e => match fr_cells[a - 1]? with
  | some q => if a ≠ 0 ∧ 0 ≤ e ∧ e < (q.2.2.1 : Int) then gxI (fr_at q.2.2.2 e.toNat) else 0
  | none => 0
def gT0 : hy_T := (fun a => if 74 ≤ a ∧ a < 119 then some (98, 0) else sT dC a, fun a k => match dC a with
  | true => sF0 a k
  | false => none)
def gxr (q : Nat) (x : Int) : Bool := match q with
  | 1 => decide (-9223372036854775808 ≤ x ∧ x < 9223372036854775808)
  | 2 => decide (x = 0 ∨ x = 1)
  | 3 => decide (0 ≤ x)
  | 4 => decide (0 ≤ x ∧ x < 65536)
  | _ => decide (-2147483648 ≤ x ∧ x < 2147483648)
theorem gxr_ok {q : Nat} {x : Int} (h : gxr q x = true) : hy_r q x := by
  match q, h with
  | 0, h =>
    have h : decide (-2147483648 ≤ x ∧ x < 2147483648) = true := h
    have h := of_decide_eq_true h
    exact h
  | 1, h =>
    have h : decide (-9223372036854775808 ≤ x ∧ x < 9223372036854775808) = true := h
    have h := of_decide_eq_true h
    exact h
  | 2, h =>
    have h : decide (x = 0 ∨ x = 1) = true := h
    have h := of_decide_eq_true h
    exact h
  | 3, h =>
    have h : decide (0 ≤ x) = true := h
    have h := of_decide_eq_true h
    exact h
  | 4, h =>
    have h : decide (0 ≤ x ∧ x < 65536) = true := h
    have h := of_decide_eq_true h
    exact h
  | n + 5, h =>
    have h : decide (-2147483648 ≤ x ∧ x < 2147483648) = true := h
    have h := of_decide_eq_true h
    exact h
def gxv (kd : Nat) (v : Value) : Bool := decide (v = hy_v kd (gxI v)) && gxr kd (gxI v)
theorem gxv_ok {kd : Nat} {v : Value} (h : gxv kd v = true) : v = hy_v kd (gxI v) ∧ hy_r kd (gxI v) := by
  unfold gxv at h
  rw [Bool.and_eq_true] at h
  exact ⟨of_decide_eq_true h.1, gxr_ok h.2⟩
def gxck (i : Nat) (q : fr_X) : Bool := Nat.beq q.1 (i + 1) && (Nat.beq (fr_sum q.2.2.2) q.2.2.1 && (if 50 ≤ q.2.1 then q.2.2.2.all (fun p => gxv (hy_k q.2.1 0) p.2) else (List.range q.2.2.1).all (fun j => gxv (hy_k q.2.1 j) (fr_at q.2.2.2 j))))
theorem gxck_all : (List.range 118).all (fun i => match fr_cells[i]? with
  | some q => gxck i q
  | none => false) = true := by decide +kernel
theorem fr_at_in : ∀ (l : List (Nat × Value)) (j : Nat), j < fr_sum l → ∃ p ∈ l, fr_at l j = p.2
  | [], j, h => absurd h (Nat.not_lt_zero j)
  | q :: r, j, h => by
    have h : j < q.1 + fr_sum r := h
    by_cases c : j < q.1
    · exact ⟨q, List.mem_cons_self .., if_pos c⟩
    · obtain ⟨p, hp, e⟩ := fr_at_in r (j - q.1) (by omega)
      exact ⟨p, List.mem_cons_of_mem _ hp, by rw [← e]; exact if_neg c⟩
theorem hy_k50 {t k k' : Nat} (h : 50 ≤ t) : hy_k t k = hy_k t k' := by
  have h1 : ¬ t < 50 := by omega
  unfold hy_k
  rw [if_neg h1, if_neg h1]
theorem g_cell {i : Nat} {q : fr_X} (h : fr_cells[i]? = some q) : q.1 = i + 1 ∧ fr_sum q.2.2.2 = q.2.2.1 ∧ ∀ j : Nat, j < q.2.2.1 → fr_at q.2.2.2 j = hy_v (hy_k q.2.1 j) (gm0 (i + 1) (j : Int)) ∧ hy_r (hy_k q.2.1 j) (gm0 (i + 1) (j : Int)) := by
  have hl := (List.getElem?_eq_some_iff.mp h).1
  rw [gTM_len] at hl
  have h1 := List.all_eq_true.mp gxck_all i (List.mem_range.mpr hl)
  rw [h] at h1
  have h1 : gxck i q = true := h1
  unfold gxck at h1
  rw [Bool.and_eq_true, Bool.and_eq_true] at h1
  obtain ⟨h2, h3, h4⟩ := h1
  have h2 := Nat.eq_of_beq_eq_true h2
  have h3 := Nat.eq_of_beq_eq_true h3
  refine ⟨h2, h3, fun j hj => ?_⟩
  have e : gm0 (i + 1) (j : Int) = gxI (fr_at q.2.2.2 j) := by
    show (match fr_cells[i + 1 - 1]? with
      | some q => if i + 1 ≠ 0 ∧ 0 ≤ (j : Int) ∧ (j : Int) < (q.2.2.1 : Int) then gxI (fr_at q.2.2.2 (j : Int).toNat) else 0
      | none => 0) = _
    rw [Nat.add_sub_cancel, h]
    exact if_pos ⟨by omega, by omega, by omega⟩
  rw [e]
  by_cases c : 50 ≤ q.2.1
  · rw [if_pos c] at h4
    obtain ⟨p, hp, e2⟩ := fr_at_in q.2.2.2 j (by omega)
    rw [e2, hy_k50 (k := j) (k' := 0) c]
    exact gxv_ok (List.all_eq_true.mp h4 p hp)
  · rw [if_neg c] at h4
    exact gxv_ok (List.all_eq_true.mp h4 j (List.mem_range.mpr hj))
theorem g_ref : sFx.all (fun p => p.2.all (fun r => match fr_cells[p.1 - 1]? with
  | some q => Nat.blt 0 p.1 && (Nat.blt r.1 q.2.2.1 && (decide (fr_at q.2.2.2 r.1 = .ref r.2) && hy_fin q.2.1 r.1))
  | none => false)) = true := by decide +kernel
theorem sF1_in : ∀ (l : List (Nat × Nat)) (k b : Nat), sF1 l k = some b → (k, b) ∈ l
  | [], _, _, h => by cases h
  | p :: r, k, b, h => by
    have h : (match Nat.beq p.1 k with
      | true => some p.2
      | false => sF1 r k) = some b := h
    split at h
    · rename_i e
      cases h
      rw [← Nat.eq_of_beq_eq_true e]
      exact List.mem_cons_self ..
    · exact List.mem_cons_of_mem _ (sF1_in r k b h)
theorem sF2_in : ∀ (l : List (Nat × List (Nat × Nat))) (a k b : Nat), sF2 l a k = some b → ∃ p ∈ l, p.1 = a ∧ (k, b) ∈ p.2
  | [], _, _, _, h => by cases h
  | p :: r, a, k, b, h => by
    have h : (match Nat.beq p.1 a with
      | true => sF1 p.2 k
      | false => sF2 r a k) = some b := h
    split at h
    · rename_i e
      exact ⟨p, List.mem_cons_self .., Nat.eq_of_beq_eq_true e, sF1_in _ _ _ h⟩
    · obtain ⟨p', h1, h2⟩ := sF2_in r a k b h
      exact ⟨p', List.mem_cons_of_mem _ h1, h2⟩
theorem g_refs {a k b : Nat} (h : sF0 a k = some b) : 0 < a ∧ ∃ q, fr_cells[a - 1]? = some q ∧ k < q.2.2.1 ∧ fr_at q.2.2.2 k = .ref b ∧ hy_fin q.2.1 k = true := by
  obtain ⟨p, hp, rfl, hk⟩ := sF2_in _ _ _ _ h
  have h1 := List.all_eq_true.mp (List.all_eq_true.mp g_ref p hp) (k, b) hk
  dsimp only at h1
  split at h1
  · rename_i q hq
    rw [Bool.and_eq_true, Bool.and_eq_true, Bool.and_eq_true] at h1
    exact ⟨Nat.le_of_ble_eq_true h1.1, q, hq, Nat.le_of_ble_eq_true h1.2.1, of_decide_eq_true h1.2.2.1, h1.2.2.2⟩
  · cases h1
theorem sT0_at {a : Nat} {q : fr_X} (ha : 0 < a) (h : fr_cells[a - 1]? = some q) : sT0 a = some (q.2.1, q.2.2.1) := by
  cases a with
  | zero => omega
  | succ i =>
    rw [Nat.add_sub_cancel] at h
    show (match fr_cells[i]? with
      | some q => some (q.2.1, q.2.2.1)
      | none => none) = _
    rw [h]
/-- a cell of the fresh heap -/
theorem g_at {c0 : im_C} {a : Nat} {q : Nat × Nat} (h : sT0 a = some q) : ∃ f, (im_rp c0 fr_h4).2.2 a = some (q.1, q.2, f) ∧ (∀ k : Nat, k < q.2 → f k = hy_v (hy_k q.1 k) (gm0 a k) ∧ hy_r (hy_k q.1 k) (gm0 a k)) ∧ ∀ k b, sF0 a k = some b → f k = .ref b := by
  obtain ⟨a1, a2, a3, r, hr, rfl⟩ := sT0_some h
  obtain ⟨c1, c2, c3⟩ := g_cell hr
  obtain ⟨f, f1, f2⟩ := fr_HF_rp c0 (a - 1) r hr
  have c1 : r.1 = a := by omega
  rw [c1] at f1
  rw [show a - 1 + 1 = a by omega] at c3
  refine ⟨f, f1, fun k hk => by rw [f2 k hk]; exact c3 k hk, fun k b hb => ?_⟩
  obtain ⟨-, q', g1, g2, g3, -⟩ := g_refs hb
  rw [hr] at g1
  cases g1
  rw [f2 k g2]
  exact g3
theorem g_h4 (c0 : im_C) : (im_rp c0 fr_h4).1 = 119 ∧ (im_rp c0 fr_h4).2.1 = 170454 := ⟨(im_rp_1 _ _).trans fr_e4.2.1, (im_rp_2 _ _).trans fr_e4.2.2⟩
theorem gRM (c0 : im_C) : hy_R gTM (im_rp c0 fr_h4) gm0 := by
  refine ⟨fun a k b h => ?_, fun a t n h => ?_⟩
  · have h : (match dM a with
      | true => sF0 a k
      | false => none) = some b := h
    split at h
    · rename_i hd
      obtain ⟨g1, q, g2, g3, g4, g5⟩ := g_refs h
      refine ⟨q.2.1, q.2.2.1, ?_, g5⟩
      show (match dM a with
        | true => sT0 a
        | false => none) = _
      rw [hd]
      exact sT0_at g1 g2
    · cases h
  · have h' : (match dM a with
      | true => sT0 a
      | false => none) = some (t, n) := h
    split at h'
    · obtain ⟨f, f1, f2, f3⟩ := g_at (c0 := c0) h'
      refine ⟨by rw [(g_h4 c0).1]; exact (gTM_r h).2.1, f, f1, f2, fun k b hb => ?_⟩
      have hb : (match dM a with
        | true => sF0 a k
        | false => none) = some b := hb
      split at hb
      · exact f3 k b hb
      · cases hb
    · cases h'
theorem im_rq_1 (G : Nat → Option im_C) (h : im_H) : (im_rq G h).1 = h.1 := rfl
theorem im_rq_2 (G : Nat → Option im_C) (h : im_H) : (im_rq G h).2.1 = h.2.1 := rfl
theorem gRC (c0 : im_C) : kR dC (im_rq gG98 (im_rp c0 fr_h4)).2.2 (im_rq gG98 (im_rp c0 fr_h4)) (gT0, 119, 170454, gm0) := by
  have lo : ∀ a, ¬ (74 ≤ a ∧ a < 119) → gT0.1 a = sT dC a := fun a h => if_neg h
  have hi : ∀ a, 74 ≤ a → a < 119 → gT0.1 a = some (98, 0) := fun a h1 h2 => if_pos ⟨h1, h2⟩
  have st : ∀ a q, sT dC a = some q → a < 74 ∧ sT0 a = some q := fun a q h => by
    have h : (match dC a with
      | true => sT0 a
      | false => none) = some q := h
    split at h
    · rename_i hd
      exact ⟨Nat.le_of_ble_eq_true hd, h⟩
    · cases h
  have fx : ∀ a k b, gT0.2 a k = some b → dC a = true ∧ sF0 a k = some b := fun a k b h => by
    have h : (match dC a with
      | true => sF0 a k
      | false => none) = some b := h
    split at h
    · rename_i hd
      exact ⟨hd, h⟩
    · cases h
  have e1 : (im_rq gG98 (im_rp c0 fr_h4)).1 = 119 := (im_rq_1 _ _).trans (g_h4 c0).1
  have e2 : (im_rq gG98 (im_rp c0 fr_h4)).2.1 = 170454 := (im_rq_2 _ _).trans (g_h4 c0).2
  unfold kR
  dsimp only
  refine ⟨e1, e2, fun _ _ _ => rfl, ⟨rfl, by decide⟩, ⟨fun a k b h => ?_, fun a t n h => ?_⟩, fun a t n h => ?_, fun a q h => ?_, fun a k b h1 h2 => ?_⟩
  · obtain ⟨hd, h2⟩ := fx a k b h
    obtain ⟨g1, q, g2, g3, g4, g5⟩ := g_refs h2
    have ha : a < 74 := Nat.le_of_ble_eq_true hd
    refine ⟨q.2.1, q.2.2.1, ?_, g5⟩
    show gT0.1 a = _
    rw [lo a (by omega)]
    show (match dC a with
      | true => sT0 a
      | false => none) = _
    rw [hd]
    exact sT0_at g1 g2
  · have h : gT0.1 a = some (t, n) := h
    by_cases c : 74 ≤ a ∧ a < 119
    · rw [hi a c.1 c.2] at h
      cases h
      refine ⟨by omega, fun _ => .null, im_rq_i (if_pos c), fun k hk => absurd hk (Nat.not_lt_zero k), fun k b hb => ?_⟩
      have ha : a < 74 := Nat.le_of_ble_eq_true (fx a k b hb).1
      omega
    · rw [lo a c] at h
      obtain ⟨h1, h2⟩ := st a _ h
      obtain ⟨f, f1, f2, f3⟩ := g_at (c0 := c0) h2
      exact ⟨by omega, f, by rw [im_rq_o (if_neg c)]; exact f1, f2, fun k b hb => f3 k b (fx a k b hb).2⟩
  · have h : gT0.1 a = some (t, n) := h
    by_cases c : 74 ≤ a ∧ a < 119
    · rw [hi a c.1 c.2] at h
      cases h
      exact Nat.zero_le _
    · rw [lo a c] at h
      exact (sT0_some (st a _ h).2).2.2.1
  · have := (st a q h).1
    show gT0.1 a = some q
    rw [lo a (by omega)]
    exact h
  · show (match dC a with
      | true => sF0 a k
      | false => none) = some b
    rw [h1]
    exact h2
/-- rows of zeros -/
def gxz (a : Nat) : Bool := match fr_cells[a - 1]? with
  | some q => q.2.2.2.all (fun p => decide (gxI p.2 = 0)) && Nat.beq (fr_sum q.2.2.2) q.2.2.1
  | none => true
theorem g_z0 {a : Nat} (h : gxz a = true) (e : Int) : gm0 a e = 0 := by
  unfold gxz at h
  unfold gm0
  split at h
  · rename_i q hq
    rw [Bool.and_eq_true] at h
    split
    · rename_i c
      obtain ⟨p, hp, e2⟩ := fr_at_in q.2.2.2 e.toNat (by rw [Nat.eq_of_beq_eq_true h.2]; omega)
      rw [e2]
      exact of_decide_eq_true (List.all_eq_true.mp h.1 p hp)
    · rfl
  · rfl
/-- rows of one value -/
theorem g_c14 {a : Nat} (h : fr_cells[a - 1]? = some (a, 113, 20, [(20, .ref 14)])) (ha : a ≠ 0) {e : Int} (h0 : 0 ≤ e) (h1 : e < 20) : gm0 a e = 14 := by
  unfold gm0
  rw [h]
  dsimp only
  rw [if_pos ⟨ha, h0, h1⟩]
  show gxI (if e.toNat < 20 then _ else _) = 14
  rw [if_pos (by omega)]
  rfl
theorem g_97 {e : Int} (h0 : 2490 ≤ e) (h1 : e < 2500) : gm0 97 e = -1 := by
  unfold gm0
  rw [show fr_cells[97 - 1]? = some (97, 101, 2500, [(2490, .long 0), (10, .long (-1))]) from rfl]
  dsimp only
  rw [if_pos ⟨by decide, by omega, h1⟩]
  show gxI (if e.toNat < 2490 then _ else if e.toNat - 2490 < 10 then _ else _) = -1
  rw [if_neg (by omega), if_pos (by omega)]
  rfl
