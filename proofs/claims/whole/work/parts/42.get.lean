/-! READING AND WRITING through observers -/
def ob_v (h : im_H) (a k : Nat) : Value := match h.2.2 a with
  | some c => c.2.2 k
  | none => .null
def ob_i (h : im_H) (a k : Nat) : Int32 := match ob_v h a k with
  | .int x => x
  | _ => 0
def ob_l (h : im_H) (a k : Nat) : Int64 := match ob_v h a k with
  | .long x => x
  | _ => 0
def ob_u (h : im_H) (a k : Nat) (v : Value) : im_H := match h.2.2 a with
  | some c => im_wr h a (c.1, c.2.1, updV c.2.2 k v)
  | none => h
theorem ob_t_some {h : im_H} {a t n : Nat} (ht : ob_t h a = some (t, n)) : ∃ f, h.2.2 a = some (t, n, f) := by
  unfold ob_t at ht
  cases hc : h.2.2 a with
  | none => rw [hc] at ht; cases ht
  | some c =>
    rw [hc] at ht
    obtain ⟨t', n', f⟩ := c
    cases ht
    exact ⟨f, rfl⟩
theorem ob_v_at {h : im_H} {a : Nat} {c : im_C} (ha : h.2.2 a = some c) (k : Nat) : ob_v h a k = c.2.2 k := by
  unfold ob_v
  rw [ha]
theorem ob_u_at {h : im_H} {a t n : Nat} {f : Nat → Value} (ha : h.2.2 a = some (t, n, f)) (k : Nat) (v : Value) : ob_u h a k v = im_wr h a (t, n, updV f k v) := by
  unfold ob_u
  rw [ha]
theorem ob_u_1 (h : im_H) (a k : Nat) (v : Value) : (ob_u h a k v).1 = h.1 := by
  unfold ob_u
  split <;> rfl
theorem ob_u_2 (h : im_H) (a k : Nat) (v : Value) : (ob_u h a k v).2.1 = h.2.1 := by
  unfold ob_u
  split <;> rfl
theorem ob_t_u (h : im_H) (a k : Nat) (v : Value) (b : Nat) : ob_t (ob_u h a k v) b = ob_t h b := by
  unfold ob_u
  split
  · rename_i c hc
    unfold ob_t
    by_cases e : b = a
    · subst e
      rw [im_wr_eq, hc]
      rfl
    · rw [im_wr_ne _ _ e]
  · rfl
theorem ob_v_u {h : im_H} {a t n : Nat} (ht : ob_t h a = some (t, n)) (k : Nat) (v : Value) (b j : Nat) : ob_v (ob_u h a k v) b j = if b = a ∧ j = k then v else ob_v h b j := by
  obtain ⟨f, ha⟩ := ob_t_some ht
  rw [ob_u_at ha]
  by_cases e : b = a
  · subst e
    rw [ob_v_at (im_wr_eq _ _ _), ob_v_at ha]
    show updV f k v j = _
    unfold updV
    by_cases e2 : j = k
    · rw [if_pos e2, if_pos ⟨rfl, e2⟩]
    · rw [if_neg e2, if_neg (fun q => e2 q.2)]
  · rw [if_neg (fun q => e q.1)]
    unfold ob_v
    rw [im_wr_ne _ _ e]
theorem ob_v_uo {h : im_H} (a k : Nat) (v : Value) {b : Nat} (j : Nat) (e : b ≠ a) : ob_v (ob_u h a k v) b j = ob_v h b j := by
  unfold ob_u
  split
  · unfold ob_v
    rw [im_wr_ne _ _ e]
  · rfl
theorem ob_i_uo {h : im_H} (a k : Nat) (v : Value) {b : Nat} (j : Nat) (e : b ≠ a) : ob_i (ob_u h a k v) b j = ob_i h b j := by
  unfold ob_i
  rw [ob_v_uo a k v j e]
theorem ob_l_uo {h : im_H} (a k : Nat) (v : Value) {b : Nat} (j : Nat) (e : b ≠ a) : ob_l (ob_u h a k v) b j = ob_l h b j := by
  unfold ob_l
  rw [ob_v_uo a k v j e]
theorem ob_i_u {h : im_H} {a t n : Nat} (ht : ob_t h a = some (t, n)) (k : Nat) (x : Int32) (j : Nat) : ob_i (ob_u h a k (.int x)) a j = if j = k then x else ob_i h a j := by
  unfold ob_i
  rw [ob_v_u ht]
  by_cases e : j = k
  · rw [if_pos ⟨rfl, e⟩, if_pos e]
  · rw [if_neg (fun q => e q.2), if_neg e]
theorem ob_l_u {h : im_H} {a t n : Nat} (ht : ob_t h a = some (t, n)) (k : Nat) (x : Int64) (j : Nat) : ob_l (ob_u h a k (.long x)) a j = if j = k then x else ob_l h a j := by
  unfold ob_l
  rw [ob_v_u ht]
  by_cases e : j = k
  · rw [if_pos ⟨rfl, e⟩, if_pos e]
  · rw [if_neg (fun q => e q.2), if_neg e]
theorem ob_W_u {h : im_H} {a t n k : Nat} {v : Value} (hw : ob_W h) (ht : ob_t h a = some (t, n)) (hv : ob_k t k v = true) : ob_W (ob_u h a k v) := by
  obtain ⟨f, ha⟩ := ob_t_some ht
  rw [ob_u_at ha]
  exact (ob_S.wr ha (fun hw => ob_upd (ob_at hw ha) hv) hw).1
/-- a place of kind int, long -/
theorem ob_int {h : im_H} {a t n k : Nat} (hw : ob_W h) (ht : ob_t h a = some (t, n)) (hk : k < n) (hi : ∀ v, ob_k t k v = true → ∃ x, v = .int x) : ob_v h a k = .int (ob_i h a k) := by
  obtain ⟨f, ha⟩ := ob_t_some ht
  obtain ⟨x, hx⟩ := hi _ (ob_at hw ha k hk)
  have : ob_v h a k = .int x := (ob_v_at ha k).trans hx
  unfold ob_i
  rw [this]
theorem ob_lng {h : im_H} {a t n k : Nat} (hw : ob_W h) (ht : ob_t h a = some (t, n)) (hk : k < n) (hi : ∀ v, ob_k t k v = true → ∃ x, v = .long x) : ob_v h a k = .long (ob_l h a k) := by
  obtain ⟨f, ha⟩ := ob_t_some ht
  obtain ⟨x, hx⟩ := hi _ (ob_at hw ha k hk)
  have : ob_v h a k = .long x := (ob_v_at ha k).trans hx
  unfold ob_l
  rw [this]
theorem ob_kI {t k : Nat} (h : (decide (t < 50) && (Nat.beq (mx_kd t k) 0 || Nat.beq (mx_kd t k) 2)) = true ∨ t = 100 ∨ t = 102) : ∀ v, ob_k t k v = true → ∃ x, v = .int x := by
  intro v hv
  cases v with
  | int x => exact ⟨x, rfl⟩
  | long x =>
    have hv : (if t < 50 then Nat.beq (mx_kd t k) 1 else Nat.beq t 101) = true := hv
    rcases h with h | rfl | rfl
    · rw [Bool.and_eq_true, decide_eq_true_eq, Bool.or_eq_true] at h
      rw [if_pos h.1] at hv
      have e := Nat.eq_of_beq_eq_true hv
      rw [e] at h
      exact absurd h.2 (by decide)
    · exact absurd hv (by decide)
    · exact absurd hv (by decide)
  | null =>
    have hv : (if t < 50 then Nat.beq (mx_kd t k) 3 else decide (110 ≤ t)) = true := hv
    rcases h with h | rfl | rfl
    · rw [Bool.and_eq_true, decide_eq_true_eq, Bool.or_eq_true] at h
      rw [if_pos h.1] at hv
      have e := Nat.eq_of_beq_eq_true hv
      rw [e] at h
      exact absurd h.2 (by decide)
    · exact absurd hv (by decide)
    · exact absurd hv (by decide)
  | ref x =>
    have hv : (if t < 50 then Nat.beq (mx_kd t k) 3 else decide (110 ≤ t)) = true := hv
    rcases h with h | rfl | rfl
    · rw [Bool.and_eq_true, decide_eq_true_eq, Bool.or_eq_true] at h
      rw [if_pos h.1] at hv
      have e := Nat.eq_of_beq_eq_true hv
      rw [e] at h
      exact absurd h.2 (by decide)
    · exact absurd hv (by decide)
    · exact absurd hv (by decide)
  | _ => cases hv
theorem ob_kL {t k : Nat} (h : (decide (t < 50) && Nat.beq (mx_kd t k) 1) = true ∨ t = 101) : ∀ v, ob_k t k v = true → ∃ x, v = .long x := by
  intro v hv
  cases v with
  | long x => exact ⟨x, rfl⟩
  | int x =>
    have hv : (if t < 50 then !(Nat.beq (mx_kd t k) 1) && !(Nat.beq (mx_kd t k) 3) else decide (t < 110) && !(Nat.beq t 101)) = true := hv
    rcases h with h | rfl
    · rw [Bool.and_eq_true, decide_eq_true_eq] at h
      rw [if_pos h.1, h.2] at hv
      exact absurd hv (by decide)
    · exact absurd hv (by decide)
  | null =>
    have hv : (if t < 50 then Nat.beq (mx_kd t k) 3 else decide (110 ≤ t)) = true := hv
    rcases h with h | rfl
    · rw [Bool.and_eq_true, decide_eq_true_eq] at h
      rw [if_pos h.1] at hv
      have e := Nat.eq_of_beq_eq_true hv
      rw [e] at h
      exact absurd h.2 (by decide)
    · exact absurd hv (by decide)
  | ref x =>
    have hv : (if t < 50 then Nat.beq (mx_kd t k) 3 else decide (110 ≤ t)) = true := hv
    rcases h with h | rfl
    · rw [Bool.and_eq_true, decide_eq_true_eq] at h
      rw [if_pos h.1] at hv
      have e := Nat.eq_of_beq_eq_true hv
      rw [e] at h
      exact absurd h.2 (by decide)
    · exact absurd hv (by decide)
  | _ => cases hv
section WJ
variable {h : im_H} {pc ix len ea eb ec : Nat} {ev : Value} {a t n j : Nat} {r : List Value} {i x : Int32}
theorem wj_gv (ht : ob_t h a = some (ea, n)) (hk : eb < n) : im_h mx_kd mx_nf (pc, .getfield ix, len, ea, eb, ec, ev) (.ref a :: r) h = some (ob_v h a eb :: r, h) := by
  obtain ⟨f, ha⟩ := ob_t_some ht
  exact wh_gf ha hk (ob_v_at ha eb).symm
theorem wj_gi (hw : ob_W h) (ht : ob_t h a = some (ea, n)) (hk : eb < n) (hi : (decide (ea < 50) && (Nat.beq (mx_kd ea eb) 0 || Nat.beq (mx_kd ea eb) 2)) = true) : im_h mx_kd mx_nf (pc, .getfield ix, len, ea, eb, ec, ev) (.ref a :: r) h = some (.int (ob_i h a eb) :: r, h) := by
  rw [← ob_int hw ht hk (ob_kI (Or.inl hi))]
  exact wj_gv ht hk
theorem wj_gl (hw : ob_W h) (ht : ob_t h a = some (ea, n)) (hk : eb < n) (hi : (decide (ea < 50) && Nat.beq (mx_kd ea eb) 1) = true) : im_h mx_kd mx_nf (pc, .getfield ix, len, ea, eb, ec, ev) (.ref a :: r) h = some (.long (ob_l h a eb) :: r, h) := by
  rw [← ob_lng hw ht hk (ob_kL (Or.inl hi))]
  exact wj_gv ht hk
theorem wj_pf {v : Value} (ht : ob_t h a = some (ea, n)) (hk : eb < n) (hv : im_kf (mx_kd ea eb) v = true) : im_h mx_kd mx_nf (pc, .putfield ix, len, ea, eb, ec, ev) (v :: .ref a :: r) h = some (r, ob_u h a eb v) := by
  obtain ⟨f, ha⟩ := ob_t_some ht
  rw [ob_u_at ha]
  exact wh_pf ha hk hv
theorem wj_al (ht : ob_t h a = some (t, n)) (h9 : 99 ≤ t) : im_h mx_kd mx_nf (pc, .arraylength, len, ea, eb, ec, ev) (.ref a :: r) h = some (.int (Int32.ofNat n) :: r, h) := by
  obtain ⟨f, ha⟩ := ob_t_some ht
  exact wh_al ha h9
theorem wj_ia (hw : ob_W h) (ht : ob_t h a = some (100, n)) (hi : im_ix i n = some j) : im_h mx_kd mx_nf (pc, .iaload, len, ea, eb, ec, ev) (.int i :: .ref a :: r) h = some (.int (ob_i h a j) :: r, h) := by
  obtain ⟨f, ha⟩ := ob_t_some ht
  exact wh_ia ha (Or.inr rfl) hi ((ob_v_at ha j).symm.trans (ob_int hw ht (im_ix_ok hi).2.2 (ob_kI (Or.inr (Or.inl rfl)))))
theorem wj_la (hw : ob_W h) (ht : ob_t h a = some (101, n)) (hi : im_ix i n = some j) : im_h mx_kd mx_nf (pc, .laload, len, ea, eb, ec, ev) (.int i :: .ref a :: r) h = some (.long (ob_l h a j) :: r, h) := by
  obtain ⟨f, ha⟩ := ob_t_some ht
  dsimp only [im_h]
  rw [ha]
  dsimp only
  rw [if_pos rfl, hi]
  dsimp only
  rw [← ob_v_at ha j, ob_lng hw ht (im_ix_ok hi).2.2 (ob_kL (Or.inr rfl))]
theorem wj_ca (hw : ob_W h) (ht : ob_t h a = some (102, n)) (hi : im_ix i n = some j) : im_h mx_kd mx_nf (pc, .caload, len, ea, eb, ec, ev) (.int i :: .ref a :: r) h = some (.int (ob_i h a j) :: r, h) := by
  obtain ⟨f, ha⟩ := ob_t_some ht
  dsimp only [im_h]
  rw [ha]
  dsimp only
  rw [if_pos rfl, hi]
  dsimp only
  rw [← ob_v_at ha j, ob_int hw ht (im_ix_ok hi).2.2 (ob_kI (Or.inr (Or.inr rfl)))]
theorem wj_aa (ht : ob_t h a = some (t, n)) (h11 : 110 ≤ t) (hi : im_ix i n = some j) : im_h mx_kd mx_nf (pc, .aaload, len, ea, eb, ec, ev) (.int i :: .ref a :: r) h = some (ob_v h a j :: r, h) := by
  obtain ⟨f, ha⟩ := ob_t_some ht
  exact wh_aa ha h11 hi (ob_v_at ha j).symm
theorem wj_is (ht : ob_t h a = some (100, n)) (hi : im_ix i n = some j) : im_h mx_kd mx_nf (pc, .iastore, len, ea, eb, ec, ev) (.int x :: .int i :: .ref a :: r) h = some (r, ob_u h a j (.int x)) := by
  obtain ⟨f, ha⟩ := ob_t_some ht
  rw [ob_u_at ha]
  exact wh_is ha hi
theorem wj_ls {y : Int64} (ht : ob_t h a = some (101, n)) (hi : im_ix i n = some j) : im_h mx_kd mx_nf (pc, .lastore, len, ea, eb, ec, ev) (.long y :: .int i :: .ref a :: r) h = some (r, ob_u h a j (.long y)) := by
  obtain ⟨f, ha⟩ := ob_t_some ht
  rw [ob_u_at ha]
  dsimp only [im_h]
  rw [ha]
  dsimp only
  rw [if_pos rfl, hi]
theorem wj_cs (ht : ob_t h a = some (102, n)) (hi : im_ix i n = some j) : im_h mx_kd mx_nf (pc, .castore, len, ea, eb, ec, ev) (.int x :: .int i :: .ref a :: r) h = some (r, ob_u h a j (.int (vp_nar .char x))) := by
  obtain ⟨f, ha⟩ := ob_t_some ht
  rw [ob_u_at ha]
  exact wh_cs ha hi
end WJ
