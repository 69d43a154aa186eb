/-! WRITING: signs, numbers, names -/
/-- at most 120 signs are kept -/
def tkp (o w : List Int) : List Int := (o ++ w).take 120
theorem tkp_tkp (o w w' : List Int) : tkp (tkp o w) w' = tkp o (w ++ w') := by
  unfold tkp
  rw [← List.append_assoc, List.take_append (l₁ := o ++ w), List.take_append (l₁ := (o ++ w).take 120), List.take_take, Nat.min_self, List.length_take]
  congr 2
  omega
theorem tkp_le (o w : List Int) : (tkp o w).length ≤ 120 := by
  unfold tkp
  rw [List.length_take]
  omega
theorem tkp_nil {o : List Int} (h : o.length ≤ 120) : tkp o [] = o := by
  unfold tkp
  rw [List.append_nil, List.take_of_length_le h]
theorem tkp_full {o w : List Int} (h : o.length = 120) : tkp o w = o := by
  unfold tkp
  rw [List.take_append, List.take_of_length_le (by omega), h, Nat.sub_self, List.take_zero, List.append_nil]
theorem tkp_1 {o : List Int} {c : Int} (h : o.length < 120) : tkp o [c] = o ++ [c] := by
  unfold tkp
  rw [List.take_of_length_le]
  rw [List.length_append]
  show o.length + 1 ≤ 120
  omega
/-- the signs of n to the base b, the k-th first -/
def dgB (b a : Nat) : Nat → Nat → List Int
  | 0, n => [((a + n % b : Nat) : Int)]
  | k + 1, n => ((a + n / b ^ (k + 1) % b : Nat) : Int) :: dgB b a k n
def nlB (b : Nat) : Nat → Nat → Nat
  | 0, _ => 0
  | f + 1, n => if n < b then 0 else 1 + nlB b f (n / b)
def nK (b n k : Nat) : Prop := n / b ^ k < b ∧ ∀ j, j < k → b ≤ n / b ^ j
theorem nlB_ok {b : Nat} (hb : 0 < b) : ∀ (f n : Nat), n < b ^ (f + 1) → nK b n (nlB b f n)
  | 0, n, h => by
    refine ⟨?_, fun j hj => absurd hj (Nat.not_lt_zero _)⟩
    show n / b ^ 0 < b
    rw [Nat.pow_zero, Nat.div_one]
    rw [Nat.zero_add, Nat.pow_one] at h
    exact h
  | f + 1, n, h => by
    unfold nlB
    by_cases c : n < b
    · rw [if_pos c]
      refine ⟨?_, fun j hj => absurd hj (Nat.not_lt_zero _)⟩
      rw [Nat.pow_zero, Nat.div_one]
      exact c
    · rw [if_neg c]
      have ih := nlB_ok hb f (n / b) (by
        rw [Nat.div_lt_iff_lt_mul hb]
        rw [Nat.pow_succ] at h
        exact h)
      refine ⟨?_, fun j hj => ?_⟩
      · rw [Nat.add_comm, Nat.pow_succ, Nat.mul_comm, ← Nat.div_div_eq_div_mul]
        exact ih.1
      · cases j with
        | zero =>
          rw [Nat.pow_zero, Nat.div_one]
          omega
        | succ j =>
          rw [Nat.pow_succ, Nat.mul_comm, ← Nat.div_div_eq_div_mul]
          exact ih.2 j (by omega)
theorem nK_uq {b n k k' : Nat} (h : nK b n k) (h' : nK b n k') : k = k' := by
  rcases Nat.lt_trichotomy k k' with q | q | q
  · have := h'.2 k q
    have := h.1
    omega
  · exact q
  · have := h.2 k' q
    have := h'.1
    omega
def nT (v : Int) : List Int := (if v < 0 then [45] else []) ++ dgB 10 48 (nlB 10 12 v.natAbs) v.natAbs
def nmT (k : Int) : List Int := if k = 1 then [91, 93] else dgB 128 0 (nlB 128 8 k.toNat) k.toNat
theorem dgB_snoc {b a : Nat} (hb : 0 < b) {n c : Nat} (hc : c < b) : ∀ k, dgB b a (k + 1) (b * n + c) = dgB b a k n ++ [((a + c : Nat) : Int)]
  | 0 => by
    show [((a + (b * n + c) / b ^ (0 + 1) % b : Nat) : Int), ((a + (b * n + c) % b : Nat) : Int)] = [((a + n % b : Nat) : Int), ((a + c : Nat) : Int)]
    rw [Nat.zero_add, Nat.pow_one, Nat.mul_add_div hb, Nat.div_eq_of_lt hc, Nat.add_zero, Nat.mul_add_mod, Nat.mod_eq_of_lt hc]
  | k + 1 => by
    show ((a + (b * n + c) / b ^ (k + 1 + 1) % b : Nat) : Int) :: dgB b a (k + 1) (b * n + c) = ((a + n / b ^ (k + 1) % b : Nat) : Int) :: (dgB b a k n ++ [((a + c : Nat) : Int)])
    rw [dgB_snoc hb hc k, Nat.pow_succ b (k + 1), Nat.mul_comm (b ^ (k + 1)) b, ← Nat.div_div_eq_div_mul, Nat.mul_add_div hb, Nat.div_eq_of_lt hc, Nat.add_zero]
/-- a name's signs -/
theorem nmT_r : ∀ (r : List Int) (f : Nat), r ≠ [] → (∀ c ∈ r, 1 ≤ c ∧ c < 128) → r.length ≤ f + 1 → 1 ≤ (pkM r.reverse).toNat ∧ 0 ≤ pkM r.reverse ∧ dgB 128 0 (nlB 128 f (pkM r.reverse).toNat) (pkM r.reverse).toNat = r.reverse
  | [], _, h, _, _ => absurd rfl h
  | c :: r, f, _, hc, hl => by
    have hc1 := hc c (List.mem_cons_self ..)
    rw [List.reverse_cons, pkM_s]
    cases r with
    | nil =>
      have e : pkM ([] : List Int).reverse = 0 := rfl
      rw [e, show 128 * (0 : Int) + c = c by omega]
      have hl0 : nlB 128 f c.toNat = 0 := by
        cases f with
        | zero => rfl
        | succ f =>
          unfold nlB
          rw [if_pos (by omega)]
      refine ⟨by omega, by omega, ?_⟩
      rw [hl0]
      show [((0 + c.toNat % 128 : Nat) : Int)] = [c]
      congr 1
      omega
    | cons d r =>
      cases f with
      | zero =>
        rw [List.length_cons, List.length_cons] at hl
        omega
      | succ f =>
        obtain ⟨i1, i2, i3⟩ := nmT_r (d :: r) f (by simp) (fun c' h' => hc c' (List.mem_cons_of_mem _ h')) (by rw [List.length_cons] at hl ⊢; rw [List.length_cons] at hl; omega)
        generalize pkM (d :: r).reverse = K at *
        have e : (128 * K + c).toNat = 128 * K.toNat + c.toNat := by omega
        refine ⟨by omega, by omega, ?_⟩
        rw [e]
        unfold nlB
        rw [if_neg (by omega), show (128 * K.toNat + c.toNat) / 128 = K.toNat by omega, Nat.add_comm 1, dgB_snoc (by decide) (show c.toNat < 128 by omega), i3]
        congr 1
        congr 1
        omega
theorem nmT_w {l : List Int} (hl : l ≠ []) (h6 : l.length ≤ 6) (h : ∀ c ∈ l, 48 ≤ c ∧ c ≤ 122) : nmT (pkM l) = l ∧ 0 ≤ pkM l := by
  have hr := nmT_r l.reverse 8 (by simpa using hl) (fun c hc => by
    have := h c (List.mem_reverse.mp hc)
    omega) (by rw [List.length_reverse]; omega)
  rw [List.reverse_reverse] at hr
  have := pkM_lo hl h
  refine ⟨?_, hr.2.1⟩
  unfold nmT
  rw [if_neg (by omega)]
  exact hr.2.2
/-- the model's text -/
def mOu (m : hy_m) (o : List Int) : Prop := m 74 70 = o.length ∧ o.length ≤ 120 ∧ ∀ (i : Nat) (c : Int), o[i]? = some c → m 117 (i : Int) = c
def wFm (m m' : hy_m) : Prop := ∀ (a : Nat) (e : Int), a ≠ 117 → ¬ (a = 74 ∧ e = 70) → m' a e = m a e
/-- the class's text -/
def cOu (m : hy_m) (o : List Int) : Prop := m 69 2 = o.length ∧ o.length ≤ 120 ∧ (∀ (i : Nat) (c : Int), o[i]? = some c → m 70 (i : Int) = c) ∧ 0 ≤ m 69 4 ∧ m 69 4 ≤ 120
def wFc (m m' : hy_m) : Prop := ∀ (a : Nat) (e : Int), a ≠ 70 → ¬ (a = 69 ∧ e = 2) → m' a e = m a e
section WBA
variable {m m' m'' : hy_m} {Q : Int → hy_m → Prop} {o : List Int}
theorem wFm.rfl' : wFm m m := fun _ _ _ _ => rfl
theorem wFm.tr (h : wFm m m') (h' : wFm m' m'') : wFm m m'' := fun a e q1 q2 => (h' a e q1 q2).trans (h a e q1 q2)
theorem wFc.rfl' : wFc m m := fun _ _ _ _ => rfl
theorem wFc.tr (h : wFc m m') (h' : wFc m' m'') : wFc m m'' := fun a e q1 q2 => (h' a e q1 q2).trans (h a e q1 q2)
/-- puts -/
theorem sp_286 {c : Int} (h : mOu m o) (hq : ∀ m', wFm m m' → mOu m' (tkp o [c]) → Q 0 m') : wq_286 c m Q := by
  obtain ⟨h1, h2, h3⟩ := h
  unfold wq_286
  rw [h1]
  refine ⟨fun q => hq m wFm.rfl' ?_, fun q => ⟨by omega, by omega, show -2147483648 ≤ _ ∧ _ < 2147483648 by omega, hq _ (fun a e q1 q2 => by rw [hy_uf q2, hy_ua q1]) ?_⟩⟩
  · rw [tkp_full (by omega)]
    exact ⟨h1, h2, h3⟩
  · rw [tkp_1 (by omega)]
    refine ⟨?_, ?_, fun i x hx => ?_⟩
    · rw [hy_us, List.length_append]
      rfl
    · rw [List.length_append]
      show o.length + 1 ≤ 120
      omega
    · rw [hy_ua (by decide)]
      by_cases ci : i < o.length
      · rw [List.getElem?_append_left ci] at hx
        rw [hy_uk (by omega)]
        exact h3 i x hx
      · have hil := (List.getElem?_eq_some_iff.mp hx).1
        rw [List.length_append] at hil
        have ei : i = o.length := by
          have : [c].length = 1 := rfl
          omega
        subst ei
        rw [List.getElem?_append_right (Nat.le_refl _), Nat.sub_self] at hx
        injection hx with hx
        rw [hy_us, hx]
/-- add -/
theorem sp_168 {c : Int} (hc : 0 ≤ c ∧ c < 65536) (h : cOu m o) (hq : ∀ m', wFc m m' → cOu m' (tkp o [c]) → Q 0 m') : wq_168 c m Q := by
  obtain ⟨h1, h2, h3, h4⟩ := h
  unfold wq_168
  rw [h1]
  refine ⟨fun q => hq m wFc.rfl' ?_, fun q => ⟨show 0 ≤ _ ∧ _ < 65536 by omega, by omega, by omega, show -2147483648 ≤ _ ∧ _ < 2147483648 by omega, hq _ (fun a e q1 q2 => by rw [hy_uf q2, hy_ua q1]) ?_⟩⟩
  · rw [tkp_full (by omega)]
    exact ⟨h1, h2, h3, h4⟩
  · rw [tkp_1 (by omega)]
    refine ⟨?_, ?_, fun i x hx => ?_, by rw [hy_uk (by decide), hy_ua (by decide)]; exact h4⟩
    · rw [hy_us, List.length_append]
      rfl
    · rw [List.length_append]
      show o.length + 1 ≤ 120
      omega
    · rw [hy_ua (by decide)]
      by_cases ci : i < o.length
      · rw [List.getElem?_append_left ci] at hx
        rw [hy_uk (by omega)]
        exact h3 i x hx
      · have hil := (List.getElem?_eq_some_iff.mp hx).1
        rw [List.length_append] at hil
        have ei : i = o.length := by
          have : [c].length = 1 := rfl
          omega
        subst ei
        rw [List.getElem?_append_right (Nat.le_refl _), Nat.sub_self] at hx
        injection hx with hx
        rw [hy_us, hx]
end WBA
