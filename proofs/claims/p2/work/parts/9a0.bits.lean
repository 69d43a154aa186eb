/-! SETS OF CLAUSES -/
def cntB (p : Nat → Bool) : Nat → Nat
  | 0 => 0
  | n + 1 => cntB p n + (if p n = true then 1 else 0)
/-- the set x holds those v below 20 of which p holds -/
def bS (x : Int) (p : Nat → Bool) : Prop := ∃ k : Nat, x = k ∧ k < 2 ^ 20 ∧ ∀ v, v < 20 → k.testBit v = p v
theorem bS_c {x : Int} {p q : Nat → Bool} (h : bS x p) (e : ∀ v, v < 20 → p v = q v) : bS x q := by
  obtain ⟨k, h1, h2, h3⟩ := h
  exact ⟨k, h1, h2, fun v hv => (h3 v hv).trans (e v hv)⟩
theorem tb_hi {k v : Nat} (h : k < 2 ^ 20) (hv : 20 ≤ v) : k.testBit v = false := Nat.testBit_lt_two_pow (Nat.lt_of_lt_of_le h (Nat.pow_le_pow_right (by decide) hv))
theorem bS_uq {x y : Int} {p q : Nat → Bool} (h : bS x p) (h' : bS y q) (e : ∀ v, v < 20 → p v = q v) : x = y := by
  obtain ⟨k, rfl, h2, h3⟩ := h
  obtain ⟨k', rfl, h2', h3'⟩ := h'
  congr 1
  refine Nat.eq_of_testBit_eq fun v => ?_
  by_cases c : v < 20
  · rw [h3 v c, h3' v c, e v c]
  · rw [tb_hi h2 (by omega), tb_hi h2' (by omega)]
theorem bS_0 : bS 0 (fun _ => false) := ⟨0, rfl, by decide, fun v _ => Nat.zero_testBit v⟩
theorem bS_z {x : Int} {p : Nat → Bool} (h : bS x p) : x = 0 ↔ ∀ v, v < 20 → p v = false := by
  refine ⟨fun e v hv => ?_, fun e => bS_uq h bS_0 e⟩
  obtain ⟨k, h1, h2, h3⟩ := h
  rw [← h3 v hv, show k = 0 by omega]
  exact Nat.zero_testBit v
theorem iSl_1 {i : Nat} (hi : i < 31) : iSl 1 (i : Int) = ((2 ^ i : Nat) : Int) := by
  have hp : 2 ^ i < 2 ^ 31 := Nat.pow_lt_pow_right (by decide) hi
  have := iSl_n (a := 1) (k := i) (by omega) (by omega)
  rw [Nat.one_mul] at this
  exact this
theorem p20 {i : Nat} (hi : i < 20) : 2 ^ i < 2 ^ 20 := Nat.pow_lt_pow_right (by decide) hi
theorem bS_1 {i : Nat} (hi : i < 20) : bS (iSl 1 (i : Int)) (fun v => decide (i = v)) := by
  rw [iSl_1 (by omega)]
  exact ⟨2 ^ i, rfl, p20 hi, fun v _ => Nat.testBit_two_pow⟩
theorem bS_or {x y : Int} {p q : Nat → Bool} (h : bS x p) (h' : bS y q) : bS (iO x y) (fun v => p v || q v) := by
  obtain ⟨k, rfl, h2, h3⟩ := h
  obtain ⟨k', rfl, h2', h3'⟩ := h'
  rw [iO_n (by omega) (by omega)]
  refine ⟨k ||| k', rfl, Nat.or_lt_two_pow h2 h2', fun v hv => ?_⟩
  rw [Nat.testBit_or, h3 v hv, h3' v hv]
theorem bS_and {x y : Int} {p q : Nat → Bool} (h : bS x p) (h' : bS y q) : bS (iA x y) (fun v => p v && q v) := by
  obtain ⟨k, rfl, h2, h3⟩ := h
  obtain ⟨k', rfl, h2', h3'⟩ := h'
  rw [iA_n (by omega) (by omega)]
  refine ⟨k &&& k', rfl, Nat.lt_of_le_of_lt Nat.and_le_left h2, fun v hv => ?_⟩
  rw [Nat.testBit_and, h3 v hv, h3' v hv]
theorem bS_t {x : Int} {p : Nat → Bool} {i : Nat} (h : bS x p) (hi : i < 20) : iA x (iSl 1 (i : Int)) = 0 ↔ p i = false := by
  refine (bS_z (bS_and h (bS_1 hi))).trans ⟨fun e => ?_, fun e v hv => ?_⟩
  · have := e i hi
    rw [decide_eq_true rfl, Bool.and_true] at this
    exact this
  · by_cases c : i = v
    · rw [← c, e, Bool.false_and]
    · rw [decide_eq_false c, Bool.and_false]
theorem iI_m1 : (iI (-1)).toBitVec.toNat = 2 ^ 32 - 1 := by decide
theorem bS_df {x y : Int} {p q : Nat → Bool} (h : bS x p) (h' : bS y q) : bS (iA x (iX y (-1))) (fun v => p v && !q v) := by
  obtain ⟨k, rfl, h2, h3⟩ := h
  obtain ⟨k', rfl, h2', h3'⟩ := h'
  have e : iA (k : Int) (iX (k' : Int) (-1)) = ((k &&& (k' ^^^ (2 ^ 32 - 1)) : Nat) : Int) := by
    unfold iA iX
    have hl : k &&& (k' ^^^ (2 ^ 32 - 1)) ≤ k := Nat.and_le_left
    refine iT_n ?_ (by omega)
    rw [show iI ((iI (k' : Int) ^^^ iI (-1)).toInt) = (iI (k' : Int) ^^^ iI (-1)) from Int32.ofInt_toInt _, Int32.toBitVec_and, BitVec.toNat_and, iI_bn, Int32.toBitVec_xor, BitVec.toNat_xor, iI_bn, iI_m1, Nat.mod_eq_of_lt (by omega), Nat.mod_eq_of_lt (by omega)]
  rw [e]
  refine ⟨_, rfl, Nat.lt_of_le_of_lt Nat.and_le_left h2, fun v hv => ?_⟩
  rw [Nat.testBit_and, Nat.testBit_xor, Nat.testBit_two_pow_sub_one, h3 v hv, h3' v hv, decide_eq_true (by omega)]
  show (p v && (q v ^^ true)) = (p v && !q v)
  rw [Bool.xor_true]
theorem low_ex : ∀ (n x : Nat), x ≤ n → 0 < x → ∃ c y, x = 2 ^ (c + 1) * y + 2 ^ c
  | 0, x, h, h' => by omega
  | n + 1, x, h, h' => by
    by_cases c : x % 2 = 1
    · exact ⟨0, x / 2, by show x = 2 * (x / 2) + 1; omega⟩
    · obtain ⟨c, y, e⟩ := low_ex n (x / 2) (by omega) (by omega)
      refine ⟨c + 1, y, ?_⟩
      have e1 : 2 ^ (c + 1 + 1) * y = 2 * (2 ^ (c + 1) * y) := by rw [Nat.pow_succ 2 (c + 1), Nat.mul_comm (2 ^ (c + 1)) 2, Nat.mul_assoc]
      have e3 : 2 ^ (c + 1) = 2 * 2 ^ c := by rw [Nat.pow_succ, Nat.mul_comm]
      rw [e1]
      generalize 2 ^ (c + 1) * y = A at *
      omega
section LOW
variable {x c y : Nat}
theorem low_t (h : x = 2 ^ (c + 1) * y + 2 ^ c) (j : Nat) : x.testBit j = if j < c + 1 then decide (c = j) else y.testBit (j - (c + 1)) := by
  rw [h, Nat.testBit_two_pow_mul_add y (Nat.pow_lt_pow_right (by decide) (Nat.lt_succ_self c)) j, Nat.testBit_two_pow]
theorem low_p (h : x = 2 ^ (c + 1) * y + 2 ^ c) (j : Nat) : (x - 1).testBit j = if j < c + 1 then decide (j < c) else y.testBit (j - (c + 1)) := by
  have hp := Nat.two_pow_pos c
  have hl : 2 ^ c < 2 ^ (c + 1) := Nat.pow_lt_pow_right (by decide) (Nat.lt_succ_self c)
  have e : x - 1 = 2 ^ (c + 1) * y + (2 ^ c - 1) := by
    rw [h, Nat.add_sub_assoc hp]
  rw [e, Nat.testBit_two_pow_mul_add y (by omega) j, Nat.testBit_two_pow_sub_one]
/-- the lowest alone -/
theorem low_a (h : x = 2 ^ (c + 1) * y + 2 ^ c) (hx : x < 2 ^ 20) : iA (x : Int) (-(x : Int)) = ((2 ^ c : Nat) : Int) := by
  have hp := Nat.two_pow_pos c
  have h0 : 0 < x := by rw [h]; omega
  have hc : c < 20 := by
    refine Nat.lt_of_not_le fun q => ?_
    have := Nat.pow_le_pow_right (n := 2) (by decide) q
    have : 2 ^ c ≤ x := by rw [h]; exact Nat.le_add_left _ _
    omega
  have hpc := p20 hc
  have en : (iI (-(x : Int))).toBitVec.toNat = 2 ^ 32 - (x - 1 + 1) := by
    rw [Int32.toBitVec_ofInt, BitVec.toNat_ofInt]
    omega
  unfold iA
  refine iT_n ?_ (by omega)
  rw [Int32.toBitVec_and, BitVec.toNat_and, iI_bn, en, Nat.mod_eq_of_lt (by omega)]
  refine Nat.eq_of_testBit_eq fun j => ?_
  rw [Nat.testBit_and, Nat.testBit_two_pow_sub_succ (by omega), low_t h, low_p h, Nat.testBit_two_pow]
  by_cases q : j < c + 1
  · rw [if_pos q, if_pos q]
    by_cases q2 : c = j
    · rw [decide_eq_true q2, decide_eq_true (show j < 32 by omega), decide_eq_false (show ¬ j < c by omega)]
      rfl
    · rw [decide_eq_false q2, Bool.false_and]
  · rw [if_neg q, if_neg q, decide_eq_false (show ¬ c = j by omega)]
    cases y.testBit (j - (c + 1))
    · rw [Bool.false_and]
    · rw [Bool.not_true, Bool.and_false, Bool.and_false]
/-- all but the lowest -/
theorem low_r (h : x = 2 ^ (c + 1) * y + 2 ^ c) (j : Nat) : (x &&& (x - 1)).testBit j = (x.testBit j && !decide (c = j)) := by
  rw [Nat.testBit_and, low_t h, low_p h]
  by_cases q : j < c + 1
  · rw [if_pos q, if_pos q]
    by_cases q2 : c = j
    · rw [decide_eq_true q2, decide_eq_false (show ¬ j < c by omega)]
      rfl
    · rw [decide_eq_false q2, Bool.false_and, Bool.false_and]
  · rw [if_neg q, if_neg q, decide_eq_false (show ¬ c = j by omega), Bool.and_self, Bool.not_false, Bool.and_true]
end LOW
theorem cntB_pcn {k : Nat} {p : Nat → Bool} : ∀ n, (∀ v, v < n → k.testBit v = p v) → pcn n k = cntB p n
  | 0, _ => rfl
  | n + 1, h => by
    rw [pcn_s, cntB_pcn n (fun v hv => h v (by omega)), h n (Nat.lt_succ_self n)]
    rfl
/-- how many -/
theorem bS_cnt {x : Int} {p : Nat → Bool} (h : bS x p) {m : hy_m} {Q : Int → hy_m → Prop} (hq : Q ((cntB p 20 : Nat) : Int) m) : wq_307 x m Q := by
  obtain ⟨k, rfl, h2, h3⟩ := h
  refine sp_307 (by omega) ?_
  have e32 : pcn 32 k = pcn 20 k + pcn 12 (k / 2 ^ 20) := pcn_add 20 12 k
  rw [e32, Nat.div_eq_of_lt h2, pcn_0, cntB_pcn 20 h3, Nat.add_zero]
  exact hq
theorem cntB_c {p q : Nat → Bool} : ∀ n, (∀ v, v < n → p v = q v) → cntB p n = cntB q n
  | 0, _ => rfl
  | n + 1, h => by
    show cntB p n + _ = cntB q n + _
    rw [cntB_c n (fun v hv => h v (by omega)), h n (Nat.lt_succ_self n)]
theorem cntB_le (p : Nat → Bool) : ∀ n, cntB p n ≤ n
  | 0 => Nat.le_refl _
  | n + 1 => by
    show cntB p n + _ ≤ n + 1
    have := cntB_le p n
    split <;> omega
theorem cntB_lt (c : Nat) : ∀ n, c ≤ n → cntB (fun v => decide (v < c)) n = c
  | 0, h => by
    have : c = 0 := by omega
    rw [this]
    rfl
  | n + 1, h => by
    show cntB (fun v => decide (v < c)) n + (if decide (n < c) = true then 1 else 0) = c
    by_cases q : c ≤ n
    · rw [cntB_lt c n q, decide_eq_false (show ¬ n < c by omega)]
      rfl
    · have q : c = n + 1 := by omega
      rw [decide_eq_true (show n < c by omega), cntB_c (q := fun v => decide (v < n)) n (fun v hv => by rw [decide_eq_true (show v < c by omega), decide_eq_true hv]), cntB_lt n n (Nat.le_refl n), q]
      rfl
/-- what is below c -/
theorem bS_b {c : Nat} (hc : c < 20) : bS (((2 ^ c : Nat) : Int) - 1) (fun v => decide (v < c)) := by
  have hp := Nat.two_pow_pos c
  have := p20 hc
  exact ⟨2 ^ c - 1, by omega, by omega, fun v _ => Nat.testBit_two_pow_sub_one c v⟩
/-- lowestOf; and the others -/
theorem bS_low {x : Int} {p : Nat → Bool} (h : bS x p) (h0 : x ≠ 0) : ∃ c, c < 20 ∧ p c = true ∧ (∀ v, v < c → p v = false) ∧ (∀ (m : hy_m) (Q : Int → hy_m → Prop), Q (c : Int) m → wq_27 x m Q) ∧ bS (iA x (x - 1)) (fun v => p v && !decide (c = v)) := by
  obtain ⟨k, rfl, h2, h3⟩ := h
  obtain ⟨c, y, e⟩ := low_ex k k (Nat.le_refl k) (by omega)
  have hp := Nat.two_pow_pos c
  have hc : c < 20 := by
    refine Nat.lt_of_not_le fun q => ?_
    have := Nat.pow_le_pow_right (n := 2) (by decide) q
    have : 2 ^ c ≤ k := by rw [e]; exact Nat.le_add_left _ _
    omega
  have hpc := p20 hc
  refine ⟨c, hc, ?_, fun v hv => ?_, fun m Q hq => ?_, ?_⟩
  · rw [← h3 c hc, low_t e, if_pos (Nat.lt_succ_self c), decide_eq_true rfl]
  · rw [← h3 v (by omega), low_t e, if_pos (by omega), decide_eq_false (by omega)]
  · unfold wq_27
    rw [low_a e h2]
    refine ⟨show -2147483648 ≤ _ ∧ _ < 2147483648 by omega, bS_cnt (bS_b hc) ?_⟩
    rw [cntB_lt c 20 (by omega)]
    exact hq
  · rw [show (k : Int) - 1 = ((k - 1 : Nat) : Int) by omega, iA_n (by omega) (by omega)]
    refine ⟨_, rfl, Nat.lt_of_le_of_lt Nat.and_le_left h2, fun v hv => ?_⟩
    rw [low_r e, h3 v hv]
