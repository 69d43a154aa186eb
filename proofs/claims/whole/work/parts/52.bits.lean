/-! BITS -/
theorem jI_bn (n : Nat) : (jI (n : Int)).toBitVec.toNat = n % 2 ^ 64 := by
  rw [Int64.toBitVec_ofInt, BitVec.ofInt_natCast, BitVec.toNat_ofNat]
theorem iI_bn (n : Nat) : (iI (n : Int)).toBitVec.toNat = n % 2 ^ 32 := by
  rw [Int32.toBitVec_ofInt, BitVec.ofInt_natCast, BitVec.toNat_ofNat]
theorem jT_n {x : Int64} {n : Nat} (h : x.toBitVec.toNat = n) (hn : n < 2 ^ 63) : x.toInt = n := by
  rw [← Int64.toInt_toBitVec, BitVec.toInt_eq_toNat_of_lt (by rw [h]; omega), h]
theorem iT_n {x : Int32} {n : Nat} (h : x.toBitVec.toNat = n) (hn : n < 2 ^ 31) : x.toInt = n := by
  rw [← Int32.toInt_toBitVec, BitVec.toInt_eq_toNat_of_lt (by rw [h]; omega), h]
theorem jO_n {a b : Nat} (ha : a < 2 ^ 63) (hb : b < 2 ^ 63) : jO a b = ((a ||| b : Nat) : Int) := by
  unfold jO
  refine jT_n ?_ (Nat.or_lt_two_pow ha hb)
  rw [Int64.toBitVec_or, BitVec.toNat_or, jI_bn, jI_bn, Nat.mod_eq_of_lt (by omega), Nat.mod_eq_of_lt (by omega)]
theorem iO_n {a b : Nat} (ha : a < 2 ^ 31) (hb : b < 2 ^ 31) : iO a b = ((a ||| b : Nat) : Int) := by
  unfold iO
  refine iT_n ?_ (Nat.or_lt_two_pow ha hb)
  rw [Int32.toBitVec_or, BitVec.toNat_or, iI_bn, iI_bn, Nat.mod_eq_of_lt (by omega), Nat.mod_eq_of_lt (by omega)]
theorem jA_n {a b : Nat} (ha : a < 2 ^ 63) (hb : b < 2 ^ 63) : jA a b = ((a &&& b : Nat) : Int) := by
  unfold jA
  have : a &&& b ≤ a := Nat.and_le_left
  refine jT_n ?_ (by omega)
  rw [Int64.toBitVec_and, BitVec.toNat_and, jI_bn, jI_bn, Nat.mod_eq_of_lt (by omega), Nat.mod_eq_of_lt (by omega)]
theorem iA_n {a b : Nat} (ha : a < 2 ^ 31) (hb : b < 2 ^ 31) : iA a b = ((a &&& b : Nat) : Int) := by
  unfold iA
  have : a &&& b ≤ a := Nat.and_le_left
  refine iT_n ?_ (by omega)
  rw [Int32.toBitVec_and, BitVec.toNat_and, iI_bn, iI_bn, Nat.mod_eq_of_lt (by omega), Nat.mod_eq_of_lt (by omega)]
theorem jS_c : ∀ k : Fin 64, ((((iI (((k : Nat)) : Int)).toInt64 &&& 63).toBitVec).smod 64).toNat = k := by decide +kernel
theorem iS_c : ∀ k : Fin 32, (((iI (((k : Nat)) : Int) &&& 31).toBitVec).smod 32).toNat = k := by decide +kernel
theorem jSl_n {a k : Nat} (hk : k < 64) (h : a * 2 ^ k < 2 ^ 63) : jSl a k = ((a * 2 ^ k : Nat) : Int) := by
  unfold jSl
  refine jT_n ?_ h
  have hc := jS_c ⟨k, hk⟩
  have ha : a < 2 ^ 63 := Nat.lt_of_le_of_lt (Nat.le_mul_of_pos_right a (Nat.two_pow_pos k)) h
  rw [Int64.toBitVec_shiftLeft, BitVec.shiftLeft_eq', BitVec.toNat_shiftLeft]
  rw [show ((((iI (k : Int)).toInt64 &&& 63).toBitVec).smod (64 : BitVec 64)).toNat = k from hc, jI_bn, Nat.mod_eq_of_lt (show a < 2 ^ 64 by omega), Nat.shiftLeft_eq, Nat.mod_eq_of_lt (by omega)]
theorem iSl_n {a k : Nat} (hk : k < 32) (h : a * 2 ^ k < 2 ^ 31) : iSl a k = ((a * 2 ^ k : Nat) : Int) := by
  unfold iSl
  refine iT_n ?_ h
  have hc := iS_c ⟨k, hk⟩
  have ha : a < 2 ^ 31 := Nat.lt_of_le_of_lt (Nat.le_mul_of_pos_right a (Nat.two_pow_pos k)) h
  rw [Int32.toBitVec_shiftLeft, BitVec.shiftLeft_eq', BitVec.toNat_shiftLeft]
  rw [show (((iI (k : Int) &&& 31).toBitVec).smod (32 : BitVec 32)).toNat = k from hc, iI_bn, Nat.mod_eq_of_lt (show a < 2 ^ 32 by omega), Nat.shiftLeft_eq, Nat.mod_eq_of_lt (by omega)]
theorem iSr_n {x : Int} {k : Nat} (hx : hy_r 0 x) (hk : k < 32) : iSr x k = x / ((2 ^ k : Nat) : Int) := by
  unfold iSr
  have hc := iS_c ⟨k, hk⟩
  rw [← Int32.toInt_toBitVec, Int32.toBitVec_shiftRight, BitVec.toInt_sshiftRight']
  rw [show (((iI (k : Int) &&& 31).toBitVec).smod (32 : BitVec 32)).toNat = k from hc, Int32.toInt_toBitVec, iI_t hx, Int.shiftRight_eq_div_pow]
theorem jSr_n {x : Int} {k : Nat} (hx : hy_r 1 x) (hk : k < 64) : jSr x k = x / ((2 ^ k : Nat) : Int) := by
  unfold jSr
  have hc := jS_c ⟨k, hk⟩
  rw [← Int64.toInt_toBitVec, Int64.toBitVec_shiftRight, BitVec.toInt_sshiftRight']
  rw [show ((((iI (k : Int)).toInt64 &&& 63).toBitVec).smod (64 : BitVec 64)).toNat = k from hc, Int64.toInt_toBitVec, jI_t hx, Int.shiftRight_eq_div_pow]
theorem iA_m (x : Int) {k : Nat} (hk : k < 32) : iA x ((2 ^ k - 1 : Nat) : Int) = x % ((2 ^ k : Nat) : Int) := by
  unfold iA
  have hp : 2 ^ k ≤ 2 ^ 31 := Nat.pow_le_pow_right (by decide) (by omega)
  have hpos := Nat.two_pow_pos k
  have e : (iI x &&& iI ((2 ^ k - 1 : Nat) : Int)).toBitVec.toNat = (x % ((2 ^ k : Nat) : Int)).toNat := by
    rw [Int32.toBitVec_and, BitVec.toNat_and, iI_bn, Nat.mod_eq_of_lt (by omega), Nat.and_two_pow_sub_one_eq_mod, Int32.toBitVec_ofInt, BitVec.toNat_ofInt]
    have h0 : 0 ≤ x % ((2 ^ 32 : Nat) : Int) := Int.emod_nonneg _ (by decide)
    have h1 : (((x % ((2 ^ 32 : Nat) : Int)).toNat % 2 ^ k : Nat) : Int) = x % ((2 ^ k : Nat) : Int) := by
      rw [Int.natCast_emod, Int.toNat_of_nonneg h0, Int.emod_emod_of_dvd]
      exact Int.natCast_dvd_natCast.mpr (Nat.pow_dvd_pow 2 (by omega))
    have h2 := Int.emod_nonneg x (b := ((2 ^ k : Nat) : Int)) (by omega)
    omega
  have hlt := Int.emod_lt_of_pos x (b := ((2 ^ k : Nat) : Int)) (by omega)
  have h0 := Int.emod_nonneg x (b := ((2 ^ k : Nat) : Int)) (by omega)
  rw [iT_n e (by omega)]
  omega
theorem jA_m (x : Int) {k : Nat} (hk : k < 64) : jA x ((2 ^ k - 1 : Nat) : Int) = x % ((2 ^ k : Nat) : Int) := by
  unfold jA
  have hp : 2 ^ k ≤ 2 ^ 63 := Nat.pow_le_pow_right (by decide) (by omega)
  have hpos := Nat.two_pow_pos k
  have e : (jI x &&& jI ((2 ^ k - 1 : Nat) : Int)).toBitVec.toNat = (x % ((2 ^ k : Nat) : Int)).toNat := by
    rw [Int64.toBitVec_and, BitVec.toNat_and, jI_bn, Nat.mod_eq_of_lt (by omega), Nat.and_two_pow_sub_one_eq_mod, Int64.toBitVec_ofInt, BitVec.toNat_ofInt]
    have h0 : 0 ≤ x % ((2 ^ 64 : Nat) : Int) := Int.emod_nonneg _ (by decide)
    have h1 : (((x % ((2 ^ 64 : Nat) : Int)).toNat % 2 ^ k : Nat) : Int) = x % ((2 ^ k : Nat) : Int) := by
      rw [Int.natCast_emod, Int.toNat_of_nonneg h0, Int.emod_emod_of_dvd]
      exact Int.natCast_dvd_natCast.mpr (Nat.pow_dvd_pow 2 (by omega))
    have h2 := Int.emod_nonneg x (b := ((2 ^ k : Nat) : Int)) (by omega)
    omega
  have hlt := Int.emod_lt_of_pos x (b := ((2 ^ k : Nat) : Int)) (by omega)
  have h0 := Int.emod_nonneg x (b := ((2 ^ k : Nat) : Int)) (by omega)
  rw [jT_n e (by omega)]
  omega
theorem iW_id {x : Int} (h : hy_r 0 x) : iW x = x := iI_t h
/-- a number above, one below -/
theorem or_add {a b k : Nat} (h : b < 2 ^ k) : b ||| a * 2 ^ k = b + a * 2 ^ k := by
  have := Nat.two_pow_add_eq_or_of_lt h a
  rw [Nat.or_comm, Nat.mul_comm, ← this]
  omega
