/-! HOW MANY BITS ARE SET -/
def md (b : Nat) (g : Nat → Nat) : Nat → Nat → Nat
  | 0, _ => 0
  | n + 1, x => g (x % b) + b * md b g n (x / b)
def rep (b c : Nat) : Nat → Nat
  | 0 => 0
  | n + 1 => c + b * rep b c n
/-- the bits below n -/
def pcn : Nat → Nat → Nat
  | 0, _ => 0
  | n + 1, x => x % 2 + pcn n (x / 2)
theorem and_sp (k A B : Nat) : A &&& B = ((A % 2 ^ k) &&& (B % 2 ^ k)) + 2 ^ k * ((A / 2 ^ k) &&& (B / 2 ^ k)) := by
  rw [← Nat.and_mod_two_pow, ← Nat.and_div_two_pow, Nat.mod_add_div]
theorem bc_1 : ∀ (n x : Nat), (x / 2) &&& rep 4 1 n = md 4 (fun d => d / 2) n x
  | 0, x => Nat.and_zero _
  | n + 1, x => by
    have ih := bc_1 n (x / 4)
    rw [and_sp 2]
    show ((x / 2 % 4) &&& ((1 + 4 * rep 4 1 n) % 4)) + 4 * ((x / 2 / 4) &&& ((1 + 4 * rep 4 1 n) / 4)) = x % 4 / 2 + 4 * md 4 (fun d => d / 2) n (x / 4)
    rw [show (1 + 4 * rep 4 1 n) % 4 = 1 by omega, show (1 + 4 * rep 4 1 n) / 4 = rep 4 1 n by omega, show x / 2 / 4 = x / 4 / 2 by omega, ih, Nat.and_one_is_mod]
    omega
theorem bc_2 : ∀ (n x : Nat), x < 4 ^ n → x - md 4 (fun d => d / 2) n x = md 4 (fun d => d - d / 2) n x ∧ md 4 (fun d => d / 2) n x ≤ x
  | 0, x, h => by
    have : x < 1 := h
    show x - 0 = 0 ∧ 0 ≤ x
    omega
  | n + 1, x, h => by
    have h : x < 4 ^ n * 4 := h
    have ih := bc_2 n (x / 4) (by omega)
    show x - (x % 4 / 2 + 4 * md 4 (fun d => d / 2) n (x / 4)) = (x % 4 - x % 4 / 2) + 4 * md 4 (fun d => d - d / 2) n (x / 4) ∧ _
    constructor
    · omega
    · show x % 4 / 2 + 4 * md 4 (fun d => d / 2) n (x / 4) ≤ x
      omega
theorem bc_3 : ∀ (n x : Nat), (md 4 (fun d => d - d / 2) (2 * n) x &&& rep 16 3 n) + (md 4 (fun d => d - d / 2) (2 * n) x / 4 &&& rep 16 3 n) = md 16 (pcn 4) n x
  | 0, x => by
    simp [md, rep]
  | n + 1, x => by
    have ih := bc_3 n (x / 16)
    have e : md 4 (fun d => d - d / 2) (2 * (n + 1)) x = (x % 4 - x % 4 / 2) + 4 * ((x / 4 % 4 - x / 4 % 4 / 2) + 4 * md 4 (fun d => d - d / 2) (2 * n) (x / 4 / 4)) := rfl
    rw [e, show x / 4 / 4 = x / 16 by omega]
    generalize md 4 (fun d => d - d / 2) (2 * n) (x / 16) = y at ih
    generalize ha : x % 4 - x % 4 / 2 = a
    generalize hb : x / 4 % 4 - x / 4 % 4 / 2 = b
    have ha2 : a ≤ 2 := by omega
    have hb2 : b ≤ 2 := by omega
    have three : ∀ z : Nat, z &&& 3 = z % 4 := fun z => Nat.and_two_pow_sub_one_eq_mod z 2
    rw [and_sp 4 (a + 4 * (b + 4 * y)), and_sp 4 ((a + 4 * (b + 4 * y)) / 4)]
    show (((a + 4 * (b + 4 * y)) % 16) &&& ((3 + 16 * rep 16 3 n) % 16)) + 16 * (((a + 4 * (b + 4 * y)) / 16) &&& ((3 + 16 * rep 16 3 n) / 16)) + ((((a + 4 * (b + 4 * y)) / 4 % 16) &&& ((3 + 16 * rep 16 3 n) % 16)) + 16 * (((a + 4 * (b + 4 * y)) / 4 / 16) &&& ((3 + 16 * rep 16 3 n) / 16))) = pcn 4 (x % 16) + 16 * md 16 (pcn 4) n (x / 16)
    rw [show (3 + 16 * rep 16 3 n) % 16 = 3 by omega, show (3 + 16 * rep 16 3 n) / 16 = rep 16 3 n by omega, three, three, show (a + 4 * (b + 4 * y)) / 16 = y by omega, show (a + 4 * (b + 4 * y)) / 4 / 16 = y / 4 by omega, ← ih]
    have hp : pcn 4 (x % 16) = a + b := by
      show x % 16 % 2 + (x % 16 / 2 % 2 + (x % 16 / 2 / 2 % 2 + (x % 16 / 2 / 2 / 2 % 2 + 0))) = a + b
      omega
    rw [hp]
    omega
theorem pcn_le : ∀ n x : Nat, pcn n x ≤ n
  | 0, _ => Nat.le_refl _
  | n + 1, x => by
    have := pcn_le n (x / 2)
    show x % 2 + pcn n (x / 2) ≤ n + 1
    omega
theorem bc_4 : ∀ (n x : Nat), (md 16 (pcn 4) (2 * n) x + md 16 (pcn 4) (2 * n) x / 16) &&& rep 256 15 n = md 256 (pcn 8) n x
  | 0, x => by
    simp [md, rep]
  | n + 1, x => by
    have ih := bc_4 n (x / 256)
    have e : md 16 (pcn 4) (2 * (n + 1)) x = pcn 4 (x % 16) + 16 * (pcn 4 (x / 16 % 16) + 16 * md 16 (pcn 4) (2 * n) (x / 16 / 16)) := rfl
    have hz : md 16 (pcn 4) (2 * n) (x / 256) % 16 ≤ 4 := by
      cases n with
      | zero =>
        show 0 % 16 ≤ 4
        omega
      | succ k =>
        have e2 : md 16 (pcn 4) (2 * (k + 1)) (x / 256) = pcn 4 (x / 256 % 16) + 16 * md 16 (pcn 4) (2 * k + 1) (x / 256 / 16) := rfl
        have := pcn_le 4 (x / 256 % 16)
        rw [e2]
        omega
    rw [e, show x / 16 / 16 = x / 256 by omega]
    have ha := pcn_le 4 (x % 16)
    have hb := pcn_le 4 (x / 16 % 16)
    have hp : pcn 8 (x % 256) = pcn 4 (x % 16) + pcn 4 (x / 16 % 16) := by
      show x % 256 % 2 + (x % 256 / 2 % 2 + (x % 256 / 2 / 2 % 2 + (x % 256 / 2 / 2 / 2 % 2 + (x % 256 / 2 / 2 / 2 / 2 % 2 + (x % 256 / 2 / 2 / 2 / 2 / 2 % 2 + (x % 256 / 2 / 2 / 2 / 2 / 2 / 2 % 2 + (x % 256 / 2 / 2 / 2 / 2 / 2 / 2 / 2 % 2 + 0))))))) = x % 16 % 2 + (x % 16 / 2 % 2 + (x % 16 / 2 / 2 % 2 + (x % 16 / 2 / 2 / 2 % 2 + 0))) + (x / 16 % 16 % 2 + (x / 16 % 16 / 2 % 2 + (x / 16 % 16 / 2 / 2 % 2 + (x / 16 % 16 / 2 / 2 / 2 % 2 + 0))))
      omega
    show _ = pcn 8 (x % 256) + 256 * md 256 (pcn 8) n (x / 256)
    rw [hp]
    generalize pcn 4 (x % 16) = a at ha
    generalize pcn 4 (x / 16 % 16) = b at hb
    generalize md 16 (pcn 4) (2 * n) (x / 256) = z at ih hz
    have ft : ∀ z : Nat, z &&& 15 = z % 16 := fun z => Nat.and_two_pow_sub_one_eq_mod z 4
    rw [and_sp 8]
    show (((a + 16 * (b + 16 * z) + (a + 16 * (b + 16 * z)) / 16) % 256) &&& ((15 + 256 * rep 256 15 n) % 256)) + 256 * (((a + 16 * (b + 16 * z) + (a + 16 * (b + 16 * z)) / 16) / 256) &&& ((15 + 256 * rep 256 15 n) / 256)) = _
    rw [show (15 + 256 * rep 256 15 n) % 256 = 15 by omega, show (15 + 256 * rep 256 15 n) / 256 = rep 256 15 n by omega, ft, show (a + 16 * (b + 16 * z) + (a + 16 * (b + 16 * z)) / 16) / 256 = z + z / 16 by omega, ih]
    omega
theorem pcn_add : ∀ a b x : Nat, pcn (a + b) x = pcn a x + pcn b (x / 2 ^ a)
  | 0, b, x => by
    rw [Nat.zero_add, Nat.pow_zero, Nat.div_one]
    show _ = 0 + pcn b x
    omega
  | a + 1, b, x => by
    rw [show a + 1 + b = (a + b) + 1 by omega]
    show x % 2 + pcn (a + b) (x / 2) = x % 2 + pcn a (x / 2) + pcn b (x / 2 ^ (a + 1))
    rw [pcn_add a b (x / 2), Nat.div_div_eq_div_mul, Nat.pow_succ, Nat.mul_comm 2 (2 ^ a)]
    omega
theorem pcn_mod : ∀ n x : Nat, pcn n (x % 2 ^ n) = pcn n x
  | 0, _ => rfl
  | n + 1, x => by
    show x % 2 ^ (n + 1) % 2 + pcn n (x % 2 ^ (n + 1) / 2) = x % 2 + pcn n (x / 2)
    have e1 : x % 2 ^ (n + 1) % 2 = x % 2 := by
      rw [Nat.pow_succ, Nat.mul_comm]
      exact Nat.mod_mul_right_mod ..
    have e2 : x % 2 ^ (n + 1) / 2 = x / 2 % 2 ^ n := by
      rw [Nat.pow_succ, Nat.mul_comm, Nat.mod_mul_right_div_self]
    rw [e1, e2, pcn_mod n (x / 2)]
/-- the whole -/
theorem bc_5 (x : Nat) (h : x < 4294967296) (w : Nat) (hw : w = md 256 (pcn 8) 4 x) : ((w + w / 256) + (w + w / 256) / 65536) % 64 = pcn 32 x ∧ w ≤ 134744072 := by
  have e : md 256 (pcn 8) 4 x = pcn 8 (x % 256) + 256 * (pcn 8 (x / 256 % 256) + 256 * (pcn 8 (x / 256 / 256 % 256) + 256 * (pcn 8 (x / 256 / 256 / 256 % 256) + 256 * 0))) := rfl
  have p : pcn 32 x = pcn 8 (x % 256) + (pcn 8 (x / 256 % 256) + (pcn 8 (x / 256 / 256 % 256) + pcn 8 (x / 256 / 256 / 256 % 256))) := by
    have m8 : ∀ y, pcn 8 (y % 256) = pcn 8 y := fun y => pcn_mod 8 y
    rw [m8, m8, m8, m8, show (32 : Nat) = 8 + (8 + (8 + 8)) from rfl, pcn_add 8, pcn_add 8, pcn_add 8]
  have l1 := pcn_le 8 (x % 256)
  have l2 := pcn_le 8 (x / 256 % 256)
  have l3 := pcn_le 8 (x / 256 / 256 % 256)
  have l4 := pcn_le 8 (x / 256 / 256 / 256 % 256)
  rw [e] at hw
  rw [p]
  generalize pcn 8 (x % 256) = a at *
  generalize pcn 8 (x / 256 % 256) = b at *
  generalize pcn 8 (x / 256 / 256 % 256) = c at *
  generalize pcn 8 (x / 256 / 256 / 256 % 256) = d at *
  have q1 : w / 256 = b + 256 * (c + 256 * d) := by omega
  have q2 : w + w / 256 = (a + b) + 256 * (b + c) + 65536 * (c + d + 256 * d) := by omega
  have q3 : (w + w / 256) / 65536 = c + d + 256 * d := by omega
  refine ⟨?_, by omega⟩
  rw [q3, q2, show a + b + 256 * (b + c) + 65536 * (c + d + 256 * d) + (c + d + 256 * d) = (a + (b + (c + d))) + 64 * (4 * (b + c) + 1024 * (c + d + 256 * d) + 4 * d) by omega, Nat.add_mul_mod_self_left]
  omega
theorem iSu_n {a k : Nat} (ha : a < 2 ^ 31) (hk : k < 32) : iSu (a : Int) (k : Int) = ((a / 2 ^ k : Nat) : Int) := by
  have c : ∀ k : Fin 32, (((iI (((k : Nat)) : Int)).toUInt32 &&& Int32.toUInt32 31).toBitVec.toNat % 32) = k := by decide +kernel
  have hc := c ⟨k, hk⟩
  unfold iSu
  have hle : a / 2 ^ k ≤ a := Nat.div_le_self ..
  refine iT_n ?_ (by omega)
  have hb : ((iI (a : Int)).toUInt32).toNat = a := by
    show (iI (a : Int)).toBitVec.toNat = a
    rw [iI_bn, Nat.mod_eq_of_lt (by omega)]
  show (((iI (a : Int)).toUInt32 >>> ((iI (k : Int)).toUInt32 &&& Int32.toUInt32 31))).toNat = _
  rw [UInt32.toNat_shiftRight, hb, Nat.shiftRight_eq_div_pow]
  congr 2
/-- Integer.bitCount -/
theorem sp_307 {m : hy_m} {Q : Int → hy_m → Prop} {x : Nat} (hx : x < 2 ^ 31) (hq : Q ((pcn 32 x : Nat) : Int) m) : wq_307 (x : Int) m Q := by
  have r1 : ∀ y : Nat, y < 2 ^ 31 → iW (y : Int) = y := fun y hy => iW_id (show -2147483648 ≤ _ ∧ _ < 2147483648 by omega)
  have c5 : rep 4 1 16 = 1431655765 := by decide
  have c3 : rep 16 3 8 = 858993459 := by decide
  have cf : rep 256 15 4 = 252645135 := by decide
  have s1 := bc_1 16 x
  have s2 := bc_2 16 x (Nat.lt_of_lt_of_le hx (by decide))
  have s3 := bc_3 8 x
  have s4 := bc_4 4 x
  have s5 := bc_5 x (by omega) _ rfl
  rw [c5] at s1
  rw [c3] at s3
  rw [cf] at s4
  have u1 : iSu (x : Int) 1 = ((x / 2 : Nat) : Int) := iSu_n (k := 1) hx (by decide)
  have a1 : iA (iSu (x : Int) 1) 1431655765 = ((md 4 (fun d => d / 2) 16 x : Nat) : Int) := by
    rw [u1, ← s1]
    exact iA_n (by omega) (by decide)
  have b1 : iW ((x : Int) - iA (iSu (x : Int) 1) 1431655765) = ((md 4 (fun d => d - d / 2) 16 x : Nat) : Int) := by
    rw [a1, show (x : Int) - ((md 4 (fun d => d / 2) 16 x : Nat) : Int) = ((x - md 4 (fun d => d / 2) 16 x : Nat) : Int) by omega, r1 _ (by omega), s2.1]
  have hy : md 4 (fun d => d - d / 2) 16 x < 2 ^ 31 := by omega
  have c1 : iW (iA ((md 4 (fun d => d - d / 2) 16 x : Nat) : Int) 858993459 + iA (iSu ((md 4 (fun d => d - d / 2) 16 x : Nat) : Int) 2) 858993459) = ((md 16 (pcn 4) 8 x : Nat) : Int) := by
    have e1 : iA ((md 4 (fun d => d - d / 2) 16 x : Nat) : Int) 858993459 = ((md 4 (fun d => d - d / 2) 16 x &&& 858993459 : Nat) : Int) := iA_n hy (by decide)
    have e2 : iSu ((md 4 (fun d => d - d / 2) 16 x : Nat) : Int) 2 = ((md 4 (fun d => d - d / 2) 16 x / 4 : Nat) : Int) := iSu_n (k := 2) hy (by decide)
    have e3 : iA ((md 4 (fun d => d - d / 2) 16 x / 4 : Nat) : Int) 858993459 = ((md 4 (fun d => d - d / 2) 16 x / 4 &&& 858993459 : Nat) : Int) := iA_n (by omega) (by decide)
    have l1 : md 4 (fun d => d - d / 2) 16 x &&& 858993459 ≤ 858993459 := Nat.and_le_right
    have l2 : md 4 (fun d => d - d / 2) 16 x / 4 &&& 858993459 ≤ 858993459 := Nat.and_le_right
    rw [e1, e2, e3, ← Int.natCast_add, r1 _ (by omega), s3]
  have hz : md 16 (pcn 4) 8 x ≤ 1717986918 := by
    have l1 : md 4 (fun d => d - d / 2) 16 x &&& 858993459 ≤ 858993459 := Nat.and_le_right
    have l2 : md 4 (fun d => d - d / 2) 16 x / 4 &&& 858993459 ≤ 858993459 := Nat.and_le_right
    have s3 : (md 4 (fun d => d - d / 2) 16 x &&& 858993459) + (md 4 (fun d => d - d / 2) 16 x / 4 &&& 858993459) = md 16 (pcn 4) 8 x := s3
    omega
  have hw := s5.2
  have d1 : iA (iW (((md 16 (pcn 4) 8 x : Nat) : Int) + iSu ((md 16 (pcn 4) 8 x : Nat) : Int) 4)) 252645135 = ((md 256 (pcn 8) 4 x : Nat) : Int) := by
    have e1 : iSu ((md 16 (pcn 4) 8 x : Nat) : Int) 4 = ((md 16 (pcn 4) 8 x / 16 : Nat) : Int) := iSu_n (k := 4) (by omega) (by decide)
    have s4 : (md 16 (pcn 4) 8 x + md 16 (pcn 4) 8 x / 16) &&& 252645135 = md 256 (pcn 8) 4 x := s4
    rw [e1, ← Int.natCast_add, r1 _ (by omega), ← s4]
    exact iA_n (by omega) (by decide)
  unfold wq_307
  rw [b1, c1, d1]
  generalize md 256 (pcn 8) 4 x = w at s5 hw
  have e8 : iSu (w : Int) 8 = ((w / 256 : Nat) : Int) := iSu_n (k := 8) (by omega) (by decide)
  have f1 : iW ((w : Int) + iSu (w : Int) 8) = ((w + w / 256 : Nat) : Int) := by
    rw [e8, ← Int.natCast_add, r1 _ (by omega)]
  rw [f1]
  have e16 : iSu ((w + w / 256 : Nat) : Int) 16 = (((w + w / 256) / 65536 : Nat) : Int) := iSu_n (k := 16) (by omega) (by decide)
  rw [e16, ← Int.natCast_add, r1 _ (by omega)]
  have e63 : iA (((w + w / 256) + (w + w / 256) / 65536 : Nat) : Int) 63 = ((((w + w / 256) + (w + w / 256) / 65536) % 64 : Nat) : Int) := by
    have := iA_m (((w + w / 256) + (w + w / 256) / 65536 : Nat) : Int) (k := 6) (by decide)
    rw [show ((2 ^ 6 - 1 : Nat) : Int) = 63 from rfl] at this
    rw [this]
    omega
  rw [e63, s5.1]
  exact hq
