/-! RULES of the memory of ints: instructions -/
section KY2
variable {d : Nat} {mi : im_M} {pc : Nat} {lv : im_L} {r : List Value} {T : hy_T} {m : hy_m} {kd : Nat} {Q : hy_m → Int → Prop}
variable {ix len c k ea eb ec A B n t q : Nat} {ev : Value} {x v e : Int}
theorem ky_gf (ha : im_at mi.2.2.2.2.2 pc = some (pc, .getfield ix, len, c, k, ec, ev)) (hT : T.1 A = some (c, n)) (hk : k < n) (hq : hy_k c k = q) (hm : m A (k : Nat) = x) (ht : pc + len = t) (K : hy_r q x → ky_X d mi t lv (hy_v q x :: r) T m kd Q) : ky_X d mi pc lv (.ref A :: r) T m kd Q := by
  subst hm hq
  intro h hR
  obtain ⟨-, f, g1, g2, -⟩ := hR.2 A c n hT
  exact wp_h ha rfl (wh_gf g1 hk (g2 k hk).1) ht (K (g2 k hk).2 h hR)
theorem ky_gr (ha : im_at mi.2.2.2.2.2 pc = some (pc, .getfield ix, len, c, k, ec, ev)) (hT : T.1 A = some (c, n)) (hk : k < n) (hG : T.2 A k = some B) (ht : pc + len = t) (K : ky_X d mi t lv (.ref B :: r) T m kd Q) : ky_X d mi pc lv (.ref A :: r) T m kd Q := by
  intro h hR
  obtain ⟨-, f, g1, -, g3⟩ := hR.2 A c n hT
  exact wp_h ha rfl (wh_gf g1 hk (g3 k B hG)) ht (K h hR)
theorem ky_gn (ha : im_at mi.2.2.2.2.2 pc = some (pc, .getfield ix, len, c, k, ec, ev)) (hT : T.1 A = some (c, n)) (hk : k < n) (hq : hy_k c k = 3) (hm : m A (k : Nat) = x) (ht : pc + len = t) (K0 : x = 0 → ky_X d mi t lv (.null :: r) T m kd Q) (K1 : 0 < x → ky_X d mi t lv (.ref x.toNat :: r) T m kd Q) : ky_X d mi pc lv (.ref A :: r) T m kd Q := by
  subst hm
  intro h hR
  obtain ⟨-, f, g1, g2, -⟩ := hR.2 A c n hT
  obtain ⟨g3, g4⟩ := g2 k hk
  rw [hq] at g3 g4
  have g4 : 0 ≤ m A k := g4
  have g3 : f k = if m A k = 0 then .null else .ref (m A k).toNat := g3
  by_cases e : m A k = 0
  · rw [if_pos e] at g3
    exact wp_h ha rfl (wh_gf g1 hk g3) ht (K0 e h hR)
  · rw [if_neg e] at g3
    exact wp_h ha rfl (wh_gf g1 hk g3) ht (K1 (by omega) h hR)
theorem ky_al (ha : im_at mi.2.2.2.2.2 pc = some (pc, .arraylength, len, ea, eb, ec, ev)) (hT : T.1 A = some (q, n)) (h9 : 99 ≤ q) (ht : pc + len = t) (K : ky_X d mi t lv (.int (iI n) :: r) T m kd Q) : ky_X d mi pc lv (.ref A :: r) T m kd Q := by
  intro h hR
  obtain ⟨-, f, g1, -⟩ := hR.2 A q n hT
  refine wp_h ha rfl (wh_al g1 h9) ht ?_
  rw [← Int32.ofInt_eq_ofNat]
  exact K h hR
theorem ky_ia (ha : im_at mi.2.2.2.2.2 pc = some (pc, .iaload, len, ea, eb, ec, ev)) (hT : T.1 A = some (100, n)) (he : hy_r 0 e) (h0 : 0 ≤ e) (h1 : e < n) (hm : m A e = x) (ht : pc + len = t) (K : hy_r 0 x → ky_X d mi t lv (.int (iI x) :: r) T m kd Q) : ky_X d mi pc lv (.int (iI e) :: .ref A :: r) T m kd Q := by
  subst hm
  intro h hR
  obtain ⟨-, f, g1, g2, -⟩ := hR.2 A 100 n hT
  have g3 := g2 e.toNat (by omega)
  rw [show ((e.toNat : Nat) : Int) = e by omega] at g3
  exact wp_h ha rfl (wh_ia g1 (Or.inr rfl) (hy_ix he h0 h1) g3.1) ht (K g3.2 h hR)
theorem ky_la (ha : im_at mi.2.2.2.2.2 pc = some (pc, .laload, len, ea, eb, ec, ev)) (hT : T.1 A = some (101, n)) (he : hy_r 0 e) (h0 : 0 ≤ e) (h1 : e < n) (hm : m A e = x) (ht : pc + len = t) (K : hy_r 1 x → ky_X d mi t lv (.long (jI x) :: r) T m kd Q) : ky_X d mi pc lv (.int (iI e) :: .ref A :: r) T m kd Q := by
  subst hm
  intro h hR
  obtain ⟨-, f, g1, g2, -⟩ := hR.2 A 101 n hT
  have g3 := g2 e.toNat (by omega)
  rw [show ((e.toNat : Nat) : Int) = e by omega] at g3
  refine wp_h (st' := .long (jI (m A e)) :: r) (h' := h) ha rfl ?_ ht (K g3.2 h hR)
  dsimp only [im_h]
  rw [g1]
  dsimp only
  rw [if_pos rfl, hy_ix he h0 h1]
  dsimp only
  rw [g3.1]
  rfl
theorem ky_ca (ha : im_at mi.2.2.2.2.2 pc = some (pc, .caload, len, ea, eb, ec, ev)) (hT : T.1 A = some (102, n)) (he : hy_r 0 e) (h0 : 0 ≤ e) (h1 : e < n) (hm : m A e = x) (ht : pc + len = t) (K : hy_r 4 x → ky_X d mi t lv (.int (iI x) :: r) T m kd Q) : ky_X d mi pc lv (.int (iI e) :: .ref A :: r) T m kd Q := by
  subst hm
  intro h hR
  obtain ⟨-, f, g1, g2, -⟩ := hR.2 A 102 n hT
  have g3 := g2 e.toNat (by omega)
  rw [show ((e.toNat : Nat) : Int) = e by omega] at g3
  refine wp_h (st' := .int (iI (m A e)) :: r) (h' := h) ha rfl ?_ ht (K g3.2 h hR)
  dsimp only [im_h]
  rw [g1]
  dsimp only
  rw [if_pos rfl, hy_ix he h0 h1]
  dsimp only
  rw [g3.1]
  rfl
theorem ky_aa (ha : im_at mi.2.2.2.2.2 pc = some (pc, .aaload, len, ea, eb, ec, ev)) (hT : T.1 A = some (q, n)) (hq : 110 ≤ q) (he : hy_r 0 e) (h0 : 0 ≤ e) (h1 : e < n) (hm : m A e = x) (ht : pc + len = t) (K0 : x = 0 → ky_X d mi t lv (.null :: r) T m kd Q) (K1 : 0 < x → ky_X d mi t lv (.ref x.toNat :: r) T m kd Q) : ky_X d mi pc lv (.int (iI e) :: .ref A :: r) T m kd Q := by
  subst hm
  intro h hR
  obtain ⟨-, f, g1, g2, -⟩ := hR.2 A q n hT
  have g3 := g2 e.toNat (by omega)
  rw [show ((e.toNat : Nat) : Int) = e by omega] at g3
  have hk : hy_k q e.toNat = 3 := by
    unfold hy_k
    rw [if_neg (by omega), if_neg (by omega), if_neg (by omega), if_pos hq]
  rw [hk] at g3
  obtain ⟨g3, g4⟩ := g3
  have g4 : 0 ≤ m A e := g4
  have g3 : f e.toNat = if m A e = 0 then .null else .ref (m A e).toNat := g3
  by_cases e0 : m A e = 0
  · rw [if_pos e0] at g3
    exact wp_h ha rfl (wh_aa g1 hq (hy_ix he h0 h1) g3) ht (K0 e0 h hR)
  · rw [if_neg e0] at g3
    exact wp_h ha rfl (wh_aa g1 hq (hy_ix he h0 h1) g3) ht (K1 (by omega) h hR)
theorem ky_is (ha : im_at mi.2.2.2.2.2 pc = some (pc, .iastore, len, ea, eb, ec, ev)) (hT : T.1 A = some (100, n)) (he : hy_r 0 e) (h0 : 0 ≤ e) (h1 : e < n) (hv : hy_r 0 v) (ht : pc + len = t) (K : ky_X d mi t lv r T (hy_u m A e v) kd Q) : ky_X d mi pc lv (.int (iI v) :: .int (iI e) :: .ref A :: r) T m kd Q := by
  intro h hR
  obtain ⟨-, f, g1, g2, -⟩ := hR.2 A 100 n hT
  have g3 := hR.wr (k := e.toNat) hT g1 hv rfl
  rw [show ((e.toNat : Nat) : Int) = e by omega] at g3
  exact wp_h ha rfl (wh_is g1 (hy_ix he h0 h1)) ht ((K _ g3).imp (fun r => ky_P.of rfl rfl (fun a ha' => im_wr_ne _ _ (fun q => by rw [q, hT] at ha'; cases ha'))))
theorem ky_ls (ha : im_at mi.2.2.2.2.2 pc = some (pc, .lastore, len, ea, eb, ec, ev)) (hT : T.1 A = some (101, n)) (he : hy_r 0 e) (h0 : 0 ≤ e) (h1 : e < n) (hv : hy_r 1 v) (ht : pc + len = t) (K : ky_X d mi t lv r T (hy_u m A e v) kd Q) : ky_X d mi pc lv (.long (jI v) :: .int (iI e) :: .ref A :: r) T m kd Q := by
  intro h hR
  obtain ⟨-, f, g1, g2, -⟩ := hR.2 A 101 n hT
  have g3 := hR.wr (k := e.toNat) hT g1 hv rfl
  rw [show ((e.toNat : Nat) : Int) = e by omega] at g3
  refine wp_h ha rfl ?_ ht ((K _ g3).imp (fun r => ky_P.of rfl rfl (fun a ha' => im_wr_ne _ _ (fun q => by rw [q, hT] at ha'; cases ha'))))
  dsimp only [im_h]
  rw [g1]
  dsimp only
  rw [if_pos rfl, hy_ix he h0 h1]
  rfl
theorem hy_nar (hv : hy_r 4 v) : vp_nar .char (iI v) = iI v := by
  have hv' : 0 ≤ v ∧ v < 65536 := hv
  rw [vp_nar_char]
  obtain ⟨j, rfl⟩ := Int.eq_ofNat_of_zero_le hv'.1
  have e1 : iI (j : Int) = nI j := Int32.ofInt_eq_ofNat
  rw [e1]
  have hj : j < 65536 := by omega
  apply Int32.toBitVec_inj.1
  apply BitVec.eq_of_toNat_eq
  have e2 : (nI j).toBitVec.toNat = j := by
    show (BitVec.ofNat 32 j).toNat = j
    rw [BitVec.toNat_ofNat, Nat.mod_eq_of_lt (by omega)]
  have e3 : ((nI j).toUInt32.toUInt16.toUInt32).toNat = j := by
    rw [UInt16.toNat_toUInt32, UInt32.toNat_toUInt16]
    show (nI j).toBitVec.toNat % 2 ^ 16 = j
    rw [e2, Nat.mod_eq_of_lt (by omega)]
  rw [e2]
  exact e3
theorem ky_cs (ha : im_at mi.2.2.2.2.2 pc = some (pc, .castore, len, ea, eb, ec, ev)) (hT : T.1 A = some (102, n)) (he : hy_r 0 e) (h0 : 0 ≤ e) (h1 : e < n) (hv : hy_r 4 v) (ht : pc + len = t) (K : ky_X d mi t lv r T (hy_u m A e v) kd Q) : ky_X d mi pc lv (.int (iI v) :: .int (iI e) :: .ref A :: r) T m kd Q := by
  intro h hR
  obtain ⟨-, f, g1, g2, -⟩ := hR.2 A 102 n hT
  have g3 := hR.wr (k := e.toNat) hT g1 hv rfl
  rw [show ((e.toNat : Nat) : Int) = e by omega] at g3
  have g4 := wh_cs (pc := pc) (len := len) (ea := ea) (eb := eb) (ec := ec) (ev := ev) (r := r) (x := iI v) g1 (hy_ix he h0 h1)
  rw [hy_nar hv] at g4
  exact wp_h ha rfl g4 ht ((K _ g3).imp (fun r => ky_P.of rfl rfl (fun a ha' => im_wr_ne _ _ (fun q => by rw [q, hT] at ha'; cases ha'))))
theorem hy_kf {q : Nat} {v : Int} (h3 : q ≤ 3) (hv : hy_r q v) : im_kf q (hy_v q v) = true := by
  match q, h3, hv with
  | 0, _, _ => rfl
  | 1, _, _ => rfl
  | 2, _, hv =>
    have hv : v = 0 ∨ v = 1 := hv
    rcases hv with rfl | rfl <;> rfl
  | 3, _, _ =>
    show im_kf 3 (if v = 0 then .null else .ref v.toNat) = true
    split <;> rfl
theorem ky_pf (ha : im_at mi.2.2.2.2.2 pc = some (pc, .putfield ix, len, c, k, ec, ev)) (hT : T.1 A = some (c, n)) (hk : k < n) (hc : c < 50) (hq : mx_kd c k = q) (h3 : q ≤ 3) (hf : hy_fin c k = false) (hv : hy_r q v) (ht : pc + len = t) (K : ky_X d mi t lv r T (hy_u m A (k : Nat) v) kd Q) : ky_X d mi pc lv (hy_v q v :: .ref A :: r) T m kd Q := by
  subst hq
  intro h hR
  obtain ⟨-, f, g1, g2, -⟩ := hR.2 A c n hT
  have e1 : hy_k c k = mx_kd c k := if_pos hc
  have g3 := hR.wr (k := k) (x := v) hT g1 (by rw [e1]; exact hv) hf
  rw [e1] at g3
  exact wp_h ha rfl (wh_pf g1 hk (hy_kf h3 hv)) ht ((K _ g3).imp (fun r => ky_P.of rfl rfl (fun a ha' => im_wr_ne _ _ (fun q => by rw [q, hT] at ha'; cases ha'))))
end KY2
/-! numbers -/
section KP
variable {r : List Value} {x y : Int}
theorem kp_add : im_p .iadd (.int (iI y) :: .int (iI x) :: r) = some (.int (iI (x + y)) :: r) := by show some (Value.int (iI x + iI y) :: r) = _; rw [← Int32.ofInt_add]
theorem kp_sub : im_p .isub (.int (iI y) :: .int (iI x) :: r) = some (.int (iI (x - y)) :: r) := by show some (Value.int (iI x - iI y) :: r) = _; rw [← Int32.ofInt_sub]
theorem kp_mul : im_p .imul (.int (iI y) :: .int (iI x) :: r) = some (.int (iI (x * y)) :: r) := by show some (Value.int (iI x * iI y) :: r) = _; rw [← Int32.ofInt_mul]
theorem kp_neg : im_p .ineg (.int (iI x) :: r) = some (.int (iI (-x)) :: r) := by show some (Value.int (-iI x) :: r) = _; rw [← Int32.ofInt_neg]
theorem kp_ladd : im_p .ladd (.long (jI y) :: .long (jI x) :: r) = some (.long (jI (x + y)) :: r) := by show some (Value.long (jI x + jI y) :: r) = _; rw [← Int64.ofInt_add]
theorem kp_lsub : im_p .lsub (.long (jI y) :: .long (jI x) :: r) = some (.long (jI (x - y)) :: r) := by show some (Value.long (jI x - jI y) :: r) = _; rw [← Int64.ofInt_sub]
theorem kp_lmul : im_p .lmul (.long (jI y) :: .long (jI x) :: r) = some (.long (jI (x * y)) :: r) := by show some (Value.long (jI x * jI y) :: r) = _; rw [← Int64.ofInt_mul]
theorem kp_lneg : im_p .lneg (.long (jI x) :: r) = some (.long (jI (-x)) :: r) := by show some (Value.long (-jI x) :: r) = _; rw [← Int64.ofInt_neg]
/-- an int as it is kept -/
def iW (x : Int) : Int := (iI x).toInt
theorem iW_r (x : Int) : hy_r 0 (iW x) := iI_r _
theorem iW_i (x : Int) : iI (iW x) = iI x := Int32.ofInt_toInt _
theorem kp_w {i : Instr} {st : List Value} (h : im_p i st = some (.int (iI x) :: r)) : im_p i st = some (.int (iI (iW x)) :: r) := by rw [iW_i]; exact h
def iA (x y : Int) : Int := (iI x &&& iI y).toInt
def iO (x y : Int) : Int := (iI x ||| iI y).toInt
def iX (x y : Int) : Int := (iI x ^^^ iI y).toInt
def iSl (x y : Int) : Int := (iI x <<< (iI y &&& 31)).toInt
def iSr (x y : Int) : Int := (iI x >>> (iI y &&& 31)).toInt
def iSu (x y : Int) : Int := ((iI x).toUInt32 >>> ((iI y).toUInt32 &&& Int32.toUInt32 31)).toInt32.toInt
def jA (x y : Int) : Int := (jI x &&& jI y).toInt
def jO (x y : Int) : Int := (jI x ||| jI y).toInt
def jSl (x y : Int) : Int := (jI x <<< ((iI y).toInt64 &&& 63)).toInt
def jSr (x y : Int) : Int := (jI x >>> ((iI y).toInt64 &&& 63)).toInt
theorem kp_and : im_p .iand (.int (iI y) :: .int (iI x) :: r) = some (.int (iI (iA x y)) :: r) := congrArg (fun w => some (Value.int w :: r)) (Int32.ofInt_toInt _).symm
theorem kp_or : im_p .ior (.int (iI y) :: .int (iI x) :: r) = some (.int (iI (iO x y)) :: r) := congrArg (fun w => some (Value.int w :: r)) (Int32.ofInt_toInt _).symm
theorem kp_xor : im_p .ixor (.int (iI y) :: .int (iI x) :: r) = some (.int (iI (iX x y)) :: r) := congrArg (fun w => some (Value.int w :: r)) (Int32.ofInt_toInt _).symm
theorem kp_shl : im_p .ishl (.int (iI y) :: .int (iI x) :: r) = some (.int (iI (iSl x y)) :: r) := congrArg (fun w => some (Value.int w :: r)) (Int32.ofInt_toInt _).symm
theorem kp_shr : im_p .ishr (.int (iI y) :: .int (iI x) :: r) = some (.int (iI (iSr x y)) :: r) := congrArg (fun w => some (Value.int w :: r)) (Int32.ofInt_toInt _).symm
theorem kp_ushr : im_p .iushr (.int (iI y) :: .int (iI x) :: r) = some (.int (iI (iSu x y)) :: r) := congrArg (fun w => some (Value.int w :: r)) (Int32.ofInt_toInt _).symm
theorem kp_land : im_p .land (.long (jI y) :: .long (jI x) :: r) = some (.long (jI (jA x y)) :: r) := congrArg (fun w => some (Value.long w :: r)) (Int64.ofInt_toInt _).symm
theorem kp_lor : im_p .lor (.long (jI y) :: .long (jI x) :: r) = some (.long (jI (jO x y)) :: r) := congrArg (fun w => some (Value.long w :: r)) (Int64.ofInt_toInt _).symm
theorem kp_lshl : im_p .lshl (.int (iI y) :: .long (jI x) :: r) = some (.long (jI (jSl x y)) :: r) := congrArg (fun w => some (Value.long w :: r)) (Int64.ofInt_toInt _).symm
theorem kp_lshr : im_p .lshr (.int (iI y) :: .long (jI x) :: r) = some (.long (jI (jSr x y)) :: r) := congrArg (fun w => some (Value.long w :: r)) (Int64.ofInt_toInt _).symm
theorem kp_i2l (hx : hy_r 0 x) : im_p .i2l (.int (iI x) :: r) = some (.long (jI x) :: r) := by
  show some (Value.long (iI x).toInt64 :: r) = _
  have : (iI x).toInt64 = jI x := Int64.toInt_inj.mp (by rw [Int32.toInt_toInt64, iI_t hx, jI_t (hy_01 hx)])
  rw [this]
theorem kp_l2i : im_p .l2i (.long (jI x) :: r) = some (.int (iI x) :: r) := by
  show some (Value.int (jI x).toInt32 :: r) = _
  rw [jI, Int64.toInt32_ofInt]
theorem kp_i2c (hx : hy_r 4 x) : im_p .i2c (.int (iI x) :: r) = some (.int (iI x) :: r) := by
  have hx' : 0 ≤ x ∧ x < 65536 := hx
  obtain ⟨j, rfl⟩ := Int.eq_ofNat_of_zero_le hx'.1
  show some (Value.int ((iI (j : Int)).toUInt32 % 65536).toInt32 :: r) = _
  have e1 : iI (j : Int) = nI j := Int32.ofInt_eq_ofNat
  have : ((iI (j : Int)).toUInt32 % 65536).toInt32 = iI (j : Int) := by
    rw [e1]
    have hj : j < 65536 := by omega
    apply Int32.toBitVec_inj.1
    apply BitVec.eq_of_toNat_eq
    have e2 : (nI j).toBitVec.toNat = j := by
      show (BitVec.ofNat 32 j).toNat = j
      rw [BitVec.toNat_ofNat, Nat.mod_eq_of_lt (by omega)]
    have e3 : ((nI j).toUInt32 % 65536).toNat = j := by
      rw [UInt32.toNat_mod]
      show (nI j).toBitVec.toNat % 65536 = j
      rw [e2, Nat.mod_eq_of_lt (by omega)]
    rw [e2]
    exact e3
  rw [this]
def jc (x y : Int) : Int := if y < x then 1 else if x = y then 0 else -1
theorem jc_r (x y : Int) : hy_r 0 (jc x y) := by
  unfold jc
  split
  · exact hy_c rfl
  · split <;> exact hy_c rfl
theorem kp_lcmp (hx : hy_r 1 x) (hy : hy_r 1 y) : im_p .lcmp (.long (jI y) :: .long (jI x) :: r) = some (.int (iI (jc x y)) :: r) := by
  show some (Value.int (lg_cmp (jI x) (jI y)) :: r) = _
  unfold lg_cmp jc
  by_cases h1 : y < x
  · rw [if_pos ((jI_lt hy hx).mpr h1), if_pos h1]
    rfl
  · rw [if_neg (fun q => h1 ((jI_lt hy hx).mp q)), if_neg h1]
    by_cases h2 : x = y
    · rw [if_pos ((jI_eq hx hy).mpr h2), if_pos h2]
      rfl
    · rw [if_neg (fun q => h2 ((jI_eq hx hy).mp q)), if_neg h2]
      rfl
theorem jI_div (hx : 0 ≤ x) (hx' : hy_r 1 x) (hy : 0 < y) (hy' : hy_r 1 y) : jI x / jI y = jI (x / y) := by
  have hx2 : -9223372036854775808 ≤ x ∧ x < 9223372036854775808 := hx'
  have hle : x / y ≤ x := Int.ediv_le_self _ hx
  have h0 : 0 ≤ x / y := Int.ediv_nonneg hx (by omega)
  have hr : hy_r 1 (x / y) := by
    show -9223372036854775808 ≤ x / y ∧ x / y < 9223372036854775808
    omega
  rw [← Int64.toInt_inj, Int64.toInt_div_of_ne_right _ _ (fun q => ?_), jI_t hx', jI_t hy', jI_t hr, Int.tdiv_eq_ediv_of_nonneg hx]
  have q2 : (jI y).toInt = (-1 : Int64).toInt := by rw [q]
  rw [jI_t hy'] at q2
  have : (-1 : Int64).toInt = -1 := rfl
  omega
theorem kp_ldiv (hx : 0 ≤ x) (hx' : hy_r 1 x) (hy : 0 < y) (hy' : hy_r 1 y) : im_p .ldiv (.long (jI y) :: .long (jI x) :: r) = some (.long (jI (x / y)) :: r) := by
  show (if jI y = 0 then none else some (Value.long (jI x / jI y) :: r)) = _
  rw [if_neg (fun q => ?_), jI_div hx hx' hy hy']
  have q : jI y = jI 0 := q
  rw [jI_eq hy' (hy_cl rfl)] at q
  omega
theorem kp_lrem (hx : 0 ≤ x) (hx' : hy_r 1 x) (hy : 0 < y) (hy' : hy_r 1 y) : im_p .lrem (.long (jI y) :: .long (jI x) :: r) = some (.long (jI (x % y)) :: r) := by
  show (if jI y = 0 then none else some (Value.long (jI x - jI x / jI y * jI y) :: r)) = _
  rw [if_neg (fun q => ?_), jI_div hx hx' hy hy', ← Int64.ofInt_mul, ← Int64.ofInt_sub]
  · have : x - x / y * y = x % y := by
      have := Int.mul_ediv_add_emod x y
      rw [Int.mul_comm] at this
      omega
    rw [this]
  · have q : jI y = jI 0 := q
    rw [jI_eq hy' (hy_cl rfl)] at q
    omega
theorem iI_div (hx : 0 ≤ x) (hx' : hy_r 0 x) (hy : 0 < y) (hy' : hy_r 0 y) : iI x / iI y = iI (x / y) := by
  have hx2 : -2147483648 ≤ x ∧ x < 2147483648 := hx'
  have hle : x / y ≤ x := Int.ediv_le_self _ hx
  have h0 : 0 ≤ x / y := Int.ediv_nonneg hx (by omega)
  have hr : hy_r 0 (x / y) := by
    show -2147483648 ≤ x / y ∧ x / y < 2147483648
    omega
  rw [← Int32.toInt_inj, Int32.toInt_div_of_ne_right _ _ (fun q => ?_), iI_t hx', iI_t hy', iI_t hr, Int.tdiv_eq_ediv_of_nonneg hx]
  have q2 : (iI y).toInt = (-1 : Int32).toInt := by rw [q]
  rw [iI_t hy'] at q2
  have : (-1 : Int32).toInt = -1 := rfl
  omega
theorem kp_div (hx : 0 ≤ x) (hx' : hy_r 0 x) (hy : 0 < y) (hy' : hy_r 0 y) : im_p .idiv (.int (iI y) :: .int (iI x) :: r) = some (.int (iI (x / y)) :: r) := by
  show (if iI y = 0 then none else some (Value.int (iI x / iI y) :: r)) = _
  rw [if_neg (fun q => ?_), iI_div hx hx' hy hy']
  have q : iI y = iI 0 := q
  rw [iI_eq hy' (hy_c rfl)] at q
  omega
end KP
/-! branches -/
section KB
variable {r : List Value} {x y o : Int}
theorem kb_lt (hx : hy_r 0 x) (hy : hy_r 0 y) : kb_B (.if_icmp .lt o) (.int (iI y) :: .int (iI x) :: r) o r (x < y) (y ≤ x) := ⟨fun h => if_pos ((iI_lt hx hy).mpr h), fun h => if_neg (fun q => by have := (iI_lt hx hy).mp q; omega), by omega⟩
theorem kb_ge (hx : hy_r 0 x) (hy : hy_r 0 y) : kb_B (.if_icmp .ge o) (.int (iI y) :: .int (iI x) :: r) o r (y ≤ x) (x < y) := ⟨fun h => if_pos ((iI_le hy hx).mpr h), fun h => if_neg (fun q => by have := (iI_le hy hx).mp q; omega), by omega⟩
theorem kb_gt (hx : hy_r 0 x) (hy : hy_r 0 y) : kb_B (.if_icmp .gt o) (.int (iI y) :: .int (iI x) :: r) o r (y < x) (x ≤ y) := ⟨fun h => if_pos ((iI_lt hy hx).mpr h), fun h => if_neg (fun q => by have := (iI_lt hy hx).mp q; omega), by omega⟩
theorem kb_le (hx : hy_r 0 x) (hy : hy_r 0 y) : kb_B (.if_icmp .le o) (.int (iI y) :: .int (iI x) :: r) o r (x ≤ y) (y < x) := ⟨fun h => if_pos ((iI_le hx hy).mpr h), fun h => if_neg (fun q => by have := (iI_le hx hy).mp q; omega), by omega⟩
theorem kb_eq (hx : hy_r 0 x) (hy : hy_r 0 y) : kb_B (.if_icmp .eq o) (.int (iI y) :: .int (iI x) :: r) o r (x = y) (x ≠ y) := ⟨fun h => if_pos ((iI_eq hx hy).mpr h), fun h => if_neg (fun q => h ((iI_eq hx hy).mp q)), by omega⟩
theorem kb_ne (hx : hy_r 0 x) (hy : hy_r 0 y) : kb_B (.if_icmp .ne o) (.int (iI y) :: .int (iI x) :: r) o r (x ≠ y) (x = y) := ⟨fun h => if_neg (fun q => h ((iI_eq hx hy).mp q)), fun h => if_pos ((iI_eq hx hy).mpr h), by omega⟩
theorem kc_lt (hx : hy_r 0 x) : kb_B (.ifCond .lt o) (.int (iI x) :: r) o r (x < 0) (0 ≤ x) := ⟨fun h => if_pos ((iI_lt hx (hy_c rfl)).mpr h), fun h => if_neg (fun q => by have := (iI_lt (y := 0) hx (hy_c rfl)).mp q; omega), by omega⟩
theorem kc_ge (hx : hy_r 0 x) : kb_B (.ifCond .ge o) (.int (iI x) :: r) o r (0 ≤ x) (x < 0) := ⟨fun h => if_pos ((iI_le (hy_c rfl) hx).mpr h), fun h => if_neg (fun q => by have := (iI_le (x := 0) (hy_c rfl) hx).mp q; omega), by omega⟩
theorem kc_gt (hx : hy_r 0 x) : kb_B (.ifCond .gt o) (.int (iI x) :: r) o r (0 < x) (x ≤ 0) := ⟨fun h => if_pos ((iI_lt (hy_c rfl) hx).mpr h), fun h => if_neg (fun q => by have := (iI_lt (x := 0) (hy_c rfl) hx).mp q; omega), by omega⟩
theorem kc_le (hx : hy_r 0 x) : kb_B (.ifCond .le o) (.int (iI x) :: r) o r (x ≤ 0) (0 < x) := ⟨fun h => if_pos ((iI_le hx (hy_c rfl)).mpr h), fun h => if_neg (fun q => by have := (iI_le (y := 0) hx (hy_c rfl)).mp q; omega), by omega⟩
theorem kc_eq (hx : hy_r 0 x) : kb_B (.ifCond .eq o) (.int (iI x) :: r) o r (x = 0) (x ≠ 0) := ⟨fun h => if_pos ((iI_eq hx (hy_c rfl)).mpr h), fun h => if_neg (fun q => h ((iI_eq (y := 0) hx (hy_c rfl)).mp q)), by omega⟩
theorem kc_ne (hx : hy_r 0 x) : kb_B (.ifCond .ne o) (.int (iI x) :: r) o r (x ≠ 0) (x = 0) := ⟨fun h => if_neg (fun q => h ((iI_eq (y := 0) hx (hy_c rfl)).mp q)), fun h => if_pos ((iI_eq hx (hy_c rfl)).mpr h), by omega⟩
theorem kb_B.to {i : Instr} {st st' : List Value} {p q p' q' : Prop} (h : kb_B i st o st' p q) (hp : p' ↔ p) (hq : q' ↔ q) : kb_B i st o st' p' q' := ⟨fun a => h.1 (hp.mp a), fun a => h.2.1 (hq.mp a), h.2.2.imp hp.mpr hq.mpr⟩
theorem jc_lt : x < y ↔ jc x y < 0 := by unfold jc; split; · omega
                                         split <;> omega
theorem jc_ge : y ≤ x ↔ 0 ≤ jc x y := by unfold jc; split; · omega
                                         split <;> omega
theorem jc_gt : y < x ↔ 0 < jc x y := by unfold jc; split; · omega
                                         split <;> omega
theorem jc_le : x ≤ y ↔ jc x y ≤ 0 := by unfold jc; split; · omega
                                         split <;> omega
theorem jc_eq : x = y ↔ jc x y = 0 := by unfold jc; split; · omega
                                         split <;> omega
theorem jc_ne : x ≠ y ↔ jc x y ≠ 0 := by unfold jc; split; · omega
                                         split <;> omega
theorem kl_lt : kb_B (.ifCond .lt o) (.int (iI (jc x y)) :: r) o r (x < y) (y ≤ x) := (kc_lt (jc_r x y)).to jc_lt jc_ge
theorem kl_ge : kb_B (.ifCond .ge o) (.int (iI (jc x y)) :: r) o r (y ≤ x) (x < y) := (kc_ge (jc_r x y)).to jc_ge jc_lt
theorem kl_gt : kb_B (.ifCond .gt o) (.int (iI (jc x y)) :: r) o r (y < x) (x ≤ y) := (kc_gt (jc_r x y)).to jc_gt jc_le
theorem kl_le : kb_B (.ifCond .le o) (.int (iI (jc x y)) :: r) o r (x ≤ y) (y < x) := (kc_le (jc_r x y)).to jc_le jc_gt
theorem kl_eq : kb_B (.ifCond .eq o) (.int (iI (jc x y)) :: r) o r (x = y) (x ≠ y) := (kc_eq (jc_r x y)).to jc_eq jc_ne
theorem kl_ne : kb_B (.ifCond .ne o) (.int (iI (jc x y)) :: r) o r (x ≠ y) (x = y) := (kc_ne (jc_r x y)).to jc_ne jc_eq
theorem kt_eq {p : Prop} [Decidable p] : kb_B (.ifCond .eq o) (.int (iI (bi p)) :: r) o r (¬ p) p := (kc_eq (hy_20 (hy_bi p))).to ⟨fun h => bi_0 h, fun h q => by rw [bi_1 q] at h; cases h⟩ ⟨fun h => by rw [bi_1 h]; decide, fun h => Decidable.byContradiction (fun q => h (bi_0 q))⟩
theorem kt_ne {p : Prop} [Decidable p] : kb_B (.ifCond .ne o) (.int (iI (bi p)) :: r) o r p (¬ p) := (kc_ne (hy_20 (hy_bi p))).to ⟨fun h => by rw [bi_1 h]; decide, fun h => Decidable.byContradiction (fun q => h (bi_0 q))⟩ ⟨fun h => bi_0 h, fun h q => by rw [bi_1 q] at h; cases h⟩
theorem kb_ts {lo hi dflt : Int} {offs : Array Int} (hx : hy_r 0 x) (j : Nat) (hj : x = lo + j) (hh : lo + j ≤ hi) (ho : offs[j]? = some o) : im_b (.tableswitch dflt lo hi offs) (.int (iI x) :: r) = some (some o, r) := by
  dsimp only [im_b]
  rw [iI_t hx, if_neg (by omega), if_neg (by omega), show (x - lo).toNat = j by omega, ho]
theorem kb_td {lo hi dflt : Int} {offs : Array Int} (hx : hy_r 0 x) (h : x < lo ∨ hi < x) : im_b (.tableswitch dflt lo hi offs) (.int (iI x) :: r) = some (some dflt, r) := by
  dsimp only [im_b]
  rw [iI_t hx]
  by_cases h1 : x < lo
  · rw [if_pos h1]
  · rw [if_neg h1, if_pos (by omega)]
theorem kb_lk {dflt : Int} {ps : Array (Int × Int)} (hx : hy_r 0 x) (hs : (ps.toList.zip (ps.toList.drop 1)).all (fun (a, next) => a.1 < next.1) = true) (ho : Op.lookupswitch.offset ps.toList dflt x = o) : im_b (.lookupswitch dflt ps) (.int (iI x) :: r) = some (some o, r) := by
  dsimp only [im_b]
  rw [if_pos hs, iI_t hx, ho]
theorem kr_b {x : Int} (hx : hy_r 2 x) : im_r (some .boolean) .ireturn [.int (iI x)] = some (hy_o 2 x) := by
  have hx : x = 0 ∨ x = 1 := hx
  rcases hx with rfl | rfl <;> rfl
end KB
