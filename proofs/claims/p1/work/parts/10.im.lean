/-! THE INTERPRETER -/
/-- a row of the code by its place -/
def im_at : List im_E → Nat → Option im_E
  | [], _ => none
  | e :: r, pc => match Nat.beq e.1 pc with
    | true => some e
    | false => im_at r pc
/-- a local -/
def im_lg : im_L → Nat → Option Value
  | [], _ => none
  | q :: r, i => match Nat.beq q.1 i with
    | true => some q.2
    | false => im_lg r i
def im_s1 (lv : im_L) (i : Nat) (v : Value) : im_L := (i, v) :: lv.filter (fun q => !(q.1 == i) && !(q.1 + 1 == i && q.2.category == 2))
def im_s2 (lv : im_L) (i : Nat) (v : Value) : im_L := (i, v) :: lv.filter (fun q => !(q.1 == i) && (!(q.1 == i + 1) && !(q.1 + 1 == i && q.2.category == 2)))
/-- what a field of a kind may hold: 0 int, 1 long, 2 boolean, 3 a reference -/
def im_kf (k : Nat) (v : Value) : Bool := match v with
  | .int x => match k with
    | 0 => true
    | 2 => decide (x = 0) || decide (x = 1)
    | _ => false
  | .long _ => Nat.beq k 1
  | .null => Nat.beq k 3
  | .ref _ => Nat.beq k 3
  | _ => false
def im_dv (k : Nat) : Value := match k with
  | 1 => .long 0
  | 3 => .null
  | _ => .int 0
/-- instructions on the operand stack alone -/
def im_p (i : Instr) (st : List Value) : Option (List Value) := match i with
  | .aconst_null => some (.null :: st)
  | .iconst n => some (.int (Int32.ofInt n) :: st)
  | .bipush n => some (.int (Int8.ofInt n).toInt32 :: st)
  | .sipush n => some (.int (Int16.ofInt n).toInt32 :: st)
  | .lconst n => some (.long (Int64.ofNat (n : Nat)) :: st)
  | .iadd => match st with
    | .int y :: .int x :: r => some (.int (x + y) :: r)
    | _ => none
  | .isub => match st with
    | .int y :: .int x :: r => some (.int (x - y) :: r)
    | _ => none
  | .imul => match st with
    | .int y :: .int x :: r => some (.int (x * y) :: r)
    | _ => none
  | .iand => match st with
    | .int y :: .int x :: r => some (.int (x &&& y) :: r)
    | _ => none
  | .ior => match st with
    | .int y :: .int x :: r => some (.int (x ||| y) :: r)
    | _ => none
  | .ixor => match st with
    | .int y :: .int x :: r => some (.int (x ^^^ y) :: r)
    | _ => none
  | .idiv => match st with
    | .int y :: .int x :: r => if y = 0 then none else some (.int (x / y) :: r)
    | _ => none
  | .ineg => match st with
    | .int x :: r => some (.int (-x) :: r)
    | _ => none
  | .ishl => match st with
    | .int y :: .int x :: r => some (.int (x <<< (y &&& 31)) :: r)
    | _ => none
  | .ishr => match st with
    | .int y :: .int x :: r => some (.int (x >>> (y &&& 31)) :: r)
    | _ => none
  | .iushr => match st with
    | .int y :: .int x :: r => some (.int (x.toUInt32 >>> (y.toUInt32 &&& Int32.toUInt32 31)).toInt32 :: r)
    | _ => none
  | .ladd => match st with
    | .long y :: .long x :: r => some (.long (x + y) :: r)
    | _ => none
  | .lsub => match st with
    | .long y :: .long x :: r => some (.long (x - y) :: r)
    | _ => none
  | .lmul => match st with
    | .long y :: .long x :: r => some (.long (x * y) :: r)
    | _ => none
  | .land => match st with
    | .long y :: .long x :: r => some (.long (x &&& y) :: r)
    | _ => none
  | .lor => match st with
    | .long y :: .long x :: r => some (.long (x ||| y) :: r)
    | _ => none
  | .ldiv => match st with
    | .long y :: .long x :: r => if y = 0 then none else some (.long (x / y) :: r)
    | _ => none
  | .lrem => match st with
    | .long y :: .long x :: r => if y = 0 then none else some (.long (x - x / y * y) :: r)
    | _ => none
  | .lneg => match st with
    | .long x :: r => some (.long (-x) :: r)
    | _ => none
  | .lshl => match st with
    | .int y :: .long x :: r => some (.long (x <<< (y.toInt64 &&& 63)) :: r)
    | _ => none
  | .lshr => match st with
    | .int y :: .long x :: r => some (.long (x >>> (y.toInt64 &&& 63)) :: r)
    | _ => none
  | .lcmp => match st with
    | .long y :: .long x :: r => some (.int (lg_cmp x y) :: r)
    | _ => none
  | .i2l => match st with
    | .int x :: r => some (.long x.toInt64 :: r)
    | _ => none
  | .l2i => match st with
    | .long x :: r => some (.int x.toInt32 :: r)
    | _ => none
  | .i2c => match st with
    | .int x :: r => some (.int (x.toUInt32 % 65536).toInt32 :: r)
    | _ => none
  | .dup => match st with
    | .int x :: r => some (.int x :: .int x :: r)
    | .ref x :: r => some (.ref x :: .ref x :: r)
    | .null :: r => some (.null :: .null :: r)
    | _ => none
  | .dup2 => match st with
    | .long x :: r => some (.long x :: .long x :: r)
    | .int y :: .int x :: r => some (.int y :: .int x :: .int y :: .int x :: r)
    | .int y :: .ref x :: r => some (.int y :: .ref x :: .int y :: .ref x :: r)
    | _ => none
  | .pop => match st with
    | .int _ :: r => some r
    | .ref _ :: r => some r
    | .null :: r => some r
    | _ => none
  | _ => none
/-- instructions on locals -/
def im_l (nL : Nat) (i : Instr) (lv : im_L) (st : List Value) : Option (im_L × List Value) :=
  let ldi (k : Nat) : Option (im_L × List Value) := match im_lg lv k with
    | some (.int x) => some (lv, .int x :: st)
    | _ => none
  let ldl (k : Nat) : Option (im_L × List Value) := match im_lg lv k with
    | some (.long x) => some (lv, .long x :: st)
    | _ => none
  let lda (k : Nat) : Option (im_L × List Value) := match im_lg lv k with
    | some (.ref x) => some (lv, .ref x :: st)
    | some .null => some (lv, .null :: st)
    | _ => none
  let sti (k : Nat) : Option (im_L × List Value) := match st with
    | .int x :: r => if k < nL then some (im_s1 lv k (.int x), r) else none
    | _ => none
  let stl (k : Nat) : Option (im_L × List Value) := match st with
    | .long x :: r => if k + 1 < nL then some (im_s2 lv k (.long x), r) else none
    | _ => none
  let sta (k : Nat) : Option (im_L × List Value) := match st with
    | .ref x :: r => if k < nL then some (im_s1 lv k (.ref x), r) else none
    | .null :: r => if k < nL then some (im_s1 lv k .null, r) else none
    | _ => none
  match i with
  | .iload k => ldi k
  | .iload_n k => ldi k
  | .lload k => ldl k
  | .lload_n k => ldl k
  | .aload k => lda k
  | .aload_n k => lda k
  | .istore k => sti k
  | .istore_n k => sti k
  | .lstore k => stl k
  | .lstore_n k => stl k
  | .astore k => sta k
  | .astore_n k => sta k
  | .iinc k n => match im_lg lv k with
    | some (.int x) => if k < nL then some (im_s1 lv k (.int (x + Int32.ofInt n)), st) else none
    | _ => none
  | _ => none
/-- branches: the offset, if it is taken -/
def im_b (i : Instr) (st : List Value) : Option (Option Int × List Value) := match i with
  | .goto o => some (some o, st)
  | .ifnull o => match st with
    | .null :: r => some (some o, r)
    | .ref _ :: r => some (none, r)
    | _ => none
  | .ifnonnull o => match st with
    | .null :: r => some (none, r)
    | .ref _ :: r => some (some o, r)
    | _ => none
  | .ifCond c o => match st with
    | .int x :: r => match c with
      | .eq => if x = 0 then some (some o, r) else some (none, r)
      | .ne => if x = 0 then some (none, r) else some (some o, r)
      | .lt => if x < 0 then some (some o, r) else some (none, r)
      | .ge => if 0 ≤ x then some (some o, r) else some (none, r)
      | .gt => if 0 < x then some (some o, r) else some (none, r)
      | .le => if x ≤ 0 then some (some o, r) else some (none, r)
    | _ => none
  | .if_icmp c o => match st with
    | .int y :: .int x :: r => match c with
      | .eq => if x = y then some (some o, r) else some (none, r)
      | .ne => if x = y then some (none, r) else some (some o, r)
      | .lt => if x < y then some (some o, r) else some (none, r)
      | .ge => if y ≤ x then some (some o, r) else some (none, r)
      | .gt => if y < x then some (some o, r) else some (none, r)
      | .le => if x ≤ y then some (some o, r) else some (none, r)
    | _ => none
  | .tableswitch dflt lo hi offs => match st with
    | .int x :: r => if x.toInt < lo then some (some dflt, r) else if hi < x.toInt then some (some dflt, r) else match offs[(x.toInt - lo).toNat]? with
      | some o => some (some o, r)
      | none => none
    | _ => none
  | .lookupswitch dflt ps => match st with
    | .int x :: r => if (ps.toList.zip (ps.toList.drop 1)).all (fun (a, next) => a.1 < next.1) = true then some (some (Op.lookupswitch.offset ps.toList dflt x.toInt), r) else none
    | _ => none
  | _ => none
def im_tg (pc : Nat) (o : Int) : Option Nat := match (pc : Int) + o with
  | .ofNat t => some t
  | .negSucc _ => none
/-- writing a cell; making a cell -/
def im_wr (h : im_H) (a : Nat) (c : im_C) : im_H := (h.1, h.2.1, va_up h.2.2 a (some c))
def im_mk (h : im_H) (c : im_C) : im_H := (h.1 + 1, h.2.1 + c.2.1, va_up h.2.2 h.1 (some c))
/-- an index in a row -/
def im_ix (i : Int32) (n : Nat) : Option Nat := if i < 0 then none else if n ≤ i.toNatClampNeg then none else some i.toNatClampNeg
/-- instructions on the heap: e.a, e.b of the row are the class number and the field -/
def im_h (kd : Nat → Nat → Nat) (nf : Nat → Nat) (e : im_E) (st : List Value) (h : im_H) : Option (List Value × im_H) := match e.2.1 with
  | .getfield _ => match st with
    | .ref a :: r => match h.2.2 a with
      | some (t, n, f) => if t = e.2.2.2.1 ∧ e.2.2.2.2.1 < n then some (f e.2.2.2.2.1 :: r, h) else none
      | none => none
    | _ => none
  | .putfield _ => match st with
    | v :: .ref a :: r => match h.2.2 a with
      | some (t, n, f) => if t = e.2.2.2.1 ∧ e.2.2.2.2.1 < n ∧ im_kf (kd t e.2.2.2.2.1) v = true then some (r, im_wr h a (t, n, updV f e.2.2.2.2.1 v)) else none
      | none => none
    | _ => none
  | .arraylength => match st with
    | .ref a :: r => match h.2.2 a with
      | some (t, n, _) => if 99 ≤ t then some (.int (Int32.ofNat n) :: r, h) else none
      | none => none
    | _ => none
  | .iaload => match st with
    | .int i :: .ref a :: r => match h.2.2 a with
      | some (t, n, f) => if t = 99 ∨ t = 100 then match im_ix i n with
        | some j => some (f j :: r, h)
        | none => none else none
      | none => none
    | _ => none
  | .laload => match st with
    | .int i :: .ref a :: r => match h.2.2 a with
      | some (t, n, f) => if t = 101 then match im_ix i n with
        | some j => some (f j :: r, h)
        | none => none else none
      | none => none
    | _ => none
  | .caload => match st with
    | .int i :: .ref a :: r => match h.2.2 a with
      | some (t, n, f) => if t = 102 then match im_ix i n with
        | some j => some (f j :: r, h)
        | none => none else none
      | none => none
    | _ => none
  | .aaload => match st with
    | .int i :: .ref a :: r => match h.2.2 a with
      | some (t, n, f) => if 110 ≤ t then match im_ix i n with
        | some j => some (f j :: r, h)
        | none => none else none
      | none => none
    | _ => none
  | .iastore => match st with
    | .int x :: .int i :: .ref a :: r => match h.2.2 a with
      | some (t, n, f) => if t = 100 then match im_ix i n with
        | some j => some (r, im_wr h a (t, n, updV f j (.int x)))
        | none => none else none
      | none => none
    | _ => none
  | .lastore => match st with
    | .long x :: .int i :: .ref a :: r => match h.2.2 a with
      | some (t, n, f) => if t = 101 then match im_ix i n with
        | some j => some (r, im_wr h a (t, n, updV f j (.long x)))
        | none => none else none
      | none => none
    | _ => none
  | .castore => match st with
    | .int x :: .int i :: .ref a :: r => match h.2.2 a with
      | some (t, n, f) => if t = 102 then match im_ix i n with
        | some j => some (r, im_wr h a (t, n, updV f j (.int (vp_nar .char x))))
        | none => none else none
      | none => none
    | _ => none
  | .aastore => match st with
    | .null :: .int i :: .ref a :: r => match h.2.2 a with
      | some (t, n, f) => if 110 ≤ t then match im_ix i n with
        | some j => some (r, im_wr h a (t, n, updV f j .null))
        | none => none else none
      | none => none
    | .ref v :: .int i :: .ref a :: r => match h.2.2 a with
      | some (t, n, f) => match h.2.2 v with
        | some (tv, _, _) => if 110 ≤ t ∧ tv < 50 ∧ t = 110 + tv then match im_ix i n with
          | some j => some (r, im_wr h a (t, n, updV f j (.ref v)))
          | none => none else none
        | none => none
      | none => none
    | _ => none
  | .new _ => some (.ref h.1 :: st, im_mk h (e.2.2.2.1, nf e.2.2.2.1, fun k => im_dv (kd e.2.2.2.1 k)))
  | .newarray .int => match st with
    | .int n :: r => if n < 0 then none else if 10000000 < n.toNatClampNeg then none else some (.ref h.1 :: r, im_mk h (100, n.toNatClampNeg, fun _ => .int 0))
    | _ => none
  | .newarray .long => match st with
    | .int n :: r => if n < 0 then none else if 10000000 < n.toNatClampNeg then none else some (.ref h.1 :: r, im_mk h (101, n.toNatClampNeg, fun _ => .long 0))
    | _ => none
  | .newarray .char => match st with
    | .int n :: r => if n < 0 then none else if 10000000 < n.toNatClampNeg then none else some (.ref h.1 :: r, im_mk h (102, n.toNatClampNeg, fun _ => .int 0))
    | _ => none
  | .anewarray _ => match st with
    | .int n :: r => if n < 0 then none else if 10000000 < n.toNatClampNeg then none else some (.ref h.1 :: r, im_mk h (110 + e.2.2.2.1, n.toNatClampNeg, fun _ => .null))
    | _ => none
  | .ldc _ => some (e.2.2.2.2.2.2 :: st, h)
  | .ldc_w _ => some (e.2.2.2.2.2.2 :: st, h)
  | .ldc2_w _ => some (e.2.2.2.2.2.2 :: st, h)
  | .checkcast _ => match st with
    | .ref a :: r => match h.2.2 a with
      | some (t, _, _) => if t = e.2.2.2.1 then some (.ref a :: r, h) else none
      | none => none
    | _ => none
  | _ => none
/-- the arguments of a call out of the stack: n of them, the first one first -/
def im_ar (n : Nat) (st : List Value) : Option (List Value × List Value) := if n ≤ st.length then some ((st.take n).reverse, st.drop n) else none
/-- the array copies of java.util.Arrays.copyOf: a native's work -/
def im_cp (f g : Nat → Value) (sp dp n : Nat) : Nat → Value := fun k => if dp ≤ k ∧ k < dp + n then f (sp + (k - dp)) else g k
/-- Object(), arraycopy, clone -/
def im_c0 (st : List Value) (h : im_H) : Option (List Value × im_H) := match st with
  | .ref _ :: r => if (r.map fun v => v.category).sum ≤ 8 then some (r, h) else none
  | _ => none
def im_c8 (st : List Value) (h : im_H) : Option (List Value × im_H) := match st with
  | .int n :: .int dp :: .ref a :: .int sp :: .ref a0 :: r => match h.2.2 a0 with
    | some (t0, n0, f) => match h.2.2 a with
      | some (t1, n1, g) => if t0 = t1 ∧ (t0 = 100 ∨ t0 = 101) ∧ ¬ sp < 0 ∧ ¬ dp < 0 ∧ ¬ n < 0 ∧ sp.toNatClampNeg + n.toNatClampNeg ≤ n0 ∧ dp.toNatClampNeg + n.toNatClampNeg ≤ n1 ∧ (r.map fun v => v.category).sum ≤ 8 then some (r, im_wr h a (t1, n1, im_cp f g sp.toNatClampNeg dp.toNatClampNeg n.toNatClampNeg)) else none
      | none => none
    | none => none
  | _ => none
def im_c9 (tg : Nat) (st : List Value) (h : im_H) : Option (List Value × im_H) := match st with
  | .ref a :: r => match h.2.2 a with
    | some (t, n, f) => if (t = 100 ∨ t = 101) ∧ t = tg ∧ (r.map fun v => v.category).sum ≤ 8 then some (.ref h.1 :: r, im_mk h (t, n, f)) else none
    | none => none
  | _ => none
/-- Math.min, Math.max, Math.abs of a long -/
def im_c10 (st : List Value) (h : im_H) : Option (List Value × im_H) := match st with
  | .int y :: .int x :: r => if (r.map fun v => v.category).sum ≤ 8 then some (.int (if y < x then y else x) :: r, h) else none
  | _ => none
def im_c11 (st : List Value) (h : im_H) : Option (List Value × im_H) := match st with
  | .int y :: .int x :: r => if (r.map fun v => v.category).sum ≤ 8 then some (.int (if x < y then y else x) :: r, h) else none
  | _ => none
def im_c12 (st : List Value) (h : im_H) : Option (List Value × im_H) := match st with
  | .long x :: r => if (r.map fun v => v.category).sum ≤ 8 then some (.long (if 0 < x then x else -x) :: r, h) else none
  | _ => none
/-- behind a call: what it answered, on the rest of the stack -/
def im_bk (rest : List Value) (o : Option im_R) : Option (List Value × im_H) := match o with
  | some r => some (r.2.toList ++ rest, r.1)
  | none => none
def im_cS (cal : Nat → List Value → im_H → Option im_R) (M n : Nat) (st : List Value) (h : im_H) : Option (List Value × im_H) := match im_ar n st with
  | some q => if (q.2.map fun v => v.category).sum ≤ 8 then im_bk q.2 (cal M q.1 h) else none
  | none => none
def im_cI (cal : Nat → List Value → im_H → Option im_R) (cn M n : Nat) (st : List Value) (h : im_H) : Option (List Value × im_H) := match im_ar n st with
  | some q => match q.2 with
    | .ref rb :: rest => if (rest.map fun v => v.category).sum ≤ 8 then match h.2.2 rb with
      | some c => if c.1 = cn then im_bk rest (cal M (.ref rb :: q.1) h) else none
      | none => none else none
    | _ => none
  | none => none
/-- calls: kind e.a (0 Object(), 1 virtual, 3 constructor, 4 a nest mate's constructor, 5 static, 7 a nest mate's static, 8 arraycopy, 9 clone), callee e.b, its arguments e.c without the receiver -/
def im_c (tb : List im_M) (cal : Nat → List Value → im_H → Option im_R) (e : im_E) (st : List Value) (h : im_H) : Option (List Value × im_H) :=
  if e.2.2.2.1 = 0 then im_c0 st h else if e.2.2.2.1 = 8 then im_c8 st h else if e.2.2.2.1 = 9 then im_c9 e.2.2.2.2.1 st h else if e.2.2.2.1 = 10 then im_c10 st h else if e.2.2.2.1 = 11 then im_c11 st h else if e.2.2.2.1 = 12 then im_c12 st h else
  match tb[e.2.2.2.2.1]? with
  | some y => if e.2.2.2.1 = 5 ∨ e.2.2.2.1 = 7 then im_cS cal e.2.2.2.2.1 e.2.2.2.2.2.1 st h else im_cI cal y.2.2.2.2.1 e.2.2.2.2.1 e.2.2.2.2.2.1 st h
  | none => none
/-- returns -/
def im_r (ret : Option FieldType) (i : Instr) (st : List Value) : Option (Option Value) := match i with
  | .return_ => match ret, st with
    | none, [] => some none
    | _, _ => none
  | .ireturn => match ret, st with
    | some .int, [.int x] => some (some (.int x))
    | some .boolean, [.int x] => if x = 0 ∨ x = 1 then some (some (.int x)) else none
    | _, _ => none
  | .lreturn => match ret, st with
    | some .long, [.long x] => some (some (.long x))
    | _, _ => none
  | .areturn => match ret, st with
    | some (.object _), [.ref a] => some (some (.ref a))
    | some (.object _), [.null] => some (some .null)
    | some (.array _), [.ref a] => some (some (.ref a))
    | _, _ => none
  | _ => none
/-- which group an instruction belongs to -/
def im_g (i : Instr) : Nat := match i with
  | .aload _ | .aload_n _ | .iload _ | .iload_n _ | .lload _ | .lload_n _ | .astore _ | .astore_n _ | .istore _ | .istore_n _ | .lstore _ | .lstore_n _ | .iinc _ _ => 1
  | .goto _ | .ifnull _ | .ifnonnull _ | .ifCond _ _ | .if_icmp _ _ | .tableswitch .. | .lookupswitch .. => 2
  | .getfield _ | .putfield _ | .arraylength | .iaload | .laload | .caload | .aaload | .iastore | .lastore | .castore | .aastore | .new _ | .newarray _ | .anewarray _ | .ldc _ | .ldc_w _ | .ldc2_w _ | .checkcast _ => 3
  | .invokestatic _ | .invokevirtual _ | .invokespecial _ => 4
  | .return_ | .ireturn | .lreturn | .areturn => 5
  | _ => 0
/-- one step -/
def im_st (tb : List im_M) (kd : Nat → Nat → Nat) (nf : Nat → Nat) (cal : Nat → List Value → im_H → Option im_R) (mi : im_M) (e : im_E) (lv : im_L) (st : List Value) (h : im_H) : Option (im_S ⊕ im_R) := match im_g e.2.1 with
  | 0 => match im_p e.2.1 st with
    | some st' => some (.inl (e.1 + e.2.2.1, lv, st', h))
    | none => none
  | 1 => match im_l mi.2.2.1 e.2.1 lv st with
    | some (lv', st') => some (.inl (e.1 + e.2.2.1, lv', st', h))
    | none => none
  | 2 => match im_b e.2.1 st with
    | some (none, st') => some (.inl (e.1 + e.2.2.1, lv, st', h))
    | some (some o, st') => match im_tg e.1 o with
      | some t => some (.inl (t, lv, st', h))
      | none => none
    | none => none
  | 3 => match im_h kd nf e st h with
    | some (st', h') => some (.inl (e.1 + e.2.2.1, lv, st', h'))
    | none => none
  | 4 => match im_c tb cal e st h with
    | some (st', h') => some (.inl (e.1 + e.2.2.1, lv, st', h'))
    | none => none
  | _ => match im_r mi.2.2.2.1 e.2.1 st with
    | some r => some (.inr (h, r))
    | none => none
/-- a body, by fuel -/
def im_ex (tb : List im_M) (kd : Nat → Nat → Nat) (nf : Nat → Nat) (cal : Nat → List Value → im_H → Option im_R) (mi : im_M) : Nat → Nat → im_L → List Value → im_H → Option im_R
  | 0, _, _, _, _ => none
  | n + 1, pc, lv, st, h => match im_at mi.2.2.2.2.2 pc with
    | none => none
    | some e => match im_st tb kd nf cal mi e lv st h with
      | none => none
      | some (.inl q) => im_ex tb kd nf cal mi n q.1 q.2.1 q.2.2.1 q.2.2.2
      | some (.inr r) => some r
/-- a method, by depth -/
def im_rn (tb : List im_M) (kd : Nat → Nat → Nat) (nf : Nat → Nat) (F : Nat) : Nat → Nat → List Value → im_H → Option im_R
  | 0, _, _, _ => none
  | d + 1, M, as, h => match tb[M]? with
    | none => none
    | some mi => if (lg_sl as).length ≤ mi.2.2.1 then im_ex tb kd nf (im_rn tb kd nf F d) mi F 0 (lv_args 0 as) [] h else none
