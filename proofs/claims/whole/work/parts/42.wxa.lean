/-! A TRANSFORMER OF PREDICATES over the code: one walk, proved once; the methods are then read as predicates over a memory of ints. A value: its kind (0 int, 1 long, 2 boolean, 3 a reference, 4 char, 5 a reference to a cell that is known), whether it is known to be in range, its number. -/
abbrev sv : Type := Nat × Bool × Int
abbrev sS : Type := hy_T × Nat × Nat × hy_m
abbrev sL : Type := List (Nat × sv)
abbrev sQ : Type := Int → sS → Prop
def svV (q : sv) : Value := match q.1 with
  | 5 => .ref q.2.2.toNat
  | k => hy_v k q.2.2
def svR (q : sv) : Prop := match q.1 with
  | 5 => 0 < q.2.2
  | k => q.2.1 = true → hy_r k q.2.2
def okS (st : List sv) : Prop := ∀ q ∈ st, svR q
def okL (lv : sL) : Prop := ∀ p ∈ lv, svR p.2
def sI (q : sv) : Bool := match q.1 with
  | 0 => true
  | 2 => true
  | 4 => true
  | _ => false
def sJ (q : sv) : Bool := Nat.beq q.1 1
def sA (q : sv) : Bool := Nat.beq q.1 3 || Nat.beq q.1 5
def sCov (a k : Nat) : Bool := Nat.beq a k || (Nat.beq k 0 && (Nat.beq a 2 || Nat.beq a 4))
/-- what is asked: the range of a kind -/
def rq (k : Nat) (q : sv) (P : Prop) : Prop := match q.2.1 && sCov q.1 k with
  | true => P
  | false => hy_r k q.2.2 ∧ P
def sB (b : Bool) (P : Prop) : Prop := match b with
  | true => P
  | false => False
theorem svV_i {q : sv} (h : sI q = true) : svV q = .int (iI q.2.2) := by
  obtain ⟨k, b, x⟩ := q
  match k, h with
  | 0, _ => rfl
  | 1, h => cases h
  | 2, _ => rfl
  | 3, h => cases h
  | 4, _ => rfl
  | k + 5, h => cases h
theorem svV_j {q : sv} (h : sJ q = true) : svV q = .long (jI q.2.2) := by
  obtain ⟨k, b, x⟩ := q
  have h : k = 1 := Nat.eq_of_beq_eq_true h
  subst h
  rfl
theorem hy_0r {k : Nat} {x : Int} (h : sCov k 0 = true) (hr : hy_r k x) : hy_r 0 x := by
  unfold sCov at h
  simp only [Bool.or_eq_true, Bool.and_eq_true, Nat.beq_eq] at h
  rcases h with rfl | ⟨-, rfl | rfl⟩
  · exact hr
  · exact hy_20 hr
  · exact hy_40 hr
theorem rq_ok {k : Nat} {q : sv} {P : Prop} (hk : k < 5) (hq : svR q) (h : rq k q P) : hy_r k q.2.2 ∧ P := by
  unfold rq at h
  split at h
  · rename_i e
    rw [Bool.and_eq_true] at e
    refine ⟨?_, h⟩
    obtain ⟨a, b, x⟩ := q
    have e1 : b = true := e.1
    have e2 : sCov a k = true := e.2
    have hq2 : a ≠ 5 → hy_r a x := by
      intro ha
      unfold svR at hq
      dsimp only at hq
      split at hq
      · omega
      · exact hq e1
    by_cases ek : a = k
    · subst ek
      exact hq2 (by omega)
    · have : k = 0 ∧ a ≠ 5 := by
        unfold sCov at e2
        simp only [Bool.or_eq_true, Bool.and_eq_true, Nat.beq_eq] at e2
        omega
      obtain ⟨rfl, h5⟩ := this
      exact hy_0r e2 (hq2 h5)
  · exact h
theorem sB_ok {b : Bool} {P : Prop} (h : sB b P) : b = true ∧ P := by
  unfold sB at h
  split at h
  · exact ⟨rfl, h⟩
  · exact h.elim
/-! operands alone -/
def s1i (st : List sv) (f : Int → sv) (K : List sv → Prop) : Prop := match st with
  | q :: r => sB (sI q) (K (f q.2.2 :: r))
  | _ => False
def s2i (st : List sv) (f : Int → Int → sv) (K : List sv → Prop) : Prop := match st with
  | y :: x :: r => sB (sI y && sI x) (K (f x.2.2 y.2.2 :: r))
  | _ => False
def s2j (st : List sv) (f : Int → Int → sv) (K : List sv → Prop) : Prop := match st with
  | y :: x :: r => sB (sJ y && sJ x) (K (f x.2.2 y.2.2 :: r))
  | _ => False
def sar (w : Bool) (x : Int) : sv := match w with
  | true => (0, true, iW x)
  | false => (0, false, x)
def slit (n : Int) (K : sv → Prop) : Prop := sB (decide (-2147483648 ≤ n) && decide (n < 2147483648)) (K (match n with
  | .ofNat 0 => (2, true, 0)
  | .ofNat 1 => (2, true, 1)
  | _ => (0, true, n)))
def s2d (kd : Nat) (t : sv → Bool) (f : Int → Int → Int) (st : List sv) (K : List sv → Prop) : Prop := match st with
  | y :: x :: r => sB (t y && t x) (rq kd y (rq kd x (0 ≤ x.2.2 ∧ 0 < y.2.2 ∧ K ((kd, true, f x.2.2 y.2.2) :: r))))
  | _ => False
def wP (w : Bool) (i : Instr) (st : List sv) (K : List sv → Prop) : Prop := match i with
  | .aconst_null => K ((3, true, 0) :: st)
  | .iconst n => slit n (fun q => K (q :: st))
  | .bipush n => sB (decide (-128 ≤ n) && decide (n < 128)) (slit n (fun q => K (q :: st)))
  | .sipush n => sB (decide (-32768 ≤ n) && decide (n < 32768)) (slit n (fun q => K (q :: st)))
  | .lconst n => K ((1, true, ((n : Nat) : Int)) :: st)
  | .iadd => s2i st (fun x y => sar w (x + y)) K
  | .isub => s2i st (fun x y => sar w (x - y)) K
  | .imul => s2i st (fun x y => sar w (x * y)) K
  | .ineg => s1i st (fun x => sar w (-x)) K
  | .iand => s2i st (fun x y => (0, true, iA x y)) K
  | .ior => s2i st (fun x y => (0, true, iO x y)) K
  | .ixor => s2i st (fun x y => (0, true, iX x y)) K
  | .ishl => s2i st (fun x y => (0, true, iSl x y)) K
  | .ishr => s2i st (fun x y => (0, true, iSr x y)) K
  | .iushr => s2i st (fun x y => (0, true, iSu x y)) K
  | .idiv => s2d 0 sI (fun x y => x / y) st K
  | .ladd => s2j st (fun x y => (1, false, x + y)) K
  | .lsub => s2j st (fun x y => (1, false, x - y)) K
  | .lmul => s2j st (fun x y => (1, false, x * y)) K
  | .land => s2j st (fun x y => (1, true, jA x y)) K
  | .lor => s2j st (fun x y => (1, true, jO x y)) K
  | .ldiv => s2d 1 sJ (fun x y => x / y) st K
  | .lrem => s2d 1 sJ (fun x y => x % y) st K
  | .lneg => match st with
    | q :: r => sB (sJ q) (K ((1, false, -q.2.2) :: r))
    | _ => False
  | .lshl => match st with
    | y :: x :: r => sB (sI y && sJ x) (K ((1, true, jSl x.2.2 y.2.2) :: r))
    | _ => False
  | .lshr => match st with
    | y :: x :: r => sB (sI y && sJ x) (K ((1, true, jSr x.2.2 y.2.2) :: r))
    | _ => False
  | .i2l => match st with
    | q :: r => sB (sI q) (rq 0 q (K ((1, true, q.2.2) :: r)))
    | _ => False
  | .l2i => match st with
    | q :: r => sB (sJ q) (K (sar w q.2.2 :: r))
    | _ => False
  | .i2c => match st with
    | q :: r => sB (sI q) (rq 4 q (K ((4, true, q.2.2) :: r)))
    | _ => False
  | .dup => match st with
    | q :: r => sB (sI q || sA q) (K (q :: q :: r))
    | _ => False
  | .dup2 => match st with
    | y :: x :: r => match sJ y with
      | true => K (y :: y :: x :: r)
      | false => sB (sI y && (sI x || Nat.beq x.1 5)) (K (y :: x :: y :: x :: r))
    | [y] => sB (sJ y) (K [y, y])
    | _ => False
  | .pop => match st with
    | q :: r => sB (sI q || sA q) (K r)
    | _ => False
  | _ => False
theorem sI_r {q : sv} (h : sI q = true) (hq : svR q) : q.2.1 = true → hy_r 0 q.2.2 := by
  obtain ⟨k, b, x⟩ := q
  intro hb
  unfold sI at h
  unfold svR at hq
  dsimp only at h hq hb ⊢
  split at h
  · exact hq hb
  · exact hy_20 (hq hb)
  · exact hy_40 (hq hb)
  · cases h
theorem okS_c {q : sv} {r : List sv} (hq : svR q) (hr : okS r) : okS (q :: r) := by
  intro p hp
  rcases List.mem_cons.mp hp with rfl | h
  · exact hq
  · exact hr p h
theorem okS_h {q : sv} {r : List sv} (h : okS (q :: r)) : svR q := h q (List.mem_cons_self ..)
theorem okS_t {q : sv} {r : List sv} (h : okS (q :: r)) : okS r := fun p hp => h p (List.mem_cons_of_mem _ hp)
theorem svR_t {k : Nat} {x : Int} (h5 : k ≠ 5) (h : hy_r k x) : svR (k, true, x) := by
  unfold svR
  dsimp only
  split
  · omega
  · exact fun _ => h
theorem svR_f {k : Nat} {x : Int} (h5 : k ≠ 5) : svR (k, false, x) := by
  unfold svR
  dsimp only
  split
  · omega
  · intro h; cases h
theorem sar_ok (w : Bool) (x : Int) : svR (sar w x) ∧ svV (sar w x) = .int (iI x) := by
  cases w with
  | true => exact ⟨svR_t (by decide) (iW_r x), by show Value.int (iI (iW x)) = _; rw [iW_i]⟩
  | false => exact ⟨svR_f (by decide), rfl⟩
theorem slit_ok {n : Int} {K : sv → Prop} (h : slit n K) : ∃ q, svR q ∧ svV q = .int (iI n) ∧ q.2.2 = n ∧ K q := by
  unfold slit at h
  obtain ⟨h1, h2⟩ := sB_ok h
  split at h2
  · exact ⟨(2, true, 0), svR_t (by decide) (show (0 : Int) = 0 ∨ (0 : Int) = 1 from Or.inl rfl), rfl, rfl, h2⟩
  · exact ⟨(2, true, 1), svR_t (by decide) (show (1 : Int) = 0 ∨ (1 : Int) = 1 from Or.inr rfl), rfl, rfl, h2⟩
  · exact ⟨_, svR_t (by decide) (hy_c h1), rfl, rfl, h2⟩
theorem s1i_ok {st : List sv} {f : Int → sv} {K : List sv → Prop} (ho : okS st) (h : s1i st f K) : ∃ q r, st = q :: r ∧ svV q = .int (iI q.2.2) ∧ okS r ∧ K (f q.2.2 :: r) := by
  unfold s1i at h
  split at h
  · rename_i q r
    obtain ⟨h1, h2⟩ := sB_ok h
    exact ⟨q, r, rfl, svV_i h1, okS_t ho, h2⟩
  · exact h.elim
theorem s2i_ok {st : List sv} {f : Int → Int → sv} {K : List sv → Prop} (ho : okS st) (h : s2i st f K) : ∃ y x r, st = y :: x :: r ∧ svV y = .int (iI y.2.2) ∧ svV x = .int (iI x.2.2) ∧ okS r ∧ K (f x.2.2 y.2.2 :: r) := by
  unfold s2i at h
  split at h
  · rename_i y x r
    obtain ⟨h1, h2⟩ := sB_ok h
    rw [Bool.and_eq_true] at h1
    exact ⟨y, x, r, rfl, svV_i h1.1, svV_i h1.2, okS_t (okS_t ho), h2⟩
  · exact h.elim
theorem s2j_ok {st : List sv} {f : Int → Int → sv} {K : List sv → Prop} (ho : okS st) (h : s2j st f K) : ∃ y x r, st = y :: x :: r ∧ svV y = .long (jI y.2.2) ∧ svV x = .long (jI x.2.2) ∧ okS r ∧ K (f x.2.2 y.2.2 :: r) := by
  unfold s2j at h
  split at h
  · rename_i y x r
    obtain ⟨h1, h2⟩ := sB_ok h
    rw [Bool.and_eq_true] at h1
    exact ⟨y, x, r, rfl, svV_j h1.1, svV_j h1.2, okS_t (okS_t ho), h2⟩
  · exact h.elim
theorem bi_8 {n : Int} (h : (decide (-128 ≤ n) && decide (n < 128)) = true) : (Int8.ofInt n).toInt32 = iI n := by
  rw [Bool.and_eq_true, decide_eq_true_eq, decide_eq_true_eq] at h
  rw [← Int32.toInt_inj, Int8.toInt_toInt32, Int8.toInt_ofInt_of_le (by omega) (by omega), iI_t (show -2147483648 ≤ n ∧ n < 2147483648 by omega)]
theorem bi_16 {n : Int} (h : (decide (-32768 ≤ n) && decide (n < 32768)) = true) : (Int16.ofInt n).toInt32 = iI n := by
  rw [Bool.and_eq_true, decide_eq_true_eq, decide_eq_true_eq] at h
  rw [← Int32.toInt_inj, Int16.toInt_toInt32, Int16.toInt_ofInt_of_le (by omega) (by omega), iI_t (show -2147483648 ≤ n ∧ n < 2147483648 by omega)]
theorem hy_div {x y : Int} (h1 : hy_r 1 x) (hx : 0 ≤ x) (hy : 0 < y) : hy_r 1 (x / y) ∧ hy_r 1 (x % y) := by
  have h1 : -9223372036854775808 ≤ x ∧ x < 9223372036854775808 := h1
  have hle : x / y ≤ x := Int.ediv_le_self _ hx
  have h0 : 0 ≤ x / y := Int.ediv_nonneg hx (by omega)
  have h2 : 0 ≤ x % y := Int.emod_nonneg _ (by omega)
  have h3 : x % y ≤ x := by
    have e1 := Int.mul_ediv_add_emod x y
    have e2 : 0 ≤ y * (x / y) := Int.mul_nonneg (by omega) h0
    omega
  exact ⟨show -9223372036854775808 ≤ _ ∧ _ < 9223372036854775808 by omega, show -9223372036854775808 ≤ _ ∧ _ < 9223372036854775808 by omega⟩
theorem hy_div0 {x y : Int} (h1 : hy_r 0 x) (hx : 0 ≤ x) (hy : 0 < y) : hy_r 0 (x / y) := by
  have h1 : -2147483648 ≤ x ∧ x < 2147483648 := h1
  have hle : x / y ≤ x := Int.ediv_le_self _ hx
  have h0 : 0 ≤ x / y := Int.ediv_nonneg hx (by omega)
  exact (show -2147483648 ≤ _ ∧ _ < 2147483648 by omega)
theorem s2d_ok {kd : Nat} {t : sv → Bool} {f : Int → Int → Int} {st : List sv} {K : List sv → Prop} (hk : kd < 5) (ho : okS st) (h : s2d kd t f st K) : ∃ y x r, st = y :: x :: r ∧ t y = true ∧ t x = true ∧ hy_r kd y.2.2 ∧ hy_r kd x.2.2 ∧ 0 ≤ x.2.2 ∧ 0 < y.2.2 ∧ okS r ∧ K ((kd, true, f x.2.2 y.2.2) :: r) := by
  unfold s2d at h
  split at h
  · rename_i y x r
    obtain ⟨h1, h2⟩ := sB_ok h
    rw [Bool.and_eq_true] at h1
    obtain ⟨h3, h4⟩ := rq_ok hk (okS_h ho) h2
    obtain ⟨h5, h6, h7, h8⟩ := rq_ok hk (okS_h (okS_t ho)) h4
    exact ⟨y, x, r, rfl, h1.1, h1.2, h3, h5, h6, h7, okS_t (okS_t ho), h8⟩
  · exact h.elim
theorem svV_a {q : sv} (h : sA q = true) (hq : svR q) : svV q = .null ∨ ∃ a, svV q = .ref a := by
  obtain ⟨k, b, x⟩ := q
  have h : (Nat.beq k 3 || Nat.beq k 5) = true := h
  simp only [Bool.or_eq_true, Nat.beq_eq] at h
  rcases h with rfl | rfl
  · show (if x = 0 then Value.null else .ref x.toNat) = .null ∨ ∃ a, (if x = 0 then Value.null else .ref x.toNat) = .ref a
    split
    · exact Or.inl rfl
    · exact Or.inr ⟨_, rfl⟩
  · exact Or.inr ⟨_, rfl⟩
theorem wP_ok {w : Bool} {i : Instr} {st : List sv} {K : List sv → Prop} (ho : okS st) (h : wP w i st K) : ∃ st', okS st' ∧ im_p i (st.map svV) = some (st'.map svV) ∧ K st' := by
  unfold wP at h
  split at h
  · exact ⟨(3, true, 0) :: st, okS_c (svR_t (by decide) (show (0 : Int) ≤ 0 from Int.le_refl 0)) ho, rfl, h⟩
  · obtain ⟨q, h1, h2, h3, h4⟩ := slit_ok h
    exact ⟨_, okS_c h1 ho, by rw [List.map_cons, h2]; rfl, h4⟩
  · obtain ⟨h0, h⟩ := sB_ok h
    obtain ⟨q, h1, h2, h3, h4⟩ := slit_ok h
    exact ⟨_, okS_c h1 ho, by rw [List.map_cons, h2, ← bi_8 h0]; rfl, h4⟩
  · obtain ⟨h0, h⟩ := sB_ok h
    obtain ⟨q, h1, h2, h3, h4⟩ := slit_ok h
    exact ⟨_, okS_c h1 ho, by rw [List.map_cons, h2, ← bi_16 h0]; rfl, h4⟩
  · rename_i n
    refine ⟨_, okS_c (svR_t (by decide) ?_) ho, ?_, h⟩
    · have := n.isLt
      show -9223372036854775808 ≤ (((n : Nat) : Int)) ∧ ((n : Nat) : Int) < 9223372036854775808
      omega
    · rw [List.map_cons]
      show some (Value.long (Int64.ofNat (n : Nat)) :: _) = some (Value.long (jI ((n : Nat) : Int)) :: _)
      rw [← Int64.ofInt_eq_ofNat]
  · obtain ⟨y, x, r, rfl, hy, hx, hr, h⟩ := s2i_ok ho h
    exact ⟨_, okS_c (sar_ok w _).1 hr, by rw [List.map_cons, List.map_cons, List.map_cons, hy, hx, (sar_ok w _).2]; exact kp_add, h⟩
  · obtain ⟨y, x, r, rfl, hy, hx, hr, h⟩ := s2i_ok ho h
    exact ⟨_, okS_c (sar_ok w _).1 hr, by rw [List.map_cons, List.map_cons, List.map_cons, hy, hx, (sar_ok w _).2]; exact kp_sub, h⟩
  · obtain ⟨y, x, r, rfl, hy, hx, hr, h⟩ := s2i_ok ho h
    exact ⟨_, okS_c (sar_ok w _).1 hr, by rw [List.map_cons, List.map_cons, List.map_cons, hy, hx, (sar_ok w _).2]; exact kp_mul, h⟩
  · obtain ⟨x, r, rfl, hx, hr, h⟩ := s1i_ok ho h
    exact ⟨_, okS_c (sar_ok w _).1 hr, by rw [List.map_cons, List.map_cons, hx, (sar_ok w _).2]; exact kp_neg, h⟩
  · obtain ⟨y, x, r, rfl, hy, hx, hr, h⟩ := s2i_ok ho h
    exact ⟨_, okS_c (svR_t (by decide) (iI_r _)) hr, by rw [List.map_cons, List.map_cons, List.map_cons, hy, hx]; exact kp_and, h⟩
  · obtain ⟨y, x, r, rfl, hy, hx, hr, h⟩ := s2i_ok ho h
    exact ⟨_, okS_c (svR_t (by decide) (iI_r _)) hr, by rw [List.map_cons, List.map_cons, List.map_cons, hy, hx]; exact kp_or, h⟩
  · obtain ⟨y, x, r, rfl, hy, hx, hr, h⟩ := s2i_ok ho h
    exact ⟨_, okS_c (svR_t (by decide) (iI_r _)) hr, by rw [List.map_cons, List.map_cons, List.map_cons, hy, hx]; exact kp_xor, h⟩
  · obtain ⟨y, x, r, rfl, hy, hx, hr, h⟩ := s2i_ok ho h
    exact ⟨_, okS_c (svR_t (by decide) (iI_r _)) hr, by rw [List.map_cons, List.map_cons, List.map_cons, hy, hx]; exact kp_shl, h⟩
  · obtain ⟨y, x, r, rfl, hy, hx, hr, h⟩ := s2i_ok ho h
    exact ⟨_, okS_c (svR_t (by decide) (iI_r _)) hr, by rw [List.map_cons, List.map_cons, List.map_cons, hy, hx]; exact kp_shr, h⟩
  · obtain ⟨y, x, r, rfl, hy, hx, hr, h⟩ := s2i_ok ho h
    exact ⟨_, okS_c (svR_t (by decide) (iI_r _)) hr, by rw [List.map_cons, List.map_cons, List.map_cons, hy, hx]; exact kp_ushr, h⟩
  · obtain ⟨y, x, r, rfl, ty, tx, hy, hx, h0, h1, hr, h⟩ := s2d_ok (by decide) ho h
    exact ⟨_, okS_c (svR_t (by decide) (hy_div0 hx h0 h1)) hr, by rw [List.map_cons, List.map_cons, List.map_cons, svV_i ty, svV_i tx]; exact kp_div h0 hx h1 hy, h⟩
  · obtain ⟨y, x, r, rfl, hy, hx, hr, h⟩ := s2j_ok ho h
    exact ⟨_, okS_c (svR_f (by decide)) hr, by rw [List.map_cons, List.map_cons, List.map_cons, hy, hx]; exact kp_ladd, h⟩
  · obtain ⟨y, x, r, rfl, hy, hx, hr, h⟩ := s2j_ok ho h
    exact ⟨_, okS_c (svR_f (by decide)) hr, by rw [List.map_cons, List.map_cons, List.map_cons, hy, hx]; exact kp_lsub, h⟩
  · obtain ⟨y, x, r, rfl, hy, hx, hr, h⟩ := s2j_ok ho h
    exact ⟨_, okS_c (svR_f (by decide)) hr, by rw [List.map_cons, List.map_cons, List.map_cons, hy, hx]; exact kp_lmul, h⟩
  · obtain ⟨y, x, r, rfl, hy, hx, hr, h⟩ := s2j_ok ho h
    exact ⟨_, okS_c (svR_t (by decide) (jI_r _)) hr, by rw [List.map_cons, List.map_cons, List.map_cons, hy, hx]; exact kp_land, h⟩
  · obtain ⟨y, x, r, rfl, hy, hx, hr, h⟩ := s2j_ok ho h
    exact ⟨_, okS_c (svR_t (by decide) (jI_r _)) hr, by rw [List.map_cons, List.map_cons, List.map_cons, hy, hx]; exact kp_lor, h⟩
  · obtain ⟨y, x, r, rfl, ty, tx, hy, hx, h0, h1, hr, h⟩ := s2d_ok (by decide) ho h
    exact ⟨_, okS_c (svR_t (by decide) (hy_div hx h0 h1).1) hr, by rw [List.map_cons, List.map_cons, List.map_cons, svV_j ty, svV_j tx]; exact kp_ldiv h0 hx h1 hy, h⟩
  · obtain ⟨y, x, r, rfl, ty, tx, hy, hx, h0, h1, hr, h⟩ := s2d_ok (by decide) ho h
    exact ⟨_, okS_c (svR_t (by decide) (hy_div hx h0 h1).2) hr, by rw [List.map_cons, List.map_cons, List.map_cons, svV_j ty, svV_j tx]; exact kp_lrem h0 hx h1 hy, h⟩
  · split at h
    · obtain ⟨h1, h⟩ := sB_ok h
      exact ⟨_, okS_c (svR_f (by decide)) (okS_t ho), by rw [List.map_cons, List.map_cons, svV_j h1]; exact kp_lneg, h⟩
    · exact h.elim
  · split at h
    · obtain ⟨h1, h⟩ := sB_ok h
      rw [Bool.and_eq_true] at h1
      exact ⟨_, okS_c (svR_t (by decide) (jI_r _)) (okS_t (okS_t ho)), by rw [List.map_cons, List.map_cons, List.map_cons, svV_i h1.1, svV_j h1.2]; exact kp_lshl, h⟩
    · exact h.elim
  · split at h
    · obtain ⟨h1, h⟩ := sB_ok h
      rw [Bool.and_eq_true] at h1
      exact ⟨_, okS_c (svR_t (by decide) (jI_r _)) (okS_t (okS_t ho)), by rw [List.map_cons, List.map_cons, List.map_cons, svV_i h1.1, svV_j h1.2]; exact kp_lshr, h⟩
    · exact h.elim
  · split at h
    · obtain ⟨h1, h⟩ := sB_ok h
      obtain ⟨h2, h⟩ := rq_ok (by decide) (okS_h ho) h
      exact ⟨_, okS_c (svR_t (by decide) (hy_01 h2)) (okS_t ho), by rw [List.map_cons, List.map_cons, svV_i h1]; exact kp_i2l h2, h⟩
    · exact h.elim
  · split at h
    · obtain ⟨h1, h⟩ := sB_ok h
      exact ⟨_, okS_c (sar_ok w _).1 (okS_t ho), by rw [List.map_cons, List.map_cons, svV_j h1, (sar_ok w _).2]; exact kp_l2i, h⟩
    · exact h.elim
  · split at h
    · obtain ⟨h1, h⟩ := sB_ok h
      obtain ⟨h2, h⟩ := rq_ok (by decide) (okS_h ho) h
      exact ⟨_, okS_c (svR_t (by decide) h2) (okS_t ho), by rw [List.map_cons, List.map_cons, svV_i h1]; exact kp_i2c h2, h⟩
    · exact h.elim
  · split at h
    · obtain ⟨h1, h⟩ := sB_ok h
      refine ⟨_, okS_c (okS_h ho) ho, ?_, h⟩
      rw [List.map_cons, List.map_cons, List.map_cons]
      rw [Bool.or_eq_true] at h1
      rcases h1 with h1 | h1
      · rw [svV_i h1]; rfl
      · rcases svV_a h1 (okS_h ho) with e | ⟨a, e⟩ <;> rw [e] <;> rfl
    · exact h.elim
  · split at h
    · split at h
      · rename_i hj
        refine ⟨_, okS_c (okS_h ho) ho, ?_, h⟩
        simp only [List.map_cons, svV_j hj]
        rfl
      · obtain ⟨h1, h⟩ := sB_ok h
        rw [Bool.and_eq_true, Bool.or_eq_true] at h1
        refine ⟨_, okS_c (okS_h ho) (okS_c (okS_h (okS_t ho)) ho), ?_, h⟩
        rcases h1.2 with h2 | h2
        · simp only [List.map_cons, svV_i h1.1, svV_i h2]
          rfl
        · have h5 : ∀ q : sv, Nat.beq q.1 5 = true → svV q = .ref q.2.2.toNat := fun q hq => by
            obtain ⟨k, b, x⟩ := q
            have hq : k = 5 := Nat.eq_of_beq_eq_true hq
            subst hq
            rfl
          simp only [List.map_cons, svV_i h1.1, h5 _ h2]
          rfl
    · obtain ⟨h1, h⟩ := sB_ok h
      refine ⟨_, okS_c (okS_h ho) ho, ?_, h⟩
      simp only [List.map_cons, svV_j h1]
      rfl
    · exact h.elim
  · split at h
    · obtain ⟨h1, h⟩ := sB_ok h
      refine ⟨_, okS_t ho, ?_, h⟩
      rw [List.map_cons]
      rw [Bool.or_eq_true] at h1
      rcases h1 with h1 | h1
      · rw [svV_i h1]; rfl
      · rcases svV_a h1 (okS_h ho) with e | ⟨a, e⟩ <;> rw [e] <;> rfl
    · exact h.elim
  · exact h.elim
/-! locals -/
def sg : sL → Nat → Option sv
  | [], _ => none
  | p :: r, i => match Nat.beq p.1 i with
    | true => some p.2
    | false => sg r i
def sS1 (lv : sL) (i : Nat) (q : sv) : sL := (i, q) :: lv.filter (fun p => !(p.1 == i) && !(p.1 + 1 == i && sJ p.2))
def sS2 (lv : sL) (i : Nat) (q : sv) : sL := (i, q) :: lv.filter (fun p => !(p.1 == i) && (!(p.1 == i + 1) && !(p.1 + 1 == i && sJ p.2)))
def sLV (lv : sL) : im_L := lv.map (fun p => (p.1, svV p.2))
theorem sg_ok {lv : sL} {i : Nat} {q : sv} (h : sg lv i = some q) : im_lg (sLV lv) i = some (svV q) ∧ (i, q) ∈ lv := by
  induction lv with
  | nil => cases h
  | cons p r ih =>
    unfold sg at h
    show im_lg ((p.1, svV p.2) :: sLV r) i = _ ∧ _
    unfold im_lg
    dsimp only
    split at h
    · rename_i e
      cases h
      rw [e]
      have e := Nat.eq_of_beq_eq_true e
      subst e
      exact ⟨rfl, List.mem_cons_self ..⟩
    · rename_i e
      rw [e]
      exact ⟨(ih h).1, List.mem_cons_of_mem _ (ih h).2⟩
theorem hy_vc (k : Nat) (x : Int) : ((hy_v k x).category == 2) = Nat.beq k 1 := by
  unfold hy_v
  split
  · rfl
  · split <;> rfl
  · rename_i h1 h2
    have : Nat.beq k 1 = false := by
      cases e : Nat.beq k 1 with
      | false => rfl
      | true => exact absurd (Nat.eq_of_beq_eq_true e) h1
    rw [this]
    rfl
theorem svV_c (q : sv) : ((svV q).category == 2) = sJ q := by
  obtain ⟨k, b, x⟩ := q
  unfold svV sJ
  dsimp only
  split
  · rfl
  · exact hy_vc k x
theorem sS1_ok (lv : sL) (i : Nat) (q : sv) : sLV (sS1 lv i q) = im_s1 (sLV lv) i (svV q) := by
  unfold sLV sS1 im_s1
  rw [List.map_cons, List.filter_map]
  congr 2
  refine List.filter_congr (fun p _ => ?_)
  show (!(p.1 == i) && !(p.1 + 1 == i && sJ p.2)) = (!(p.1 == i) && !(p.1 + 1 == i && (svV p.2).category == 2))
  rw [svV_c]
theorem sS2_ok (lv : sL) (i : Nat) (q : sv) : sLV (sS2 lv i q) = im_s2 (sLV lv) i (svV q) := by
  unfold sLV sS2 im_s2
  rw [List.map_cons, List.filter_map]
  congr 2
  refine List.filter_congr (fun p _ => ?_)
  show (!(p.1 == i) && (!(p.1 == i + 1) && !(p.1 + 1 == i && sJ p.2))) = (!(p.1 == i) && (!(p.1 == i + 1) && !(p.1 + 1 == i && (svV p.2).category == 2)))
  rw [svV_c]
theorem okL_1 {lv : sL} {i : Nat} {q : sv} (h : okL lv) (hq : svR q) : okL (sS1 lv i q) := by
  intro p hp
  rcases List.mem_cons.mp hp with rfl | hp
  · exact hq
  · exact h p (List.mem_filter.mp hp).1
theorem okL_2 {lv : sL} {i : Nat} {q : sv} (h : okL lv) (hq : svR q) : okL (sS2 lv i q) := by
  intro p hp
  rcases List.mem_cons.mp hp with rfl | hp
  · exact hq
  · exact h p (List.mem_filter.mp hp).1
def sld (t : sv → Bool) (lv : sL) (st : List sv) (k : Nat) (K : sL → List sv → Prop) : Prop := match sg lv k with
  | some q => sB (t q) (K lv (q :: st))
  | none => False
def sst (t : sv → Bool) (nL : Nat) (lv : sL) (st : List sv) (k : Nat) (K : sL → List sv → Prop) : Prop := match st with
  | q :: r => sB (t q && Nat.blt k nL) (K (sS1 lv k q) r)
  | _ => False
def sst2 (nL : Nat) (lv : sL) (st : List sv) (k : Nat) (K : sL → List sv → Prop) : Prop := match st with
  | q :: r => sB (sJ q && Nat.blt (k + 1) nL) (K (sS2 lv k q) r)
  | _ => False
def wLc (w : Bool) (nL : Nat) (i : Instr) (lv : sL) (st : List sv) (K : sL → List sv → Prop) : Prop := match i with
  | .iload k => sld sI lv st k K
  | .iload_n k => sld sI lv st k K
  | .lload k => sld sJ lv st k K
  | .lload_n k => sld sJ lv st k K
  | .aload k => sld sA lv st k K
  | .aload_n k => sld sA lv st k K
  | .istore k => sst sI nL lv st k K
  | .istore_n k => sst sI nL lv st k K
  | .lstore k => sst2 nL lv st k K
  | .lstore_n k => sst2 nL lv st k K
  | .astore k => sst sA nL lv st k K
  | .astore_n k => sst sA nL lv st k K
  | .iinc k n => match sg lv k with
    | some q => sB (sI q && Nat.blt k nL) (K (sS1 lv k (sar w (q.2.2 + n))) st)
    | none => False
  | _ => False
theorem sld_ok {t : sv → Bool} {lv : sL} {st : List sv} {k : Nat} {K : sL → List sv → Prop} (hL : okL lv) (ho : okS st) (h : sld t lv st k K) : ∃ q, t q = true ∧ svR q ∧ im_lg (sLV lv) k = some (svV q) ∧ okS (q :: st) ∧ K lv (q :: st) := by
  unfold sld at h
  split at h
  · rename_i q hq
    obtain ⟨h1, h2⟩ := sB_ok h
    have hr : svR q := hL _ (sg_ok hq).2
    exact ⟨q, h1, hr, (sg_ok hq).1, okS_c hr ho, h2⟩
  · exact h.elim
theorem sst_ok {t : sv → Bool} {nL : Nat} {lv : sL} {st : List sv} {k : Nat} {K : sL → List sv → Prop} (hL : okL lv) (ho : okS st) (h : sst t nL lv st k K) : ∃ q r, st = q :: r ∧ t q = true ∧ svR q ∧ k < nL ∧ okL (sS1 lv k q) ∧ okS r ∧ K (sS1 lv k q) r := by
  unfold sst at h
  split at h
  · rename_i q r
    obtain ⟨h1, h2⟩ := sB_ok h
    rw [Bool.and_eq_true] at h1
    exact ⟨q, r, rfl, h1.1, okS_h ho, Nat.lt_of_lt_of_le (Nat.lt_succ_self k) (Nat.le_of_ble_eq_true h1.2), okL_1 hL (okS_h ho), okS_t ho, h2⟩
  · exact h.elim
theorem sst2_ok {nL : Nat} {lv : sL} {st : List sv} {k : Nat} {K : sL → List sv → Prop} (hL : okL lv) (ho : okS st) (h : sst2 nL lv st k K) : ∃ q r, st = q :: r ∧ sJ q = true ∧ svR q ∧ k + 1 < nL ∧ okL (sS2 lv k q) ∧ okS r ∧ K (sS2 lv k q) r := by
  unfold sst2 at h
  split at h
  · rename_i q r
    obtain ⟨h1, h2⟩ := sB_ok h
    rw [Bool.and_eq_true] at h1
    exact ⟨q, r, rfl, h1.1, okS_h ho, Nat.lt_of_lt_of_le (Nat.lt_succ_self _) (Nat.le_of_ble_eq_true h1.2), okL_2 hL (okS_h ho), okS_t ho, h2⟩
  · exact h.elim
section WLC
variable {nL : Nat} {lv : sL} {st : List sv} {k : Nat} {K : sL → List sv → Prop}
theorem wl_i (hL : okL lv) (ho : okS st) (h : sld sI lv st k K) : ∃ lv' st', okL lv' ∧ okS st' ∧ (match im_lg (sLV lv) k with
    | some (.int x) => some (sLV lv, .int x :: st.map svV)
    | _ => none) = some (sLV lv', st'.map svV) ∧ K lv' st' := by
  obtain ⟨q, h1, h2, h3, h4, h5⟩ := sld_ok hL ho h
  refine ⟨lv, q :: st, hL, h4, ?_, h5⟩
  rw [h3, List.map_cons, svV_i h1]
theorem wl_j (hL : okL lv) (ho : okS st) (h : sld sJ lv st k K) : ∃ lv' st', okL lv' ∧ okS st' ∧ (match im_lg (sLV lv) k with
    | some (.long x) => some (sLV lv, .long x :: st.map svV)
    | _ => none) = some (sLV lv', st'.map svV) ∧ K lv' st' := by
  obtain ⟨q, h1, h2, h3, h4, h5⟩ := sld_ok hL ho h
  refine ⟨lv, q :: st, hL, h4, ?_, h5⟩
  rw [h3, List.map_cons, svV_j h1]
theorem wl_a (hL : okL lv) (ho : okS st) (h : sld sA lv st k K) : ∃ lv' st', okL lv' ∧ okS st' ∧ (match im_lg (sLV lv) k with
    | some (.ref x) => some (sLV lv, .ref x :: st.map svV)
    | some .null => some (sLV lv, .null :: st.map svV)
    | _ => none) = some (sLV lv', st'.map svV) ∧ K lv' st' := by
  obtain ⟨q, h1, h2, h3, h4, h5⟩ := sld_ok hL ho h
  refine ⟨lv, q :: st, hL, h4, ?_, h5⟩
  rw [h3, List.map_cons]
  rcases svV_a h1 h2 with e | ⟨a, e⟩ <;> rw [e]
theorem wl_si (hL : okL lv) (ho : okS st) (h : sst sI nL lv st k K) : ∃ lv' st', okL lv' ∧ okS st' ∧ (match st.map svV with
    | .int x :: r => if k < nL then some (im_s1 (sLV lv) k (.int x), r) else none
    | _ => none) = some (sLV lv', st'.map svV) ∧ K lv' st' := by
  obtain ⟨q, r, rfl, h1, h2, h3, h4, h5, h6⟩ := sst_ok hL ho h
  refine ⟨_, _, h4, h5, ?_, h6⟩
  rw [List.map_cons, svV_i h1]
  dsimp only
  rw [if_pos h3, sS1_ok, svV_i h1]
theorem wl_sj (hL : okL lv) (ho : okS st) (h : sst2 nL lv st k K) : ∃ lv' st', okL lv' ∧ okS st' ∧ (match st.map svV with
    | .long x :: r => if k + 1 < nL then some (im_s2 (sLV lv) k (.long x), r) else none
    | _ => none) = some (sLV lv', st'.map svV) ∧ K lv' st' := by
  obtain ⟨q, r, rfl, h1, h2, h3, h4, h5, h6⟩ := sst2_ok hL ho h
  refine ⟨_, _, h4, h5, ?_, h6⟩
  rw [List.map_cons, svV_j h1]
  dsimp only
  rw [if_pos h3, sS2_ok, svV_j h1]
theorem wl_sa (hL : okL lv) (ho : okS st) (h : sst sA nL lv st k K) : ∃ lv' st', okL lv' ∧ okS st' ∧ (match st.map svV with
    | .ref x :: r => if k < nL then some (im_s1 (sLV lv) k (.ref x), r) else none
    | .null :: r => if k < nL then some (im_s1 (sLV lv) k .null, r) else none
    | _ => none) = some (sLV lv', st'.map svV) ∧ K lv' st' := by
  obtain ⟨q, r, rfl, h1, h2, h3, h4, h5, h6⟩ := sst_ok hL ho h
  refine ⟨_, _, h4, h5, ?_, h6⟩
  rw [List.map_cons, sS1_ok]
  rcases svV_a h1 h2 with e | ⟨a, e⟩ <;> rw [e] <;> dsimp only <;> rw [if_pos h3]
end WLC
theorem wLc_ok {w : Bool} {nL : Nat} {i : Instr} {lv : sL} {st : List sv} {K : sL → List sv → Prop} (hL : okL lv) (ho : okS st) (h : wLc w nL i lv st K) : ∃ lv' st', okL lv' ∧ okS st' ∧ im_l nL i (sLV lv) (st.map svV) = some (sLV lv', st'.map svV) ∧ K lv' st' := by
  unfold wLc at h
  split at h
  · exact wl_i hL ho h
  · exact wl_i hL ho h
  · exact wl_j hL ho h
  · exact wl_j hL ho h
  · exact wl_a hL ho h
  · exact wl_a hL ho h
  · exact wl_si hL ho h
  · exact wl_si hL ho h
  · exact wl_sj hL ho h
  · exact wl_sj hL ho h
  · exact wl_sa hL ho h
  · exact wl_sa hL ho h
  · rename_i k n
    split at h
    · rename_i q hq
      obtain ⟨h1, h2⟩ := sB_ok h
      rw [Bool.and_eq_true] at h1
      have h3 : k < nL := Nat.lt_of_lt_of_le (Nat.lt_succ_self k) (Nat.le_of_ble_eq_true h1.2)
      refine ⟨_, _, okL_1 hL (sar_ok w _).1, ho, ?_, h2⟩
      unfold im_l
      (try dsimp only)
      rw [(sg_ok hq).1, svV_i h1.1]
      (try dsimp only)
      rw [if_pos h3, sS1_ok, (sar_ok w _).2]
      show some (im_s1 (sLV lv) k (.int (Int32.ofInt q.2.2 + Int32.ofInt n)), st.map svV) = some (im_s1 (sLV lv) k (.int (Int32.ofInt (q.2.2 + n))), st.map svV)
      rw [Int32.ofInt_add]
    · exact h.elim
  · exact h.elim
/-! branches -/
def sbr (p q A B : Prop) : Prop := (p → A) ∧ (q → B)
def scd (c : Jvm.ClassFile.Cond) (x y : Int) (A B : Prop) : Prop := match c with
  | .eq => sbr (x = y) (x ≠ y) A B
  | .ne => sbr (x ≠ y) (x = y) A B
  | .lt => sbr (x < y) (y ≤ x) A B
  | .ge => sbr (y ≤ x) (x < y) A B
  | .gt => sbr (y < x) (x ≤ y) A B
  | .le => sbr (x ≤ y) (y < x) A B
def sck (c : Jvm.ClassFile.Cond) (x y : Int) : Prop := match c with
  | .eq => x = y
  | .ne => x ≠ y
  | .lt => x < y
  | .ge => y ≤ x
  | .gt => y < x
  | .le => x ≤ y
def scn (c : Jvm.ClassFile.Cond) (x y : Int) : Prop := match c with
  | .eq => x ≠ y
  | .ne => x = y
  | .lt => y ≤ x
  | .ge => x < y
  | .gt => x ≤ y
  | .le => y < x
theorem scd_ok {c : Jvm.ClassFile.Cond} {x y : Int} {A B : Prop} (h : scd c x y A B) : (sck c x y → A) ∧ (scn c x y → B) := by
  cases c <;> exact h
theorem kb_cond {c : Jvm.ClassFile.Cond} {x y o : Int} {r : List Value} (hx : hy_r 0 x) (hy : hy_r 0 y) : kb_B (.if_icmp c o) (.int (iI y) :: .int (iI x) :: r) o r (sck c x y) (scn c x y) := by
  cases c
  · exact kb_eq hx hy
  · exact kb_ne hx hy
  · exact kb_lt hx hy
  · exact kb_ge hx hy
  · exact kb_gt hx hy
  · exact kb_le hx hy
theorem kc_cond {c : Jvm.ClassFile.Cond} {x o : Int} {r : List Value} (hx : hy_r 0 x) : kb_B (.ifCond c o) (.int (iI x) :: r) o r (sck c x 0) (scn c x 0) := by
  cases c
  · exact kc_eq hx
  · exact kc_ne hx
  · exact kc_lt hx
  · exact kc_ge hx
  · exact kc_gt hx
  · exact kc_le hx
theorem kl_cond {c : Jvm.ClassFile.Cond} {x y o : Int} {r : List Value} : kb_B (.ifCond c o) (.int (iI (jc x y)) :: r) o r (sck c x y) (scn c x y) := by
  cases c
  · exact kl_eq
  · exact kl_ne
  · exact kl_lt
  · exact kl_ge
  · exact kl_gt
  · exact kl_le
def sjp (pc : Nat) (o : Int) (K : Nat → Prop) : Prop := match im_tg pc o with
  | some t => K t
  | none => False
def stw (pc : Nat) (x lo : Int) (K : Nat → Prop) : Nat → List Int → Prop
  | _, [] => True
  | j, o :: r => (x = lo + (j : Nat) → sjp pc o K) ∧ stw pc x lo K (j + 1) r
def slw (pc : Nat) (x : Int) (d : Int) (K : Nat → Prop) : List (Int × Int) → Prop
  | [] => sjp pc d K
  | p :: r => (x = p.1 → sjp pc p.2 K) ∧ (x ≠ p.1 → slw pc x d K r)
def wB (pc nx : Nat) (i : Instr) (st : List sv) (K : Nat → List sv → Prop) : Prop := match i with
  | .goto o => sjp pc o (fun t => K t st)
  | .ifnull o => match st with
    | q :: r => match Nat.beq q.1 5 with
      | true => K nx r
      | false => sB (Nat.beq q.1 3) (sbr (q.2.2 = 0) (q.2.2 ≠ 0) (sjp pc o (fun t => K t r)) (K nx r))
    | _ => False
  | .ifnonnull o => match st with
    | q :: r => match Nat.beq q.1 5 with
      | true => sjp pc o (fun t => K t r)
      | false => sB (Nat.beq q.1 3) (sbr (q.2.2 = 0) (q.2.2 ≠ 0) (K nx r) (sjp pc o (fun t => K t r)))
    | _ => False
  | .ifCond c o => match st with
    | q :: r => sB (sI q) (rq 0 q (scd c q.2.2 0 (sjp pc o (fun t => K t r)) (K nx r)))
    | _ => False
  | .if_icmp c o => match st with
    | y :: x :: r => sB (sI y && sI x) (rq 0 y (rq 0 x (scd c x.2.2 y.2.2 (sjp pc o (fun t => K t r)) (K nx r))))
    | _ => False
  | .tableswitch d lo hi offs => match st with
    | q :: r => sB (sI q && decide (hi + 1 = lo + offs.toList.length)) (rq 0 q (stw pc q.2.2 lo (fun t => K t r) 0 offs.toList ∧ (q.2.2 < lo ∨ hi < q.2.2 → sjp pc d (fun t => K t r))))
    | _ => False
  | .lookupswitch d ps => match st with
    | q :: r => sB (sI q && (ps.toList.zip (ps.toList.drop 1)).all (fun p => decide (p.1.1 < p.2.1))) (rq 0 q (slw pc q.2.2 d (fun t => K t r) ps.toList))
    | _ => False
  | _ => False
theorem sjp_ok {pc : Nat} {o : Int} {K : Nat → Prop} (h : sjp pc o K) : ∃ t, im_tg pc o = some t ∧ K t := by
  unfold sjp at h
  split at h
  · rename_i t ht
    exact ⟨t, ht, h⟩
  · exact h.elim
theorem stw_ok {pc : Nat} {x lo : Int} {K : Nat → Prop} : ∀ (l : List Int) (j : Nat), stw pc x lo K j l → ∀ i, i < l.length → x = lo + ((j + i : Nat) : Int) → ∃ o, l[i]? = some o ∧ sjp pc o K
  | [], j, h, i, hi, hx => absurd hi (Nat.not_lt_zero _)
  | o :: r, j, h, i, hi, hx => by
    unfold stw at h
    cases i with
    | zero => exact ⟨o, rfl, h.1 hx⟩
    | succ i =>
      obtain ⟨o', h1, h2⟩ := stw_ok r (j + 1) h.2 i (by simp only [List.length_cons] at hi; omega) (by rw [hx]; congr 2; omega)
      exact ⟨o', by rw [List.getElem?_cons_succ]; exact h1, h2⟩
theorem slw_ok {pc : Nat} {x d : Int} {K : Nat → Prop} : ∀ (l : List (Int × Int)), slw pc x d K l → sjp pc (Op.lookupswitch.offset l d x) K
  | [], h => h
  | p :: r, h => by
    unfold slw at h
    obtain ⟨k, o⟩ := p
    rw [Op.lookupswitch.offset_cons]
    by_cases e : x = k
    · rw [if_pos e.symm]
      exact h.1 e
    · rw [if_neg (fun q => e q.symm)]
      exact slw_ok r (h.2 e)
theorem wB_ok {pc nx : Nat} {i : Instr} {st : List sv} {K : Nat → List sv → Prop} (ho : okS st) (h : wB pc nx i st K) : ∃ o st' t, okS st' ∧ im_b i (st.map svV) = some (o, st'.map svV) ∧ (match o with
      | none => some nx
      | some f => im_tg pc f) = some t ∧ K t st' := by
  unfold wB at h
  split at h
  · obtain ⟨t, h1, h2⟩ := sjp_ok h
    exact ⟨some _, st, t, ho, rfl, h1, h2⟩
  · split at h
    · rename_i q r
      split at h
      · rename_i e5
        obtain ⟨k, b, x⟩ := q
        have e5 : k = 5 := Nat.eq_of_beq_eq_true e5
        subst e5
        exact ⟨none, r, nx, okS_t ho, rfl, rfl, h⟩
      · obtain ⟨h1, h⟩ := sB_ok h
        obtain ⟨k, b, x⟩ := q
        have h1 : k = 3 := Nat.eq_of_beq_eq_true h1
        subst h1
        obtain ⟨h2, h3⟩ := h
        by_cases e : x = 0
        · obtain ⟨t, h4, h5⟩ := sjp_ok (h2 e)
          exact ⟨some _, r, t, okS_t ho, by rw [List.map_cons, show svV (3, b, x) = .null from if_pos e]; rfl, h4, h5⟩
        · exact ⟨none, r, nx, okS_t ho, by rw [List.map_cons, show svV (3, b, x) = .ref x.toNat from if_neg e]; rfl, rfl, h3 e⟩
    · exact h.elim
  · split at h
    · rename_i q r
      split at h
      · rename_i e5
        obtain ⟨k, b, x⟩ := q
        have e5 : k = 5 := Nat.eq_of_beq_eq_true e5
        subst e5
        obtain ⟨t, h4, h5⟩ := sjp_ok h
        exact ⟨some _, r, t, okS_t ho, rfl, h4, h5⟩
      · obtain ⟨h1, h⟩ := sB_ok h
        obtain ⟨k, b, x⟩ := q
        have h1 : k = 3 := Nat.eq_of_beq_eq_true h1
        subst h1
        obtain ⟨h2, h3⟩ := h
        by_cases e : x = 0
        · exact ⟨none, r, nx, okS_t ho, by rw [List.map_cons, show svV (3, b, x) = .null from if_pos e]; rfl, rfl, h2 e⟩
        · obtain ⟨t, h4, h5⟩ := sjp_ok (h3 e)
          exact ⟨some _, r, t, okS_t ho, by rw [List.map_cons, show svV (3, b, x) = .ref x.toNat from if_neg e]; rfl, h4, h5⟩
    · exact h.elim
  · rename_i c o
    split at h
    · rename_i q r
      obtain ⟨h1, h⟩ := sB_ok h
      obtain ⟨h2, h⟩ := rq_ok (by decide) (okS_h ho) h
      have h3 := scd_ok h
      have h4 := kc_cond (c := c) (o := o) (r := r.map svV) h2
      rcases h4.2.2 with hc | hc
      · obtain ⟨t, h6, h7⟩ := sjp_ok (h3.1 hc)
        exact ⟨some o, r, t, okS_t ho, by rw [List.map_cons, svV_i h1]; exact h4.1 hc, h6, h7⟩
      · exact ⟨none, r, nx, okS_t ho, by rw [List.map_cons, svV_i h1]; exact h4.2.1 hc, rfl, h3.2 hc⟩
    · exact h.elim
  · rename_i c o
    split at h
    · rename_i y x r
      obtain ⟨h1, h⟩ := sB_ok h
      rw [Bool.and_eq_true] at h1
      obtain ⟨h2, h⟩ := rq_ok (by decide) (okS_h ho) h
      obtain ⟨h2', h⟩ := rq_ok (by decide) (okS_h (okS_t ho)) h
      have h3 := scd_ok h
      have h4 := kb_cond (c := c) (o := o) (r := r.map svV) h2' h2
      rcases h4.2.2 with hc | hc
      · obtain ⟨t, h6, h7⟩ := sjp_ok (h3.1 hc)
        exact ⟨some o, r, t, okS_t (okS_t ho), by rw [List.map_cons, List.map_cons, svV_i h1.1, svV_i h1.2]; exact h4.1 hc, h6, h7⟩
      · exact ⟨none, r, nx, okS_t (okS_t ho), by rw [List.map_cons, List.map_cons, svV_i h1.1, svV_i h1.2]; exact h4.2.1 hc, rfl, h3.2 hc⟩
    · exact h.elim
  · rename_i d lo hi offs
    split at h
    · rename_i q r
      obtain ⟨h1, h⟩ := sB_ok h
      rw [Bool.and_eq_true, decide_eq_true_eq] at h1
      obtain ⟨h2, h3, h4⟩ := rq_ok (by decide) (okS_h ho) h
      by_cases hd : q.2.2 < lo ∨ hi < q.2.2
      · obtain ⟨t, h6, h7⟩ := sjp_ok (h4 hd)
        exact ⟨some d, r, t, okS_t ho, by rw [List.map_cons, svV_i h1.1]; exact kb_td h2 hd, h6, h7⟩
      · obtain ⟨o, h5, h6⟩ := stw_ok _ 0 h3 (q.2.2 - lo).toNat (by omega) (by omega)
        obtain ⟨t, h6, h7⟩ := sjp_ok h6
        refine ⟨some o, r, t, okS_t ho, by rw [List.map_cons, svV_i h1.1]; exact kb_ts h2 (q.2.2 - lo).toNat (by omega) (by omega) (by rw [← h5, Array.getElem?_toList]), h6, h7⟩
    · exact h.elim
  · rename_i d ps
    split at h
    · rename_i q r
      obtain ⟨h1, h⟩ := sB_ok h
      rw [Bool.and_eq_true] at h1
      obtain ⟨h2, h⟩ := rq_ok (by decide) (okS_h ho) h
      obtain ⟨t, h6, h7⟩ := sjp_ok (slw_ok _ h)
      exact ⟨some _, r, t, okS_t ho, by rw [List.map_cons, svV_i h1.1]; exact kb_lk h2 h1.2 rfl, h6, h7⟩
    · exact h.elim
  · exact h.elim
