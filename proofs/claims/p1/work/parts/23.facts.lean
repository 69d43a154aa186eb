/-! WHAT THE TABLES SAY of each row of code, by lists of a class -/
def im_fF (Ts : List Cond) (cl : List vw_C) (Rn : String) (q : Nat × Nat × Nat × Nat) : Prop := ∃ r : vw_C, cl[q.2.1]? = some r ∧ q.2.1 < 50 ∧ Cond.fieldLink Rn q.1 (r.2.1 q.2.2.1).1 (r.2.1 q.2.2.1).2.1 (r.2.1 q.2.2.1).2.2.1 ∈ Ts ∧ ((r.2.1 q.2.2.1).2.2.2 = true → ¬ q.2.2.2 = 0 ∧ (q.2.2.2 = 1 → (r.2.1 q.2.2.1).1 = Rn))
def im_fN (Ts : List Cond) (cl : List vw_C) (nf : Nat → Nat) (Rn : String) (q : Nat × Nat) : Prop := ∃ r : vw_C, cl[q.2]? = some r ∧ q.2 < 50 ∧ Cond.classLink Rn q.1 r.1 ∈ Ts ∧ nf q.2 = r.2.2
def im_fA (Ts : List Cond) (cl : List vw_C) (rA : List Nat) (Rn : String) (q : Nat × Nat) : Prop := ∃ r : vw_C, cl[q.2]? = some r ∧ q.2 ∈ rA ∧ Cond.classLink Rn q.1 r.1 ∈ Ts
def im_fI (Ts : List Cond) (Rn : String) (q : Nat × Int32) : Prop := Cond.constant Rn q.1 q.2 ∈ Ts
def im_fL (Ts : List Cond) (Rn : String) (q : Nat × Int64) : Prop := Cond.constantLong Rn q.1 q.2 ∈ Ts
def im_fC (Ts : List Cond) (Rn : String) (q : Nat × Nat) : Prop := (q.2 = 100 ∧ Cond.classLink Rn q.1 "[I" ∈ Ts) ∨ (q.2 = 101 ∧ Cond.classLink Rn q.1 "[J" ∈ Ts)
def im_iv (k ix : Nat) : Instr := if k = 0 ∨ k = 3 ∨ k = 4 then .invokespecial ix else if k = 1 ∨ k = 9 then .invokevirtual ix else .invokestatic ix
def im_fM (Ts nw : List Cond) (tb : List im_M) (Rn : String) (q : Nat × Nat × Nat × Nat) : Prop := ∀ (y : MethodName) (pc len : Nat) (v : Value), y.cls = Rn → im_co Ts nw tb y (pc, im_iv q.1 q.2.1, len, q.1, q.2.2.1, q.2.2.2, v)
abbrev im_Z : Type := List (Nat × Nat × Nat × Nat) × List (Nat × Nat) × List (Nat × Nat) × List (Nat × Int32) × List (Nat × Int64) × List (Nat × Nat) × List (Nat × Nat × Nat × Nat)
def im_zo (Ts nw : List Cond) (cl : List vw_C) (rA : List Nat) (nf : Nat → Nat) (tb : List im_M) (Rn : String) (Z : im_Z) : Prop :=
  (∀ q ∈ Z.1, im_fF Ts cl Rn q) ∧ (∀ q ∈ Z.2.1, im_fN Ts cl nf Rn q) ∧ (∀ q ∈ Z.2.2.1, im_fA Ts cl rA Rn q) ∧ (∀ q ∈ Z.2.2.2.1, im_fI Ts Rn q) ∧ (∀ q ∈ Z.2.2.2.2.1, im_fL Ts Rn q) ∧ (∀ q ∈ Z.2.2.2.2.2.1, im_fC Ts Rn q) ∧ ∀ q ∈ Z.2.2.2.2.2.2, im_fM Ts nw tb Rn q
/-- the check of a row against the lists of its class -/
def im_ck (Z : im_Z) (ini : Bool) (e : im_E) : Bool :=
  (match im_ln e.2.1 with
    | some k => Nat.beq e.2.2.1 k
    | none => true) &&
  (match e.2.1 with
    | .ifCond _ f => (im_tg e.1 f).isSome
    | .if_icmp _ f => (im_tg e.1 f).isSome
    | .getfield ix => Z.1.any (fun q => Nat.beq q.1 ix && (Nat.beq q.2.1 e.2.2.2.1 && Nat.beq q.2.2.1 e.2.2.2.2.1))
    | .putfield ix => Z.1.any (fun q => Nat.beq q.1 ix && (Nat.beq q.2.1 e.2.2.2.1 && (Nat.beq q.2.2.1 e.2.2.2.2.1 && (Nat.beq q.2.2.2 0 || (Nat.beq q.2.2.2 1 && ini)))))
    | .new ix => Z.2.1.any (fun q => Nat.beq q.1 ix && Nat.beq q.2 e.2.2.2.1)
    | .anewarray ix => Z.2.2.1.any (fun q => Nat.beq q.1 ix && Nat.beq q.2 e.2.2.2.1)
    | .ldc ix => Z.2.2.2.1.any (fun q => Nat.beq q.1 ix && decide (e.2.2.2.2.2.2 = .int q.2))
    | .ldc_w ix => Z.2.2.2.1.any (fun q => Nat.beq q.1 ix && decide (e.2.2.2.2.2.2 = .int q.2))
    | .ldc2_w ix => Z.2.2.2.2.1.any (fun q => Nat.beq q.1 ix && decide (e.2.2.2.2.2.2 = .long q.2))
    | .checkcast ix => Z.2.2.2.2.2.1.any (fun q => Nat.beq q.1 ix && Nat.beq q.2 e.2.2.2.1)
    | .invokespecial ix => Z.2.2.2.2.2.2.any (fun q => decide (im_iv q.1 q.2.1 = .invokespecial ix) && (Nat.beq q.1 e.2.2.2.1 && (Nat.beq q.2.2.1 e.2.2.2.2.1 && Nat.beq q.2.2.2 e.2.2.2.2.2.1)))
    | .invokevirtual ix => Z.2.2.2.2.2.2.any (fun q => decide (im_iv q.1 q.2.1 = .invokevirtual ix) && (Nat.beq q.1 e.2.2.2.1 && (Nat.beq q.2.2.1 e.2.2.2.2.1 && Nat.beq q.2.2.2 e.2.2.2.2.2.1)))
    | .invokestatic ix => Z.2.2.2.2.2.2.any (fun q => decide (im_iv q.1 q.2.1 = .invokestatic ix) && (Nat.beq q.1 e.2.2.2.1 && (Nat.beq q.2.2.1 e.2.2.2.2.1 && Nat.beq q.2.2.2 e.2.2.2.2.2.1)))
    | _ => true)

section IMC
variable {Ts nw : List Cond} {cl : List vw_C} {rA : List Nat} {nf : Nat → Nat} {tb : List im_M} {Rn : String} {Z : im_Z} {ini : Bool}
theorem im_ck_ok (hz : im_zo Ts nw cl rA nf tb Rn Z) {mi : im_M} (hy : mi.1.cls = Rn) (hi : ini = true → mi.1.name = "<init>") {e : im_E} (hd : decode mi.2.1 e.1 = .ok (e.2.1, e.2.2.1)) (hc : im_ck Z ini e = true) : im_ef Ts cl rA nf nw tb mi e := by
  obtain ⟨z1, z2, z3, z4, z5, z6, z7⟩ := hz
  obtain ⟨pc, i, len, a, b, c, v⟩ := e
  unfold im_ck at hc
  rw [Bool.and_eq_true] at hc
  obtain ⟨h1, h2⟩ := hc
  refine ⟨hd, fun k hk => ?_, fun co f hf => ?_, ?_, ?_⟩
  · dsimp only at h1 hk ⊢
    rw [hk] at h1
    exact Nat.eq_of_beq_eq_true h1
  · dsimp only at h2 hf ⊢
    have h3 : (im_tg pc f).isSome = true := by rcases hf with rfl | rfl <;> exact h2
    obtain ⟨t, ht⟩ := Option.isSome_iff_exists.mp h3
    exact ⟨t, im_tg_ok ht⟩
  · dsimp only at h2
    cases i <;> first | exact trivial | skip
    case getfield ix =>
      obtain ⟨q, hq, h3⟩ := List.any_eq_true.mp h2
      simp only [Bool.and_eq_true] at h3
      obtain ⟨e1, e2, e3⟩ := h3
      have e1 := Nat.eq_of_beq_eq_true e1
      have e2 := Nat.eq_of_beq_eq_true e2
      have e3 := Nat.eq_of_beq_eq_true e3
      obtain ⟨r, f1, f2, f3, f4⟩ := z1 q hq
      rw [e2] at f1 f2
      rw [e1, e3] at f3
      exact ⟨r, f1, f2, by rw [hy]; exact f3⟩
    case putfield ix =>
      obtain ⟨q, hq, h3⟩ := List.any_eq_true.mp h2
      simp only [Bool.and_eq_true] at h3
      obtain ⟨e1, e2, e3, e4⟩ := h3
      have e1 := Nat.eq_of_beq_eq_true e1
      have e2 := Nat.eq_of_beq_eq_true e2
      have e3 := Nat.eq_of_beq_eq_true e3
      obtain ⟨r, f1, f2, f3, f4⟩ := z1 q hq
      rw [e2] at f1 f2
      rw [e1, e3] at f3
      rw [e3] at f4
      refine ⟨r, f1, f2, by rw [hy]; exact f3, fun hf => ?_⟩
      obtain ⟨g1, g2⟩ := f4 hf
      rw [Bool.or_eq_true, Bool.and_eq_true] at e4
      rcases e4 with e4 | ⟨e4, e5⟩
      · exact absurd (Nat.eq_of_beq_eq_true e4) g1
      · exact ⟨hi e5, by rw [hy]; exact g2 (Nat.eq_of_beq_eq_true e4)⟩
    case new ix =>
      obtain ⟨q, hq, h3⟩ := List.any_eq_true.mp h2
      simp only [Bool.and_eq_true] at h3
      have e1 := Nat.eq_of_beq_eq_true h3.1
      have e2 := Nat.eq_of_beq_eq_true h3.2
      obtain ⟨r, f1, f2, f3, f4⟩ := z2 q hq
      rw [e2] at f1 f2 f4
      rw [e1] at f3
      exact ⟨r, f1, f2, by rw [hy]; exact f3, f4⟩
    case anewarray ix =>
      obtain ⟨q, hq, h3⟩ := List.any_eq_true.mp h2
      simp only [Bool.and_eq_true] at h3
      have e1 := Nat.eq_of_beq_eq_true h3.1
      have e2 := Nat.eq_of_beq_eq_true h3.2
      obtain ⟨r, f1, f2, f3⟩ := z3 q hq
      rw [e2] at f1 f2
      rw [e1] at f3
      exact ⟨r, f1, f2, by rw [hy]; exact f3⟩
    case ldc ix =>
      obtain ⟨q, hq, h3⟩ := List.any_eq_true.mp h2
      simp only [Bool.and_eq_true, decide_eq_true_eq] at h3
      have e1 := Nat.eq_of_beq_eq_true h3.1
      have f := z4 q hq
      unfold im_fI at f
      rw [e1] at f
      exact ⟨q.2, h3.2, by rw [hy]; exact f⟩
    case ldc_w ix =>
      obtain ⟨q, hq, h3⟩ := List.any_eq_true.mp h2
      simp only [Bool.and_eq_true, decide_eq_true_eq] at h3
      have e1 := Nat.eq_of_beq_eq_true h3.1
      have f := z4 q hq
      unfold im_fI at f
      rw [e1] at f
      exact ⟨q.2, h3.2, by rw [hy]; exact f⟩
    case ldc2_w ix =>
      obtain ⟨q, hq, h3⟩ := List.any_eq_true.mp h2
      simp only [Bool.and_eq_true, decide_eq_true_eq] at h3
      have e1 := Nat.eq_of_beq_eq_true h3.1
      have f := z5 q hq
      unfold im_fL at f
      rw [e1] at f
      exact ⟨q.2, h3.2, by rw [hy]; exact f⟩
    case checkcast ix =>
      obtain ⟨q, hq, h3⟩ := List.any_eq_true.mp h2
      simp only [Bool.and_eq_true] at h3
      have e1 := Nat.eq_of_beq_eq_true h3.1
      have e2 := Nat.eq_of_beq_eq_true h3.2
      rcases z6 q hq with ⟨f1, f2⟩ | ⟨f1, f2⟩
      · rw [e1] at f2
        exact Or.inl ⟨by dsimp only; omega, by rw [hy]; exact f2⟩
      · rw [e1] at f2
        exact Or.inr ⟨by dsimp only; omega, by rw [hy]; exact f2⟩
  · intro h4
    dsimp only at h2 h4
    have key : ∀ j : Instr, Z.2.2.2.2.2.2.any (fun q => decide (im_iv q.1 q.2.1 = j) && (Nat.beq q.1 a && (Nat.beq q.2.2.1 b && Nat.beq q.2.2.2 c))) = true → im_co Ts nw tb mi.1 (pc, j, len, a, b, c, v) := by
      intro j hj
      obtain ⟨q, hq, h3⟩ := List.any_eq_true.mp hj
      simp only [Bool.and_eq_true, decide_eq_true_eq] at h3
      obtain ⟨e0, e1, e2, e3⟩ := h3
      have e1 := Nat.eq_of_beq_eq_true e1
      have e2 := Nat.eq_of_beq_eq_true e2
      have e3 := Nat.eq_of_beq_eq_true e3
      have f := z7 q hq mi.1 pc len v hy
      rw [e0, e1, e2, e3] at f
      exact f
    cases i <;> first | exact key _ h2 | exact absurd (show (0 : Nat) = 4 from h4) (by decide) | exact absurd (show (1 : Nat) = 4 from h4) (by decide) | exact absurd (show (2 : Nat) = 4 from h4) (by decide) | exact absurd (show (3 : Nat) = 4 from h4) (by decide) | exact absurd (show (5 : Nat) = 4 from h4) (by decide)
theorem im_ck_all (hz : im_zo Ts nw cl rA nf tb Rn Z) {mi : im_M} (ini : Bool) (hy : mi.1.cls = Rn) (hi : ini = true → mi.1.name = "<init>") (hd : mi.2.2.2.2.2.all (fun e => decide (decode mi.2.1 e.1 = .ok (e.2.1, e.2.2.1))) = true) (hc : mi.2.2.2.2.2.all (im_ck Z ini) = true) : ∀ e ∈ mi.2.2.2.2.2, im_ef Ts cl rA nf nw tb mi e :=
  fun e he => im_ck_ok hz hy hi (of_decide_eq_true (List.all_eq_true.mp hd e he)) (List.all_eq_true.mp hc e he)
end IMC

theorem mm_a0 : (parseMethodDescriptor mm_y0.desc).map (fun d => d.parameters.length) = some 0 := by decide +kernel
theorem mm_i0 : Cond.instanceMethod mm_y0 ∈ im_Ts := im_in 176 (by decide +kernel) rfl
theorem mm_a1 : (parseMethodDescriptor mm_y1.desc).map (fun d => d.parameters.length) = some 1 := by decide +kernel
theorem mm_i1 : Cond.instanceMethod mm_y1 ∈ im_Ts := im_in 677 (by decide +kernel) rfl
theorem mm_s1 : Cond.selects mm_y1.cls mm_y1 mm_y1 ∈ im_Ts := im_in 678 (by decide +kernel) rfl
theorem mm_a2 : (parseMethodDescriptor mm_y2.desc).map (fun d => d.parameters.length) = some 0 := by decide +kernel
theorem mm_i2 : Cond.instanceMethod mm_y2 ∈ im_Ts := im_in 685 (by decide +kernel) rfl
theorem mm_s2 : Cond.selects mm_y2.cls mm_y2 mm_y2 ∈ im_Ts := im_in 686 (by decide +kernel) rfl
theorem mm_a3 : (parseMethodDescriptor mm_y3.desc).map (fun d => d.parameters.length) = some 1 := by decide +kernel
theorem mm_i3 : Cond.instanceMethod mm_y3 ∈ im_Ts := im_in 689 (by decide +kernel) rfl
theorem mm_s3 : Cond.selects mm_y3.cls mm_y3 mm_y3 ∈ im_Ts := im_in 690 (by decide +kernel) rfl
theorem mm_a4 : (parseMethodDescriptor mm_y4.desc).map (fun d => d.parameters.length) = some 0 := by decide +kernel
theorem mm_i4 : Cond.instanceMethod mm_y4 ∈ im_Ts := im_in 807 (by decide +kernel) rfl
theorem mm_s4 : Cond.selects mm_y4.cls mm_y4 mm_y4 ∈ im_Ts := im_in 808 (by decide +kernel) rfl
theorem mm_a5 : (parseMethodDescriptor mm_y5.desc).map (fun d => d.parameters.length) = some 1 := by decide +kernel
theorem mm_i5 : Cond.instanceMethod mm_y5 ∈ im_Ts := im_in 847 (by decide +kernel) rfl
theorem mm_s5 : Cond.selects mm_y5.cls mm_y5 mm_y5 ∈ im_Ts := im_in 848 (by decide +kernel) rfl
theorem mm_a6 : (parseMethodDescriptor mm_y6.desc).map (fun d => d.parameters.length) = some 2 := by decide +kernel
theorem mm_i6 : Cond.instanceMethod mm_y6 ∈ im_Ts := im_in 860 (by decide +kernel) rfl
theorem mm_s6 : Cond.selects mm_y6.cls mm_y6 mm_y6 ∈ im_Ts := im_in 861 (by decide +kernel) rfl
theorem mm_a7 : (parseMethodDescriptor mm_y7.desc).map (fun d => d.parameters.length) = some 0 := by decide +kernel
theorem mm_i7 : Cond.instanceMethod mm_y7 ∈ im_Ts := im_in 865 (by decide +kernel) rfl
theorem mm_s7 : Cond.selects mm_y7.cls mm_y7 mm_y7 ∈ im_Ts := im_in 866 (by decide +kernel) rfl
theorem mm_a8 : (parseMethodDescriptor mm_y8.desc).map (fun d => d.parameters.length) = some 1 := by decide +kernel
theorem mm_i8 : Cond.instanceMethod mm_y8 ∈ im_Ts := im_in 869 (by decide +kernel) rfl
theorem mm_s8 : Cond.selects mm_y8.cls mm_y8 mm_y8 ∈ im_Ts := im_in 870 (by decide +kernel) rfl
theorem mm_a9 : (parseMethodDescriptor mm_y9.desc).map (fun d => d.parameters.length) = some 2 := by decide +kernel
theorem mm_i9 : Cond.instanceMethod mm_y9 ∈ im_Ts := im_in 901 (by decide +kernel) rfl
theorem mm_s9 : Cond.selects mm_y9.cls mm_y9 mm_y9 ∈ im_Ts := im_in 902 (by decide +kernel) rfl
theorem mm_a10 : (parseMethodDescriptor mm_y10.desc).map (fun d => d.parameters.length) = some 2 := by decide +kernel
theorem mm_i10 : Cond.instanceMethod mm_y10 ∈ im_Ts := im_in 926 (by decide +kernel) rfl
theorem mm_s10 : Cond.selects mm_y10.cls mm_y10 mm_y10 ∈ im_Ts := im_in 927 (by decide +kernel) rfl
theorem mm_a11 : (parseMethodDescriptor mm_y11.desc).map (fun d => d.parameters.length) = some 1 := by decide +kernel
theorem mm_i11 : Cond.instanceMethod mm_y11 ∈ im_Ts := im_in 1019 (by decide +kernel) rfl
theorem mm_s11 : Cond.selects mm_y11.cls mm_y11 mm_y11 ∈ im_Ts := im_in 1020 (by decide +kernel) rfl
theorem mm_a12 : (parseMethodDescriptor mm_y12.desc).map (fun d => d.parameters.length) = some 2 := by decide +kernel
theorem mm_i12 : Cond.instanceMethod mm_y12 ∈ im_Ts := im_in 1040 (by decide +kernel) rfl
theorem mm_s12 : Cond.selects mm_y12.cls mm_y12 mm_y12 ∈ im_Ts := im_in 1041 (by decide +kernel) rfl
theorem mm_a13 : (parseMethodDescriptor mm_y13.desc).map (fun d => d.parameters.length) = some 0 := by decide +kernel
theorem mm_i13 : Cond.instanceMethod mm_y13 ∈ im_Ts := im_in 1052 (by decide +kernel) rfl
theorem mm_s13 : Cond.selects mm_y13.cls mm_y13 mm_y13 ∈ im_Ts := im_in 1053 (by decide +kernel) rfl
theorem mm_a14 : (parseMethodDescriptor mm_y14.desc).map (fun d => d.parameters.length) = some 1 := by decide +kernel
theorem mm_i14 : Cond.instanceMethod mm_y14 ∈ im_Ts := im_in 1093 (by decide +kernel) rfl
theorem mm_s14 : Cond.selects mm_y14.cls mm_y14 mm_y14 ∈ im_Ts := im_in 1094 (by decide +kernel) rfl
theorem mm_a15 : (parseMethodDescriptor mm_y15.desc).map (fun d => d.parameters.length) = some 0 := by decide +kernel
theorem mm_i15 : Cond.instanceMethod mm_y15 ∈ im_Ts := im_in 1314 (by decide +kernel) rfl
theorem mm_s15 : Cond.selects mm_y15.cls mm_y15 mm_y15 ∈ im_Ts := im_in 1315 (by decide +kernel) rfl
theorem mm_a16 : (parseMethodDescriptor mm_y16.desc).map (fun d => d.parameters.length) = some 1 := by decide +kernel
theorem mm_i16 : Cond.instanceMethod mm_y16 ∈ im_Ts := im_in 1318 (by decide +kernel) rfl
theorem mm_s16 : Cond.selects mm_y16.cls mm_y16 mm_y16 ∈ im_Ts := im_in 1319 (by decide +kernel) rfl
theorem mm_a17 : (parseMethodDescriptor mm_y17.desc).map (fun d => d.parameters.length) = some 2 := by decide +kernel
theorem mm_i17 : Cond.instanceMethod mm_y17 ∈ im_Ts := im_in 1346 (by decide +kernel) rfl
theorem mm_s17 : Cond.selects mm_y17.cls mm_y17 mm_y17 ∈ im_Ts := im_in 1347 (by decide +kernel) rfl
theorem mm_a18 : (parseMethodDescriptor mm_y18.desc).map (fun d => d.parameters.length) = some 2 := by decide +kernel
theorem mm_i18 : Cond.instanceMethod mm_y18 ∈ im_Ts := im_in 1361 (by decide +kernel) rfl
theorem mm_s18 : Cond.selects mm_y18.cls mm_y18 mm_y18 ∈ im_Ts := im_in 1362 (by decide +kernel) rfl
theorem mm_a19 : (parseMethodDescriptor mm_y19.desc).map (fun d => d.parameters.length) = some 1 := by decide +kernel
theorem mm_i19 : Cond.instanceMethod mm_y19 ∈ im_Ts := im_in 1366 (by decide +kernel) rfl
theorem mm_s19 : Cond.selects mm_y19.cls mm_y19 mm_y19 ∈ im_Ts := im_in 1367 (by decide +kernel) rfl
theorem mm_a20 : (parseMethodDescriptor mm_y20.desc).map (fun d => d.parameters.length) = some 2 := by decide +kernel
theorem mm_i20 : Cond.instanceMethod mm_y20 ∈ im_Ts := im_in 1371 (by decide +kernel) rfl
theorem mm_s20 : Cond.selects mm_y20.cls mm_y20 mm_y20 ∈ im_Ts := im_in 1372 (by decide +kernel) rfl
theorem mm_a21 : (parseMethodDescriptor mm_y21.desc).map (fun d => d.parameters.length) = some 2 := by decide +kernel
theorem mm_i21 : Cond.instanceMethod mm_y21 ∈ im_Ts := im_in 1385 (by decide +kernel) rfl
theorem mm_s21 : Cond.selects mm_y21.cls mm_y21 mm_y21 ∈ im_Ts := im_in 1386 (by decide +kernel) rfl
theorem mm_a22 : (parseMethodDescriptor mm_y22.desc).map (fun d => d.parameters.length) = some 0 := by decide +kernel
theorem mm_i22 : Cond.instanceMethod mm_y22 ∈ im_Ts := im_in 812 (by decide +kernel) rfl
theorem mm_s22 : Cond.selects mm_y22.cls mm_y22 mm_y22 ∈ im_Ts := im_in 19 (by decide +kernel) rfl
theorem mm_a23 : (parseMethodDescriptor mm_y23.desc).map (fun d => d.parameters.length) = some 1 := by decide +kernel
theorem mm_i23 : Cond.instanceMethod mm_y23 ∈ im_Ts := im_in 509 (by decide +kernel) rfl
theorem mm_a24 : (parseMethodDescriptor mm_y24.desc).map (fun d => d.parameters.length) = some 2 := by decide +kernel
theorem mm_i24 : Cond.instanceMethod mm_y24 ∈ im_Ts := im_in 559 (by decide +kernel) rfl
theorem mm_s24 : Cond.selects mm_y24.cls mm_y24 mm_y24 ∈ im_Ts := im_in 560 (by decide +kernel) rfl
theorem mm_a25 : (parseMethodDescriptor mm_y25.desc).map (fun d => d.parameters.length) = some 1 := by decide +kernel
theorem mm_i25 : Cond.instanceMethod mm_y25 ∈ im_Ts := im_in 293 (by decide +kernel) rfl
theorem mm_a26 : (parseMethodDescriptor mm_y26.desc).map (fun d => d.parameters.length) = some 1 := by decide +kernel
theorem mm_i26 : Cond.instanceMethod mm_y26 ∈ im_Ts := im_in 398 (by decide +kernel) rfl
theorem mm_a27 : (parseMethodDescriptor mm_y27.desc).map (fun d => d.parameters.length) = some 1 := by decide +kernel
theorem mm_i27 : Cond.instanceMethod mm_y27 ∈ im_Ts := im_in 823 (by decide +kernel) rfl
theorem mm_s27 : Cond.selects mm_y27.cls mm_y27 mm_y27 ∈ im_Ts := im_in 824 (by decide +kernel) rfl
theorem mm_a28 : (parseMethodDescriptor mm_y28.desc).map (fun d => d.parameters.length) = some 1 := by decide +kernel
theorem mm_i28 : Cond.instanceMethod mm_y28 ∈ im_Ts := im_in 819 (by decide +kernel) rfl
theorem mm_s28 : Cond.selects mm_y28.cls mm_y28 mm_y28 ∈ im_Ts := im_in 820 (by decide +kernel) rfl
theorem mm_a29 : (parseMethodDescriptor mm_y29.desc).map (fun d => d.parameters.length) = some 1 := by decide +kernel
theorem mm_i29 : Cond.instanceMethod mm_y29 ∈ im_Ts := im_in 815 (by decide +kernel) rfl
theorem mm_s29 : Cond.selects mm_y29.cls mm_y29 mm_y29 ∈ im_Ts := im_in 816 (by decide +kernel) rfl
theorem mm_a30 : (parseMethodDescriptor mm_y30.desc).map (fun d => d.parameters.length) = some 0 := by decide +kernel
theorem mm_i30 : Cond.instanceMethod mm_y30 ∈ im_Ts := im_in 873 (by decide +kernel) rfl
theorem mm_s30 : Cond.selects mm_y30.cls mm_y30 mm_y30 ∈ im_Ts := im_in 874 (by decide +kernel) rfl
theorem mm_a31 : (parseMethodDescriptor mm_y31.desc).map (fun d => d.parameters.length) = some 0 := by decide +kernel
theorem mm_i31 : Cond.instanceMethod mm_y31 ∈ im_Ts := im_in 893 (by decide +kernel) rfl
theorem mm_s31 : Cond.selects mm_y31.cls mm_y31 mm_y31 ∈ im_Ts := im_in 894 (by decide +kernel) rfl
theorem mm_a32 : (parseMethodDescriptor mm_y32.desc).map (fun d => d.parameters.length) = some 1 := by decide +kernel
theorem mm_i32 : Cond.instanceMethod mm_y32 ∈ im_Ts := im_in 214 (by decide +kernel) rfl
theorem mm_a33 : (parseMethodDescriptor mm_y33.desc).map (fun d => d.parameters.length) = some 1 := by decide +kernel
theorem mm_i33 : Cond.instanceMethod mm_y33 ∈ im_Ts := im_in 693 (by decide +kernel) rfl
theorem mm_s33 : Cond.selects mm_y33.cls mm_y33 mm_y33 ∈ im_Ts := im_in 694 (by decide +kernel) rfl
theorem mm_a34 : (parseMethodDescriptor mm_y34.desc).map (fun d => d.parameters.length) = some 0 := by decide +kernel
theorem mm_i34 : Cond.instanceMethod mm_y34 ∈ im_Ts := im_in 803 (by decide +kernel) rfl
theorem mm_s34 : Cond.selects mm_y34.cls mm_y34 mm_y34 ∈ im_Ts := im_in 804 (by decide +kernel) rfl
theorem mm_a35 : (parseMethodDescriptor mm_y35.desc).map (fun d => d.parameters.length) = some 1 := by decide +kernel
theorem mm_i35 : Cond.instanceMethod mm_y35 ∈ im_Ts := im_in 734 (by decide +kernel) rfl
theorem mm_s35 : Cond.selects mm_y35.cls mm_y35 mm_y35 ∈ im_Ts := im_in 735 (by decide +kernel) rfl
theorem mm_a36 : (parseMethodDescriptor mm_y36.desc).map (fun d => d.parameters.length) = some 1 := by decide +kernel
theorem mm_i36 : Cond.instanceMethod mm_y36 ∈ im_Ts := im_in 739 (by decide +kernel) rfl
theorem mm_s36 : Cond.selects mm_y36.cls mm_y36 mm_y36 ∈ im_Ts := im_in 6 (by decide +kernel) rfl
theorem mm_a37 : (parseMethodDescriptor mm_y37.desc).map (fun d => d.parameters.length) = some 0 := by decide +kernel
theorem mm_i37 : Cond.instanceMethod mm_y37 ∈ im_Ts := im_in 743 (by decide +kernel) rfl
theorem mm_s37 : Cond.selects mm_y37.cls mm_y37 mm_y37 ∈ im_Ts := im_in 7 (by decide +kernel) rfl
theorem mm_a38 : (parseMethodDescriptor mm_y38.desc).map (fun d => d.parameters.length) = some 0 := by decide +kernel
theorem mm_i38 : Cond.instanceMethod mm_y38 ∈ im_Ts := im_in 747 (by decide +kernel) rfl
theorem mm_s38 : Cond.selects mm_y38.cls mm_y38 mm_y38 ∈ im_Ts := im_in 8 (by decide +kernel) rfl
theorem mm_a39 : (parseMethodDescriptor mm_y39.desc).map (fun d => d.parameters.length) = some 2 := by decide +kernel
theorem mm_i39 : Cond.instanceMethod mm_y39 ∈ im_Ts := im_in 418 (by decide +kernel) rfl
theorem mm_a40 : (parseMethodDescriptor mm_y40.desc).map (fun d => d.parameters.length) = some 1 := by decide +kernel
theorem mm_i40 : Cond.instanceMethod mm_y40 ∈ im_Ts := im_in 543 (by decide +kernel) rfl
theorem mm_s40 : Cond.selects mm_y40.cls mm_y40 mm_y40 ∈ im_Ts := im_in 1 (by decide +kernel) rfl
theorem mm_a41 : (parseMethodDescriptor mm_y41.desc).map (fun d => d.parameters.length) = some 0 := by decide +kernel
theorem mm_i41 : Cond.instanceMethod mm_y41 ∈ im_Ts := im_in 827 (by decide +kernel) rfl
theorem mm_s41 : Cond.selects mm_y41.cls mm_y41 mm_y41 ∈ im_Ts := im_in 828 (by decide +kernel) rfl
theorem mm_a42 : (parseMethodDescriptor mm_y42.desc).map (fun d => d.parameters.length) = some 2 := by decide +kernel
theorem mm_i42 : Cond.instanceMethod mm_y42 ∈ im_Ts := im_in 832 (by decide +kernel) rfl
theorem mm_s42 : Cond.selects mm_y42.cls mm_y42 mm_y42 ∈ im_Ts := im_in 20 (by decide +kernel) rfl
theorem mm_a43 : (parseMethodDescriptor mm_y43.desc).map (fun d => d.parameters.length) = some 1 := by decide +kernel
theorem mm_i43 : Cond.instanceMethod mm_y43 ∈ im_Ts := im_in 1350 (by decide +kernel) rfl
theorem mm_s43 : Cond.selects mm_y43.cls mm_y43 mm_y43 ∈ im_Ts := im_in 1351 (by decide +kernel) rfl
theorem mm_a44 : (parseMethodDescriptor mm_y44.desc).map (fun d => d.parameters.length) = some 1 := by decide +kernel
theorem mm_i44 : Cond.instanceMethod mm_y44 ∈ im_Ts := im_in 1375 (by decide +kernel) rfl
theorem mm_s44 : Cond.selects mm_y44.cls mm_y44 mm_y44 ∈ im_Ts := im_in 1376 (by decide +kernel) rfl
theorem mm_a45 : (parseMethodDescriptor mm_y45.desc).map (fun d => d.parameters.length) = some 1 := by decide +kernel
theorem mm_i45 : Cond.instanceMethod mm_y45 ∈ im_Ts := im_in 1106 (by decide +kernel) rfl
theorem mm_s45 : Cond.selects mm_y45.cls mm_y45 mm_y45 ∈ im_Ts := im_in 1107 (by decide +kernel) rfl
theorem mm_a46 : (parseMethodDescriptor mm_y46.desc).map (fun d => d.parameters.length) = some 1 := by decide +kernel
theorem mm_i46 : Cond.instanceMethod mm_y46 ∈ im_Ts := im_in 428 (by decide +kernel) rfl
theorem mm_a47 : (parseMethodDescriptor mm_y47.desc).map (fun d => d.parameters.length) = some 1 := by decide +kernel
theorem mm_i47 : Cond.instanceMethod mm_y47 ∈ im_Ts := im_in 546 (by decide +kernel) rfl
theorem mm_s47 : Cond.selects mm_y47.cls mm_y47 mm_y47 ∈ im_Ts := im_in 547 (by decide +kernel) rfl
theorem mm_a48 : (parseMethodDescriptor mm_y48.desc).map (fun d => d.parameters.length) = some 0 := by decide +kernel
theorem mm_i48 : Cond.instanceMethod mm_y48 ∈ im_Ts := im_in 835 (by decide +kernel) rfl
theorem mm_s48 : Cond.selects mm_y48.cls mm_y48 mm_y48 ∈ im_Ts := im_in 836 (by decide +kernel) rfl
theorem mm_a49 : (parseMethodDescriptor mm_y49.desc).map (fun d => d.parameters.length) = some 1 := by decide +kernel
theorem mm_i49 : Cond.instanceMethod mm_y49 ∈ im_Ts := im_in 550 (by decide +kernel) rfl
theorem mm_s49 : Cond.selects mm_y49.cls mm_y49 mm_y49 ∈ im_Ts := im_in 551 (by decide +kernel) rfl
theorem mm_a50 : (parseMethodDescriptor mm_y50.desc).map (fun d => d.parameters.length) = some 0 := by decide +kernel
theorem mm_i50 : Cond.instanceMethod mm_y50 ∈ im_Ts := im_in 184 (by decide +kernel) rfl
theorem mm_a51 : (parseMethodDescriptor mm_y51.desc).map (fun d => d.parameters.length) = some 1 := by decide +kernel
theorem mm_i51 : Cond.instanceMethod mm_y51 ∈ im_Ts := im_in 681 (by decide +kernel) rfl
theorem mm_s51 : Cond.selects mm_y51.cls mm_y51 mm_y51 ∈ im_Ts := im_in 682 (by decide +kernel) rfl
theorem mm_a52 : (parseMethodDescriptor mm_y52.desc).map (fun d => d.parameters.length) = some 0 := by decide +kernel
theorem mm_i52 : Cond.instanceMethod mm_y52 ∈ im_Ts := im_in 697 (by decide +kernel) rfl
theorem mm_s52 : Cond.selects mm_y52.cls mm_y52 mm_y52 ∈ im_Ts := im_in 698 (by decide +kernel) rfl
theorem mm_a53 : (parseMethodDescriptor mm_y53.desc).map (fun d => d.parameters.length) = some 0 := by decide +kernel
theorem mm_i53 : Cond.instanceMethod mm_y53 ∈ im_Ts := im_in 701 (by decide +kernel) rfl
theorem mm_s53 : Cond.selects mm_y53.cls mm_y53 mm_y53 ∈ im_Ts := im_in 702 (by decide +kernel) rfl
theorem mm_a54 : (parseMethodDescriptor mm_y54.desc).map (fun d => d.parameters.length) = some 0 := by decide +kernel
theorem mm_i54 : Cond.instanceMethod mm_y54 ∈ im_Ts := im_in 706 (by decide +kernel) rfl
theorem mm_s54 : Cond.selects mm_y54.cls mm_y54 mm_y54 ∈ im_Ts := im_in 2 (by decide +kernel) rfl
theorem mm_a55 : (parseMethodDescriptor mm_y55.desc).map (fun d => d.parameters.length) = some 1 := by decide +kernel
theorem mm_i55 : Cond.instanceMethod mm_y55 ∈ im_Ts := im_in 467 (by decide +kernel) rfl
theorem mm_a56 : (parseMethodDescriptor mm_y56.desc).map (fun d => d.parameters.length) = some 1 := by decide +kernel
theorem mm_i56 : Cond.instanceMethod mm_y56 ∈ im_Ts := im_in 555 (by decide +kernel) rfl
theorem mm_s56 : Cond.selects mm_y56.cls mm_y56 mm_y56 ∈ im_Ts := im_in 556 (by decide +kernel) rfl
theorem mm_a57 : (parseMethodDescriptor mm_y57.desc).map (fun d => d.parameters.length) = some 1 := by decide +kernel
theorem mm_i57 : Cond.instanceMethod mm_y57 ∈ im_Ts := im_in 626 (by decide +kernel) rfl
theorem mm_a58 : (parseMethodDescriptor mm_y58.desc).map (fun d => d.parameters.length) = some 0 := by decide +kernel
theorem mm_i58 : Cond.instanceMethod mm_y58 ∈ im_Ts := im_in 1394 (by decide +kernel) rfl
theorem mm_a59 : (parseMethodDescriptor mm_y59.desc).map (fun d => d.parameters.length) = some 3 := by decide +kernel
theorem mm_t59 : Cond.static mm_y59 ∈ im_Ts := im_in 1631 (by decide +kernel) rfl
theorem mm_a60 : (parseMethodDescriptor mm_y60.desc).map (fun d => d.parameters.length) = some 0 := by decide +kernel
theorem mm_i60 : Cond.instanceMethod mm_y60 ∈ im_Ts := im_in 1651 (by decide +kernel) rfl
theorem mm_s60 : Cond.selects mm_y60.cls mm_y60 mm_y60 ∈ im_Ts := im_in 62 (by decide +kernel) rfl
theorem mm_a61 : (parseMethodDescriptor mm_y61.desc).map (fun d => d.parameters.length) = some 0 := by decide +kernel
theorem mm_i61 : Cond.instanceMethod mm_y61 ∈ im_Ts := im_in 1647 (by decide +kernel) rfl
theorem mm_s61 : Cond.selects mm_y61.cls mm_y61 mm_y61 ∈ im_Ts := im_in 61 (by decide +kernel) rfl
theorem mm_a62 : (parseMethodDescriptor mm_y62.desc).map (fun d => d.parameters.length) = some 0 := by decide +kernel
theorem mm_i62 : Cond.instanceMethod mm_y62 ∈ im_Ts := im_in 1713 (by decide +kernel) rfl
theorem mm_s62 : Cond.selects mm_y62.cls mm_y62 mm_y62 ∈ im_Ts := im_in 73 (by decide +kernel) rfl
theorem mm_a63 : (parseMethodDescriptor mm_y63.desc).map (fun d => d.parameters.length) = some 2 := by decide +kernel
theorem mm_i63 : Cond.instanceMethod mm_y63 ∈ im_Ts := im_in 1691 (by decide +kernel) rfl
theorem mm_s63 : Cond.selects mm_y63.cls mm_y63 mm_y63 ∈ im_Ts := im_in 69 (by decide +kernel) rfl
theorem mm_a64 : (parseMethodDescriptor mm_y64.desc).map (fun d => d.parameters.length) = some 2 := by decide +kernel
theorem mm_i64 : Cond.instanceMethod mm_y64 ∈ im_Ts := im_in 1687 (by decide +kernel) rfl
theorem mm_s64 : Cond.selects mm_y64.cls mm_y64 mm_y64 ∈ im_Ts := im_in 68 (by decide +kernel) rfl
theorem mm_a65 : (parseMethodDescriptor mm_y65.desc).map (fun d => d.parameters.length) = some 1 := by decide +kernel
theorem mm_i65 : Cond.instanceMethod mm_y65 ∈ im_Ts := im_in 1679 (by decide +kernel) rfl
theorem mm_s65 : Cond.selects mm_y65.cls mm_y65 mm_y65 ∈ im_Ts := im_in 66 (by decide +kernel) rfl
theorem mm_a66 : (parseMethodDescriptor mm_y66.desc).map (fun d => d.parameters.length) = some 0 := by decide +kernel
theorem mm_i66 : Cond.instanceMethod mm_y66 ∈ im_Ts := im_in 1683 (by decide +kernel) rfl
theorem mm_s66 : Cond.selects mm_y66.cls mm_y66 mm_y66 ∈ im_Ts := im_in 67 (by decide +kernel) rfl
theorem mm_a67 : (parseMethodDescriptor mm_y67.desc).map (fun d => d.parameters.length) = some 0 := by decide +kernel
theorem mm_i67 : Cond.instanceMethod mm_y67 ∈ im_Ts := im_in 1742 (by decide +kernel) rfl
theorem mm_s67 : Cond.selects mm_y67.cls mm_y67 mm_y67 ∈ im_Ts := im_in 80 (by decide +kernel) rfl
theorem mm_a68 : (parseMethodDescriptor mm_y68.desc).map (fun d => d.parameters.length) = some 1 := by decide +kernel
theorem mm_i68 : Cond.instanceMethod mm_y68 ∈ im_Ts := im_in 1643 (by decide +kernel) rfl
theorem mm_s68 : Cond.selects mm_y68.cls mm_y68 mm_y68 ∈ im_Ts := im_in 60 (by decide +kernel) rfl
theorem mm_a69 : (parseMethodDescriptor mm_y69.desc).map (fun d => d.parameters.length) = some 1 := by decide +kernel
theorem mm_i69 : Cond.instanceMethod mm_y69 ∈ im_Ts := im_in 1627 (by decide +kernel) rfl
theorem mm_s69 : Cond.selects mm_y69.cls mm_y69 mm_y69 ∈ im_Ts := im_in 1628 (by decide +kernel) rfl
theorem mm_a70 : (parseMethodDescriptor mm_y70.desc).map (fun d => d.parameters.length) = some 0 := by decide +kernel
theorem mm_i70 : Cond.instanceMethod mm_y70 ∈ im_Ts := im_in 1634 (by decide +kernel) rfl
theorem mm_s70 : Cond.selects mm_y70.cls mm_y70 mm_y70 ∈ im_Ts := im_in 1635 (by decide +kernel) rfl
theorem mm_a71 : (parseMethodDescriptor mm_y71.desc).map (fun d => d.parameters.length) = some 1 := by decide +kernel
theorem mm_i71 : Cond.instanceMethod mm_y71 ∈ im_Ts := im_in 1638 (by decide +kernel) rfl
theorem mm_s71 : Cond.selects mm_y71.cls mm_y71 mm_y71 ∈ im_Ts := im_in 1639 (by decide +kernel) rfl
theorem mm_a72 : (parseMethodDescriptor mm_y72.desc).map (fun d => d.parameters.length) = some 4 := by decide +kernel
theorem mm_i72 : Cond.instanceMethod mm_y72 ∈ im_Ts := im_in 1766 (by decide +kernel) rfl
theorem mm_s72 : Cond.selects mm_y72.cls mm_y72 mm_y72 ∈ im_Ts := im_in 85 (by decide +kernel) rfl
theorem mm_a73 : (parseMethodDescriptor mm_y73.desc).map (fun d => d.parameters.length) = some 0 := by decide +kernel
theorem mm_i73 : Cond.instanceMethod mm_y73 ∈ im_Ts := im_in 1762 (by decide +kernel) rfl
theorem mm_s73 : Cond.selects mm_y73.cls mm_y73 mm_y73 ∈ im_Ts := im_in 84 (by decide +kernel) rfl
theorem mm_a74 : (parseMethodDescriptor mm_y74.desc).map (fun d => d.parameters.length) = some 1 := by decide +kernel
theorem mm_i74 : Cond.instanceMethod mm_y74 ∈ im_Ts := im_in 1774 (by decide +kernel) rfl
theorem mm_s74 : Cond.selects mm_y74.cls mm_y74 mm_y74 ∈ im_Ts := im_in 86 (by decide +kernel) rfl
theorem mm_a75 : (parseMethodDescriptor mm_y75.desc).map (fun d => d.parameters.length) = some 0 := by decide +kernel
theorem mm_i75 : Cond.instanceMethod mm_y75 ∈ im_Ts := im_in 1757 (by decide +kernel) rfl
theorem mm_s75 : Cond.selects mm_y75.cls mm_y75 mm_y75 ∈ im_Ts := im_in 1758 (by decide +kernel) rfl
theorem mm_a76 : (parseMethodDescriptor mm_y76.desc).map (fun d => d.parameters.length) = some 1 := by decide +kernel
theorem mm_i76 : Cond.instanceMethod mm_y76 ∈ im_Ts := im_in 1769 (by decide +kernel) rfl
theorem mm_s76 : Cond.selects mm_y76.cls mm_y76 mm_y76 ∈ im_Ts := im_in 1770 (by decide +kernel) rfl
theorem mm_a77 : (parseMethodDescriptor mm_y77.desc).map (fun d => d.parameters.length) = some 2 := by decide +kernel
theorem mm_i77 : Cond.instanceMethod mm_y77 ∈ im_Ts := im_in 1777 (by decide +kernel) rfl
theorem mm_s77 : Cond.selects mm_y77.cls mm_y77 mm_y77 ∈ im_Ts := im_in 1778 (by decide +kernel) rfl
theorem mm_a78 : (parseMethodDescriptor mm_y78.desc).map (fun d => d.parameters.length) = some 0 := by decide +kernel
theorem mm_i78 : Cond.instanceMethod mm_y78 ∈ im_Ts := im_in 1781 (by decide +kernel) rfl
theorem mm_s78 : Cond.selects mm_y78.cls mm_y78 mm_y78 ∈ im_Ts := im_in 1782 (by decide +kernel) rfl
theorem mm_a79 : (parseMethodDescriptor mm_y79.desc).map (fun d => d.parameters.length) = some 0 := by decide +kernel
theorem mm_i79 : Cond.instanceMethod mm_y79 ∈ im_Ts := im_in 1790 (by decide +kernel) rfl
theorem mm_s79 : Cond.selects mm_y79.cls mm_y79 mm_y79 ∈ im_Ts := im_in 87 (by decide +kernel) rfl
theorem mm_a80 : (parseMethodDescriptor mm_y80.desc).map (fun d => d.parameters.length) = some 0 := by decide +kernel
theorem mm_i80 : Cond.instanceMethod mm_y80 ∈ im_Ts := im_in 1806 (by decide +kernel) rfl
theorem mm_s80 : Cond.selects mm_y80.cls mm_y80 mm_y80 ∈ im_Ts := im_in 91 (by decide +kernel) rfl
theorem mm_a81 : (parseMethodDescriptor mm_y81.desc).map (fun d => d.parameters.length) = some 1 := by decide +kernel
theorem mm_i81 : Cond.instanceMethod mm_y81 ∈ im_Ts := im_in 1785 (by decide +kernel) rfl
theorem mm_s81 : Cond.selects mm_y81.cls mm_y81 mm_y81 ∈ im_Ts := im_in 1786 (by decide +kernel) rfl
theorem mm_a82 : (parseMethodDescriptor mm_y82.desc).map (fun d => d.parameters.length) = some 2 := by decide +kernel
theorem mm_i82 : Cond.instanceMethod mm_y82 ∈ im_Ts := im_in 1825 (by decide +kernel) rfl
theorem mm_s82 : Cond.selects mm_y82.cls mm_y82 mm_y82 ∈ im_Ts := im_in 1826 (by decide +kernel) rfl
theorem mm_a83 : (parseMethodDescriptor mm_y83.desc).map (fun d => d.parameters.length) = some 1 := by decide +kernel
theorem mm_i83 : Cond.instanceMethod mm_y83 ∈ im_Ts := im_in 1841 (by decide +kernel) rfl
theorem mm_s83 : Cond.selects mm_y83.cls mm_y83 mm_y83 ∈ im_Ts := im_in 1842 (by decide +kernel) rfl
theorem mm_a84 : (parseMethodDescriptor mm_y84.desc).map (fun d => d.parameters.length) = some 2 := by decide +kernel
theorem mm_i84 : Cond.instanceMethod mm_y84 ∈ im_Ts := im_in 1849 (by decide +kernel) rfl
theorem mm_s84 : Cond.selects mm_y84.cls mm_y84 mm_y84 ∈ im_Ts := im_in 1850 (by decide +kernel) rfl
theorem mm_a85 : (parseMethodDescriptor mm_y85.desc).map (fun d => d.parameters.length) = some 0 := by decide +kernel
theorem mm_i85 : Cond.instanceMethod mm_y85 ∈ im_Ts := im_in 1400 (by decide +kernel) rfl
theorem mm_s85 : Cond.selects mm_y85.cls mm_y85 mm_y85 ∈ im_Ts := im_in 59 (by decide +kernel) rfl
theorem mm_a86 : (parseMethodDescriptor mm_y86.desc).map (fun d => d.parameters.length) = some 1 := by decide +kernel
theorem mm_i86 : Cond.instanceMethod mm_y86 ∈ im_Ts := im_in 1969 (by decide +kernel) rfl
theorem mm_s86 : Cond.selects mm_y86.cls mm_y86 mm_y86 ∈ im_Ts := im_in 122 (by decide +kernel) rfl
theorem mm_a87 : (parseMethodDescriptor mm_y87.desc).map (fun d => d.parameters.length) = some 1 := by decide +kernel
theorem mm_i87 : Cond.instanceMethod mm_y87 ∈ im_Ts := im_in 1861 (by decide +kernel) rfl
theorem mm_s87 : Cond.selects mm_y87.cls mm_y87 mm_y87 ∈ im_Ts := im_in 1862 (by decide +kernel) rfl
theorem mm_a88 : (parseMethodDescriptor mm_y88.desc).map (fun d => d.parameters.length) = some 0 := by decide +kernel
theorem mm_i88 : Cond.instanceMethod mm_y88 ∈ im_Ts := im_in 2046 (by decide +kernel) rfl
theorem mm_s88 : Cond.selects mm_y88.cls mm_y88 mm_y88 ∈ im_Ts := im_in 2047 (by decide +kernel) rfl
theorem mm_a89 : (parseMethodDescriptor mm_y89.desc).map (fun d => d.parameters.length) = some 0 := by decide +kernel
theorem mm_i89 : Cond.instanceMethod mm_y89 ∈ im_Ts := im_in 2050 (by decide +kernel) rfl
theorem mm_s89 : Cond.selects mm_y89.cls mm_y89 mm_y89 ∈ im_Ts := im_in 2051 (by decide +kernel) rfl
theorem mm_a90 : (parseMethodDescriptor mm_y90.desc).map (fun d => d.parameters.length) = some 1 := by decide +kernel
theorem mm_i90 : Cond.instanceMethod mm_y90 ∈ im_Ts := im_in 2059 (by decide +kernel) rfl
theorem mm_s90 : Cond.selects mm_y90.cls mm_y90 mm_y90 ∈ im_Ts := im_in 138 (by decide +kernel) rfl
theorem mm_a91 : (parseMethodDescriptor mm_y91.desc).map (fun d => d.parameters.length) = some 0 := by decide +kernel
theorem mm_i91 : Cond.instanceMethod mm_y91 ∈ im_Ts := im_in 2071 (by decide +kernel) rfl
theorem mm_s91 : Cond.selects mm_y91.cls mm_y91 mm_y91 ∈ im_Ts := im_in 141 (by decide +kernel) rfl
theorem mm_a92 : (parseMethodDescriptor mm_y92.desc).map (fun d => d.parameters.length) = some 1 := by decide +kernel
theorem mm_i92 : Cond.instanceMethod mm_y92 ∈ im_Ts := im_in 2054 (by decide +kernel) rfl
theorem mm_s92 : Cond.selects mm_y92.cls mm_y92 mm_y92 ∈ im_Ts := im_in 2055 (by decide +kernel) rfl
theorem mm_a93 : (parseMethodDescriptor mm_y93.desc).map (fun d => d.parameters.length) = some 1 := by decide +kernel
theorem mm_i93 : Cond.instanceMethod mm_y93 ∈ im_Ts := im_in 2079 (by decide +kernel) rfl
theorem mm_s93 : Cond.selects mm_y93.cls mm_y93 mm_y93 ∈ im_Ts := im_in 142 (by decide +kernel) rfl
theorem mm_a94 : (parseMethodDescriptor mm_y94.desc).map (fun d => d.parameters.length) = some 2 := by decide +kernel
theorem mm_i94 : Cond.instanceMethod mm_y94 ∈ im_Ts := im_in 2074 (by decide +kernel) rfl
theorem mm_s94 : Cond.selects mm_y94.cls mm_y94 mm_y94 ∈ im_Ts := im_in 2075 (by decide +kernel) rfl
theorem mm_a95 : (parseMethodDescriptor mm_y95.desc).map (fun d => d.parameters.length) = some 2 := by decide +kernel
theorem mm_i95 : Cond.instanceMethod mm_y95 ∈ im_Ts := im_in 2086 (by decide +kernel) rfl
theorem mm_s95 : Cond.selects mm_y95.cls mm_y95 mm_y95 ∈ im_Ts := im_in 2087 (by decide +kernel) rfl
theorem mm_a96 : (parseMethodDescriptor mm_y96.desc).map (fun d => d.parameters.length) = some 2 := by decide +kernel
theorem mm_i96 : Cond.instanceMethod mm_y96 ∈ im_Ts := im_in 2135 (by decide +kernel) rfl
theorem mm_s96 : Cond.selects mm_y96.cls mm_y96 mm_y96 ∈ im_Ts := im_in 2136 (by decide +kernel) rfl
theorem mm_a97 : (parseMethodDescriptor mm_y97.desc).map (fun d => d.parameters.length) = some 1 := by decide +kernel
theorem mm_i97 : Cond.instanceMethod mm_y97 ∈ im_Ts := im_in 2139 (by decide +kernel) rfl
theorem mm_s97 : Cond.selects mm_y97.cls mm_y97 mm_y97 ∈ im_Ts := im_in 2140 (by decide +kernel) rfl
theorem mm_a98 : (parseMethodDescriptor mm_y98.desc).map (fun d => d.parameters.length) = some 2 := by decide +kernel
theorem mm_i98 : Cond.instanceMethod mm_y98 ∈ im_Ts := im_in 2143 (by decide +kernel) rfl
theorem mm_s98 : Cond.selects mm_y98.cls mm_y98 mm_y98 ∈ im_Ts := im_in 2144 (by decide +kernel) rfl
theorem mm_a99 : (parseMethodDescriptor mm_y99.desc).map (fun d => d.parameters.length) = some 2 := by decide +kernel
theorem mm_i99 : Cond.instanceMethod mm_y99 ∈ im_Ts := im_in 2151 (by decide +kernel) rfl
theorem mm_s99 : Cond.selects mm_y99.cls mm_y99 mm_y99 ∈ im_Ts := im_in 2152 (by decide +kernel) rfl
theorem mm_a100 : (parseMethodDescriptor mm_y100.desc).map (fun d => d.parameters.length) = some 4 := by decide +kernel
theorem mm_t100 : Cond.static mm_y100 ∈ im_Ts := im_in 218 (by decide +kernel) rfl
theorem mm_a101 : (parseMethodDescriptor mm_y101.desc).map (fun d => d.parameters.length) = some 3 := by decide +kernel
theorem mm_t101 : Cond.static mm_y101 ∈ im_Ts := im_in 221 (by decide +kernel) rfl
theorem mm_a102 : (parseMethodDescriptor mm_y102.desc).map (fun d => d.parameters.length) = some 2 := by decide +kernel
theorem mm_t102 : Cond.static mm_y102 ∈ im_Ts := im_in 297 (by decide +kernel) rfl
theorem mm_a103 : (parseMethodDescriptor mm_y103.desc).map (fun d => d.parameters.length) = some 2 := by decide +kernel
theorem mm_t103 : Cond.static mm_y103 ∈ im_Ts := im_in 313 (by decide +kernel) rfl
theorem mm_a104 : (parseMethodDescriptor mm_y104.desc).map (fun d => d.parameters.length) = some 1 := by decide +kernel
def mz_0 : im_Z := ([(12, 0, 0, 1), (21, 0, 1, 1), (35, 0, 2, 1), (39, 0, 3, 1), (48, 0, 5, 1), (54, 7, 1, 2), (61, 0, 6, 1), (65, 9, 1, 0), (73, 5, 2, 0), (108, 0, 4, 0), (128, 3, 4, 2), (132, 3, 5, 2), (135, 3, 6, 2), (175, 7, 10, 0), (205, 7, 6, 0), (223, 4, 0, 0), (238, 2, 2, 0), (249, 2, 0, 0), (250, 4, 4, 0), (253, 8, 6, 0), (256, 2, 4, 0)], [(9, 9), (16, 6), (25, 3), (30, 5), (43, 7), (52, 11)], [(30, 5)], [], [], [], [(0, 3, 0, 0), (4, 11, 50, 0), (3, 18, 32, 1), (3, 27, 25, 1), (3, 32, 26, 1), (3, 45, 39, 2), (3, 58, 57, 1), (1, 69, 51, 1), (1, 76, 33, 1), (1, 80, 34, 0), (1, 84, 22, 0), (1, 87, 52, 0), (1, 90, 35, 1), (1, 97, 27, 1), (1, 111, 29, 1), (1, 115, 41, 0), (1, 118, 30, 0), (1, 121, 31, 0), (1, 124, 28, 1), (1, 184, 43, 1), (1, 213, 44, 1), (1, 229, 45, 1)])
theorem mz_0_f12 : im_fF im_Ts mx_cl mx_R0 (12, 0, 0, 1) := ⟨(mx_R0, mx_T0, 7), rfl, by decide, im_in 654 (by decide +kernel) rfl, fun _ => ⟨by decide, fun _ => rfl⟩⟩
theorem mz_0_f21 : im_fF im_Ts mx_cl mx_R0 (21, 0, 1, 1) := ⟨(mx_R0, mx_T0, 7), rfl, by decide, im_in 655 (by decide +kernel) rfl, fun _ => ⟨by decide, fun _ => rfl⟩⟩
theorem mz_0_f35 : im_fF im_Ts mx_cl mx_R0 (35, 0, 2, 1) := ⟨(mx_R0, mx_T0, 7), rfl, by decide, im_in 656 (by decide +kernel) rfl, fun _ => ⟨by decide, fun _ => rfl⟩⟩
theorem mz_0_f39 : im_fF im_Ts mx_cl mx_R0 (39, 0, 3, 1) := ⟨(mx_R0, mx_T0, 7), rfl, by decide, im_in 657 (by decide +kernel) rfl, fun _ => ⟨by decide, fun _ => rfl⟩⟩
theorem mz_0_f48 : im_fF im_Ts mx_cl mx_R0 (48, 0, 5, 1) := ⟨(mx_R0, mx_T0, 7), rfl, by decide, im_in 659 (by decide +kernel) rfl, fun _ => ⟨by decide, fun _ => rfl⟩⟩
theorem mz_0_f54 : im_fF im_Ts mx_cl mx_R0 (54, 7, 1, 2) := ⟨(mx_R7, mx_T7, 19), rfl, by decide, im_in 564 (by decide +kernel) rfl, fun _ => ⟨by decide, fun h => absurd h (by decide)⟩⟩
theorem mz_0_f61 : im_fF im_Ts mx_cl mx_R0 (61, 0, 6, 1) := ⟨(mx_R0, mx_T0, 7), rfl, by decide, im_in 660 (by decide +kernel) rfl, fun _ => ⟨by decide, fun _ => rfl⟩⟩
theorem mz_0_f65 : im_fF im_Ts mx_cl mx_R0 (65, 9, 1, 0) := ⟨(mx_R9, mx_T9, 6), rfl, by decide, im_in 189 (by decide +kernel) rfl, fun h => absurd h (by decide)⟩
theorem mz_0_f73 : im_fF im_Ts mx_cl mx_R0 (73, 5, 2, 0) := ⟨(mx_R5, mx_T5, 3), rfl, by decide, im_in 406 (by decide +kernel) rfl, fun h => absurd h (by decide)⟩
theorem mz_0_f108 : im_fF im_Ts mx_cl mx_R0 (108, 0, 4, 0) := ⟨(mx_R0, mx_T0, 7), rfl, by decide, im_in 658 (by decide +kernel) rfl, fun h => absurd h (by decide)⟩
theorem mz_0_f128 : im_fF im_Ts mx_cl mx_R0 (128, 3, 4, 2) := ⟨(mx_R3, mx_T3, 9), rfl, by decide, im_in 366 (by decide +kernel) rfl, fun _ => ⟨by decide, fun h => absurd h (by decide)⟩⟩
theorem mz_0_f132 : im_fF im_Ts mx_cl mx_R0 (132, 3, 5, 2) := ⟨(mx_R3, mx_T3, 9), rfl, by decide, im_in 369 (by decide +kernel) rfl, fun _ => ⟨by decide, fun h => absurd h (by decide)⟩⟩
theorem mz_0_f135 : im_fF im_Ts mx_cl mx_R0 (135, 3, 6, 2) := ⟨(mx_R3, mx_T3, 9), rfl, by decide, im_in 372 (by decide +kernel) rfl, fun _ => ⟨by decide, fun h => absurd h (by decide)⟩⟩
theorem mz_0_f175 : im_fF im_Ts mx_cl mx_R0 (175, 7, 10, 0) := ⟨(mx_R7, mx_T7, 19), rfl, by decide, im_in 575 (by decide +kernel) rfl, fun h => absurd h (by decide)⟩
theorem mz_0_f205 : im_fF im_Ts mx_cl mx_R0 (205, 7, 6, 0) := ⟨(mx_R7, mx_T7, 19), rfl, by decide, im_in 570 (by decide +kernel) rfl, fun h => absurd h (by decide)⟩
theorem mz_0_f223 : im_fF im_Ts mx_cl mx_R0 (223, 4, 0, 0) := ⟨(mx_R4, mx_T4, 5), rfl, by decide, im_in 1075 (by decide +kernel) rfl, fun h => absurd h (by decide)⟩
theorem mz_0_f238 : im_fF im_Ts mx_cl mx_R0 (238, 2, 2, 0) := ⟨(mx_R2, mx_T2, 6), rfl, by decide, im_in 1289 (by decide +kernel) rfl, fun h => absurd h (by decide)⟩
theorem mz_0_f249 : im_fF im_Ts mx_cl mx_R0 (249, 2, 0, 0) := ⟨(mx_R2, mx_T2, 6), rfl, by decide, im_in 1285 (by decide +kernel) rfl, fun h => absurd h (by decide)⟩
theorem mz_0_f250 : im_fF im_Ts mx_cl mx_R0 (250, 4, 4, 0) := ⟨(mx_R4, mx_T4, 5), rfl, by decide, im_in 1080 (by decide +kernel) rfl, fun h => absurd h (by decide)⟩
theorem mz_0_f253 : im_fF im_Ts mx_cl mx_R0 (253, 8, 6, 0) := ⟨(mx_R8, mx_T8, 9), rfl, by decide, im_in 441 (by decide +kernel) rfl, fun h => absurd h (by decide)⟩
theorem mz_0_f256 : im_fF im_Ts mx_cl mx_R0 (256, 2, 4, 0) := ⟨(mx_R2, mx_T2, 6), rfl, by decide, im_in 1292 (by decide +kernel) rfl, fun h => absurd h (by decide)⟩
theorem mz_0_n9 : im_fN im_Ts mx_cl mx_nf mx_R0 (9, 9) := ⟨(mx_R9, mx_T9, 6), rfl, by decide, im_in 181 (by decide +kernel) rfl, rfl⟩
theorem mz_0_n16 : im_fN im_Ts mx_cl mx_nf mx_R0 (16, 6) := ⟨(mx_R6, mx_T6, 18), rfl, by decide, im_in 211 (by decide +kernel) rfl, rfl⟩
theorem mz_0_n25 : im_fN im_Ts mx_cl mx_nf mx_R0 (25, 3) := ⟨(mx_R3, mx_T3, 9), rfl, by decide, im_in 290 (by decide +kernel) rfl, rfl⟩
theorem mz_0_n30 : im_fN im_Ts mx_cl mx_nf mx_R0 (30, 5) := ⟨(mx_R5, mx_T5, 3), rfl, by decide, im_in 395 (by decide +kernel) rfl, rfl⟩
theorem mz_0_n43 : im_fN im_Ts mx_cl mx_nf mx_R0 (43, 7) := ⟨(mx_R7, mx_T7, 19), rfl, by decide, im_in 415 (by decide +kernel) rfl, rfl⟩
theorem mz_0_n52 : im_fN im_Ts mx_cl mx_nf mx_R0 (52, 11) := ⟨(mx_R11, mx_T11, 8), rfl, by decide, im_in 623 (by decide +kernel) rfl, rfl⟩
theorem mz_0_a30 : im_fA im_Ts mx_cl mx_rA mx_R0 (30, 5) := ⟨(mx_R5, mx_T5, 3), rfl, by decide, im_in 395 (by decide +kernel) rfl⟩
theorem mz_0_m3 : im_fM im_Ts mx_nw mm_tb mx_R0 (0, 3, 0, 0) := fun y pc len v h => Or.inl ⟨rfl, 3, rfl, by rw [h]; exact im_in 178 (by decide +kernel) rfl⟩
theorem mz_0_m11 : im_fM im_Ts mx_nw mm_tb mx_R0 (4, 11, 50, 0) := fun y pc len v h => Or.inr (Or.inr (Or.inr (Or.inr (Or.inr (Or.inr ⟨im_m50, rfl, mm_a50, Or.inr (Or.inr (Or.inl ⟨rfl, 11, mx_R0, rfl, by rw [h]; exact List.mem_of_getElem? (i := 0) rfl, mm_i50, rfl, rfl⟩))⟩)))))
theorem mz_0_m18 : im_fM im_Ts mx_nw mm_tb mx_R0 (3, 18, 32, 1) := fun y pc len v h => Or.inr (Or.inr (Or.inr (Or.inr (Or.inr (Or.inr ⟨im_m32, rfl, mm_a32, Or.inr (Or.inl ⟨rfl, 18, rfl, by rw [h]; exact im_in 213 (by decide +kernel) rfl, mm_i32, rfl, rfl⟩)⟩)))))
theorem mz_0_m27 : im_fM im_Ts mx_nw mm_tb mx_R0 (3, 27, 25, 1) := fun y pc len v h => Or.inr (Or.inr (Or.inr (Or.inr (Or.inr (Or.inr ⟨im_m25, rfl, mm_a25, Or.inr (Or.inl ⟨rfl, 27, rfl, by rw [h]; exact im_in 292 (by decide +kernel) rfl, mm_i25, rfl, rfl⟩)⟩)))))
theorem mz_0_m32 : im_fM im_Ts mx_nw mm_tb mx_R0 (3, 32, 26, 1) := fun y pc len v h => Or.inr (Or.inr (Or.inr (Or.inr (Or.inr (Or.inr ⟨im_m26, rfl, mm_a26, Or.inr (Or.inl ⟨rfl, 32, rfl, by rw [h]; exact im_in 397 (by decide +kernel) rfl, mm_i26, rfl, rfl⟩)⟩)))))
theorem mz_0_m45 : im_fM im_Ts mx_nw mm_tb mx_R0 (3, 45, 39, 2) := fun y pc len v h => Or.inr (Or.inr (Or.inr (Or.inr (Or.inr (Or.inr ⟨im_m39, rfl, mm_a39, Or.inr (Or.inl ⟨rfl, 45, rfl, by rw [h]; exact im_in 417 (by decide +kernel) rfl, mm_i39, rfl, rfl⟩)⟩)))))
theorem mz_0_m58 : im_fM im_Ts mx_nw mm_tb mx_R0 (3, 58, 57, 1) := fun y pc len v h => Or.inr (Or.inr (Or.inr (Or.inr (Or.inr (Or.inr ⟨im_m57, rfl, mm_a57, Or.inr (Or.inl ⟨rfl, 58, rfl, by rw [h]; exact im_in 625 (by decide +kernel) rfl, mm_i57, rfl, rfl⟩)⟩)))))
theorem mz_0_m69 : im_fM im_Ts mx_nw mm_tb mx_R0 (1, 69, 51, 1) := fun y pc len v h => Or.inr (Or.inr (Or.inr (Or.inr (Or.inr (Or.inr ⟨im_m51, rfl, mm_a51, Or.inl ⟨rfl, 69, rfl, by rw [h]; exact im_in 680 (by decide +kernel) rfl, mm_i51, mm_s51⟩⟩)))))
theorem mz_0_m76 : im_fM im_Ts mx_nw mm_tb mx_R0 (1, 76, 33, 1) := fun y pc len v h => Or.inr (Or.inr (Or.inr (Or.inr (Or.inr (Or.inr ⟨im_m33, rfl, mm_a33, Or.inl ⟨rfl, 76, rfl, by rw [h]; exact im_in 692 (by decide +kernel) rfl, mm_i33, mm_s33⟩⟩)))))
theorem mz_0_m80 : im_fM im_Ts mx_nw mm_tb mx_R0 (1, 80, 34, 0) := fun y pc len v h => Or.inr (Or.inr (Or.inr (Or.inr (Or.inr (Or.inr ⟨im_m34, rfl, mm_a34, Or.inl ⟨rfl, 80, rfl, by rw [h]; exact im_in 802 (by decide +kernel) rfl, mm_i34, mm_s34⟩⟩)))))
theorem mz_0_m84 : im_fM im_Ts mx_nw mm_tb mx_R0 (1, 84, 22, 0) := fun y pc len v h => Or.inr (Or.inr (Or.inr (Or.inr (Or.inr (Or.inr ⟨im_m22, rfl, mm_a22, Or.inl ⟨rfl, 84, rfl, by rw [h]; exact im_in 810 (by decide +kernel) rfl, mm_i22, mm_s22⟩⟩)))))
theorem mz_0_m87 : im_fM im_Ts mx_nw mm_tb mx_R0 (1, 87, 52, 0) := fun y pc len v h => Or.inr (Or.inr (Or.inr (Or.inr (Or.inr (Or.inr ⟨im_m52, rfl, mm_a52, Or.inl ⟨rfl, 87, rfl, by rw [h]; exact im_in 840 (by decide +kernel) rfl, mm_i52, mm_s52⟩⟩)))))
theorem mz_0_m90 : im_fM im_Ts mx_nw mm_tb mx_R0 (1, 90, 35, 1) := fun y pc len v h => Or.inr (Or.inr (Or.inr (Or.inr (Or.inr (Or.inr ⟨im_m35, rfl, mm_a35, Or.inl ⟨rfl, 90, rfl, by rw [h]; exact im_in 841 (by decide +kernel) rfl, mm_i35, mm_s35⟩⟩)))))
theorem mz_0_m97 : im_fM im_Ts mx_nw mm_tb mx_R0 (1, 97, 27, 1) := fun y pc len v h => Or.inr (Or.inr (Or.inr (Or.inr (Or.inr (Or.inr ⟨im_m27, rfl, mm_a27, Or.inl ⟨rfl, 97, rfl, by rw [h]; exact im_in 850 (by decide +kernel) rfl, mm_i27, mm_s27⟩⟩)))))
theorem mz_0_m111 : im_fM im_Ts mx_nw mm_tb mx_R0 (1, 111, 29, 1) := fun y pc len v h => Or.inr (Or.inr (Or.inr (Or.inr (Or.inr (Or.inr ⟨im_m29, rfl, mm_a29, Or.inl ⟨rfl, 111, rfl, by rw [h]; exact im_in 814 (by decide +kernel) rfl, mm_i29, mm_s29⟩⟩)))))
theorem mz_0_m115 : im_fM im_Ts mx_nw mm_tb mx_R0 (1, 115, 41, 0) := fun y pc len v h => Or.inr (Or.inr (Or.inr (Or.inr (Or.inr (Or.inr ⟨im_m41, rfl, mm_a41, Or.inl ⟨rfl, 115, rfl, by rw [h]; exact im_in 826 (by decide +kernel) rfl, mm_i41, mm_s41⟩⟩)))))
theorem mz_0_m118 : im_fM im_Ts mx_nw mm_tb mx_R0 (1, 118, 30, 0) := fun y pc len v h => Or.inr (Or.inr (Or.inr (Or.inr (Or.inr (Or.inr ⟨im_m30, rfl, mm_a30, Or.inl ⟨rfl, 118, rfl, by rw [h]; exact im_in 872 (by decide +kernel) rfl, mm_i30, mm_s30⟩⟩)))))
theorem mz_0_m121 : im_fM im_Ts mx_nw mm_tb mx_R0 (1, 121, 31, 0) := fun y pc len v h => Or.inr (Or.inr (Or.inr (Or.inr (Or.inr (Or.inr ⟨im_m31, rfl, mm_a31, Or.inl ⟨rfl, 121, rfl, by rw [h]; exact im_in 892 (by decide +kernel) rfl, mm_i31, mm_s31⟩⟩)))))
theorem mz_0_m124 : im_fM im_Ts mx_nw mm_tb mx_R0 (1, 124, 28, 1) := fun y pc len v h => Or.inr (Or.inr (Or.inr (Or.inr (Or.inr (Or.inr ⟨im_m28, rfl, mm_a28, Or.inl ⟨rfl, 124, rfl, by rw [h]; exact im_in 904 (by decide +kernel) rfl, mm_i28, mm_s28⟩⟩)))))
theorem mz_0_m184 : im_fM im_Ts mx_nw mm_tb mx_R0 (1, 184, 43, 1) := fun y pc len v h => Or.inr (Or.inr (Or.inr (Or.inr (Or.inr (Or.inr ⟨im_m43, rfl, mm_a43, Or.inl ⟨rfl, 184, rfl, by rw [h]; exact im_in 1349 (by decide +kernel) rfl, mm_i43, mm_s43⟩⟩)))))
theorem mz_0_m213 : im_fM im_Ts mx_nw mm_tb mx_R0 (1, 213, 44, 1) := fun y pc len v h => Or.inr (Or.inr (Or.inr (Or.inr (Or.inr (Or.inr ⟨im_m44, rfl, mm_a44, Or.inl ⟨rfl, 213, rfl, by rw [h]; exact im_in 1374 (by decide +kernel) rfl, mm_i44, mm_s44⟩⟩)))))
theorem mz_0_m229 : im_fM im_Ts mx_nw mm_tb mx_R0 (1, 229, 45, 1) := fun y pc len v h => Or.inr (Or.inr (Or.inr (Or.inr (Or.inr (Or.inr ⟨im_m45, rfl, mm_a45, Or.inl ⟨rfl, 229, rfl, by rw [h]; exact im_in 1388 (by decide +kernel) rfl, mm_i45, mm_s45⟩⟩)))))
theorem mz_0_ok : im_zo im_Ts mx_nw mx_cl mx_rA mx_nf mm_tb mx_R0 mz_0 := ⟨List.forall_mem_cons.mpr ⟨mz_0_f12, List.forall_mem_cons.mpr ⟨mz_0_f21, List.forall_mem_cons.mpr ⟨mz_0_f35, List.forall_mem_cons.mpr ⟨mz_0_f39, List.forall_mem_cons.mpr ⟨mz_0_f48, List.forall_mem_cons.mpr ⟨mz_0_f54, List.forall_mem_cons.mpr ⟨mz_0_f61, List.forall_mem_cons.mpr ⟨mz_0_f65, List.forall_mem_cons.mpr ⟨mz_0_f73, List.forall_mem_cons.mpr ⟨mz_0_f108, List.forall_mem_cons.mpr ⟨mz_0_f128, List.forall_mem_cons.mpr ⟨mz_0_f132, List.forall_mem_cons.mpr ⟨mz_0_f135, List.forall_mem_cons.mpr ⟨mz_0_f175, List.forall_mem_cons.mpr ⟨mz_0_f205, List.forall_mem_cons.mpr ⟨mz_0_f223, List.forall_mem_cons.mpr ⟨mz_0_f238, List.forall_mem_cons.mpr ⟨mz_0_f249, List.forall_mem_cons.mpr ⟨mz_0_f250, List.forall_mem_cons.mpr ⟨mz_0_f253, List.forall_mem_cons.mpr ⟨mz_0_f256, fun _ h => absurd h List.not_mem_nil⟩⟩⟩⟩⟩⟩⟩⟩⟩⟩⟩⟩⟩⟩⟩⟩⟩⟩⟩⟩⟩, List.forall_mem_cons.mpr ⟨mz_0_n9, List.forall_mem_cons.mpr ⟨mz_0_n16, List.forall_mem_cons.mpr ⟨mz_0_n25, List.forall_mem_cons.mpr ⟨mz_0_n30, List.forall_mem_cons.mpr ⟨mz_0_n43, List.forall_mem_cons.mpr ⟨mz_0_n52, fun _ h => absurd h List.not_mem_nil⟩⟩⟩⟩⟩⟩, List.forall_mem_cons.mpr ⟨mz_0_a30, fun _ h => absurd h List.not_mem_nil⟩, fun _ h => absurd h List.not_mem_nil, fun _ h => absurd h List.not_mem_nil, fun _ h => absurd h List.not_mem_nil, List.forall_mem_cons.mpr ⟨mz_0_m3, List.forall_mem_cons.mpr ⟨mz_0_m11, List.forall_mem_cons.mpr ⟨mz_0_m18, List.forall_mem_cons.mpr ⟨mz_0_m27, List.forall_mem_cons.mpr ⟨mz_0_m32, List.forall_mem_cons.mpr ⟨mz_0_m45, List.forall_mem_cons.mpr ⟨mz_0_m58, List.forall_mem_cons.mpr ⟨mz_0_m69, List.forall_mem_cons.mpr ⟨mz_0_m76, List.forall_mem_cons.mpr ⟨mz_0_m80, List.forall_mem_cons.mpr ⟨mz_0_m84, List.forall_mem_cons.mpr ⟨mz_0_m87, List.forall_mem_cons.mpr ⟨mz_0_m90, List.forall_mem_cons.mpr ⟨mz_0_m97, List.forall_mem_cons.mpr ⟨mz_0_m111, List.forall_mem_cons.mpr ⟨mz_0_m115, List.forall_mem_cons.mpr ⟨mz_0_m118, List.forall_mem_cons.mpr ⟨mz_0_m121, List.forall_mem_cons.mpr ⟨mz_0_m124, List.forall_mem_cons.mpr ⟨mz_0_m184, List.forall_mem_cons.mpr ⟨mz_0_m213, List.forall_mem_cons.mpr ⟨mz_0_m229, fun _ h => absurd h List.not_mem_nil⟩⟩⟩⟩⟩⟩⟩⟩⟩⟩⟩⟩⟩⟩⟩⟩⟩⟩⟩⟩⟩⟩⟩
def mz_1 : im_Z := ([(9, 1, 1, 0), (15, 1, 3, 0), (18, 1, 5, 0), (21, 1, 6, 0), (24, 1, 0, 1), (28, 10, 6, 0), (33, 10, 2, 0)], [], [], [], [], [], [(0, 3, 0, 0)])
theorem mz_1_f9 : im_fF im_Ts mx_cl mx_R1 (9, 1, 1, 0) := ⟨(mx_R1, mx_T1, 9), rfl, by decide, im_in 513 (by decide +kernel) rfl, fun h => absurd h (by decide)⟩
theorem mz_1_f15 : im_fF im_Ts mx_cl mx_R1 (15, 1, 3, 0) := ⟨(mx_R1, mx_T1, 9), rfl, by decide, im_in 515 (by decide +kernel) rfl, fun h => absurd h (by decide)⟩
theorem mz_1_f18 : im_fF im_Ts mx_cl mx_R1 (18, 1, 5, 0) := ⟨(mx_R1, mx_T1, 9), rfl, by decide, im_in 517 (by decide +kernel) rfl, fun h => absurd h (by decide)⟩
theorem mz_1_f21 : im_fF im_Ts mx_cl mx_R1 (21, 1, 6, 0) := ⟨(mx_R1, mx_T1, 9), rfl, by decide, im_in 518 (by decide +kernel) rfl, fun h => absurd h (by decide)⟩
theorem mz_1_f24 : im_fF im_Ts mx_cl mx_R1 (24, 1, 0, 1) := ⟨(mx_R1, mx_T1, 9), rfl, by decide, im_in 512 (by decide +kernel) rfl, fun _ => ⟨by decide, fun _ => rfl⟩⟩
theorem mz_1_f28 : im_fF im_Ts mx_cl mx_R1 (28, 10, 6, 0) := ⟨(mx_R10, mx_T10, 11), rfl, by decide, im_in 478 (by decide +kernel) rfl, fun h => absurd h (by decide)⟩
theorem mz_1_f33 : im_fF im_Ts mx_cl mx_R1 (33, 10, 2, 0) := ⟨(mx_R10, mx_T10, 11), rfl, by decide, im_in 473 (by decide +kernel) rfl, fun h => absurd h (by decide)⟩
theorem mz_1_m3 : im_fM im_Ts mx_nw mm_tb mx_R1 (0, 3, 0, 0) := fun y pc len v h => Or.inl ⟨rfl, 3, rfl, by rw [h]; exact im_in 511 (by decide +kernel) rfl⟩
theorem mz_1_ok : im_zo im_Ts mx_nw mx_cl mx_rA mx_nf mm_tb mx_R1 mz_1 := ⟨List.forall_mem_cons.mpr ⟨mz_1_f9, List.forall_mem_cons.mpr ⟨mz_1_f15, List.forall_mem_cons.mpr ⟨mz_1_f18, List.forall_mem_cons.mpr ⟨mz_1_f21, List.forall_mem_cons.mpr ⟨mz_1_f24, List.forall_mem_cons.mpr ⟨mz_1_f28, List.forall_mem_cons.mpr ⟨mz_1_f33, fun _ h => absurd h List.not_mem_nil⟩⟩⟩⟩⟩⟩⟩, fun _ h => absurd h List.not_mem_nil, fun _ h => absurd h List.not_mem_nil, fun _ h => absurd h List.not_mem_nil, fun _ h => absurd h List.not_mem_nil, fun _ h => absurd h List.not_mem_nil, List.forall_mem_cons.mpr ⟨mz_1_m3, fun _ h => absurd h List.not_mem_nil⟩⟩
def mz_3 : im_Z := ([(9, 6, 1, 2), (15, 6, 4, 0), (25, 3, 0, 1), (28, 6, 2, 2), (35, 3, 1, 1), (36, 6, 3, 2), (39, 3, 2, 1), (40, 6, 5, 0), (43, 3, 3, 1), (44, 6, 6, 2), (47, 6, 7, 0), (50, 3, 4, 1), (51, 6, 10, 0), (54, 3, 5, 1), (55, 6, 9, 2), (58, 3, 6, 1), (61, 3, 7, 1), (64, 3, 8, 1), (67, 6, 11, 2)], [], [], [], [], [], [(0, 3, 0, 0), (5, 19, 102, 2), (5, 32, 103, 2)])
theorem mz_3_f9 : im_fF im_Ts mx_cl mx_R3 (9, 6, 1, 2) := ⟨(mx_R6, mx_T6, 18), rfl, by decide, im_in 224 (by decide +kernel) rfl, fun _ => ⟨by decide, fun h => absurd h (by decide)⟩⟩
theorem mz_3_f15 : im_fF im_Ts mx_cl mx_R3 (15, 6, 4, 0) := ⟨(mx_R6, mx_T6, 18), rfl, by decide, im_in 230 (by decide +kernel) rfl, fun h => absurd h (by decide)⟩
theorem mz_3_f25 : im_fF im_Ts mx_cl mx_R3 (25, 3, 0, 1) := ⟨(mx_R3, mx_T3, 9), rfl, by decide, im_in 358 (by decide +kernel) rfl, fun _ => ⟨by decide, fun _ => rfl⟩⟩
theorem mz_3_f28 : im_fF im_Ts mx_cl mx_R3 (28, 6, 2, 2) := ⟨(mx_R6, mx_T6, 18), rfl, by decide, im_in 227 (by decide +kernel) rfl, fun _ => ⟨by decide, fun h => absurd h (by decide)⟩⟩
theorem mz_3_f35 : im_fF im_Ts mx_cl mx_R3 (35, 3, 1, 1) := ⟨(mx_R3, mx_T3, 9), rfl, by decide, im_in 359 (by decide +kernel) rfl, fun _ => ⟨by decide, fun _ => rfl⟩⟩
theorem mz_3_f36 : im_fF im_Ts mx_cl mx_R3 (36, 6, 3, 2) := ⟨(mx_R6, mx_T6, 18), rfl, by decide, im_in 229 (by decide +kernel) rfl, fun _ => ⟨by decide, fun h => absurd h (by decide)⟩⟩
theorem mz_3_f39 : im_fF im_Ts mx_cl mx_R3 (39, 3, 2, 1) := ⟨(mx_R3, mx_T3, 9), rfl, by decide, im_in 360 (by decide +kernel) rfl, fun _ => ⟨by decide, fun _ => rfl⟩⟩
theorem mz_3_f40 : im_fF im_Ts mx_cl mx_R3 (40, 6, 5, 0) := ⟨(mx_R6, mx_T6, 18), rfl, by decide, im_in 233 (by decide +kernel) rfl, fun h => absurd h (by decide)⟩
theorem mz_3_f43 : im_fF im_Ts mx_cl mx_R3 (43, 3, 3, 1) := ⟨(mx_R3, mx_T3, 9), rfl, by decide, im_in 361 (by decide +kernel) rfl, fun _ => ⟨by decide, fun _ => rfl⟩⟩
theorem mz_3_f44 : im_fF im_Ts mx_cl mx_R3 (44, 6, 6, 2) := ⟨(mx_R6, mx_T6, 18), rfl, by decide, im_in 235 (by decide +kernel) rfl, fun _ => ⟨by decide, fun h => absurd h (by decide)⟩⟩
theorem mz_3_f47 : im_fF im_Ts mx_cl mx_R3 (47, 6, 7, 0) := ⟨(mx_R6, mx_T6, 18), rfl, by decide, im_in 236 (by decide +kernel) rfl, fun h => absurd h (by decide)⟩
theorem mz_3_f50 : im_fF im_Ts mx_cl mx_R3 (50, 3, 4, 1) := ⟨(mx_R3, mx_T3, 9), rfl, by decide, im_in 364 (by decide +kernel) rfl, fun _ => ⟨by decide, fun _ => rfl⟩⟩
theorem mz_3_f51 : im_fF im_Ts mx_cl mx_R3 (51, 6, 10, 0) := ⟨(mx_R6, mx_T6, 18), rfl, by decide, im_in 241 (by decide +kernel) rfl, fun h => absurd h (by decide)⟩
theorem mz_3_f54 : im_fF im_Ts mx_cl mx_R3 (54, 3, 5, 1) := ⟨(mx_R3, mx_T3, 9), rfl, by decide, im_in 368 (by decide +kernel) rfl, fun _ => ⟨by decide, fun _ => rfl⟩⟩
theorem mz_3_f55 : im_fF im_Ts mx_cl mx_R3 (55, 6, 9, 2) := ⟨(mx_R6, mx_T6, 18), rfl, by decide, im_in 240 (by decide +kernel) rfl, fun _ => ⟨by decide, fun h => absurd h (by decide)⟩⟩
theorem mz_3_f58 : im_fF im_Ts mx_cl mx_R3 (58, 3, 6, 1) := ⟨(mx_R3, mx_T3, 9), rfl, by decide, im_in 371 (by decide +kernel) rfl, fun _ => ⟨by decide, fun _ => rfl⟩⟩
theorem mz_3_f61 : im_fF im_Ts mx_cl mx_R3 (61, 3, 7, 1) := ⟨(mx_R3, mx_T3, 9), rfl, by decide, im_in 373 (by decide +kernel) rfl, fun _ => ⟨by decide, fun _ => rfl⟩⟩
theorem mz_3_f64 : im_fF im_Ts mx_cl mx_R3 (64, 3, 8, 1) := ⟨(mx_R3, mx_T3, 9), rfl, by decide, im_in 375 (by decide +kernel) rfl, fun _ => ⟨by decide, fun _ => rfl⟩⟩
theorem mz_3_f67 : im_fF im_Ts mx_cl mx_R3 (67, 6, 11, 2) := ⟨(mx_R6, mx_T6, 18), rfl, by decide, im_in 244 (by decide +kernel) rfl, fun _ => ⟨by decide, fun h => absurd h (by decide)⟩⟩
theorem mz_3_m3 : im_fM im_Ts mx_nw mm_tb mx_R3 (0, 3, 0, 0) := fun y pc len v h => Or.inl ⟨rfl, 3, rfl, by rw [h]; exact im_in 295 (by decide +kernel) rfl⟩
theorem mz_3_m19 : im_fM im_Ts mx_nw mm_tb mx_R3 (5, 19, 102, 2) := fun y pc len v h => Or.inr (Or.inr (Or.inr (Or.inr (Or.inr (Or.inr ⟨im_m102, rfl, mm_a102, Or.inr (Or.inr (Or.inr (Or.inl ⟨rfl, 19, rfl, by rw [h]; exact im_in 296 (by decide +kernel) rfl, mm_t102⟩)))⟩)))))
theorem mz_3_m32 : im_fM im_Ts mx_nw mm_tb mx_R3 (5, 32, 103, 2) := fun y pc len v h => Or.inr (Or.inr (Or.inr (Or.inr (Or.inr (Or.inr ⟨im_m103, rfl, mm_a103, Or.inr (Or.inr (Or.inr (Or.inl ⟨rfl, 32, rfl, by rw [h]; exact im_in 312 (by decide +kernel) rfl, mm_t103⟩)))⟩)))))
theorem mz_3_ok : im_zo im_Ts mx_nw mx_cl mx_rA mx_nf mm_tb mx_R3 mz_3 := ⟨List.forall_mem_cons.mpr ⟨mz_3_f9, List.forall_mem_cons.mpr ⟨mz_3_f15, List.forall_mem_cons.mpr ⟨mz_3_f25, List.forall_mem_cons.mpr ⟨mz_3_f28, List.forall_mem_cons.mpr ⟨mz_3_f35, List.forall_mem_cons.mpr ⟨mz_3_f36, List.forall_mem_cons.mpr ⟨mz_3_f39, List.forall_mem_cons.mpr ⟨mz_3_f40, List.forall_mem_cons.mpr ⟨mz_3_f43, List.forall_mem_cons.mpr ⟨mz_3_f44, List.forall_mem_cons.mpr ⟨mz_3_f47, List.forall_mem_cons.mpr ⟨mz_3_f50, List.forall_mem_cons.mpr ⟨mz_3_f51, List.forall_mem_cons.mpr ⟨mz_3_f54, List.forall_mem_cons.mpr ⟨mz_3_f55, List.forall_mem_cons.mpr ⟨mz_3_f58, List.forall_mem_cons.mpr ⟨mz_3_f61, List.forall_mem_cons.mpr ⟨mz_3_f64, List.forall_mem_cons.mpr ⟨mz_3_f67, fun _ h => absurd h List.not_mem_nil⟩⟩⟩⟩⟩⟩⟩⟩⟩⟩⟩⟩⟩⟩⟩⟩⟩⟩⟩, fun _ h => absurd h List.not_mem_nil, fun _ h => absurd h List.not_mem_nil, fun _ h => absurd h List.not_mem_nil, fun _ h => absurd h List.not_mem_nil, fun _ h => absurd h List.not_mem_nil, List.forall_mem_cons.mpr ⟨mz_3_m3, List.forall_mem_cons.mpr ⟨mz_3_m19, List.forall_mem_cons.mpr ⟨mz_3_m32, fun _ h => absurd h List.not_mem_nil⟩⟩⟩⟩
def mz_5 : im_Z := ([(11, 5, 1, 1), (17, 5, 0, 1), (21, 5, 2, 0), (63, 3, 7, 2)], [], [(9, 3)], [], [], [], [(0, 3, 0, 0), (1, 25, 27, 1), (1, 29, 28, 1)])
theorem mz_5_f11 : im_fF im_Ts mx_cl mx_R5 (11, 5, 1, 1) := ⟨(mx_R5, mx_T5, 3), rfl, by decide, im_in 404 (by decide +kernel) rfl, fun _ => ⟨by decide, fun _ => rfl⟩⟩
theorem mz_5_f17 : im_fF im_Ts mx_cl mx_R5 (17, 5, 0, 1) := ⟨(mx_R5, mx_T5, 3), rfl, by decide, im_in 403 (by decide +kernel) rfl, fun _ => ⟨by decide, fun _ => rfl⟩⟩
theorem mz_5_f21 : im_fF im_Ts mx_cl mx_R5 (21, 5, 2, 0) := ⟨(mx_R5, mx_T5, 3), rfl, by decide, im_in 405 (by decide +kernel) rfl, fun h => absurd h (by decide)⟩
theorem mz_5_f63 : im_fF im_Ts mx_cl mx_R5 (63, 3, 7, 2) := ⟨(mx_R3, mx_T3, 9), rfl, by decide, im_in 374 (by decide +kernel) rfl, fun _ => ⟨by decide, fun h => absurd h (by decide)⟩⟩
theorem mz_5_a9 : im_fA im_Ts mx_cl mx_rA mx_R5 (9, 3) := ⟨(mx_R3, mx_T3, 9), rfl, by decide, im_in 401 (by decide +kernel) rfl⟩
theorem mz_5_m3 : im_fM im_Ts mx_nw mm_tb mx_R5 (0, 3, 0, 0) := fun y pc len v h => Or.inl ⟨rfl, 3, rfl, by rw [h]; exact im_in 400 (by decide +kernel) rfl⟩
theorem mz_5_m25 : im_fM im_Ts mx_nw mm_tb mx_R5 (1, 25, 27, 1) := fun y pc len v h => Or.inr (Or.inr (Or.inr (Or.inr (Or.inr (Or.inr ⟨im_m27, rfl, mm_a27, Or.inl ⟨rfl, 25, rfl, by rw [h]; exact im_in 822 (by decide +kernel) rfl, mm_i27, mm_s27⟩⟩)))))
theorem mz_5_m29 : im_fM im_Ts mx_nw mm_tb mx_R5 (1, 29, 28, 1) := fun y pc len v h => Or.inr (Or.inr (Or.inr (Or.inr (Or.inr (Or.inr ⟨im_m28, rfl, mm_a28, Or.inl ⟨rfl, 29, rfl, by rw [h]; exact im_in 818 (by decide +kernel) rfl, mm_i28, mm_s28⟩⟩)))))
theorem mz_5_ok : im_zo im_Ts mx_nw mx_cl mx_rA mx_nf mm_tb mx_R5 mz_5 := ⟨List.forall_mem_cons.mpr ⟨mz_5_f11, List.forall_mem_cons.mpr ⟨mz_5_f17, List.forall_mem_cons.mpr ⟨mz_5_f21, List.forall_mem_cons.mpr ⟨mz_5_f63, fun _ h => absurd h List.not_mem_nil⟩⟩⟩⟩, fun _ h => absurd h List.not_mem_nil, List.forall_mem_cons.mpr ⟨mz_5_a9, fun _ h => absurd h List.not_mem_nil⟩, fun _ h => absurd h List.not_mem_nil, fun _ h => absurd h List.not_mem_nil, fun _ h => absurd h List.not_mem_nil, List.forall_mem_cons.mpr ⟨mz_5_m3, List.forall_mem_cons.mpr ⟨mz_5_m25, List.forall_mem_cons.mpr ⟨mz_5_m29, fun _ h => absurd h List.not_mem_nil⟩⟩⟩⟩
def mz_6 : im_Z := ([(9, 6, 1, 1), (15, 6, 2, 1), (19, 6, 3, 1), (22, 6, 4, 0), (26, 6, 5, 0), (29, 6, 6, 1), (32, 6, 8, 1), (35, 6, 9, 1), (38, 6, 11, 1), (41, 6, 12, 1), (44, 6, 13, 1), (47, 6, 0, 1), (62, 9, 2, 0), (69, 9, 3, 0), (83, 6, 16, 0), (86, 6, 15, 0), (90, 6, 7, 0), (93, 6, 10, 0), (96, 6, 14, 0), (99, 6, 17, 0), (114, 9, 4, 0)], [], [], [], [], [], [(0, 3, 0, 0), (5, 51, 100, 4), (1, 57, 52, 0), (1, 65, 35, 1), (1, 72, 36, 1), (1, 76, 37, 0), (1, 80, 53, 0), (1, 102, 38, 0)])
theorem mz_6_f9 : im_fF im_Ts mx_cl mx_R6 (9, 6, 1, 1) := ⟨(mx_R6, mx_T6, 18), rfl, by decide, im_in 225 (by decide +kernel) rfl, fun _ => ⟨by decide, fun _ => rfl⟩⟩
theorem mz_6_f15 : im_fF im_Ts mx_cl mx_R6 (15, 6, 2, 1) := ⟨(mx_R6, mx_T6, 18), rfl, by decide, im_in 226 (by decide +kernel) rfl, fun _ => ⟨by decide, fun _ => rfl⟩⟩
theorem mz_6_f19 : im_fF im_Ts mx_cl mx_R6 (19, 6, 3, 1) := ⟨(mx_R6, mx_T6, 18), rfl, by decide, im_in 228 (by decide +kernel) rfl, fun _ => ⟨by decide, fun _ => rfl⟩⟩
theorem mz_6_f22 : im_fF im_Ts mx_cl mx_R6 (22, 6, 4, 0) := ⟨(mx_R6, mx_T6, 18), rfl, by decide, im_in 231 (by decide +kernel) rfl, fun h => absurd h (by decide)⟩
theorem mz_6_f26 : im_fF im_Ts mx_cl mx_R6 (26, 6, 5, 0) := ⟨(mx_R6, mx_T6, 18), rfl, by decide, im_in 232 (by decide +kernel) rfl, fun h => absurd h (by decide)⟩
theorem mz_6_f29 : im_fF im_Ts mx_cl mx_R6 (29, 6, 6, 1) := ⟨(mx_R6, mx_T6, 18), rfl, by decide, im_in 234 (by decide +kernel) rfl, fun _ => ⟨by decide, fun _ => rfl⟩⟩
theorem mz_6_f32 : im_fF im_Ts mx_cl mx_R6 (32, 6, 8, 1) := ⟨(mx_R6, mx_T6, 18), rfl, by decide, im_in 238 (by decide +kernel) rfl, fun _ => ⟨by decide, fun _ => rfl⟩⟩
theorem mz_6_f35 : im_fF im_Ts mx_cl mx_R6 (35, 6, 9, 1) := ⟨(mx_R6, mx_T6, 18), rfl, by decide, im_in 239 (by decide +kernel) rfl, fun _ => ⟨by decide, fun _ => rfl⟩⟩
theorem mz_6_f38 : im_fF im_Ts mx_cl mx_R6 (38, 6, 11, 1) := ⟨(mx_R6, mx_T6, 18), rfl, by decide, im_in 243 (by decide +kernel) rfl, fun _ => ⟨by decide, fun _ => rfl⟩⟩
theorem mz_6_f41 : im_fF im_Ts mx_cl mx_R6 (41, 6, 12, 1) := ⟨(mx_R6, mx_T6, 18), rfl, by decide, im_in 245 (by decide +kernel) rfl, fun _ => ⟨by decide, fun _ => rfl⟩⟩
theorem mz_6_f44 : im_fF im_Ts mx_cl mx_R6 (44, 6, 13, 1) := ⟨(mx_R6, mx_T6, 18), rfl, by decide, im_in 246 (by decide +kernel) rfl, fun _ => ⟨by decide, fun _ => rfl⟩⟩
theorem mz_6_f47 : im_fF im_Ts mx_cl mx_R6 (47, 6, 0, 1) := ⟨(mx_R6, mx_T6, 18), rfl, by decide, im_in 223 (by decide +kernel) rfl, fun _ => ⟨by decide, fun _ => rfl⟩⟩
theorem mz_6_f62 : im_fF im_Ts mx_cl mx_R6 (62, 9, 2, 0) := ⟨(mx_R9, mx_T9, 6), rfl, by decide, im_in 190 (by decide +kernel) rfl, fun h => absurd h (by decide)⟩
theorem mz_6_f69 : im_fF im_Ts mx_cl mx_R6 (69, 9, 3, 0) := ⟨(mx_R9, mx_T9, 6), rfl, by decide, im_in 192 (by decide +kernel) rfl, fun h => absurd h (by decide)⟩
theorem mz_6_f83 : im_fF im_Ts mx_cl mx_R6 (83, 6, 16, 0) := ⟨(mx_R6, mx_T6, 18), rfl, by decide, im_in 249 (by decide +kernel) rfl, fun h => absurd h (by decide)⟩
theorem mz_6_f86 : im_fF im_Ts mx_cl mx_R6 (86, 6, 15, 0) := ⟨(mx_R6, mx_T6, 18), rfl, by decide, im_in 248 (by decide +kernel) rfl, fun h => absurd h (by decide)⟩
theorem mz_6_f90 : im_fF im_Ts mx_cl mx_R6 (90, 6, 7, 0) := ⟨(mx_R6, mx_T6, 18), rfl, by decide, im_in 237 (by decide +kernel) rfl, fun h => absurd h (by decide)⟩
theorem mz_6_f93 : im_fF im_Ts mx_cl mx_R6 (93, 6, 10, 0) := ⟨(mx_R6, mx_T6, 18), rfl, by decide, im_in 242 (by decide +kernel) rfl, fun h => absurd h (by decide)⟩
theorem mz_6_f96 : im_fF im_Ts mx_cl mx_R6 (96, 6, 14, 0) := ⟨(mx_R6, mx_T6, 18), rfl, by decide, im_in 247 (by decide +kernel) rfl, fun h => absurd h (by decide)⟩
theorem mz_6_f99 : im_fF im_Ts mx_cl mx_R6 (99, 6, 17, 0) := ⟨(mx_R6, mx_T6, 18), rfl, by decide, im_in 250 (by decide +kernel) rfl, fun h => absurd h (by decide)⟩
theorem mz_6_f114 : im_fF im_Ts mx_cl mx_R6 (114, 9, 4, 0) := ⟨(mx_R9, mx_T9, 6), rfl, by decide, im_in 195 (by decide +kernel) rfl, fun h => absurd h (by decide)⟩
theorem mz_6_m3 : im_fM im_Ts mx_nw mm_tb mx_R6 (0, 3, 0, 0) := fun y pc len v h => Or.inl ⟨rfl, 3, rfl, by rw [h]; exact im_in 216 (by decide +kernel) rfl⟩
theorem mz_6_m51 : im_fM im_Ts mx_nw mm_tb mx_R6 (5, 51, 100, 4) := fun y pc len v h => Or.inr (Or.inr (Or.inr (Or.inr (Or.inr (Or.inr ⟨im_m100, rfl, mm_a100, Or.inr (Or.inr (Or.inr (Or.inl ⟨rfl, 51, rfl, by rw [h]; exact im_in 217 (by decide +kernel) rfl, mm_t100⟩)))⟩)))))
theorem mz_6_m57 : im_fM im_Ts mx_nw mm_tb mx_R6 (1, 57, 52, 0) := fun y pc len v h => Or.inr (Or.inr (Or.inr (Or.inr (Or.inr (Or.inr ⟨im_m52, rfl, mm_a52, Or.inl ⟨rfl, 57, rfl, by rw [h]; exact im_in 696 (by decide +kernel) rfl, mm_i52, mm_s52⟩⟩)))))
theorem mz_6_m65 : im_fM im_Ts mx_nw mm_tb mx_R6 (1, 65, 35, 1) := fun y pc len v h => Or.inr (Or.inr (Or.inr (Or.inr (Or.inr (Or.inr ⟨im_m35, rfl, mm_a35, Or.inl ⟨rfl, 65, rfl, by rw [h]; exact im_in 733 (by decide +kernel) rfl, mm_i35, mm_s35⟩⟩)))))
theorem mz_6_m72 : im_fM im_Ts mx_nw mm_tb mx_R6 (1, 72, 36, 1) := fun y pc len v h => Or.inr (Or.inr (Or.inr (Or.inr (Or.inr (Or.inr ⟨im_m36, rfl, mm_a36, Or.inl ⟨rfl, 72, rfl, by rw [h]; exact im_in 737 (by decide +kernel) rfl, mm_i36, mm_s36⟩⟩)))))
theorem mz_6_m76 : im_fM im_Ts mx_nw mm_tb mx_R6 (1, 76, 37, 0) := fun y pc len v h => Or.inr (Or.inr (Or.inr (Or.inr (Or.inr (Or.inr ⟨im_m37, rfl, mm_a37, Or.inl ⟨rfl, 76, rfl, by rw [h]; exact im_in 741 (by decide +kernel) rfl, mm_i37, mm_s37⟩⟩)))))
theorem mz_6_m80 : im_fM im_Ts mx_nw mm_tb mx_R6 (1, 80, 53, 0) := fun y pc len v h => Or.inr (Or.inr (Or.inr (Or.inr (Or.inr (Or.inr ⟨im_m53, rfl, mm_a53, Or.inl ⟨rfl, 80, rfl, by rw [h]; exact im_in 801 (by decide +kernel) rfl, mm_i53, mm_s53⟩⟩)))))
theorem mz_6_m102 : im_fM im_Ts mx_nw mm_tb mx_R6 (1, 102, 38, 0) := fun y pc len v h => Or.inr (Or.inr (Or.inr (Or.inr (Or.inr (Or.inr ⟨im_m38, rfl, mm_a38, Or.inl ⟨rfl, 102, rfl, by rw [h]; exact im_in 745 (by decide +kernel) rfl, mm_i38, mm_s38⟩⟩)))))
theorem mz_6_ok : im_zo im_Ts mx_nw mx_cl mx_rA mx_nf mm_tb mx_R6 mz_6 := ⟨List.forall_mem_cons.mpr ⟨mz_6_f9, List.forall_mem_cons.mpr ⟨mz_6_f15, List.forall_mem_cons.mpr ⟨mz_6_f19, List.forall_mem_cons.mpr ⟨mz_6_f22, List.forall_mem_cons.mpr ⟨mz_6_f26, List.forall_mem_cons.mpr ⟨mz_6_f29, List.forall_mem_cons.mpr ⟨mz_6_f32, List.forall_mem_cons.mpr ⟨mz_6_f35, List.forall_mem_cons.mpr ⟨mz_6_f38, List.forall_mem_cons.mpr ⟨mz_6_f41, List.forall_mem_cons.mpr ⟨mz_6_f44, List.forall_mem_cons.mpr ⟨mz_6_f47, List.forall_mem_cons.mpr ⟨mz_6_f62, List.forall_mem_cons.mpr ⟨mz_6_f69, List.forall_mem_cons.mpr ⟨mz_6_f83, List.forall_mem_cons.mpr ⟨mz_6_f86, List.forall_mem_cons.mpr ⟨mz_6_f90, List.forall_mem_cons.mpr ⟨mz_6_f93, List.forall_mem_cons.mpr ⟨mz_6_f96, List.forall_mem_cons.mpr ⟨mz_6_f99, List.forall_mem_cons.mpr ⟨mz_6_f114, fun _ h => absurd h List.not_mem_nil⟩⟩⟩⟩⟩⟩⟩⟩⟩⟩⟩⟩⟩⟩⟩⟩⟩⟩⟩⟩⟩, fun _ h => absurd h List.not_mem_nil, fun _ h => absurd h List.not_mem_nil, fun _ h => absurd h List.not_mem_nil, fun _ h => absurd h List.not_mem_nil, fun _ h => absurd h List.not_mem_nil, List.forall_mem_cons.mpr ⟨mz_6_m3, List.forall_mem_cons.mpr ⟨mz_6_m51, List.forall_mem_cons.mpr ⟨mz_6_m57, List.forall_mem_cons.mpr ⟨mz_6_m65, List.forall_mem_cons.mpr ⟨mz_6_m72, List.forall_mem_cons.mpr ⟨mz_6_m76, List.forall_mem_cons.mpr ⟨mz_6_m80, List.forall_mem_cons.mpr ⟨mz_6_m102, fun _ h => absurd h List.not_mem_nil⟩⟩⟩⟩⟩⟩⟩⟩⟩
def mz_7 : im_Z := ([(11, 7, 4, 1), (19, 7, 7, 1), (23, 7, 17, 1), (27, 7, 18, 1), (30, 7, 0, 1), (39, 7, 1, 1), (48, 7, 2, 1), (55, 7, 3, 1), (71, 7, 10, 0), (75, 7, 11, 0), (107, 7, 6, 0), (115, 7, 5, 0), (118, 7, 8, 0), (196, 4, 2, 0), (308, 3, 5, 2)], [(34, 8), (43, 10), (52, 1)], [(9, 4), (17, 2)], [], [], [], [(0, 3, 0, 0), (3, 36, 46, 1), (3, 45, 55, 1), (3, 54, 23, 1), (1, 59, 40, 1), (1, 63, 47, 1), (1, 64, 56, 1), (1, 65, 24, 2), (1, 111, 42, 2), (1, 121, 48, 0), (1, 187, 49, 1)])
theorem mz_7_f11 : im_fF im_Ts mx_cl mx_R7 (11, 7, 4, 1) := ⟨(mx_R7, mx_T7, 19), rfl, by decide, im_in 567 (by decide +kernel) rfl, fun _ => ⟨by decide, fun _ => rfl⟩⟩
theorem mz_7_f19 : im_fF im_Ts mx_cl mx_R7 (19, 7, 7, 1) := ⟨(mx_R7, mx_T7, 19), rfl, by decide, im_in 571 (by decide +kernel) rfl, fun _ => ⟨by decide, fun _ => rfl⟩⟩
theorem mz_7_f23 : im_fF im_Ts mx_cl mx_R7 (23, 7, 17, 1) := ⟨(mx_R7, mx_T7, 19), rfl, by decide, im_in 582 (by decide +kernel) rfl, fun _ => ⟨by decide, fun _ => rfl⟩⟩
theorem mz_7_f27 : im_fF im_Ts mx_cl mx_R7 (27, 7, 18, 1) := ⟨(mx_R7, mx_T7, 19), rfl, by decide, im_in 583 (by decide +kernel) rfl, fun _ => ⟨by decide, fun _ => rfl⟩⟩
theorem mz_7_f30 : im_fF im_Ts mx_cl mx_R7 (30, 7, 0, 1) := ⟨(mx_R7, mx_T7, 19), rfl, by decide, im_in 562 (by decide +kernel) rfl, fun _ => ⟨by decide, fun _ => rfl⟩⟩
theorem mz_7_f39 : im_fF im_Ts mx_cl mx_R7 (39, 7, 1, 1) := ⟨(mx_R7, mx_T7, 19), rfl, by decide, im_in 563 (by decide +kernel) rfl, fun _ => ⟨by decide, fun _ => rfl⟩⟩
theorem mz_7_f48 : im_fF im_Ts mx_cl mx_R7 (48, 7, 2, 1) := ⟨(mx_R7, mx_T7, 19), rfl, by decide, im_in 565 (by decide +kernel) rfl, fun _ => ⟨by decide, fun _ => rfl⟩⟩
theorem mz_7_f55 : im_fF im_Ts mx_cl mx_R7 (55, 7, 3, 1) := ⟨(mx_R7, mx_T7, 19), rfl, by decide, im_in 566 (by decide +kernel) rfl, fun _ => ⟨by decide, fun _ => rfl⟩⟩
theorem mz_7_f71 : im_fF im_Ts mx_cl mx_R7 (71, 7, 10, 0) := ⟨(mx_R7, mx_T7, 19), rfl, by decide, im_in 574 (by decide +kernel) rfl, fun h => absurd h (by decide)⟩
theorem mz_7_f75 : im_fF im_Ts mx_cl mx_R7 (75, 7, 11, 0) := ⟨(mx_R7, mx_T7, 19), rfl, by decide, im_in 576 (by decide +kernel) rfl, fun h => absurd h (by decide)⟩
theorem mz_7_f107 : im_fF im_Ts mx_cl mx_R7 (107, 7, 6, 0) := ⟨(mx_R7, mx_T7, 19), rfl, by decide, im_in 569 (by decide +kernel) rfl, fun h => absurd h (by decide)⟩
theorem mz_7_f115 : im_fF im_Ts mx_cl mx_R7 (115, 7, 5, 0) := ⟨(mx_R7, mx_T7, 19), rfl, by decide, im_in 568 (by decide +kernel) rfl, fun h => absurd h (by decide)⟩
theorem mz_7_f118 : im_fF im_Ts mx_cl mx_R7 (118, 7, 8, 0) := ⟨(mx_R7, mx_T7, 19), rfl, by decide, im_in 572 (by decide +kernel) rfl, fun h => absurd h (by decide)⟩
theorem mz_7_f196 : im_fF im_Ts mx_cl mx_R7 (196, 4, 2, 0) := ⟨(mx_R4, mx_T4, 5), rfl, by decide, im_in 1077 (by decide +kernel) rfl, fun h => absurd h (by decide)⟩
theorem mz_7_f308 : im_fF im_Ts mx_cl mx_R7 (308, 3, 5, 2) := ⟨(mx_R3, mx_T3, 9), rfl, by decide, im_in 370 (by decide +kernel) rfl, fun _ => ⟨by decide, fun h => absurd h (by decide)⟩⟩
theorem mz_7_n34 : im_fN im_Ts mx_cl mx_nf mx_R7 (34, 8) := ⟨(mx_R8, mx_T8, 9), rfl, by decide, im_in 425 (by decide +kernel) rfl, rfl⟩
theorem mz_7_n43 : im_fN im_Ts mx_cl mx_nf mx_R7 (43, 10) := ⟨(mx_R10, mx_T10, 11), rfl, by decide, im_in 464 (by decide +kernel) rfl, rfl⟩
theorem mz_7_n52 : im_fN im_Ts mx_cl mx_nf mx_R7 (52, 1) := ⟨(mx_R1, mx_T1, 9), rfl, by decide, im_in 506 (by decide +kernel) rfl, rfl⟩
theorem mz_7_a9 : im_fA im_Ts mx_cl mx_rA mx_R7 (9, 4) := ⟨(mx_R4, mx_T4, 5), rfl, by decide, im_in 421 (by decide +kernel) rfl⟩
theorem mz_7_a17 : im_fA im_Ts mx_cl mx_rA mx_R7 (17, 2) := ⟨(mx_R2, mx_T2, 6), rfl, by decide, im_in 423 (by decide +kernel) rfl⟩
theorem mz_7_m3 : im_fM im_Ts mx_nw mm_tb mx_R7 (0, 3, 0, 0) := fun y pc len v h => Or.inl ⟨rfl, 3, rfl, by rw [h]; exact im_in 420 (by decide +kernel) rfl⟩
theorem mz_7_m36 : im_fM im_Ts mx_nw mm_tb mx_R7 (3, 36, 46, 1) := fun y pc len v h => Or.inr (Or.inr (Or.inr (Or.inr (Or.inr (Or.inr ⟨im_m46, rfl, mm_a46, Or.inr (Or.inl ⟨rfl, 36, rfl, by rw [h]; exact im_in 427 (by decide +kernel) rfl, mm_i46, rfl, rfl⟩)⟩)))))
theorem mz_7_m45 : im_fM im_Ts mx_nw mm_tb mx_R7 (3, 45, 55, 1) := fun y pc len v h => Or.inr (Or.inr (Or.inr (Or.inr (Or.inr (Or.inr ⟨im_m55, rfl, mm_a55, Or.inr (Or.inl ⟨rfl, 45, rfl, by rw [h]; exact im_in 466 (by decide +kernel) rfl, mm_i55, rfl, rfl⟩)⟩)))))
theorem mz_7_m54 : im_fM im_Ts mx_nw mm_tb mx_R7 (3, 54, 23, 1) := fun y pc len v h => Or.inr (Or.inr (Or.inr (Or.inr (Or.inr (Or.inr ⟨im_m23, rfl, mm_a23, Or.inr (Or.inl ⟨rfl, 54, rfl, by rw [h]; exact im_in 508 (by decide +kernel) rfl, mm_i23, rfl, rfl⟩)⟩)))))
theorem mz_7_m59 : im_fM im_Ts mx_nw mm_tb mx_R7 (1, 59, 40, 1) := fun y pc len v h => Or.inr (Or.inr (Or.inr (Or.inr (Or.inr (Or.inr ⟨im_m40, rfl, mm_a40, Or.inl ⟨rfl, 59, rfl, by rw [h]; exact im_in 541 (by decide +kernel) rfl, mm_i40, mm_s40⟩⟩)))))
theorem mz_7_m63 : im_fM im_Ts mx_nw mm_tb mx_R7 (1, 63, 47, 1) := fun y pc len v h => Or.inr (Or.inr (Or.inr (Or.inr (Or.inr (Or.inr ⟨im_m47, rfl, mm_a47, Or.inl ⟨rfl, 63, rfl, by rw [h]; exact im_in 545 (by decide +kernel) rfl, mm_i47, mm_s47⟩⟩)))))
theorem mz_7_m64 : im_fM im_Ts mx_nw mm_tb mx_R7 (1, 64, 56, 1) := fun y pc len v h => Or.inr (Or.inr (Or.inr (Or.inr (Or.inr (Or.inr ⟨im_m56, rfl, mm_a56, Or.inl ⟨rfl, 64, rfl, by rw [h]; exact im_in 554 (by decide +kernel) rfl, mm_i56, mm_s56⟩⟩)))))
theorem mz_7_m65 : im_fM im_Ts mx_nw mm_tb mx_R7 (1, 65, 24, 2) := fun y pc len v h => Or.inr (Or.inr (Or.inr (Or.inr (Or.inr (Or.inr ⟨im_m24, rfl, mm_a24, Or.inl ⟨rfl, 65, rfl, by rw [h]; exact im_in 558 (by decide +kernel) rfl, mm_i24, mm_s24⟩⟩)))))
theorem mz_7_m111 : im_fM im_Ts mx_nw mm_tb mx_R7 (1, 111, 42, 2) := fun y pc len v h => Or.inr (Or.inr (Or.inr (Or.inr (Or.inr (Or.inr ⟨im_m42, rfl, mm_a42, Or.inl ⟨rfl, 111, rfl, by rw [h]; exact im_in 830 (by decide +kernel) rfl, mm_i42, mm_s42⟩⟩)))))
theorem mz_7_m121 : im_fM im_Ts mx_nw mm_tb mx_R7 (1, 121, 48, 0) := fun y pc len v h => Or.inr (Or.inr (Or.inr (Or.inr (Or.inr (Or.inr ⟨im_m48, rfl, mm_a48, Or.inl ⟨rfl, 121, rfl, by rw [h]; exact im_in 834 (by decide +kernel) rfl, mm_i48, mm_s48⟩⟩)))))
theorem mz_7_m187 : im_fM im_Ts mx_nw mm_tb mx_R7 (1, 187, 49, 1) := fun y pc len v h => Or.inr (Or.inr (Or.inr (Or.inr (Or.inr (Or.inr ⟨im_m49, rfl, mm_a49, Or.inl ⟨rfl, 187, rfl, by rw [h]; exact im_in 1194 (by decide +kernel) rfl, mm_i49, mm_s49⟩⟩)))))
theorem mz_7_ok : im_zo im_Ts mx_nw mx_cl mx_rA mx_nf mm_tb mx_R7 mz_7 := ⟨List.forall_mem_cons.mpr ⟨mz_7_f11, List.forall_mem_cons.mpr ⟨mz_7_f19, List.forall_mem_cons.mpr ⟨mz_7_f23, List.forall_mem_cons.mpr ⟨mz_7_f27, List.forall_mem_cons.mpr ⟨mz_7_f30, List.forall_mem_cons.mpr ⟨mz_7_f39, List.forall_mem_cons.mpr ⟨mz_7_f48, List.forall_mem_cons.mpr ⟨mz_7_f55, List.forall_mem_cons.mpr ⟨mz_7_f71, List.forall_mem_cons.mpr ⟨mz_7_f75, List.forall_mem_cons.mpr ⟨mz_7_f107, List.forall_mem_cons.mpr ⟨mz_7_f115, List.forall_mem_cons.mpr ⟨mz_7_f118, List.forall_mem_cons.mpr ⟨mz_7_f196, List.forall_mem_cons.mpr ⟨mz_7_f308, fun _ h => absurd h List.not_mem_nil⟩⟩⟩⟩⟩⟩⟩⟩⟩⟩⟩⟩⟩⟩⟩, List.forall_mem_cons.mpr ⟨mz_7_n34, List.forall_mem_cons.mpr ⟨mz_7_n43, List.forall_mem_cons.mpr ⟨mz_7_n52, fun _ h => absurd h List.not_mem_nil⟩⟩⟩, List.forall_mem_cons.mpr ⟨mz_7_a9, List.forall_mem_cons.mpr ⟨mz_7_a17, fun _ h => absurd h List.not_mem_nil⟩⟩, fun _ h => absurd h List.not_mem_nil, fun _ h => absurd h List.not_mem_nil, fun _ h => absurd h List.not_mem_nil, List.forall_mem_cons.mpr ⟨mz_7_m3, List.forall_mem_cons.mpr ⟨mz_7_m36, List.forall_mem_cons.mpr ⟨mz_7_m45, List.forall_mem_cons.mpr ⟨mz_7_m54, List.forall_mem_cons.mpr ⟨mz_7_m59, List.forall_mem_cons.mpr ⟨mz_7_m63, List.forall_mem_cons.mpr ⟨mz_7_m64, List.forall_mem_cons.mpr ⟨mz_7_m65, List.forall_mem_cons.mpr ⟨mz_7_m111, List.forall_mem_cons.mpr ⟨mz_7_m121, List.forall_mem_cons.mpr ⟨mz_7_m187, fun _ h => absurd h List.not_mem_nil⟩⟩⟩⟩⟩⟩⟩⟩⟩⟩⟩⟩
def mz_8 : im_Z := ([(11, 8, 1, 0), (17, 8, 2, 0), (21, 8, 4, 0), (24, 8, 5, 0), (27, 8, 8, 1), (30, 8, 0, 1), (48, 8, 3, 0), (62, 8, 6, 0), (65, 8, 7, 0)], [], [(9, 3)], [], [], [], [(0, 3, 0, 0), (1, 34, 49, 1), (5, 38, 102, 2), (5, 44, 100, 4), (10, 56, 0, 0)])
theorem mz_8_f11 : im_fF im_Ts mx_cl mx_R8 (11, 8, 1, 0) := ⟨(mx_R8, mx_T8, 9), rfl, by decide, im_in 433 (by decide +kernel) rfl, fun h => absurd h (by decide)⟩
theorem mz_8_f17 : im_fF im_Ts mx_cl mx_R8 (17, 8, 2, 0) := ⟨(mx_R8, mx_T8, 9), rfl, by decide, im_in 434 (by decide +kernel) rfl, fun h => absurd h (by decide)⟩
theorem mz_8_f21 : im_fF im_Ts mx_cl mx_R8 (21, 8, 4, 0) := ⟨(mx_R8, mx_T8, 9), rfl, by decide, im_in 437 (by decide +kernel) rfl, fun h => absurd h (by decide)⟩
theorem mz_8_f24 : im_fF im_Ts mx_cl mx_R8 (24, 8, 5, 0) := ⟨(mx_R8, mx_T8, 9), rfl, by decide, im_in 438 (by decide +kernel) rfl, fun h => absurd h (by decide)⟩
theorem mz_8_f27 : im_fF im_Ts mx_cl mx_R8 (27, 8, 8, 1) := ⟨(mx_R8, mx_T8, 9), rfl, by decide, im_in 444 (by decide +kernel) rfl, fun _ => ⟨by decide, fun _ => rfl⟩⟩
theorem mz_8_f30 : im_fF im_Ts mx_cl mx_R8 (30, 8, 0, 1) := ⟨(mx_R8, mx_T8, 9), rfl, by decide, im_in 432 (by decide +kernel) rfl, fun _ => ⟨by decide, fun _ => rfl⟩⟩
theorem mz_8_f48 : im_fF im_Ts mx_cl mx_R8 (48, 8, 3, 0) := ⟨(mx_R8, mx_T8, 9), rfl, by decide, im_in 435 (by decide +kernel) rfl, fun h => absurd h (by decide)⟩
theorem mz_8_f62 : im_fF im_Ts mx_cl mx_R8 (62, 8, 6, 0) := ⟨(mx_R8, mx_T8, 9), rfl, by decide, im_in 439 (by decide +kernel) rfl, fun h => absurd h (by decide)⟩
theorem mz_8_f65 : im_fF im_Ts mx_cl mx_R8 (65, 8, 7, 0) := ⟨(mx_R8, mx_T8, 9), rfl, by decide, im_in 442 (by decide +kernel) rfl, fun h => absurd h (by decide)⟩
theorem mz_8_a9 : im_fA im_Ts mx_cl mx_rA mx_R8 (9, 3) := ⟨(mx_R3, mx_T3, 9), rfl, by decide, im_in 431 (by decide +kernel) rfl⟩
theorem mz_8_m3 : im_fM im_Ts mx_nw mm_tb mx_R8 (0, 3, 0, 0) := fun y pc len v h => Or.inl ⟨rfl, 3, rfl, by rw [h]; exact im_in 430 (by decide +kernel) rfl⟩
theorem mz_8_m34 : im_fM im_Ts mx_nw mm_tb mx_R8 (1, 34, 49, 1) := fun y pc len v h => Or.inr (Or.inr (Or.inr (Or.inr (Or.inr (Or.inr ⟨im_m49, rfl, mm_a49, Or.inl ⟨rfl, 34, rfl, by rw [h]; exact im_in 549 (by decide +kernel) rfl, mm_i49, mm_s49⟩⟩)))))
theorem mz_8_m38 : im_fM im_Ts mx_nw mm_tb mx_R8 (5, 38, 102, 2) := fun y pc len v h => Or.inr (Or.inr (Or.inr (Or.inr (Or.inr (Or.inr ⟨im_m102, rfl, mm_a102, Or.inr (Or.inr (Or.inr (Or.inl ⟨rfl, 38, rfl, by rw [h]; exact im_in 553 (by decide +kernel) rfl, mm_t102⟩)))⟩)))))
theorem mz_8_m44 : im_fM im_Ts mx_nw mm_tb mx_R8 (5, 44, 100, 4) := fun y pc len v h => Or.inr (Or.inr (Or.inr (Or.inr (Or.inr (Or.inr ⟨im_m100, rfl, mm_a100, Or.inr (Or.inr (Or.inr (Or.inl ⟨rfl, 44, rfl, by rw [h]; exact im_in 839 (by decide +kernel) rfl, mm_t100⟩)))⟩)))))
theorem mz_8_m56 : im_fM im_Ts mx_nw mm_tb mx_R8 (10, 56, 0, 0) := fun y pc len v h => Or.inr (Or.inr (Or.inr (Or.inl ⟨rfl, 56, rfl, by rw [h]; exact im_in 838 (by decide +kernel) rfl, im_in 307 (by decide +kernel) rfl, im_in 308 (by decide +kernel) rfl, im_in 161 (by decide +kernel) rfl⟩)))
theorem mz_8_ok : im_zo im_Ts mx_nw mx_cl mx_rA mx_nf mm_tb mx_R8 mz_8 := ⟨List.forall_mem_cons.mpr ⟨mz_8_f11, List.forall_mem_cons.mpr ⟨mz_8_f17, List.forall_mem_cons.mpr ⟨mz_8_f21, List.forall_mem_cons.mpr ⟨mz_8_f24, List.forall_mem_cons.mpr ⟨mz_8_f27, List.forall_mem_cons.mpr ⟨mz_8_f30, List.forall_mem_cons.mpr ⟨mz_8_f48, List.forall_mem_cons.mpr ⟨mz_8_f62, List.forall_mem_cons.mpr ⟨mz_8_f65, fun _ h => absurd h List.not_mem_nil⟩⟩⟩⟩⟩⟩⟩⟩⟩, fun _ h => absurd h List.not_mem_nil, List.forall_mem_cons.mpr ⟨mz_8_a9, fun _ h => absurd h List.not_mem_nil⟩, fun _ h => absurd h List.not_mem_nil, fun _ h => absurd h List.not_mem_nil, fun _ h => absurd h List.not_mem_nil, List.forall_mem_cons.mpr ⟨mz_8_m3, List.forall_mem_cons.mpr ⟨mz_8_m34, List.forall_mem_cons.mpr ⟨mz_8_m38, List.forall_mem_cons.mpr ⟨mz_8_m44, List.forall_mem_cons.mpr ⟨mz_8_m56, fun _ h => absurd h List.not_mem_nil⟩⟩⟩⟩⟩⟩
def mz_9 : im_Z := ([(9, 9, 0, 1), (15, 9, 1, 0), (19, 9, 5, 0), (29, 9, 3, 0), (32, 9, 2, 0)], [], [], [], [], [], [(0, 3, 0, 0), (1, 22, 53, 0), (1, 25, 54, 0)])
theorem mz_9_f9 : im_fF im_Ts mx_cl mx_R9 (9, 9, 0, 1) := ⟨(mx_R9, mx_T9, 6), rfl, by decide, im_in 187 (by decide +kernel) rfl, fun _ => ⟨by decide, fun _ => rfl⟩⟩
theorem mz_9_f15 : im_fF im_Ts mx_cl mx_R9 (15, 9, 1, 0) := ⟨(mx_R9, mx_T9, 6), rfl, by decide, im_in 188 (by decide +kernel) rfl, fun h => absurd h (by decide)⟩
theorem mz_9_f19 : im_fF im_Ts mx_cl mx_R9 (19, 9, 5, 0) := ⟨(mx_R9, mx_T9, 6), rfl, by decide, im_in 196 (by decide +kernel) rfl, fun h => absurd h (by decide)⟩
theorem mz_9_f29 : im_fF im_Ts mx_cl mx_R9 (29, 9, 3, 0) := ⟨(mx_R9, mx_T9, 6), rfl, by decide, im_in 193 (by decide +kernel) rfl, fun h => absurd h (by decide)⟩
theorem mz_9_f32 : im_fF im_Ts mx_cl mx_R9 (32, 9, 2, 0) := ⟨(mx_R9, mx_T9, 6), rfl, by decide, im_in 191 (by decide +kernel) rfl, fun h => absurd h (by decide)⟩
theorem mz_9_m3 : im_fM im_Ts mx_nw mm_tb mx_R9 (0, 3, 0, 0) := fun y pc len v h => Or.inl ⟨rfl, 3, rfl, by rw [h]; exact im_in 186 (by decide +kernel) rfl⟩
theorem mz_9_m22 : im_fM im_Ts mx_nw mm_tb mx_R9 (1, 22, 53, 0) := fun y pc len v h => Or.inr (Or.inr (Or.inr (Or.inr (Or.inr (Or.inr ⟨im_m53, rfl, mm_a53, Or.inl ⟨rfl, 22, rfl, by rw [h]; exact im_in 700 (by decide +kernel) rfl, mm_i53, mm_s53⟩⟩)))))
theorem mz_9_m25 : im_fM im_Ts mx_nw mm_tb mx_R9 (1, 25, 54, 0) := fun y pc len v h => Or.inr (Or.inr (Or.inr (Or.inr (Or.inr (Or.inr ⟨im_m54, rfl, mm_a54, Or.inl ⟨rfl, 25, rfl, by rw [h]; exact im_in 704 (by decide +kernel) rfl, mm_i54, mm_s54⟩⟩)))))
theorem mz_9_ok : im_zo im_Ts mx_nw mx_cl mx_rA mx_nf mm_tb mx_R9 mz_9 := ⟨List.forall_mem_cons.mpr ⟨mz_9_f9, List.forall_mem_cons.mpr ⟨mz_9_f15, List.forall_mem_cons.mpr ⟨mz_9_f19, List.forall_mem_cons.mpr ⟨mz_9_f29, List.forall_mem_cons.mpr ⟨mz_9_f32, fun _ h => absurd h List.not_mem_nil⟩⟩⟩⟩⟩, fun _ h => absurd h List.not_mem_nil, fun _ h => absurd h List.not_mem_nil, fun _ h => absurd h List.not_mem_nil, fun _ h => absurd h List.not_mem_nil, fun _ h => absurd h List.not_mem_nil, List.forall_mem_cons.mpr ⟨mz_9_m3, List.forall_mem_cons.mpr ⟨mz_9_m22, List.forall_mem_cons.mpr ⟨mz_9_m25, fun _ h => absurd h List.not_mem_nil⟩⟩⟩⟩
def mz_10 : im_Z := ([(9, 10, 1, 0), (15, 10, 2, 0), (18, 10, 4, 0), (21, 10, 6, 0), (24, 10, 8, 0), (27, 10, 0, 1)], [], [], [], [], [], [(0, 3, 0, 0)])
theorem mz_10_f9 : im_fF im_Ts mx_cl mx_R10 (9, 10, 1, 0) := ⟨(mx_R10, mx_T10, 11), rfl, by decide, im_in 471 (by decide +kernel) rfl, fun h => absurd h (by decide)⟩
theorem mz_10_f15 : im_fF im_Ts mx_cl mx_R10 (15, 10, 2, 0) := ⟨(mx_R10, mx_T10, 11), rfl, by decide, im_in 472 (by decide +kernel) rfl, fun h => absurd h (by decide)⟩
theorem mz_10_f18 : im_fF im_Ts mx_cl mx_R10 (18, 10, 4, 0) := ⟨(mx_R10, mx_T10, 11), rfl, by decide, im_in 475 (by decide +kernel) rfl, fun h => absurd h (by decide)⟩
theorem mz_10_f21 : im_fF im_Ts mx_cl mx_R10 (21, 10, 6, 0) := ⟨(mx_R10, mx_T10, 11), rfl, by decide, im_in 477 (by decide +kernel) rfl, fun h => absurd h (by decide)⟩
theorem mz_10_f24 : im_fF im_Ts mx_cl mx_R10 (24, 10, 8, 0) := ⟨(mx_R10, mx_T10, 11), rfl, by decide, im_in 480 (by decide +kernel) rfl, fun h => absurd h (by decide)⟩
theorem mz_10_f27 : im_fF im_Ts mx_cl mx_R10 (27, 10, 0, 1) := ⟨(mx_R10, mx_T10, 11), rfl, by decide, im_in 470 (by decide +kernel) rfl, fun _ => ⟨by decide, fun _ => rfl⟩⟩
theorem mz_10_m3 : im_fM im_Ts mx_nw mm_tb mx_R10 (0, 3, 0, 0) := fun y pc len v h => Or.inl ⟨rfl, 3, rfl, by rw [h]; exact im_in 469 (by decide +kernel) rfl⟩
theorem mz_10_ok : im_zo im_Ts mx_nw mx_cl mx_rA mx_nf mm_tb mx_R10 mz_10 := ⟨List.forall_mem_cons.mpr ⟨mz_10_f9, List.forall_mem_cons.mpr ⟨mz_10_f15, List.forall_mem_cons.mpr ⟨mz_10_f18, List.forall_mem_cons.mpr ⟨mz_10_f21, List.forall_mem_cons.mpr ⟨mz_10_f24, List.forall_mem_cons.mpr ⟨mz_10_f27, fun _ h => absurd h List.not_mem_nil⟩⟩⟩⟩⟩⟩, fun _ h => absurd h List.not_mem_nil, fun _ h => absurd h List.not_mem_nil, fun _ h => absurd h List.not_mem_nil, fun _ h => absurd h List.not_mem_nil, fun _ h => absurd h List.not_mem_nil, List.forall_mem_cons.mpr ⟨mz_10_m3, fun _ h => absurd h List.not_mem_nil⟩⟩
def mz_11 : im_Z := ([(9, 11, 1, 1), (15, 11, 3, 1), (19, 11, 5, 1), (22, 11, 6, 1), (25, 11, 0, 1)], [], [], [], [], [], [(0, 3, 0, 0)])
theorem mz_11_f9 : im_fF im_Ts mx_cl mx_R11 (9, 11, 1, 1) := ⟨(mx_R11, mx_T11, 8), rfl, by decide, im_in 630 (by decide +kernel) rfl, fun _ => ⟨by decide, fun _ => rfl⟩⟩
theorem mz_11_f15 : im_fF im_Ts mx_cl mx_R11 (15, 11, 3, 1) := ⟨(mx_R11, mx_T11, 8), rfl, by decide, im_in 632 (by decide +kernel) rfl, fun _ => ⟨by decide, fun _ => rfl⟩⟩
theorem mz_11_f19 : im_fF im_Ts mx_cl mx_R11 (19, 11, 5, 1) := ⟨(mx_R11, mx_T11, 8), rfl, by decide, im_in 634 (by decide +kernel) rfl, fun _ => ⟨by decide, fun _ => rfl⟩⟩
theorem mz_11_f22 : im_fF im_Ts mx_cl mx_R11 (22, 11, 6, 1) := ⟨(mx_R11, mx_T11, 8), rfl, by decide, im_in 635 (by decide +kernel) rfl, fun _ => ⟨by decide, fun _ => rfl⟩⟩
theorem mz_11_f25 : im_fF im_Ts mx_cl mx_R11 (25, 11, 0, 1) := ⟨(mx_R11, mx_T11, 8), rfl, by decide, im_in 629 (by decide +kernel) rfl, fun _ => ⟨by decide, fun _ => rfl⟩⟩
theorem mz_11_m3 : im_fM im_Ts mx_nw mm_tb mx_R11 (0, 3, 0, 0) := fun y pc len v h => Or.inl ⟨rfl, 3, rfl, by rw [h]; exact im_in 628 (by decide +kernel) rfl⟩
theorem mz_11_ok : im_zo im_Ts mx_nw mx_cl mx_rA mx_nf mm_tb mx_R11 mz_11 := ⟨List.forall_mem_cons.mpr ⟨mz_11_f9, List.forall_mem_cons.mpr ⟨mz_11_f15, List.forall_mem_cons.mpr ⟨mz_11_f19, List.forall_mem_cons.mpr ⟨mz_11_f22, List.forall_mem_cons.mpr ⟨mz_11_f25, fun _ h => absurd h List.not_mem_nil⟩⟩⟩⟩⟩, fun _ h => absurd h List.not_mem_nil, fun _ h => absurd h List.not_mem_nil, fun _ h => absurd h List.not_mem_nil, fun _ h => absurd h List.not_mem_nil, fun _ h => absurd h List.not_mem_nil, List.forall_mem_cons.mpr ⟨mz_11_m3, fun _ h => absurd h List.not_mem_nil⟩⟩
def mz_12 : im_Z := ([(7, 12, 0, 1), (13, 12, 2, 1), (16, 12, 3, 1), (20, 12, 4, 1), (23, 12, 5, 1), (26, 12, 6, 1), (29, 12, 7, 1), (32, 12, 8, 1), (35, 12, 9, 1), (38, 12, 10, 1), (41, 12, 11, 1), (44, 12, 12, 1), (47, 12, 20, 1), (50, 12, 22, 1), (53, 12, 23, 1), (56, 12, 24, 1), (59, 12, 26, 1), (62, 12, 28, 1), (65, 12, 30, 1), (68, 12, 31, 1), (71, 12, 39, 1), (74, 12, 40, 1), (77, 12, 41, 1), (80, 12, 43, 1), (83, 12, 45, 1), (86, 12, 46, 1), (89, 12, 47, 1), (92, 12, 48, 1), (95, 12, 49, 1), (98, 12, 50, 1), (101, 12, 53, 1), (104, 12, 54, 1), (107, 12, 55, 1), (110, 12, 56, 1), (113, 12, 57, 1), (116, 12, 58, 1), (120, 12, 60, 1), (123, 12, 61, 1), (126, 12, 62, 1), (129, 12, 63, 1), (132, 12, 65, 1), (135, 12, 67, 1), (138, 12, 69, 1), (141, 12, 71, 1), (149, 12, 14, 0), (153, 12, 1, 0), (156, 12, 17, 0), (174, 12, 15, 0), (181, 12, 16, 0), (195, 12, 18, 0), (198, 12, 19, 0), (201, 12, 21, 0), (215, 12, 25, 0), (263, 12, 13, 0), (266, 12, 27, 0), (318, 12, 29, 0), (352, 12, 32, 0), (355, 12, 33, 0), (358, 12, 34, 0), (361, 12, 35, 0), (364, 12, 36, 0), (367, 12, 37, 0), (370, 12, 38, 0), (373, 12, 42, 0), (376, 12, 44, 0), (379, 12, 51, 0), (382, 12, 52, 0), (385, 12, 59, 0), (587, 12, 70, 0)], [], [], [(119, 50000)], [(388, (-1)), (390, 2305843009213693952)], [], [(0, 1, 0, 0), (1, 144, 85, 0), (1, 160, 60, 0), (1, 204, 62, 0), (1, 222, 61, 0), (1, 243, 63, 2), (1, 257, 64, 2), (1, 260, 67, 0), (1, 275, 65, 1), (1, 279, 66, 0), (5, 285, 59, 3), (1, 289, 68, 1), (1, 292, 72, 4), (1, 296, 73, 0), (1, 299, 74, 1), (1, 327, 79, 0), (1, 330, 80, 0), (1, 545, 86, 1), (1, 575, 90, 1), (1, 578, 91, 0), (1, 581, 93, 1)])
theorem mz_12_f7 : im_fF im_Ts mx_cl mx_R12 (7, 12, 0, 1) := ⟨(mx_R12, mx_T12, 74), rfl, by decide, im_in 1403 (by decide +kernel) rfl, fun _ => ⟨by decide, fun _ => rfl⟩⟩
theorem mz_12_f13 : im_fF im_Ts mx_cl mx_R12 (13, 12, 2, 1) := ⟨(mx_R12, mx_T12, 74), rfl, by decide, im_in 1405 (by decide +kernel) rfl, fun _ => ⟨by decide, fun _ => rfl⟩⟩
theorem mz_12_f16 : im_fF im_Ts mx_cl mx_R12 (16, 12, 3, 1) := ⟨(mx_R12, mx_T12, 74), rfl, by decide, im_in 1406 (by decide +kernel) rfl, fun _ => ⟨by decide, fun _ => rfl⟩⟩
theorem mz_12_f20 : im_fF im_Ts mx_cl mx_R12 (20, 12, 4, 1) := ⟨(mx_R12, mx_T12, 74), rfl, by decide, im_in 1407 (by decide +kernel) rfl, fun _ => ⟨by decide, fun _ => rfl⟩⟩
theorem mz_12_f23 : im_fF im_Ts mx_cl mx_R12 (23, 12, 5, 1) := ⟨(mx_R12, mx_T12, 74), rfl, by decide, im_in 1408 (by decide +kernel) rfl, fun _ => ⟨by decide, fun _ => rfl⟩⟩
theorem mz_12_f26 : im_fF im_Ts mx_cl mx_R12 (26, 12, 6, 1) := ⟨(mx_R12, mx_T12, 74), rfl, by decide, im_in 1409 (by decide +kernel) rfl, fun _ => ⟨by decide, fun _ => rfl⟩⟩
theorem mz_12_f29 : im_fF im_Ts mx_cl mx_R12 (29, 12, 7, 1) := ⟨(mx_R12, mx_T12, 74), rfl, by decide, im_in 1410 (by decide +kernel) rfl, fun _ => ⟨by decide, fun _ => rfl⟩⟩
theorem mz_12_f32 : im_fF im_Ts mx_cl mx_R12 (32, 12, 8, 1) := ⟨(mx_R12, mx_T12, 74), rfl, by decide, im_in 1411 (by decide +kernel) rfl, fun _ => ⟨by decide, fun _ => rfl⟩⟩
theorem mz_12_f35 : im_fF im_Ts mx_cl mx_R12 (35, 12, 9, 1) := ⟨(mx_R12, mx_T12, 74), rfl, by decide, im_in 1412 (by decide +kernel) rfl, fun _ => ⟨by decide, fun _ => rfl⟩⟩
theorem mz_12_f38 : im_fF im_Ts mx_cl mx_R12 (38, 12, 10, 1) := ⟨(mx_R12, mx_T12, 74), rfl, by decide, im_in 1413 (by decide +kernel) rfl, fun _ => ⟨by decide, fun _ => rfl⟩⟩
theorem mz_12_f41 : im_fF im_Ts mx_cl mx_R12 (41, 12, 11, 1) := ⟨(mx_R12, mx_T12, 74), rfl, by decide, im_in 1414 (by decide +kernel) rfl, fun _ => ⟨by decide, fun _ => rfl⟩⟩
theorem mz_12_f44 : im_fF im_Ts mx_cl mx_R12 (44, 12, 12, 1) := ⟨(mx_R12, mx_T12, 74), rfl, by decide, im_in 1415 (by decide +kernel) rfl, fun _ => ⟨by decide, fun _ => rfl⟩⟩
theorem mz_12_f47 : im_fF im_Ts mx_cl mx_R12 (47, 12, 20, 1) := ⟨(mx_R12, mx_T12, 74), rfl, by decide, im_in 1423 (by decide +kernel) rfl, fun _ => ⟨by decide, fun _ => rfl⟩⟩
theorem mz_12_f50 : im_fF im_Ts mx_cl mx_R12 (50, 12, 22, 1) := ⟨(mx_R12, mx_T12, 74), rfl, by decide, im_in 1425 (by decide +kernel) rfl, fun _ => ⟨by decide, fun _ => rfl⟩⟩
theorem mz_12_f53 : im_fF im_Ts mx_cl mx_R12 (53, 12, 23, 1) := ⟨(mx_R12, mx_T12, 74), rfl, by decide, im_in 1426 (by decide +kernel) rfl, fun _ => ⟨by decide, fun _ => rfl⟩⟩
theorem mz_12_f56 : im_fF im_Ts mx_cl mx_R12 (56, 12, 24, 1) := ⟨(mx_R12, mx_T12, 74), rfl, by decide, im_in 1427 (by decide +kernel) rfl, fun _ => ⟨by decide, fun _ => rfl⟩⟩
theorem mz_12_f59 : im_fF im_Ts mx_cl mx_R12 (59, 12, 26, 1) := ⟨(mx_R12, mx_T12, 74), rfl, by decide, im_in 1429 (by decide +kernel) rfl, fun _ => ⟨by decide, fun _ => rfl⟩⟩
theorem mz_12_f62 : im_fF im_Ts mx_cl mx_R12 (62, 12, 28, 1) := ⟨(mx_R12, mx_T12, 74), rfl, by decide, im_in 1431 (by decide +kernel) rfl, fun _ => ⟨by decide, fun _ => rfl⟩⟩
theorem mz_12_f65 : im_fF im_Ts mx_cl mx_R12 (65, 12, 30, 1) := ⟨(mx_R12, mx_T12, 74), rfl, by decide, im_in 1433 (by decide +kernel) rfl, fun _ => ⟨by decide, fun _ => rfl⟩⟩
theorem mz_12_f68 : im_fF im_Ts mx_cl mx_R12 (68, 12, 31, 1) := ⟨(mx_R12, mx_T12, 74), rfl, by decide, im_in 1434 (by decide +kernel) rfl, fun _ => ⟨by decide, fun _ => rfl⟩⟩
theorem mz_12_f71 : im_fF im_Ts mx_cl mx_R12 (71, 12, 39, 1) := ⟨(mx_R12, mx_T12, 74), rfl, by decide, im_in 1442 (by decide +kernel) rfl, fun _ => ⟨by decide, fun _ => rfl⟩⟩
theorem mz_12_f74 : im_fF im_Ts mx_cl mx_R12 (74, 12, 40, 1) := ⟨(mx_R12, mx_T12, 74), rfl, by decide, im_in 1443 (by decide +kernel) rfl, fun _ => ⟨by decide, fun _ => rfl⟩⟩
theorem mz_12_f77 : im_fF im_Ts mx_cl mx_R12 (77, 12, 41, 1) := ⟨(mx_R12, mx_T12, 74), rfl, by decide, im_in 1444 (by decide +kernel) rfl, fun _ => ⟨by decide, fun _ => rfl⟩⟩
theorem mz_12_f80 : im_fF im_Ts mx_cl mx_R12 (80, 12, 43, 1) := ⟨(mx_R12, mx_T12, 74), rfl, by decide, im_in 1446 (by decide +kernel) rfl, fun _ => ⟨by decide, fun _ => rfl⟩⟩
theorem mz_12_f83 : im_fF im_Ts mx_cl mx_R12 (83, 12, 45, 1) := ⟨(mx_R12, mx_T12, 74), rfl, by decide, im_in 1448 (by decide +kernel) rfl, fun _ => ⟨by decide, fun _ => rfl⟩⟩
theorem mz_12_f86 : im_fF im_Ts mx_cl mx_R12 (86, 12, 46, 1) := ⟨(mx_R12, mx_T12, 74), rfl, by decide, im_in 1449 (by decide +kernel) rfl, fun _ => ⟨by decide, fun _ => rfl⟩⟩
theorem mz_12_f89 : im_fF im_Ts mx_cl mx_R12 (89, 12, 47, 1) := ⟨(mx_R12, mx_T12, 74), rfl, by decide, im_in 1450 (by decide +kernel) rfl, fun _ => ⟨by decide, fun _ => rfl⟩⟩
theorem mz_12_f92 : im_fF im_Ts mx_cl mx_R12 (92, 12, 48, 1) := ⟨(mx_R12, mx_T12, 74), rfl, by decide, im_in 1451 (by decide +kernel) rfl, fun _ => ⟨by decide, fun _ => rfl⟩⟩
theorem mz_12_f95 : im_fF im_Ts mx_cl mx_R12 (95, 12, 49, 1) := ⟨(mx_R12, mx_T12, 74), rfl, by decide, im_in 1452 (by decide +kernel) rfl, fun _ => ⟨by decide, fun _ => rfl⟩⟩
theorem mz_12_f98 : im_fF im_Ts mx_cl mx_R12 (98, 12, 50, 1) := ⟨(mx_R12, mx_T12, 74), rfl, by decide, im_in 1453 (by decide +kernel) rfl, fun _ => ⟨by decide, fun _ => rfl⟩⟩
theorem mz_12_f101 : im_fF im_Ts mx_cl mx_R12 (101, 12, 53, 1) := ⟨(mx_R12, mx_T12, 74), rfl, by decide, im_in 1456 (by decide +kernel) rfl, fun _ => ⟨by decide, fun _ => rfl⟩⟩
theorem mz_12_f104 : im_fF im_Ts mx_cl mx_R12 (104, 12, 54, 1) := ⟨(mx_R12, mx_T12, 74), rfl, by decide, im_in 1457 (by decide +kernel) rfl, fun _ => ⟨by decide, fun _ => rfl⟩⟩
theorem mz_12_f107 : im_fF im_Ts mx_cl mx_R12 (107, 12, 55, 1) := ⟨(mx_R12, mx_T12, 74), rfl, by decide, im_in 1458 (by decide +kernel) rfl, fun _ => ⟨by decide, fun _ => rfl⟩⟩
theorem mz_12_f110 : im_fF im_Ts mx_cl mx_R12 (110, 12, 56, 1) := ⟨(mx_R12, mx_T12, 74), rfl, by decide, im_in 1459 (by decide +kernel) rfl, fun _ => ⟨by decide, fun _ => rfl⟩⟩
theorem mz_12_f113 : im_fF im_Ts mx_cl mx_R12 (113, 12, 57, 1) := ⟨(mx_R12, mx_T12, 74), rfl, by decide, im_in 1460 (by decide +kernel) rfl, fun _ => ⟨by decide, fun _ => rfl⟩⟩
theorem mz_12_f116 : im_fF im_Ts mx_cl mx_R12 (116, 12, 58, 1) := ⟨(mx_R12, mx_T12, 74), rfl, by decide, im_in 1461 (by decide +kernel) rfl, fun _ => ⟨by decide, fun _ => rfl⟩⟩
theorem mz_12_f120 : im_fF im_Ts mx_cl mx_R12 (120, 12, 60, 1) := ⟨(mx_R12, mx_T12, 74), rfl, by decide, im_in 1463 (by decide +kernel) rfl, fun _ => ⟨by decide, fun _ => rfl⟩⟩
theorem mz_12_f123 : im_fF im_Ts mx_cl mx_R12 (123, 12, 61, 1) := ⟨(mx_R12, mx_T12, 74), rfl, by decide, im_in 1464 (by decide +kernel) rfl, fun _ => ⟨by decide, fun _ => rfl⟩⟩
theorem mz_12_f126 : im_fF im_Ts mx_cl mx_R12 (126, 12, 62, 1) := ⟨(mx_R12, mx_T12, 74), rfl, by decide, im_in 1465 (by decide +kernel) rfl, fun _ => ⟨by decide, fun _ => rfl⟩⟩
theorem mz_12_f129 : im_fF im_Ts mx_cl mx_R12 (129, 12, 63, 1) := ⟨(mx_R12, mx_T12, 74), rfl, by decide, im_in 1466 (by decide +kernel) rfl, fun _ => ⟨by decide, fun _ => rfl⟩⟩
theorem mz_12_f132 : im_fF im_Ts mx_cl mx_R12 (132, 12, 65, 1) := ⟨(mx_R12, mx_T12, 74), rfl, by decide, im_in 1468 (by decide +kernel) rfl, fun _ => ⟨by decide, fun _ => rfl⟩⟩
theorem mz_12_f135 : im_fF im_Ts mx_cl mx_R12 (135, 12, 67, 1) := ⟨(mx_R12, mx_T12, 74), rfl, by decide, im_in 1470 (by decide +kernel) rfl, fun _ => ⟨by decide, fun _ => rfl⟩⟩
theorem mz_12_f138 : im_fF im_Ts mx_cl mx_R12 (138, 12, 69, 1) := ⟨(mx_R12, mx_T12, 74), rfl, by decide, im_in 1472 (by decide +kernel) rfl, fun _ => ⟨by decide, fun _ => rfl⟩⟩
theorem mz_12_f141 : im_fF im_Ts mx_cl mx_R12 (141, 12, 71, 1) := ⟨(mx_R12, mx_T12, 74), rfl, by decide, im_in 1474 (by decide +kernel) rfl, fun _ => ⟨by decide, fun _ => rfl⟩⟩
theorem mz_12_f149 : im_fF im_Ts mx_cl mx_R12 (149, 12, 14, 0) := ⟨(mx_R12, mx_T12, 74), rfl, by decide, im_in 1417 (by decide +kernel) rfl, fun h => absurd h (by decide)⟩
theorem mz_12_f153 : im_fF im_Ts mx_cl mx_R12 (153, 12, 1, 0) := ⟨(mx_R12, mx_T12, 74), rfl, by decide, im_in 1404 (by decide +kernel) rfl, fun h => absurd h (by decide)⟩
theorem mz_12_f156 : im_fF im_Ts mx_cl mx_R12 (156, 12, 17, 0) := ⟨(mx_R12, mx_T12, 74), rfl, by decide, im_in 1420 (by decide +kernel) rfl, fun h => absurd h (by decide)⟩
theorem mz_12_f174 : im_fF im_Ts mx_cl mx_R12 (174, 12, 15, 0) := ⟨(mx_R12, mx_T12, 74), rfl, by decide, im_in 1418 (by decide +kernel) rfl, fun h => absurd h (by decide)⟩
theorem mz_12_f181 : im_fF im_Ts mx_cl mx_R12 (181, 12, 16, 0) := ⟨(mx_R12, mx_T12, 74), rfl, by decide, im_in 1419 (by decide +kernel) rfl, fun h => absurd h (by decide)⟩
theorem mz_12_f195 : im_fF im_Ts mx_cl mx_R12 (195, 12, 18, 0) := ⟨(mx_R12, mx_T12, 74), rfl, by decide, im_in 1421 (by decide +kernel) rfl, fun h => absurd h (by decide)⟩
theorem mz_12_f198 : im_fF im_Ts mx_cl mx_R12 (198, 12, 19, 0) := ⟨(mx_R12, mx_T12, 74), rfl, by decide, im_in 1422 (by decide +kernel) rfl, fun h => absurd h (by decide)⟩
theorem mz_12_f201 : im_fF im_Ts mx_cl mx_R12 (201, 12, 21, 0) := ⟨(mx_R12, mx_T12, 74), rfl, by decide, im_in 1424 (by decide +kernel) rfl, fun h => absurd h (by decide)⟩
theorem mz_12_f215 : im_fF im_Ts mx_cl mx_R12 (215, 12, 25, 0) := ⟨(mx_R12, mx_T12, 74), rfl, by decide, im_in 1428 (by decide +kernel) rfl, fun h => absurd h (by decide)⟩
theorem mz_12_f263 : im_fF im_Ts mx_cl mx_R12 (263, 12, 13, 0) := ⟨(mx_R12, mx_T12, 74), rfl, by decide, im_in 1416 (by decide +kernel) rfl, fun h => absurd h (by decide)⟩
theorem mz_12_f266 : im_fF im_Ts mx_cl mx_R12 (266, 12, 27, 0) := ⟨(mx_R12, mx_T12, 74), rfl, by decide, im_in 1430 (by decide +kernel) rfl, fun h => absurd h (by decide)⟩
theorem mz_12_f318 : im_fF im_Ts mx_cl mx_R12 (318, 12, 29, 0) := ⟨(mx_R12, mx_T12, 74), rfl, by decide, im_in 1432 (by decide +kernel) rfl, fun h => absurd h (by decide)⟩
theorem mz_12_f352 : im_fF im_Ts mx_cl mx_R12 (352, 12, 32, 0) := ⟨(mx_R12, mx_T12, 74), rfl, by decide, im_in 1435 (by decide +kernel) rfl, fun h => absurd h (by decide)⟩
theorem mz_12_f355 : im_fF im_Ts mx_cl mx_R12 (355, 12, 33, 0) := ⟨(mx_R12, mx_T12, 74), rfl, by decide, im_in 1436 (by decide +kernel) rfl, fun h => absurd h (by decide)⟩
theorem mz_12_f358 : im_fF im_Ts mx_cl mx_R12 (358, 12, 34, 0) := ⟨(mx_R12, mx_T12, 74), rfl, by decide, im_in 1437 (by decide +kernel) rfl, fun h => absurd h (by decide)⟩
theorem mz_12_f361 : im_fF im_Ts mx_cl mx_R12 (361, 12, 35, 0) := ⟨(mx_R12, mx_T12, 74), rfl, by decide, im_in 1438 (by decide +kernel) rfl, fun h => absurd h (by decide)⟩
theorem mz_12_f364 : im_fF im_Ts mx_cl mx_R12 (364, 12, 36, 0) := ⟨(mx_R12, mx_T12, 74), rfl, by decide, im_in 1439 (by decide +kernel) rfl, fun h => absurd h (by decide)⟩
theorem mz_12_f367 : im_fF im_Ts mx_cl mx_R12 (367, 12, 37, 0) := ⟨(mx_R12, mx_T12, 74), rfl, by decide, im_in 1440 (by decide +kernel) rfl, fun h => absurd h (by decide)⟩
theorem mz_12_f370 : im_fF im_Ts mx_cl mx_R12 (370, 12, 38, 0) := ⟨(mx_R12, mx_T12, 74), rfl, by decide, im_in 1441 (by decide +kernel) rfl, fun h => absurd h (by decide)⟩
theorem mz_12_f373 : im_fF im_Ts mx_cl mx_R12 (373, 12, 42, 0) := ⟨(mx_R12, mx_T12, 74), rfl, by decide, im_in 1445 (by decide +kernel) rfl, fun h => absurd h (by decide)⟩
theorem mz_12_f376 : im_fF im_Ts mx_cl mx_R12 (376, 12, 44, 0) := ⟨(mx_R12, mx_T12, 74), rfl, by decide, im_in 1447 (by decide +kernel) rfl, fun h => absurd h (by decide)⟩
theorem mz_12_f379 : im_fF im_Ts mx_cl mx_R12 (379, 12, 51, 0) := ⟨(mx_R12, mx_T12, 74), rfl, by decide, im_in 1454 (by decide +kernel) rfl, fun h => absurd h (by decide)⟩
theorem mz_12_f382 : im_fF im_Ts mx_cl mx_R12 (382, 12, 52, 0) := ⟨(mx_R12, mx_T12, 74), rfl, by decide, im_in 1455 (by decide +kernel) rfl, fun h => absurd h (by decide)⟩
theorem mz_12_f385 : im_fF im_Ts mx_cl mx_R12 (385, 12, 59, 0) := ⟨(mx_R12, mx_T12, 74), rfl, by decide, im_in 1462 (by decide +kernel) rfl, fun h => absurd h (by decide)⟩
theorem mz_12_f587 : im_fF im_Ts mx_cl mx_R12 (587, 12, 70, 0) := ⟨(mx_R12, mx_T12, 74), rfl, by decide, im_in 1473 (by decide +kernel) rfl, fun h => absurd h (by decide)⟩
theorem mz_12_i119 : im_fI im_Ts mx_R12 (119, 50000) := im_in 1397 (by decide +kernel) rfl
theorem mz_12_l388 : im_fL im_Ts mx_R12 (388, (-1)) := im_in 1402 (by decide +kernel) rfl
theorem mz_12_l390 : im_fL im_Ts mx_R12 (390, 2305843009213693952) := im_in 1904 (by decide +kernel) rfl
theorem mz_12_m1 : im_fM im_Ts mx_nw mm_tb mx_R12 (0, 1, 0, 0) := fun y pc len v h => Or.inl ⟨rfl, 1, rfl, by rw [h]; exact im_in 1396 (by decide +kernel) rfl⟩
theorem mz_12_m144 : im_fM im_Ts mx_nw mm_tb mx_R12 (1, 144, 85, 0) := fun y pc len v h => Or.inr (Or.inr (Or.inr (Or.inr (Or.inr (Or.inr ⟨im_m85, rfl, mm_a85, Or.inl ⟨rfl, 144, rfl, by rw [h]; exact im_in 1398 (by decide +kernel) rfl, mm_i85, mm_s85⟩⟩)))))
theorem mz_12_m160 : im_fM im_Ts mx_nw mm_tb mx_R12 (1, 160, 60, 0) := fun y pc len v h => Or.inr (Or.inr (Or.inr (Or.inr (Or.inr (Or.inr ⟨im_m60, rfl, mm_a60, Or.inl ⟨rfl, 160, rfl, by rw [h]; exact im_in 1649 (by decide +kernel) rfl, mm_i60, mm_s60⟩⟩)))))
theorem mz_12_m204 : im_fM im_Ts mx_nw mm_tb mx_R12 (1, 204, 62, 0) := fun y pc len v h => Or.inr (Or.inr (Or.inr (Or.inr (Or.inr (Or.inr ⟨im_m62, rfl, mm_a62, Or.inl ⟨rfl, 204, rfl, by rw [h]; exact im_in 1711 (by decide +kernel) rfl, mm_i62, mm_s62⟩⟩)))))
theorem mz_12_m222 : im_fM im_Ts mx_nw mm_tb mx_R12 (1, 222, 61, 0) := fun y pc len v h => Or.inr (Or.inr (Or.inr (Or.inr (Or.inr (Or.inr ⟨im_m61, rfl, mm_a61, Or.inl ⟨rfl, 222, rfl, by rw [h]; exact im_in 1645 (by decide +kernel) rfl, mm_i61, mm_s61⟩⟩)))))
theorem mz_12_m243 : im_fM im_Ts mx_nw mm_tb mx_R12 (1, 243, 63, 2) := fun y pc len v h => Or.inr (Or.inr (Or.inr (Or.inr (Or.inr (Or.inr ⟨im_m63, rfl, mm_a63, Or.inl ⟨rfl, 243, rfl, by rw [h]; exact im_in 1689 (by decide +kernel) rfl, mm_i63, mm_s63⟩⟩)))))
theorem mz_12_m257 : im_fM im_Ts mx_nw mm_tb mx_R12 (1, 257, 64, 2) := fun y pc len v h => Or.inr (Or.inr (Or.inr (Or.inr (Or.inr (Or.inr ⟨im_m64, rfl, mm_a64, Or.inl ⟨rfl, 257, rfl, by rw [h]; exact im_in 1685 (by decide +kernel) rfl, mm_i64, mm_s64⟩⟩)))))
theorem mz_12_m260 : im_fM im_Ts mx_nw mm_tb mx_R12 (1, 260, 67, 0) := fun y pc len v h => Or.inr (Or.inr (Or.inr (Or.inr (Or.inr (Or.inr ⟨im_m67, rfl, mm_a67, Or.inl ⟨rfl, 260, rfl, by rw [h]; exact im_in 1740 (by decide +kernel) rfl, mm_i67, mm_s67⟩⟩)))))
theorem mz_12_m275 : im_fM im_Ts mx_nw mm_tb mx_R12 (1, 275, 65, 1) := fun y pc len v h => Or.inr (Or.inr (Or.inr (Or.inr (Or.inr (Or.inr ⟨im_m65, rfl, mm_a65, Or.inl ⟨rfl, 275, rfl, by rw [h]; exact im_in 1677 (by decide +kernel) rfl, mm_i65, mm_s65⟩⟩)))))
theorem mz_12_m279 : im_fM im_Ts mx_nw mm_tb mx_R12 (1, 279, 66, 0) := fun y pc len v h => Or.inr (Or.inr (Or.inr (Or.inr (Or.inr (Or.inr ⟨im_m66, rfl, mm_a66, Or.inl ⟨rfl, 279, rfl, by rw [h]; exact im_in 1681 (by decide +kernel) rfl, mm_i66, mm_s66⟩⟩)))))
theorem mz_12_m285 : im_fM im_Ts mx_nw mm_tb mx_R12 (5, 285, 59, 3) := fun y pc len v h => Or.inr (Or.inr (Or.inr (Or.inr (Or.inr (Or.inr ⟨im_m59, rfl, mm_a59, Or.inr (Or.inr (Or.inr (Or.inl ⟨rfl, 285, rfl, by rw [h]; exact im_in 1630 (by decide +kernel) rfl, mm_t59⟩)))⟩)))))
theorem mz_12_m289 : im_fM im_Ts mx_nw mm_tb mx_R12 (1, 289, 68, 1) := fun y pc len v h => Or.inr (Or.inr (Or.inr (Or.inr (Or.inr (Or.inr ⟨im_m68, rfl, mm_a68, Or.inl ⟨rfl, 289, rfl, by rw [h]; exact im_in 1641 (by decide +kernel) rfl, mm_i68, mm_s68⟩⟩)))))
theorem mz_12_m292 : im_fM im_Ts mx_nw mm_tb mx_R12 (1, 292, 72, 4) := fun y pc len v h => Or.inr (Or.inr (Or.inr (Or.inr (Or.inr (Or.inr ⟨im_m72, rfl, mm_a72, Or.inl ⟨rfl, 292, rfl, by rw [h]; exact im_in 1764 (by decide +kernel) rfl, mm_i72, mm_s72⟩⟩)))))
theorem mz_12_m296 : im_fM im_Ts mx_nw mm_tb mx_R12 (1, 296, 73, 0) := fun y pc len v h => Or.inr (Or.inr (Or.inr (Or.inr (Or.inr (Or.inr ⟨im_m73, rfl, mm_a73, Or.inl ⟨rfl, 296, rfl, by rw [h]; exact im_in 1760 (by decide +kernel) rfl, mm_i73, mm_s73⟩⟩)))))
theorem mz_12_m299 : im_fM im_Ts mx_nw mm_tb mx_R12 (1, 299, 74, 1) := fun y pc len v h => Or.inr (Or.inr (Or.inr (Or.inr (Or.inr (Or.inr ⟨im_m74, rfl, mm_a74, Or.inl ⟨rfl, 299, rfl, by rw [h]; exact im_in 1772 (by decide +kernel) rfl, mm_i74, mm_s74⟩⟩)))))
theorem mz_12_m327 : im_fM im_Ts mx_nw mm_tb mx_R12 (1, 327, 79, 0) := fun y pc len v h => Or.inr (Or.inr (Or.inr (Or.inr (Or.inr (Or.inr ⟨im_m79, rfl, mm_a79, Or.inl ⟨rfl, 327, rfl, by rw [h]; exact im_in 1788 (by decide +kernel) rfl, mm_i79, mm_s79⟩⟩)))))
theorem mz_12_m330 : im_fM im_Ts mx_nw mm_tb mx_R12 (1, 330, 80, 0) := fun y pc len v h => Or.inr (Or.inr (Or.inr (Or.inr (Or.inr (Or.inr ⟨im_m80, rfl, mm_a80, Or.inl ⟨rfl, 330, rfl, by rw [h]; exact im_in 1804 (by decide +kernel) rfl, mm_i80, mm_s80⟩⟩)))))
theorem mz_12_m545 : im_fM im_Ts mx_nw mm_tb mx_R12 (1, 545, 86, 1) := fun y pc len v h => Or.inr (Or.inr (Or.inr (Or.inr (Or.inr (Or.inr ⟨im_m86, rfl, mm_a86, Or.inl ⟨rfl, 545, rfl, by rw [h]; exact im_in 1967 (by decide +kernel) rfl, mm_i86, mm_s86⟩⟩)))))
theorem mz_12_m575 : im_fM im_Ts mx_nw mm_tb mx_R12 (1, 575, 90, 1) := fun y pc len v h => Or.inr (Or.inr (Or.inr (Or.inr (Or.inr (Or.inr ⟨im_m90, rfl, mm_a90, Or.inl ⟨rfl, 575, rfl, by rw [h]; exact im_in 2057 (by decide +kernel) rfl, mm_i90, mm_s90⟩⟩)))))
theorem mz_12_m578 : im_fM im_Ts mx_nw mm_tb mx_R12 (1, 578, 91, 0) := fun y pc len v h => Or.inr (Or.inr (Or.inr (Or.inr (Or.inr (Or.inr ⟨im_m91, rfl, mm_a91, Or.inl ⟨rfl, 578, rfl, by rw [h]; exact im_in 2069 (by decide +kernel) rfl, mm_i91, mm_s91⟩⟩)))))
theorem mz_12_m581 : im_fM im_Ts mx_nw mm_tb mx_R12 (1, 581, 93, 1) := fun y pc len v h => Or.inr (Or.inr (Or.inr (Or.inr (Or.inr (Or.inr ⟨im_m93, rfl, mm_a93, Or.inl ⟨rfl, 581, rfl, by rw [h]; exact im_in 2077 (by decide +kernel) rfl, mm_i93, mm_s93⟩⟩)))))
theorem mz_12_ok : im_zo im_Ts mx_nw mx_cl mx_rA mx_nf mm_tb mx_R12 mz_12 := ⟨List.forall_mem_cons.mpr ⟨mz_12_f7, List.forall_mem_cons.mpr ⟨mz_12_f13, List.forall_mem_cons.mpr ⟨mz_12_f16, List.forall_mem_cons.mpr ⟨mz_12_f20, List.forall_mem_cons.mpr ⟨mz_12_f23, List.forall_mem_cons.mpr ⟨mz_12_f26, List.forall_mem_cons.mpr ⟨mz_12_f29, List.forall_mem_cons.mpr ⟨mz_12_f32, List.forall_mem_cons.mpr ⟨mz_12_f35, List.forall_mem_cons.mpr ⟨mz_12_f38, List.forall_mem_cons.mpr ⟨mz_12_f41, List.forall_mem_cons.mpr ⟨mz_12_f44, List.forall_mem_cons.mpr ⟨mz_12_f47, List.forall_mem_cons.mpr ⟨mz_12_f50, List.forall_mem_cons.mpr ⟨mz_12_f53, List.forall_mem_cons.mpr ⟨mz_12_f56, List.forall_mem_cons.mpr ⟨mz_12_f59, List.forall_mem_cons.mpr ⟨mz_12_f62, List.forall_mem_cons.mpr ⟨mz_12_f65, List.forall_mem_cons.mpr ⟨mz_12_f68, List.forall_mem_cons.mpr ⟨mz_12_f71, List.forall_mem_cons.mpr ⟨mz_12_f74, List.forall_mem_cons.mpr ⟨mz_12_f77, List.forall_mem_cons.mpr ⟨mz_12_f80, List.forall_mem_cons.mpr ⟨mz_12_f83, List.forall_mem_cons.mpr ⟨mz_12_f86, List.forall_mem_cons.mpr ⟨mz_12_f89, List.forall_mem_cons.mpr ⟨mz_12_f92, List.forall_mem_cons.mpr ⟨mz_12_f95, List.forall_mem_cons.mpr ⟨mz_12_f98, List.forall_mem_cons.mpr ⟨mz_12_f101, List.forall_mem_cons.mpr ⟨mz_12_f104, List.forall_mem_cons.mpr ⟨mz_12_f107, List.forall_mem_cons.mpr ⟨mz_12_f110, List.forall_mem_cons.mpr ⟨mz_12_f113, List.forall_mem_cons.mpr ⟨mz_12_f116, List.forall_mem_cons.mpr ⟨mz_12_f120, List.forall_mem_cons.mpr ⟨mz_12_f123, List.forall_mem_cons.mpr ⟨mz_12_f126, List.forall_mem_cons.mpr ⟨mz_12_f129, List.forall_mem_cons.mpr ⟨mz_12_f132, List.forall_mem_cons.mpr ⟨mz_12_f135, List.forall_mem_cons.mpr ⟨mz_12_f138, List.forall_mem_cons.mpr ⟨mz_12_f141, List.forall_mem_cons.mpr ⟨mz_12_f149, List.forall_mem_cons.mpr ⟨mz_12_f153, List.forall_mem_cons.mpr ⟨mz_12_f156, List.forall_mem_cons.mpr ⟨mz_12_f174, List.forall_mem_cons.mpr ⟨mz_12_f181, List.forall_mem_cons.mpr ⟨mz_12_f195, List.forall_mem_cons.mpr ⟨mz_12_f198, List.forall_mem_cons.mpr ⟨mz_12_f201, List.forall_mem_cons.mpr ⟨mz_12_f215, List.forall_mem_cons.mpr ⟨mz_12_f263, List.forall_mem_cons.mpr ⟨mz_12_f266, List.forall_mem_cons.mpr ⟨mz_12_f318, List.forall_mem_cons.mpr ⟨mz_12_f352, List.forall_mem_cons.mpr ⟨mz_12_f355, List.forall_mem_cons.mpr ⟨mz_12_f358, List.forall_mem_cons.mpr ⟨mz_12_f361, List.forall_mem_cons.mpr ⟨mz_12_f364, List.forall_mem_cons.mpr ⟨mz_12_f367, List.forall_mem_cons.mpr ⟨mz_12_f370, List.forall_mem_cons.mpr ⟨mz_12_f373, List.forall_mem_cons.mpr ⟨mz_12_f376, List.forall_mem_cons.mpr ⟨mz_12_f379, List.forall_mem_cons.mpr ⟨mz_12_f382, List.forall_mem_cons.mpr ⟨mz_12_f385, List.forall_mem_cons.mpr ⟨mz_12_f587, fun _ h => absurd h List.not_mem_nil⟩⟩⟩⟩⟩⟩⟩⟩⟩⟩⟩⟩⟩⟩⟩⟩⟩⟩⟩⟩⟩⟩⟩⟩⟩⟩⟩⟩⟩⟩⟩⟩⟩⟩⟩⟩⟩⟩⟩⟩⟩⟩⟩⟩⟩⟩⟩⟩⟩⟩⟩⟩⟩⟩⟩⟩⟩⟩⟩⟩⟩⟩⟩⟩⟩⟩⟩⟩⟩, fun _ h => absurd h List.not_mem_nil, fun _ h => absurd h List.not_mem_nil, List.forall_mem_cons.mpr ⟨mz_12_i119, fun _ h => absurd h List.not_mem_nil⟩, List.forall_mem_cons.mpr ⟨mz_12_l388, List.forall_mem_cons.mpr ⟨mz_12_l390, fun _ h => absurd h List.not_mem_nil⟩⟩, fun _ h => absurd h List.not_mem_nil, List.forall_mem_cons.mpr ⟨mz_12_m1, List.forall_mem_cons.mpr ⟨mz_12_m144, List.forall_mem_cons.mpr ⟨mz_12_m160, List.forall_mem_cons.mpr ⟨mz_12_m204, List.forall_mem_cons.mpr ⟨mz_12_m222, List.forall_mem_cons.mpr ⟨mz_12_m243, List.forall_mem_cons.mpr ⟨mz_12_m257, List.forall_mem_cons.mpr ⟨mz_12_m260, List.forall_mem_cons.mpr ⟨mz_12_m275, List.forall_mem_cons.mpr ⟨mz_12_m279, List.forall_mem_cons.mpr ⟨mz_12_m285, List.forall_mem_cons.mpr ⟨mz_12_m289, List.forall_mem_cons.mpr ⟨mz_12_m292, List.forall_mem_cons.mpr ⟨mz_12_m296, List.forall_mem_cons.mpr ⟨mz_12_m299, List.forall_mem_cons.mpr ⟨mz_12_m327, List.forall_mem_cons.mpr ⟨mz_12_m330, List.forall_mem_cons.mpr ⟨mz_12_m545, List.forall_mem_cons.mpr ⟨mz_12_m575, List.forall_mem_cons.mpr ⟨mz_12_m578, List.forall_mem_cons.mpr ⟨mz_12_m581, fun _ h => absurd h List.not_mem_nil⟩⟩⟩⟩⟩⟩⟩⟩⟩⟩⟩⟩⟩⟩⟩⟩⟩⟩⟩⟩⟩⟩
def mz_13 : im_Z := ([], [], [], [], [], [(317, 100), (320, 101)], [(5, 13, 101, 3), (8, 150, 0, 0), (10, 304, 0, 0), (9, 316, 100, 0), (9, 319, 101, 0)])
theorem mz_13_c317 : im_fC im_Ts mx_R13 (317, 100) := Or.inl ⟨rfl, im_in 305 (by decide +kernel) rfl⟩
theorem mz_13_c320 : im_fC im_Ts mx_R13 (320, 101) := Or.inr ⟨rfl, im_in 319 (by decide +kernel) rfl⟩
theorem mz_13_m13 : im_fM im_Ts mx_nw mm_tb mx_R13 (5, 13, 101, 3) := fun y pc len v h => Or.inr (Or.inr (Or.inr (Or.inr (Or.inr (Or.inr ⟨im_m101, rfl, mm_a101, Or.inr (Or.inr (Or.inr (Or.inl ⟨rfl, 13, rfl, by rw [h]; exact im_in 220 (by decide +kernel) rfl, mm_t101⟩)))⟩)))))
theorem mz_13_m150 : im_fM im_Ts mx_nw mm_tb mx_R13 (8, 150, 0, 0) := fun y pc len v h => Or.inr (Or.inl ⟨rfl, 150, rfl, by rw [h]; exact im_in 309 (by decide +kernel) rfl⟩)
theorem mz_13_m304 : im_fM im_Ts mx_nw mm_tb mx_R13 (10, 304, 0, 0) := fun y pc len v h => Or.inr (Or.inr (Or.inr (Or.inl ⟨rfl, 304, rfl, by rw [h]; exact im_in 306 (by decide +kernel) rfl, im_in 307 (by decide +kernel) rfl, im_in 308 (by decide +kernel) rfl, im_in 161 (by decide +kernel) rfl⟩)))
theorem mz_13_m316 : im_fM im_Ts mx_nw mm_tb mx_R13 (9, 316, 100, 0) := fun y pc len v h => Or.inr (Or.inr (Or.inl ⟨rfl, 316, "[I", rfl, Or.inl ⟨rfl, rfl⟩, by rw [h]; exact im_in 299 (by decide +kernel) rfl, im_in 300 (by decide +kernel) rfl, im_in 303 (by decide +kernel) rfl, List.mem_of_getElem? (i := 16) rfl⟩))
theorem mz_13_m319 : im_fM im_Ts mx_nw mm_tb mx_R13 (9, 319, 101, 0) := fun y pc len v h => Or.inr (Or.inr (Or.inl ⟨rfl, 319, "[J", rfl, Or.inr ⟨rfl, rfl⟩, by rw [h]; exact im_in 315 (by decide +kernel) rfl, im_in 316 (by decide +kernel) rfl, im_in 317 (by decide +kernel) rfl, List.mem_of_getElem? (i := 17) rfl⟩))
theorem mz_13_ok : im_zo im_Ts mx_nw mx_cl mx_rA mx_nf mm_tb mx_R13 mz_13 := ⟨fun _ h => absurd h List.not_mem_nil, fun _ h => absurd h List.not_mem_nil, fun _ h => absurd h List.not_mem_nil, fun _ h => absurd h List.not_mem_nil, fun _ h => absurd h List.not_mem_nil, List.forall_mem_cons.mpr ⟨mz_13_c317, List.forall_mem_cons.mpr ⟨mz_13_c320, fun _ h => absurd h List.not_mem_nil⟩⟩, List.forall_mem_cons.mpr ⟨mz_13_m13, List.forall_mem_cons.mpr ⟨mz_13_m150, List.forall_mem_cons.mpr ⟨mz_13_m304, List.forall_mem_cons.mpr ⟨mz_13_m316, List.forall_mem_cons.mpr ⟨mz_13_m319, fun _ h => absurd h List.not_mem_nil⟩⟩⟩⟩⟩⟩
def mz_14 : im_Z := ([], [(7, 0), (10, 12)], [], [], [], [], [(3, 9, 0, 0), (3, 12, 58, 0), (1, 13, 1, 1), (1, 17, 69, 1), (1, 18, 2, 0), (1, 22, 70, 0), (1, 23, 3, 1), (1, 26, 71, 1), (1, 27, 4, 0), (1, 30, 75, 0), (1, 31, 5, 1), (1, 34, 76, 1), (1, 35, 6, 2), (1, 39, 77, 2), (1, 40, 7, 0), (1, 43, 78, 0), (1, 44, 8, 1), (1, 47, 81, 1), (1, 48, 9, 2), (1, 51, 82, 2), (1, 52, 10, 2), (1, 55, 95, 2), (1, 56, 11, 1), (1, 59, 83, 1), (1, 60, 12, 2), (1, 63, 84, 2), (1, 64, 13, 0), (1, 67, 88, 0), (1, 68, 14, 1), (1, 71, 87, 1), (1, 72, 15, 0), (1, 75, 89, 0), (1, 76, 16, 1), (1, 79, 92, 1), (1, 80, 17, 2), (1, 83, 94, 2), (1, 84, 18, 2), (1, 87, 96, 2), (1, 88, 19, 1), (1, 91, 97, 1), (1, 92, 20, 2), (1, 95, 98, 2), (1, 96, 21, 2), (1, 99, 99, 2)])
theorem mz_14_n7 : im_fN im_Ts mx_cl mx_nf mx_R14 (7, 0) := ⟨(mx_R0, mx_T0, 7), rfl, by decide, im_in 173 (by decide +kernel) rfl, rfl⟩
theorem mz_14_n10 : im_fN im_Ts mx_cl mx_nf mx_R14 (10, 12) := ⟨(mx_R12, mx_T12, 74), rfl, by decide, im_in 1391 (by decide +kernel) rfl, rfl⟩
theorem mz_14_m9 : im_fM im_Ts mx_nw mm_tb mx_R14 (3, 9, 0, 0) := fun y pc len v h => Or.inr (Or.inr (Or.inr (Or.inr (Or.inr (Or.inr ⟨im_m0, rfl, mm_a0, Or.inr (Or.inl ⟨rfl, 9, rfl, by rw [h]; exact im_in 175 (by decide +kernel) rfl, mm_i0, rfl, rfl⟩)⟩)))))
theorem mz_14_m12 : im_fM im_Ts mx_nw mm_tb mx_R14 (3, 12, 58, 0) := fun y pc len v h => Or.inr (Or.inr (Or.inr (Or.inr (Or.inr (Or.inr ⟨im_m58, rfl, mm_a58, Or.inr (Or.inl ⟨rfl, 12, rfl, by rw [h]; exact im_in 1393 (by decide +kernel) rfl, mm_i58, rfl, rfl⟩)⟩)))))
theorem mz_14_m13 : im_fM im_Ts mx_nw mm_tb mx_R14 (1, 13, 1, 1) := fun y pc len v h => Or.inr (Or.inr (Or.inr (Or.inr (Or.inr (Or.inr ⟨im_m1, rfl, mm_a1, Or.inl ⟨rfl, 13, rfl, by rw [h]; exact im_in 676 (by decide +kernel) rfl, mm_i1, mm_s1⟩⟩)))))
theorem mz_14_m17 : im_fM im_Ts mx_nw mm_tb mx_R14 (1, 17, 69, 1) := fun y pc len v h => Or.inr (Or.inr (Or.inr (Or.inr (Or.inr (Or.inr ⟨im_m69, rfl, mm_a69, Or.inl ⟨rfl, 17, rfl, by rw [h]; exact im_in 1626 (by decide +kernel) rfl, mm_i69, mm_s69⟩⟩)))))
theorem mz_14_m18 : im_fM im_Ts mx_nw mm_tb mx_R14 (1, 18, 2, 0) := fun y pc len v h => Or.inr (Or.inr (Or.inr (Or.inr (Or.inr (Or.inr ⟨im_m2, rfl, mm_a2, Or.inl ⟨rfl, 18, rfl, by rw [h]; exact im_in 684 (by decide +kernel) rfl, mm_i2, mm_s2⟩⟩)))))
theorem mz_14_m22 : im_fM im_Ts mx_nw mm_tb mx_R14 (1, 22, 70, 0) := fun y pc len v h => Or.inr (Or.inr (Or.inr (Or.inr (Or.inr (Or.inr ⟨im_m70, rfl, mm_a70, Or.inl ⟨rfl, 22, rfl, by rw [h]; exact im_in 1633 (by decide +kernel) rfl, mm_i70, mm_s70⟩⟩)))))
theorem mz_14_m23 : im_fM im_Ts mx_nw mm_tb mx_R14 (1, 23, 3, 1) := fun y pc len v h => Or.inr (Or.inr (Or.inr (Or.inr (Or.inr (Or.inr ⟨im_m3, rfl, mm_a3, Or.inl ⟨rfl, 23, rfl, by rw [h]; exact im_in 688 (by decide +kernel) rfl, mm_i3, mm_s3⟩⟩)))))
theorem mz_14_m26 : im_fM im_Ts mx_nw mm_tb mx_R14 (1, 26, 71, 1) := fun y pc len v h => Or.inr (Or.inr (Or.inr (Or.inr (Or.inr (Or.inr ⟨im_m71, rfl, mm_a71, Or.inl ⟨rfl, 26, rfl, by rw [h]; exact im_in 1637 (by decide +kernel) rfl, mm_i71, mm_s71⟩⟩)))))
theorem mz_14_m27 : im_fM im_Ts mx_nw mm_tb mx_R14 (1, 27, 4, 0) := fun y pc len v h => Or.inr (Or.inr (Or.inr (Or.inr (Or.inr (Or.inr ⟨im_m4, rfl, mm_a4, Or.inl ⟨rfl, 27, rfl, by rw [h]; exact im_in 806 (by decide +kernel) rfl, mm_i4, mm_s4⟩⟩)))))
theorem mz_14_m30 : im_fM im_Ts mx_nw mm_tb mx_R14 (1, 30, 75, 0) := fun y pc len v h => Or.inr (Or.inr (Or.inr (Or.inr (Or.inr (Or.inr ⟨im_m75, rfl, mm_a75, Or.inl ⟨rfl, 30, rfl, by rw [h]; exact im_in 1756 (by decide +kernel) rfl, mm_i75, mm_s75⟩⟩)))))
theorem mz_14_m31 : im_fM im_Ts mx_nw mm_tb mx_R14 (1, 31, 5, 1) := fun y pc len v h => Or.inr (Or.inr (Or.inr (Or.inr (Or.inr (Or.inr ⟨im_m5, rfl, mm_a5, Or.inl ⟨rfl, 31, rfl, by rw [h]; exact im_in 846 (by decide +kernel) rfl, mm_i5, mm_s5⟩⟩)))))
theorem mz_14_m34 : im_fM im_Ts mx_nw mm_tb mx_R14 (1, 34, 76, 1) := fun y pc len v h => Or.inr (Or.inr (Or.inr (Or.inr (Or.inr (Or.inr ⟨im_m76, rfl, mm_a76, Or.inl ⟨rfl, 34, rfl, by rw [h]; exact im_in 1768 (by decide +kernel) rfl, mm_i76, mm_s76⟩⟩)))))
theorem mz_14_m35 : im_fM im_Ts mx_nw mm_tb mx_R14 (1, 35, 6, 2) := fun y pc len v h => Or.inr (Or.inr (Or.inr (Or.inr (Or.inr (Or.inr ⟨im_m6, rfl, mm_a6, Or.inl ⟨rfl, 35, rfl, by rw [h]; exact im_in 859 (by decide +kernel) rfl, mm_i6, mm_s6⟩⟩)))))
theorem mz_14_m39 : im_fM im_Ts mx_nw mm_tb mx_R14 (1, 39, 77, 2) := fun y pc len v h => Or.inr (Or.inr (Or.inr (Or.inr (Or.inr (Or.inr ⟨im_m77, rfl, mm_a77, Or.inl ⟨rfl, 39, rfl, by rw [h]; exact im_in 1776 (by decide +kernel) rfl, mm_i77, mm_s77⟩⟩)))))
theorem mz_14_m40 : im_fM im_Ts mx_nw mm_tb mx_R14 (1, 40, 7, 0) := fun y pc len v h => Or.inr (Or.inr (Or.inr (Or.inr (Or.inr (Or.inr ⟨im_m7, rfl, mm_a7, Or.inl ⟨rfl, 40, rfl, by rw [h]; exact im_in 864 (by decide +kernel) rfl, mm_i7, mm_s7⟩⟩)))))
theorem mz_14_m43 : im_fM im_Ts mx_nw mm_tb mx_R14 (1, 43, 78, 0) := fun y pc len v h => Or.inr (Or.inr (Or.inr (Or.inr (Or.inr (Or.inr ⟨im_m78, rfl, mm_a78, Or.inl ⟨rfl, 43, rfl, by rw [h]; exact im_in 1780 (by decide +kernel) rfl, mm_i78, mm_s78⟩⟩)))))
theorem mz_14_m44 : im_fM im_Ts mx_nw mm_tb mx_R14 (1, 44, 8, 1) := fun y pc len v h => Or.inr (Or.inr (Or.inr (Or.inr (Or.inr (Or.inr ⟨im_m8, rfl, mm_a8, Or.inl ⟨rfl, 44, rfl, by rw [h]; exact im_in 868 (by decide +kernel) rfl, mm_i8, mm_s8⟩⟩)))))
theorem mz_14_m47 : im_fM im_Ts mx_nw mm_tb mx_R14 (1, 47, 81, 1) := fun y pc len v h => Or.inr (Or.inr (Or.inr (Or.inr (Or.inr (Or.inr ⟨im_m81, rfl, mm_a81, Or.inl ⟨rfl, 47, rfl, by rw [h]; exact im_in 1784 (by decide +kernel) rfl, mm_i81, mm_s81⟩⟩)))))
theorem mz_14_m48 : im_fM im_Ts mx_nw mm_tb mx_R14 (1, 48, 9, 2) := fun y pc len v h => Or.inr (Or.inr (Or.inr (Or.inr (Or.inr (Or.inr ⟨im_m9, rfl, mm_a9, Or.inl ⟨rfl, 48, rfl, by rw [h]; exact im_in 900 (by decide +kernel) rfl, mm_i9, mm_s9⟩⟩)))))
theorem mz_14_m51 : im_fM im_Ts mx_nw mm_tb mx_R14 (1, 51, 82, 2) := fun y pc len v h => Or.inr (Or.inr (Or.inr (Or.inr (Or.inr (Or.inr ⟨im_m82, rfl, mm_a82, Or.inl ⟨rfl, 51, rfl, by rw [h]; exact im_in 1824 (by decide +kernel) rfl, mm_i82, mm_s82⟩⟩)))))
theorem mz_14_m52 : im_fM im_Ts mx_nw mm_tb mx_R14 (1, 52, 10, 2) := fun y pc len v h => Or.inr (Or.inr (Or.inr (Or.inr (Or.inr (Or.inr ⟨im_m10, rfl, mm_a10, Or.inl ⟨rfl, 52, rfl, by rw [h]; exact im_in 925 (by decide +kernel) rfl, mm_i10, mm_s10⟩⟩)))))
theorem mz_14_m55 : im_fM im_Ts mx_nw mm_tb mx_R14 (1, 55, 95, 2) := fun y pc len v h => Or.inr (Or.inr (Or.inr (Or.inr (Or.inr (Or.inr ⟨im_m95, rfl, mm_a95, Or.inl ⟨rfl, 55, rfl, by rw [h]; exact im_in 2085 (by decide +kernel) rfl, mm_i95, mm_s95⟩⟩)))))
theorem mz_14_m56 : im_fM im_Ts mx_nw mm_tb mx_R14 (1, 56, 11, 1) := fun y pc len v h => Or.inr (Or.inr (Or.inr (Or.inr (Or.inr (Or.inr ⟨im_m11, rfl, mm_a11, Or.inl ⟨rfl, 56, rfl, by rw [h]; exact im_in 1018 (by decide +kernel) rfl, mm_i11, mm_s11⟩⟩)))))
theorem mz_14_m59 : im_fM im_Ts mx_nw mm_tb mx_R14 (1, 59, 83, 1) := fun y pc len v h => Or.inr (Or.inr (Or.inr (Or.inr (Or.inr (Or.inr ⟨im_m83, rfl, mm_a83, Or.inl ⟨rfl, 59, rfl, by rw [h]; exact im_in 1840 (by decide +kernel) rfl, mm_i83, mm_s83⟩⟩)))))
theorem mz_14_m60 : im_fM im_Ts mx_nw mm_tb mx_R14 (1, 60, 12, 2) := fun y pc len v h => Or.inr (Or.inr (Or.inr (Or.inr (Or.inr (Or.inr ⟨im_m12, rfl, mm_a12, Or.inl ⟨rfl, 60, rfl, by rw [h]; exact im_in 1039 (by decide +kernel) rfl, mm_i12, mm_s12⟩⟩)))))
theorem mz_14_m63 : im_fM im_Ts mx_nw mm_tb mx_R14 (1, 63, 84, 2) := fun y pc len v h => Or.inr (Or.inr (Or.inr (Or.inr (Or.inr (Or.inr ⟨im_m84, rfl, mm_a84, Or.inl ⟨rfl, 63, rfl, by rw [h]; exact im_in 1848 (by decide +kernel) rfl, mm_i84, mm_s84⟩⟩)))))
theorem mz_14_m64 : im_fM im_Ts mx_nw mm_tb mx_R14 (1, 64, 13, 0) := fun y pc len v h => Or.inr (Or.inr (Or.inr (Or.inr (Or.inr (Or.inr ⟨im_m13, rfl, mm_a13, Or.inl ⟨rfl, 64, rfl, by rw [h]; exact im_in 1051 (by decide +kernel) rfl, mm_i13, mm_s13⟩⟩)))))
theorem mz_14_m67 : im_fM im_Ts mx_nw mm_tb mx_R14 (1, 67, 88, 0) := fun y pc len v h => Or.inr (Or.inr (Or.inr (Or.inr (Or.inr (Or.inr ⟨im_m88, rfl, mm_a88, Or.inl ⟨rfl, 67, rfl, by rw [h]; exact im_in 2045 (by decide +kernel) rfl, mm_i88, mm_s88⟩⟩)))))
theorem mz_14_m68 : im_fM im_Ts mx_nw mm_tb mx_R14 (1, 68, 14, 1) := fun y pc len v h => Or.inr (Or.inr (Or.inr (Or.inr (Or.inr (Or.inr ⟨im_m14, rfl, mm_a14, Or.inl ⟨rfl, 68, rfl, by rw [h]; exact im_in 1092 (by decide +kernel) rfl, mm_i14, mm_s14⟩⟩)))))
theorem mz_14_m71 : im_fM im_Ts mx_nw mm_tb mx_R14 (1, 71, 87, 1) := fun y pc len v h => Or.inr (Or.inr (Or.inr (Or.inr (Or.inr (Or.inr ⟨im_m87, rfl, mm_a87, Or.inl ⟨rfl, 71, rfl, by rw [h]; exact im_in 1860 (by decide +kernel) rfl, mm_i87, mm_s87⟩⟩)))))
theorem mz_14_m72 : im_fM im_Ts mx_nw mm_tb mx_R14 (1, 72, 15, 0) := fun y pc len v h => Or.inr (Or.inr (Or.inr (Or.inr (Or.inr (Or.inr ⟨im_m15, rfl, mm_a15, Or.inl ⟨rfl, 72, rfl, by rw [h]; exact im_in 1313 (by decide +kernel) rfl, mm_i15, mm_s15⟩⟩)))))
theorem mz_14_m75 : im_fM im_Ts mx_nw mm_tb mx_R14 (1, 75, 89, 0) := fun y pc len v h => Or.inr (Or.inr (Or.inr (Or.inr (Or.inr (Or.inr ⟨im_m89, rfl, mm_a89, Or.inl ⟨rfl, 75, rfl, by rw [h]; exact im_in 2049 (by decide +kernel) rfl, mm_i89, mm_s89⟩⟩)))))
theorem mz_14_m76 : im_fM im_Ts mx_nw mm_tb mx_R14 (1, 76, 16, 1) := fun y pc len v h => Or.inr (Or.inr (Or.inr (Or.inr (Or.inr (Or.inr ⟨im_m16, rfl, mm_a16, Or.inl ⟨rfl, 76, rfl, by rw [h]; exact im_in 1317 (by decide +kernel) rfl, mm_i16, mm_s16⟩⟩)))))
theorem mz_14_m79 : im_fM im_Ts mx_nw mm_tb mx_R14 (1, 79, 92, 1) := fun y pc len v h => Or.inr (Or.inr (Or.inr (Or.inr (Or.inr (Or.inr ⟨im_m92, rfl, mm_a92, Or.inl ⟨rfl, 79, rfl, by rw [h]; exact im_in 2053 (by decide +kernel) rfl, mm_i92, mm_s92⟩⟩)))))
theorem mz_14_m80 : im_fM im_Ts mx_nw mm_tb mx_R14 (1, 80, 17, 2) := fun y pc len v h => Or.inr (Or.inr (Or.inr (Or.inr (Or.inr (Or.inr ⟨im_m17, rfl, mm_a17, Or.inl ⟨rfl, 80, rfl, by rw [h]; exact im_in 1345 (by decide +kernel) rfl, mm_i17, mm_s17⟩⟩)))))
theorem mz_14_m83 : im_fM im_Ts mx_nw mm_tb mx_R14 (1, 83, 94, 2) := fun y pc len v h => Or.inr (Or.inr (Or.inr (Or.inr (Or.inr (Or.inr ⟨im_m94, rfl, mm_a94, Or.inl ⟨rfl, 83, rfl, by rw [h]; exact im_in 2073 (by decide +kernel) rfl, mm_i94, mm_s94⟩⟩)))))
theorem mz_14_m84 : im_fM im_Ts mx_nw mm_tb mx_R14 (1, 84, 18, 2) := fun y pc len v h => Or.inr (Or.inr (Or.inr (Or.inr (Or.inr (Or.inr ⟨im_m18, rfl, mm_a18, Or.inl ⟨rfl, 84, rfl, by rw [h]; exact im_in 1360 (by decide +kernel) rfl, mm_i18, mm_s18⟩⟩)))))
theorem mz_14_m87 : im_fM im_Ts mx_nw mm_tb mx_R14 (1, 87, 96, 2) := fun y pc len v h => Or.inr (Or.inr (Or.inr (Or.inr (Or.inr (Or.inr ⟨im_m96, rfl, mm_a96, Or.inl ⟨rfl, 87, rfl, by rw [h]; exact im_in 2134 (by decide +kernel) rfl, mm_i96, mm_s96⟩⟩)))))
theorem mz_14_m88 : im_fM im_Ts mx_nw mm_tb mx_R14 (1, 88, 19, 1) := fun y pc len v h => Or.inr (Or.inr (Or.inr (Or.inr (Or.inr (Or.inr ⟨im_m19, rfl, mm_a19, Or.inl ⟨rfl, 88, rfl, by rw [h]; exact im_in 1365 (by decide +kernel) rfl, mm_i19, mm_s19⟩⟩)))))
theorem mz_14_m91 : im_fM im_Ts mx_nw mm_tb mx_R14 (1, 91, 97, 1) := fun y pc len v h => Or.inr (Or.inr (Or.inr (Or.inr (Or.inr (Or.inr ⟨im_m97, rfl, mm_a97, Or.inl ⟨rfl, 91, rfl, by rw [h]; exact im_in 2138 (by decide +kernel) rfl, mm_i97, mm_s97⟩⟩)))))
theorem mz_14_m92 : im_fM im_Ts mx_nw mm_tb mx_R14 (1, 92, 20, 2) := fun y pc len v h => Or.inr (Or.inr (Or.inr (Or.inr (Or.inr (Or.inr ⟨im_m20, rfl, mm_a20, Or.inl ⟨rfl, 92, rfl, by rw [h]; exact im_in 1370 (by decide +kernel) rfl, mm_i20, mm_s20⟩⟩)))))
theorem mz_14_m95 : im_fM im_Ts mx_nw mm_tb mx_R14 (1, 95, 98, 2) := fun y pc len v h => Or.inr (Or.inr (Or.inr (Or.inr (Or.inr (Or.inr ⟨im_m98, rfl, mm_a98, Or.inl ⟨rfl, 95, rfl, by rw [h]; exact im_in 2142 (by decide +kernel) rfl, mm_i98, mm_s98⟩⟩)))))
theorem mz_14_m96 : im_fM im_Ts mx_nw mm_tb mx_R14 (1, 96, 21, 2) := fun y pc len v h => Or.inr (Or.inr (Or.inr (Or.inr (Or.inr (Or.inr ⟨im_m21, rfl, mm_a21, Or.inl ⟨rfl, 96, rfl, by rw [h]; exact im_in 1384 (by decide +kernel) rfl, mm_i21, mm_s21⟩⟩)))))
theorem mz_14_m99 : im_fM im_Ts mx_nw mm_tb mx_R14 (1, 99, 99, 2) := fun y pc len v h => Or.inr (Or.inr (Or.inr (Or.inr (Or.inr (Or.inr ⟨im_m99, rfl, mm_a99, Or.inl ⟨rfl, 99, rfl, by rw [h]; exact im_in 2150 (by decide +kernel) rfl, mm_i99, mm_s99⟩⟩)))))
theorem mz_14_ok : im_zo im_Ts mx_nw mx_cl mx_rA mx_nf mm_tb mx_R14 mz_14 := ⟨fun _ h => absurd h List.not_mem_nil, List.forall_mem_cons.mpr ⟨mz_14_n7, List.forall_mem_cons.mpr ⟨mz_14_n10, fun _ h => absurd h List.not_mem_nil⟩⟩, fun _ h => absurd h List.not_mem_nil, fun _ h => absurd h List.not_mem_nil, fun _ h => absurd h List.not_mem_nil, fun _ h => absurd h List.not_mem_nil, List.forall_mem_cons.mpr ⟨mz_14_m9, List.forall_mem_cons.mpr ⟨mz_14_m12, List.forall_mem_cons.mpr ⟨mz_14_m13, List.forall_mem_cons.mpr ⟨mz_14_m17, List.forall_mem_cons.mpr ⟨mz_14_m18, List.forall_mem_cons.mpr ⟨mz_14_m22, List.forall_mem_cons.mpr ⟨mz_14_m23, List.forall_mem_cons.mpr ⟨mz_14_m26, List.forall_mem_cons.mpr ⟨mz_14_m27, List.forall_mem_cons.mpr ⟨mz_14_m30, List.forall_mem_cons.mpr ⟨mz_14_m31, List.forall_mem_cons.mpr ⟨mz_14_m34, List.forall_mem_cons.mpr ⟨mz_14_m35, List.forall_mem_cons.mpr ⟨mz_14_m39, List.forall_mem_cons.mpr ⟨mz_14_m40, List.forall_mem_cons.mpr ⟨mz_14_m43, List.forall_mem_cons.mpr ⟨mz_14_m44, List.forall_mem_cons.mpr ⟨mz_14_m47, List.forall_mem_cons.mpr ⟨mz_14_m48, List.forall_mem_cons.mpr ⟨mz_14_m51, List.forall_mem_cons.mpr ⟨mz_14_m52, List.forall_mem_cons.mpr ⟨mz_14_m55, List.forall_mem_cons.mpr ⟨mz_14_m56, List.forall_mem_cons.mpr ⟨mz_14_m59, List.forall_mem_cons.mpr ⟨mz_14_m60, List.forall_mem_cons.mpr ⟨mz_14_m63, List.forall_mem_cons.mpr ⟨mz_14_m64, List.forall_mem_cons.mpr ⟨mz_14_m67, List.forall_mem_cons.mpr ⟨mz_14_m68, List.forall_mem_cons.mpr ⟨mz_14_m71, List.forall_mem_cons.mpr ⟨mz_14_m72, List.forall_mem_cons.mpr ⟨mz_14_m75, List.forall_mem_cons.mpr ⟨mz_14_m76, List.forall_mem_cons.mpr ⟨mz_14_m79, List.forall_mem_cons.mpr ⟨mz_14_m80, List.forall_mem_cons.mpr ⟨mz_14_m83, List.forall_mem_cons.mpr ⟨mz_14_m84, List.forall_mem_cons.mpr ⟨mz_14_m87, List.forall_mem_cons.mpr ⟨mz_14_m88, List.forall_mem_cons.mpr ⟨mz_14_m91, List.forall_mem_cons.mpr ⟨mz_14_m92, List.forall_mem_cons.mpr ⟨mz_14_m95, List.forall_mem_cons.mpr ⟨mz_14_m96, List.forall_mem_cons.mpr ⟨mz_14_m99, fun _ h => absurd h List.not_mem_nil⟩⟩⟩⟩⟩⟩⟩⟩⟩⟩⟩⟩⟩⟩⟩⟩⟩⟩⟩⟩⟩⟩⟩⟩⟩⟩⟩⟩⟩⟩⟩⟩⟩⟩⟩⟩⟩⟩⟩⟩⟩⟩⟩⟩⟩
def mz_2 : im_Z := ([], [], [], [], [], [], [])
theorem mz_2_ok : im_zo im_Ts mx_nw mx_cl mx_rA mx_nf mm_tb mx_R2 mz_2 := ⟨fun _ h => absurd h List.not_mem_nil, fun _ h => absurd h List.not_mem_nil, fun _ h => absurd h List.not_mem_nil, fun _ h => absurd h List.not_mem_nil, fun _ h => absurd h List.not_mem_nil, fun _ h => absurd h List.not_mem_nil, fun _ h => absurd h List.not_mem_nil⟩
def mz_4 : im_Z := ([], [], [], [], [], [], [])
theorem mz_4_ok : im_zo im_Ts mx_nw mx_cl mx_rA mx_nf mm_tb mx_R4 mz_4 := ⟨fun _ h => absurd h List.not_mem_nil, fun _ h => absurd h List.not_mem_nil, fun _ h => absurd h List.not_mem_nil, fun _ h => absurd h List.not_mem_nil, fun _ h => absurd h List.not_mem_nil, fun _ h => absurd h List.not_mem_nil, fun _ h => absurd h List.not_mem_nil⟩
