/-! WHAT THE TABLES SAY of each row of code, by lists of a class -/
def im_fF (Ts : List Cond) (cl : List vw_C) (Rn : String) (q : Nat × Nat × Nat × Nat) : Prop := ∃ r : vw_C, cl[q.2.1]? = some r ∧ q.2.1 < 50 ∧ Cond.fieldLink Rn q.1 (r.2.1 q.2.2.1).1 (r.2.1 q.2.2.1).2.1 (r.2.1 q.2.2.1).2.2.1 ∈ Ts ∧ ((r.2.1 q.2.2.1).2.2.2 = true → ¬ q.2.2.2 = 0 ∧ (q.2.2.2 = 1 → (r.2.1 q.2.2.1).1 = Rn))
def im_fN (Ts : List Cond) (cl : List vw_C) (nf : Nat → Nat) (Rn : String) (q : Nat × Nat) : Prop := ∃ r : vw_C, cl[q.2]? = some r ∧ q.2 < 50 ∧ Cond.classLink Rn q.1 r.1 ∈ Ts ∧ nf q.2 = r.2.2
def im_fA (Ts : List Cond) (cl : List vw_C) (rA : List Nat) (Rn : String) (q : Nat × Nat) : Prop := ∃ r : vw_C, cl[q.2]? = some r ∧ q.2 ∈ rA ∧ Cond.classLink Rn q.1 r.1 ∈ Ts
def im_fI (Ts : List Cond) (Rn : String) (q : Nat × Int32) : Prop := Cond.constant Rn q.1 q.2 ∈ Ts
def im_fL (Ts : List Cond) (Rn : String) (q : Nat × Int64) : Prop := Cond.constantLong Rn q.1 q.2 ∈ Ts
def im_fC (Ts : List Cond) (Rn : String) (q : Nat × Nat) : Prop := (q.2 = 100 ∧ Cond.classLink Rn q.1 "[I" ∈ Ts) ∨ (q.2 = 101 ∧ Cond.classLink Rn q.1 "[J" ∈ Ts)
def im_iv (k ix : Nat) : Instr := if k = 0 ∨ k = 3 ∨ k = 4 then .invokespecial ix else if k = 1 ∨ k = 9 then .invokevirtual ix else .invokestatic ix
def im_fM (Ts nw : List Cond) (tb : List im_M) (Rn : String) (q : Nat × Nat × Nat × Nat) : Prop := ∀ (y : MethodName) (pc len : Nat) (v : Value), y.cls = Rn → im_co Ts nw tb y (pc, im_iv q.1 q.2.1, len, q.1, q.2.2.1, q.2.2.2, v)
abbrev im_Z : Type := List (Nat × Nat × Nat × Nat) × List (Nat × Nat) × List (Nat × Nat) × List (Nat × Int32) × List (Nat × Int64) × List (Nat × Nat) × List (Nat × Nat × Nat × Nat)
def im_zo (Ts nw : List Cond) (cl : List vw_C) (rA : List Nat) (nf : Nat → Nat) (tb : List im_M) (Rn : String) (Z : im_Z) : Prop :=
  (∀ q ∈ Z.1, im_fF Ts cl Rn q) ∧ (∀ q ∈ Z.2.1, im_fN Ts cl nf Rn q) ∧ (∀ q ∈ Z.2.2.1, im_fA Ts cl rA Rn q) ∧ (∀ q ∈ Z.2.2.2.1, im_fI Ts Rn q) ∧ (∀ q ∈ Z.2.2.2.2.1, im_fL Ts Rn q) ∧ (∀ q ∈ Z.2.2.2.2.2.1, im_fC Ts Rn q) ∧ ∀ q ∈ Z.2.2.2.2.2.2, im_fM Ts nw tb Rn q
/-- the check of a row against the lists of its class -/
def im_ck (Z : im_Z) (ini : Bool) (e : im_E) : Bool :=
  (match im_ln e.2.1 with
    | some k => Nat.beq e.2.2.1 k
    | none => true) &&
  (match e.2.1 with
    | .ifCond _ f => (im_tg e.1 f).isSome
    | .if_icmp _ f => (im_tg e.1 f).isSome
    | .getfield ix => Z.1.any (fun q => Nat.beq q.1 ix && (Nat.beq q.2.1 e.2.2.2.1 && Nat.beq q.2.2.1 e.2.2.2.2.1))
    | .putfield ix => Z.1.any (fun q => Nat.beq q.1 ix && (Nat.beq q.2.1 e.2.2.2.1 && (Nat.beq q.2.2.1 e.2.2.2.2.1 && (Nat.beq q.2.2.2 0 || (Nat.beq q.2.2.2 1 && ini)))))
    | .new ix => Z.2.1.any (fun q => Nat.beq q.1 ix && Nat.beq q.2 e.2.2.2.1)
    | .anewarray ix => Z.2.2.1.any (fun q => Nat.beq q.1 ix && Nat.beq q.2 e.2.2.2.1)
    | .ldc ix => Z.2.2.2.1.any (fun q => Nat.beq q.1 ix && decide (e.2.2.2.2.2.2 = .int q.2))
    | .ldc_w ix => Z.2.2.2.1.any (fun q => Nat.beq q.1 ix && decide (e.2.2.2.2.2.2 = .int q.2))
    | .ldc2_w ix => Z.2.2.2.2.1.any (fun q => Nat.beq q.1 ix && decide (e.2.2.2.2.2.2 = .long q.2))
    | .checkcast ix => Z.2.2.2.2.2.1.any (fun q => Nat.beq q.1 ix && Nat.beq q.2 e.2.2.2.1)
    | .invokespecial ix => Z.2.2.2.2.2.2.any (fun q => decide (im_iv q.1 q.2.1 = .invokespecial ix) && (Nat.beq q.1 e.2.2.2.1 && (Nat.beq q.2.2.1 e.2.2.2.2.1 && Nat.beq q.2.2.2 e.2.2.2.2.2.1)))
    | .invokevirtual ix => Z.2.2.2.2.2.2.any (fun q => decide (im_iv q.1 q.2.1 = .invokevirtual ix) && (Nat.beq q.1 e.2.2.2.1 && (Nat.beq q.2.2.1 e.2.2.2.2.1 && Nat.beq q.2.2.2 e.2.2.2.2.2.1)))
    | .invokestatic ix => Z.2.2.2.2.2.2.any (fun q => decide (im_iv q.1 q.2.1 = .invokestatic ix) && (Nat.beq q.1 e.2.2.2.1 && (Nat.beq q.2.2.1 e.2.2.2.2.1 && Nat.beq q.2.2.2 e.2.2.2.2.2.1)))
    | _ => true)

section IMC
variable {Ts nw : List Cond} {cl : List vw_C} {rA : List Nat} {nf : Nat → Nat} {tb : List im_M} {Rn : String} {Z : im_Z} {ini : Bool}
theorem im_ck_ok (hz : im_zo Ts nw cl rA nf tb Rn Z) {mi : im_M} (hy : mi.1.cls = Rn) (hi : ini = true → mi.1.name = "<init>") {e : im_E} (hd : decode mi.2.1 e.1 = .ok (e.2.1, e.2.2.1)) (hc : im_ck Z ini e = true) : im_ef Ts cl rA nf nw tb mi e := by
  obtain ⟨z1, z2, z3, z4, z5, z6, z7⟩ := hz
  obtain ⟨pc, i, len, a, b, c, v⟩ := e
  unfold im_ck at hc
  rw [Bool.and_eq_true] at hc
  obtain ⟨h1, h2⟩ := hc
  refine ⟨hd, fun k hk => ?_, fun co f hf => ?_, ?_, ?_⟩
  · dsimp only at h1 hk ⊢
    rw [hk] at h1
    exact Nat.eq_of_beq_eq_true h1
  · dsimp only at h2 hf ⊢
    have h3 : (im_tg pc f).isSome = true := by rcases hf with rfl | rfl <;> exact h2
    obtain ⟨t, ht⟩ := Option.isSome_iff_exists.mp h3
    exact ⟨t, im_tg_ok ht⟩
  · dsimp only at h2
    cases i <;> first | exact trivial | skip
    case getfield ix =>
      obtain ⟨q, hq, h3⟩ := List.any_eq_true.mp h2
      simp only [Bool.and_eq_true] at h3
      obtain ⟨e1, e2, e3⟩ := h3
      have e1 := Nat.eq_of_beq_eq_true e1
      have e2 := Nat.eq_of_beq_eq_true e2
      have e3 := Nat.eq_of_beq_eq_true e3
      obtain ⟨r, f1, f2, f3, f4⟩ := z1 q hq
      rw [e2] at f1 f2
      rw [e1, e3] at f3
      exact ⟨r, f1, f2, by rw [hy]; exact f3⟩
    case putfield ix =>
      obtain ⟨q, hq, h3⟩ := List.any_eq_true.mp h2
      simp only [Bool.and_eq_true] at h3
      obtain ⟨e1, e2, e3, e4⟩ := h3
      have e1 := Nat.eq_of_beq_eq_true e1
      have e2 := Nat.eq_of_beq_eq_true e2
      have e3 := Nat.eq_of_beq_eq_true e3
      obtain ⟨r, f1, f2, f3, f4⟩ := z1 q hq
      rw [e2] at f1 f2
      rw [e1, e3] at f3
      rw [e3] at f4
      refine ⟨r, f1, f2, by rw [hy]; exact f3, fun hf => ?_⟩
      obtain ⟨g1, g2⟩ := f4 hf
      rw [Bool.or_eq_true, Bool.and_eq_true] at e4
      rcases e4 with e4 | ⟨e4, e5⟩
      · exact absurd (Nat.eq_of_beq_eq_true e4) g1
      · exact ⟨hi e5, by rw [hy]; exact g2 (Nat.eq_of_beq_eq_true e4)⟩
    case new ix =>
      obtain ⟨q, hq, h3⟩ := List.any_eq_true.mp h2
      simp only [Bool.and_eq_true] at h3
      have e1 := Nat.eq_of_beq_eq_true h3.1
      have e2 := Nat.eq_of_beq_eq_true h3.2
      obtain ⟨r, f1, f2, f3, f4⟩ := z2 q hq
      rw [e2] at f1 f2 f4
      rw [e1] at f3
      exact ⟨r, f1, f2, by rw [hy]; exact f3, f4⟩
    case anewarray ix =>
      obtain ⟨q, hq, h3⟩ := List.any_eq_true.mp h2
      simp only [Bool.and_eq_true] at h3
      have e1 := Nat.eq_of_beq_eq_true h3.1
      have e2 := Nat.eq_of_beq_eq_true h3.2
      obtain ⟨r, f1, f2, f3⟩ := z3 q hq
      rw [e2] at f1 f2
      rw [e1] at f3
      exact ⟨r, f1, f2, by rw [hy]; exact f3⟩
    case ldc ix =>
      obtain ⟨q, hq, h3⟩ := List.any_eq_true.mp h2
      simp only [Bool.and_eq_true, decide_eq_true_eq] at h3
      have e1 := Nat.eq_of_beq_eq_true h3.1
      have f := z4 q hq
      unfold im_fI at f
      rw [e1] at f
      exact ⟨q.2, h3.2, by rw [hy]; exact f⟩
    case ldc_w ix =>
      obtain ⟨q, hq, h3⟩ := List.any_eq_true.mp h2
      simp only [Bool.and_eq_true, decide_eq_true_eq] at h3
      have e1 := Nat.eq_of_beq_eq_true h3.1
      have f := z4 q hq
      unfold im_fI at f
      rw [e1] at f
      exact ⟨q.2, h3.2, by rw [hy]; exact f⟩
    case ldc2_w ix =>
      obtain ⟨q, hq, h3⟩ := List.any_eq_true.mp h2
      simp only [Bool.and_eq_true, decide_eq_true_eq] at h3
      have e1 := Nat.eq_of_beq_eq_true h3.1
      have f := z5 q hq
      unfold im_fL at f
      rw [e1] at f
      exact ⟨q.2, h3.2, by rw [hy]; exact f⟩
    case checkcast ix =>
      obtain ⟨q, hq, h3⟩ := List.any_eq_true.mp h2
      simp only [Bool.and_eq_true] at h3
      have e1 := Nat.eq_of_beq_eq_true h3.1
      have e2 := Nat.eq_of_beq_eq_true h3.2
      rcases z6 q hq with ⟨f1, f2⟩ | ⟨f1, f2⟩
      · rw [e1] at f2
        exact Or.inl ⟨by dsimp only; omega, by rw [hy]; exact f2⟩
      · rw [e1] at f2
        exact Or.inr ⟨by dsimp only; omega, by rw [hy]; exact f2⟩
  · intro h4
    dsimp only at h2 h4
    have key : ∀ j : Instr, Z.2.2.2.2.2.2.any (fun q => decide (im_iv q.1 q.2.1 = j) && (Nat.beq q.1 a && (Nat.beq q.2.2.1 b && Nat.beq q.2.2.2 c))) = true → im_co Ts nw tb mi.1 (pc, j, len, a, b, c, v) := by
      intro j hj
      obtain ⟨q, hq, h3⟩ := List.any_eq_true.mp hj
      simp only [Bool.and_eq_true, decide_eq_true_eq] at h3
      obtain ⟨e0, e1, e2, e3⟩ := h3
      have e1 := Nat.eq_of_beq_eq_true e1
      have e2 := Nat.eq_of_beq_eq_true e2
      have e3 := Nat.eq_of_beq_eq_true e3
      have f := z7 q hq mi.1 pc len v hy
      rw [e0, e1, e2, e3] at f
      exact f
    cases i <;> first | exact key _ h2 | exact absurd (show (0 : Nat) = 4 from h4) (by decide) | exact absurd (show (1 : Nat) = 4 from h4) (by decide) | exact absurd (show (2 : Nat) = 4 from h4) (by decide) | exact absurd (show (3 : Nat) = 4 from h4) (by decide) | exact absurd (show (5 : Nat) = 4 from h4) (by decide)
theorem im_ck_all (hz : im_zo Ts nw cl rA nf tb Rn Z) {mi : im_M} (ini : Bool) (hy : mi.1.cls = Rn) (hi : ini = true → mi.1.name = "<init>") (hd : mi.2.2.2.2.2.all (fun e => decide (decode mi.2.1 e.1 = .ok (e.2.1, e.2.2.1))) = true) (hc : mi.2.2.2.2.2.all (im_ck Z ini) = true) : ∀ e ∈ mi.2.2.2.2.2, im_ef Ts cl rA nf nw tb mi e :=
  fun e he => im_ck_ok hz hy hi (of_decide_eq_true (List.all_eq_true.mp hd e he)) (List.all_eq_true.mp hc e he)
end IMC

theorem mm_a0 : (parseMethodDescriptor mm_y0.desc).map (fun d => d.parameters.length) = some 0 := by decide +kernel
theorem mm_i0 : Cond.instanceMethod mm_y0 ∈ im_Ts := im_in 176 (by decide +kernel) rfl
theorem mm_a1 : (parseMethodDescriptor mm_y1.desc).map (fun d => d.parameters.length) = some 1 := by decide +kernel
theorem mm_i1 : Cond.instanceMethod mm_y1 ∈ im_Ts := im_in 677 (by decide +kernel) rfl
theorem mm_s1 : Cond.selects mm_y1.cls mm_y1 mm_y1 ∈ im_Ts := im_in 678 (by decide +kernel) rfl
theorem mm_a2 : (parseMethodDescriptor mm_y2.desc).map (fun d => d.parameters.length) = some 0 := by decide +kernel
theorem mm_i2 : Cond.instanceMethod mm_y2 ∈ im_Ts := im_in 685 (by decide +kernel) rfl
theorem mm_s2 : Cond.selects mm_y2.cls mm_y2 mm_y2 ∈ im_Ts := im_in 686 (by decide +kernel) rfl
theorem mm_a3 : (parseMethodDescriptor mm_y3.desc).map (fun d => d.parameters.length) = some 1 := by decide +kernel
theorem mm_i3 : Cond.instanceMethod mm_y3 ∈ im_Ts := im_in 689 (by decide +kernel) rfl
theorem mm_s3 : Cond.selects mm_y3.cls mm_y3 mm_y3 ∈ im_Ts := im_in 690 (by decide +kernel) rfl
theorem mm_a4 : (parseMethodDescriptor mm_y4.desc).map (fun d => d.parameters.length) = some 0 := by decide +kernel
theorem mm_i4 : Cond.instanceMethod mm_y4 ∈ im_Ts := im_in 807 (by decide +kernel) rfl
theorem mm_s4 : Cond.selects mm_y4.cls mm_y4 mm_y4 ∈ im_Ts := im_in 808 (by decide +kernel) rfl
theorem mm_a5 : (parseMethodDescriptor mm_y5.desc).map (fun d => d.parameters.length) = some 1 := by decide +kernel
theorem mm_i5 : Cond.instanceMethod mm_y5 ∈ im_Ts := im_in 847 (by decide +kernel) rfl
theorem mm_s5 : Cond.selects mm_y5.cls mm_y5 mm_y5 ∈ im_Ts := im_in 848 (by decide +kernel) rfl
theorem mm_a6 : (parseMethodDescriptor mm_y6.desc).map (fun d => d.parameters.length) = some 2 := by decide +kernel
theorem mm_i6 : Cond.instanceMethod mm_y6 ∈ im_Ts := im_in 860 (by decide +kernel) rfl
theorem mm_s6 : Cond.selects mm_y6.cls mm_y6 mm_y6 ∈ im_Ts := im_in 861 (by decide +kernel) rfl
theorem mm_a7 : (parseMethodDescriptor mm_y7.desc).map (fun d => d.parameters.length) = some 0 := by decide +kernel
theorem mm_i7 : Cond.instanceMethod mm_y7 ∈ im_Ts := im_in 865 (by decide +kernel) rfl
theorem mm_s7 : Cond.selects mm_y7.cls mm_y7 mm_y7 ∈ im_Ts := im_in 866 (by decide +kernel) rfl
theorem mm_a8 : (parseMethodDescriptor mm_y8.desc).map (fun d => d.parameters.length) = some 1 := by decide +kernel
theorem mm_i8 : Cond.instanceMethod mm_y8 ∈ im_Ts := im_in 869 (by decide +kernel) rfl
theorem mm_s8 : Cond.selects mm_y8.cls mm_y8 mm_y8 ∈ im_Ts := im_in 870 (by decide +kernel) rfl
theorem mm_a9 : (parseMethodDescriptor mm_y9.desc).map (fun d => d.parameters.length) = some 2 := by decide +kernel
theorem mm_i9 : Cond.instanceMethod mm_y9 ∈ im_Ts := im_in 901 (by decide +kernel) rfl
theorem mm_s9 : Cond.selects mm_y9.cls mm_y9 mm_y9 ∈ im_Ts := im_in 902 (by decide +kernel) rfl
theorem mm_a10 : (parseMethodDescriptor mm_y10.desc).map (fun d => d.parameters.length) = some 2 := by decide +kernel
theorem mm_i10 : Cond.instanceMethod mm_y10 ∈ im_Ts := im_in 926 (by decide +kernel) rfl
theorem mm_s10 : Cond.selects mm_y10.cls mm_y10 mm_y10 ∈ im_Ts := im_in 927 (by decide +kernel) rfl
theorem mm_a11 : (parseMethodDescriptor mm_y11.desc).map (fun d => d.parameters.length) = some 1 := by decide +kernel
theorem mm_i11 : Cond.instanceMethod mm_y11 ∈ im_Ts := im_in 1019 (by decide +kernel) rfl
theorem mm_s11 : Cond.selects mm_y11.cls mm_y11 mm_y11 ∈ im_Ts := im_in 1020 (by decide +kernel) rfl
theorem mm_a12 : (parseMethodDescriptor mm_y12.desc).map (fun d => d.parameters.length) = some 2 := by decide +kernel
theorem mm_i12 : Cond.instanceMethod mm_y12 ∈ im_Ts := im_in 1040 (by decide +kernel) rfl
theorem mm_s12 : Cond.selects mm_y12.cls mm_y12 mm_y12 ∈ im_Ts := im_in 1041 (by decide +kernel) rfl
theorem mm_a13 : (parseMethodDescriptor mm_y13.desc).map (fun d => d.parameters.length) = some 0 := by decide +kernel
theorem mm_i13 : Cond.instanceMethod mm_y13 ∈ im_Ts := im_in 1052 (by decide +kernel) rfl
theorem mm_s13 : Cond.selects mm_y13.cls mm_y13 mm_y13 ∈ im_Ts := im_in 1053 (by decide +kernel) rfl
theorem mm_a14 : (parseMethodDescriptor mm_y14.desc).map (fun d => d.parameters.length) = some 1 := by decide +kernel
theorem mm_i14 : Cond.instanceMethod mm_y14 ∈ im_Ts := im_in 1093 (by decide +kernel) rfl
theorem mm_s14 : Cond.selects mm_y14.cls mm_y14 mm_y14 ∈ im_Ts := im_in 1094 (by decide +kernel) rfl
theorem mm_a15 : (parseMethodDescriptor mm_y15.desc).map (fun d => d.parameters.length) = some 0 := by decide +kernel
theorem mm_i15 : Cond.instanceMethod mm_y15 ∈ im_Ts := im_in 1314 (by decide +kernel) rfl
theorem mm_s15 : Cond.selects mm_y15.cls mm_y15 mm_y15 ∈ im_Ts := im_in 1315 (by decide +kernel) rfl
theorem mm_a16 : (parseMethodDescriptor mm_y16.desc).map (fun d => d.parameters.length) = some 1 := by decide +kernel
theorem mm_i16 : Cond.instanceMethod mm_y16 ∈ im_Ts := im_in 1318 (by decide +kernel) rfl
theorem mm_s16 : Cond.selects mm_y16.cls mm_y16 mm_y16 ∈ im_Ts := im_in 1319 (by decide +kernel) rfl
theorem mm_a17 : (parseMethodDescriptor mm_y17.desc).map (fun d => d.parameters.length) = some 2 := by decide +kernel
theorem mm_i17 : Cond.instanceMethod mm_y17 ∈ im_Ts := im_in 1346 (by decide +kernel) rfl
theorem mm_s17 : Cond.selects mm_y17.cls mm_y17 mm_y17 ∈ im_Ts := im_in 1347 (by decide +kernel) rfl
theorem mm_a18 : (parseMethodDescriptor mm_y18.desc).map (fun d => d.parameters.length) = some 2 := by decide +kernel
theorem mm_i18 : Cond.instanceMethod mm_y18 ∈ im_Ts := im_in 1361 (by decide +kernel) rfl
theorem mm_s18 : Cond.selects mm_y18.cls mm_y18 mm_y18 ∈ im_Ts := im_in 1362 (by decide +kernel) rfl
theorem mm_a19 : (parseMethodDescriptor mm_y19.desc).map (fun d => d.parameters.length) = some 1 := by decide +kernel
theorem mm_i19 : Cond.instanceMethod mm_y19 ∈ im_Ts := im_in 1366 (by decide +kernel) rfl
theorem mm_s19 : Cond.selects mm_y19.cls mm_y19 mm_y19 ∈ im_Ts := im_in 1367 (by decide +kernel) rfl
theorem mm_a20 : (parseMethodDescriptor mm_y20.desc).map (fun d => d.parameters.length) = some 2 := by decide +kernel
theorem mm_i20 : Cond.instanceMethod mm_y20 ∈ im_Ts := im_in 1371 (by decide +kernel) rfl
theorem mm_s20 : Cond.selects mm_y20.cls mm_y20 mm_y20 ∈ im_Ts := im_in 1372 (by decide +kernel) rfl
theorem mm_a21 : (parseMethodDescriptor mm_y21.desc).map (fun d => d.parameters.length) = some 2 := by decide +kernel
theorem mm_i21 : Cond.instanceMethod mm_y21 ∈ im_Ts := im_in 1385 (by decide +kernel) rfl
theorem mm_s21 : Cond.selects mm_y21.cls mm_y21 mm_y21 ∈ im_Ts := im_in 1386 (by decide +kernel) rfl
theorem mm_a22 : (parseMethodDescriptor mm_y22.desc).map (fun d => d.parameters.length) = some 0 := by decide +kernel
theorem mm_i22 : Cond.instanceMethod mm_y22 ∈ im_Ts := im_in 812 (by decide +kernel) rfl
theorem mm_s22 : Cond.selects mm_y22.cls mm_y22 mm_y22 ∈ im_Ts := im_in 19 (by decide +kernel) rfl
theorem mm_a23 : (parseMethodDescriptor mm_y23.desc).map (fun d => d.parameters.length) = some 1 := by decide +kernel
theorem mm_t23 : Cond.static mm_y23 ∈ im_Ts := im_in 335 (by decide +kernel) rfl
theorem mm_a24 : (parseMethodDescriptor mm_y24.desc).map (fun d => d.parameters.length) = some 2 := by decide +kernel
theorem mm_t24 : Cond.static mm_y24 ∈ im_Ts := im_in 354 (by decide +kernel) rfl
theorem mm_a25 : (parseMethodDescriptor mm_y25.desc).map (fun d => d.parameters.length) = some 4 := by decide +kernel
theorem mm_t25 : Cond.static mm_y25 ∈ im_Ts := im_in 1036 (by decide +kernel) rfl
theorem mm_a26 : (parseMethodDescriptor mm_y26.desc).map (fun d => d.parameters.length) = some 1 := by decide +kernel
theorem mm_t26 : Cond.static mm_y26 ∈ im_Ts := im_in 768 (by decide +kernel) rfl
theorem mm_a27 : (parseMethodDescriptor mm_y27.desc).map (fun d => d.parameters.length) = some 1 := by decide +kernel
theorem mm_t27 : Cond.static mm_y27 ∈ im_Ts := im_in 889 (by decide +kernel) rfl
theorem mm_a28 : (parseMethodDescriptor mm_y28.desc).map (fun d => d.parameters.length) = some 1 := by decide +kernel
theorem mm_i28 : Cond.instanceMethod mm_y28 ∈ im_Ts := im_in 509 (by decide +kernel) rfl
theorem mm_a29 : (parseMethodDescriptor mm_y29.desc).map (fun d => d.parameters.length) = some 2 := by decide +kernel
theorem mm_i29 : Cond.instanceMethod mm_y29 ∈ im_Ts := im_in 559 (by decide +kernel) rfl
theorem mm_s29 : Cond.selects mm_y29.cls mm_y29 mm_y29 ∈ im_Ts := im_in 560 (by decide +kernel) rfl
theorem mm_a30 : (parseMethodDescriptor mm_y30.desc).map (fun d => d.parameters.length) = some 1 := by decide +kernel
theorem mm_i30 : Cond.instanceMethod mm_y30 ∈ im_Ts := im_in 1224 (by decide +kernel) rfl
theorem mm_s30 : Cond.selects mm_y30.cls mm_y30 mm_y30 ∈ im_Ts := im_in 1225 (by decide +kernel) rfl
theorem mm_a31 : (parseMethodDescriptor mm_y31.desc).map (fun d => d.parameters.length) = some 1 := by decide +kernel
theorem mm_i31 : Cond.instanceMethod mm_y31 ∈ im_Ts := im_in 1229 (by decide +kernel) rfl
theorem mm_s31 : Cond.selects mm_y31.cls mm_y31 mm_y31 ∈ im_Ts := im_in 46 (by decide +kernel) rfl
theorem mm_a32 : (parseMethodDescriptor mm_y32.desc).map (fun d => d.parameters.length) = some 1 := by decide +kernel
theorem mm_i32 : Cond.instanceMethod mm_y32 ∈ im_Ts := im_in 1235 (by decide +kernel) rfl
theorem mm_s32 : Cond.selects mm_y32.cls mm_y32 mm_y32 ∈ im_Ts := im_in 47 (by decide +kernel) rfl
theorem mm_a33 : (parseMethodDescriptor mm_y33.desc).map (fun d => d.parameters.length) = some 1 := by decide +kernel
theorem mm_i33 : Cond.instanceMethod mm_y33 ∈ im_Ts := im_in 1256 (by decide +kernel) rfl
theorem mm_s33 : Cond.selects mm_y33.cls mm_y33 mm_y33 ∈ im_Ts := im_in 50 (by decide +kernel) rfl
theorem mm_a34 : (parseMethodDescriptor mm_y34.desc).map (fun d => d.parameters.length) = some 1 := by decide +kernel
theorem mm_i34 : Cond.instanceMethod mm_y34 ∈ im_Ts := im_in 1260 (by decide +kernel) rfl
theorem mm_s34 : Cond.selects mm_y34.cls mm_y34 mm_y34 ∈ im_Ts := im_in 51 (by decide +kernel) rfl
theorem mm_a35 : (parseMethodDescriptor mm_y35.desc).map (fun d => d.parameters.length) = some 2 := by decide +kernel
theorem mm_i35 : Cond.instanceMethod mm_y35 ∈ im_Ts := im_in 1245 (by decide +kernel) rfl
theorem mm_s35 : Cond.selects mm_y35.cls mm_y35 mm_y35 ∈ im_Ts := im_in 49 (by decide +kernel) rfl
theorem mm_a36 : (parseMethodDescriptor mm_y36.desc).map (fun d => d.parameters.length) = some 1 := by decide +kernel
theorem mm_i36 : Cond.instanceMethod mm_y36 ∈ im_Ts := im_in 1241 (by decide +kernel) rfl
theorem mm_s36 : Cond.selects mm_y36.cls mm_y36 mm_y36 ∈ im_Ts := im_in 48 (by decide +kernel) rfl
theorem mm_a37 : (parseMethodDescriptor mm_y37.desc).map (fun d => d.parameters.length) = some 0 := by decide +kernel
theorem mm_i37 : Cond.instanceMethod mm_y37 ∈ im_Ts := im_in 1281 (by decide +kernel) rfl
theorem mm_a38 : (parseMethodDescriptor mm_y38.desc).map (fun d => d.parameters.length) = some 0 := by decide +kernel
theorem mm_i38 : Cond.instanceMethod mm_y38 ∈ im_Ts := im_in 1119 (by decide +kernel) rfl
theorem mm_s38 : Cond.selects mm_y38.cls mm_y38 mm_y38 ∈ im_Ts := im_in 1120 (by decide +kernel) rfl
theorem mm_a39 : (parseMethodDescriptor mm_y39.desc).map (fun d => d.parameters.length) = some 1 := by decide +kernel
theorem mm_i39 : Cond.instanceMethod mm_y39 ∈ im_Ts := im_in 293 (by decide +kernel) rfl
theorem mm_a40 : (parseMethodDescriptor mm_y40.desc).map (fun d => d.parameters.length) = some 1 := by decide +kernel
theorem mm_i40 : Cond.instanceMethod mm_y40 ∈ im_Ts := im_in 350 (by decide +kernel) rfl
theorem mm_s40 : Cond.selects mm_y40.cls mm_y40 mm_y40 ∈ im_Ts := im_in 351 (by decide +kernel) rfl
theorem mm_a41 : (parseMethodDescriptor mm_y41.desc).map (fun d => d.parameters.length) = some 1 := by decide +kernel
theorem mm_i41 : Cond.instanceMethod mm_y41 ∈ im_Ts := im_in 331 (by decide +kernel) rfl
theorem mm_s41 : Cond.selects mm_y41.cls mm_y41 mm_y41 ∈ im_Ts := im_in 332 (by decide +kernel) rfl
theorem mm_a42 : (parseMethodDescriptor mm_y42.desc).map (fun d => d.parameters.length) = some 2 := by decide +kernel
theorem mm_i42 : Cond.instanceMethod mm_y42 ∈ im_Ts := im_in 346 (by decide +kernel) rfl
theorem mm_s42 : Cond.selects mm_y42.cls mm_y42 mm_y42 ∈ im_Ts := im_in 347 (by decide +kernel) rfl
theorem mm_a43 : (parseMethodDescriptor mm_y43.desc).map (fun d => d.parameters.length) = some 1 := by decide +kernel
theorem mm_i43 : Cond.instanceMethod mm_y43 ∈ im_Ts := im_in 1196 (by decide +kernel) rfl
theorem mm_s43 : Cond.selects mm_y43.cls mm_y43 mm_y43 ∈ im_Ts := im_in 1197 (by decide +kernel) rfl
theorem mm_a44 : (parseMethodDescriptor mm_y44.desc).map (fun d => d.parameters.length) = some 1 := by decide +kernel
theorem mm_i44 : Cond.instanceMethod mm_y44 ∈ im_Ts := im_in 1338 (by decide +kernel) rfl
theorem mm_s44 : Cond.selects mm_y44.cls mm_y44 mm_y44 ∈ im_Ts := im_in 1339 (by decide +kernel) rfl
theorem mm_a45 : (parseMethodDescriptor mm_y45.desc).map (fun d => d.parameters.length) = some 0 := by decide +kernel
theorem mm_i45 : Cond.instanceMethod mm_y45 ∈ im_Ts := im_in 877 (by decide +kernel) rfl
theorem mm_s45 : Cond.selects mm_y45.cls mm_y45 mm_y45 ∈ im_Ts := im_in 878 (by decide +kernel) rfl
theorem mm_a46 : (parseMethodDescriptor mm_y46.desc).map (fun d => d.parameters.length) = some 0 := by decide +kernel
theorem mm_i46 : Cond.instanceMethod mm_y46 ∈ im_Ts := im_in 908 (by decide +kernel) rfl
theorem mm_s46 : Cond.selects mm_y46.cls mm_y46 mm_y46 ∈ im_Ts := im_in 909 (by decide +kernel) rfl
theorem mm_a47 : (parseMethodDescriptor mm_y47.desc).map (fun d => d.parameters.length) = some 0 := by decide +kernel
theorem mm_i47 : Cond.instanceMethod mm_y47 ∈ im_Ts := im_in 1028 (by decide +kernel) rfl
theorem mm_s47 : Cond.selects mm_y47.cls mm_y47 mm_y47 ∈ im_Ts := im_in 1029 (by decide +kernel) rfl
theorem mm_a48 : (parseMethodDescriptor mm_y48.desc).map (fun d => d.parameters.length) = some 0 := by decide +kernel
theorem mm_i48 : Cond.instanceMethod mm_y48 ∈ im_Ts := im_in 914 (by decide +kernel) rfl
theorem mm_s48 : Cond.selects mm_y48.cls mm_y48 mm_y48 ∈ im_Ts := im_in 915 (by decide +kernel) rfl
theorem mm_a49 : (parseMethodDescriptor mm_y49.desc).map (fun d => d.parameters.length) = some 1 := by decide +kernel
theorem mm_i49 : Cond.instanceMethod mm_y49 ∈ im_Ts := im_in 328 (by decide +kernel) rfl
theorem mm_s49 : Cond.selects mm_y49.cls mm_y49 mm_y49 ∈ im_Ts := im_in 0 (by decide +kernel) rfl
theorem mm_a50 : (parseMethodDescriptor mm_y50.desc).map (fun d => d.parameters.length) = some 0 := by decide +kernel
theorem mm_i50 : Cond.instanceMethod mm_y50 ∈ im_Ts := im_in 1071 (by decide +kernel) rfl
theorem mm_a51 : (parseMethodDescriptor mm_y51.desc).map (fun d => d.parameters.length) = some 1 := by decide +kernel
theorem mm_i51 : Cond.instanceMethod mm_y51 ∈ im_Ts := im_in 398 (by decide +kernel) rfl
theorem mm_a52 : (parseMethodDescriptor mm_y52.desc).map (fun d => d.parameters.length) = some 1 := by decide +kernel
theorem mm_i52 : Cond.instanceMethod mm_y52 ∈ im_Ts := im_in 823 (by decide +kernel) rfl
theorem mm_s52 : Cond.selects mm_y52.cls mm_y52 mm_y52 ∈ im_Ts := im_in 824 (by decide +kernel) rfl
theorem mm_a53 : (parseMethodDescriptor mm_y53.desc).map (fun d => d.parameters.length) = some 1 := by decide +kernel
theorem mm_i53 : Cond.instanceMethod mm_y53 ∈ im_Ts := im_in 819 (by decide +kernel) rfl
theorem mm_s53 : Cond.selects mm_y53.cls mm_y53 mm_y53 ∈ im_Ts := im_in 820 (by decide +kernel) rfl
theorem mm_a54 : (parseMethodDescriptor mm_y54.desc).map (fun d => d.parameters.length) = some 1 := by decide +kernel
theorem mm_i54 : Cond.instanceMethod mm_y54 ∈ im_Ts := im_in 815 (by decide +kernel) rfl
theorem mm_s54 : Cond.selects mm_y54.cls mm_y54 mm_y54 ∈ im_Ts := im_in 816 (by decide +kernel) rfl
theorem mm_a55 : (parseMethodDescriptor mm_y55.desc).map (fun d => d.parameters.length) = some 1 := by decide +kernel
theorem mm_i55 : Cond.instanceMethod mm_y55 ∈ im_Ts := im_in 843 (by decide +kernel) rfl
theorem mm_s55 : Cond.selects mm_y55.cls mm_y55 mm_y55 ∈ im_Ts := im_in 844 (by decide +kernel) rfl
theorem mm_a56 : (parseMethodDescriptor mm_y56.desc).map (fun d => d.parameters.length) = some 1 := by decide +kernel
theorem mm_i56 : Cond.instanceMethod mm_y56 ∈ im_Ts := im_in 852 (by decide +kernel) rfl
theorem mm_s56 : Cond.selects mm_y56.cls mm_y56 mm_y56 ∈ im_Ts := im_in 853 (by decide +kernel) rfl
theorem mm_a57 : (parseMethodDescriptor mm_y57.desc).map (fun d => d.parameters.length) = some 2 := by decide +kernel
theorem mm_i57 : Cond.instanceMethod mm_y57 ∈ im_Ts := im_in 856 (by decide +kernel) rfl
theorem mm_s57 : Cond.selects mm_y57.cls mm_y57 mm_y57 ∈ im_Ts := im_in 857 (by decide +kernel) rfl
theorem mm_a58 : (parseMethodDescriptor mm_y58.desc).map (fun d => d.parameters.length) = some 1 := by decide +kernel
theorem mm_i58 : Cond.instanceMethod mm_y58 ∈ im_Ts := im_in 881 (by decide +kernel) rfl
theorem mm_s58 : Cond.selects mm_y58.cls mm_y58 mm_y58 ∈ im_Ts := im_in 882 (by decide +kernel) rfl
theorem mm_a59 : (parseMethodDescriptor mm_y59.desc).map (fun d => d.parameters.length) = some 1 := by decide +kernel
theorem mm_i59 : Cond.instanceMethod mm_y59 ∈ im_Ts := im_in 885 (by decide +kernel) rfl
theorem mm_s59 : Cond.selects mm_y59.cls mm_y59 mm_y59 ∈ im_Ts := im_in 886 (by decide +kernel) rfl
theorem mm_a60 : (parseMethodDescriptor mm_y60.desc).map (fun d => d.parameters.length) = some 3 := by decide +kernel
theorem mm_i60 : Cond.instanceMethod mm_y60 ∈ im_Ts := im_in 1032 (by decide +kernel) rfl
theorem mm_s60 : Cond.selects mm_y60.cls mm_y60 mm_y60 ∈ im_Ts := im_in 1033 (by decide +kernel) rfl
theorem mm_a61 : (parseMethodDescriptor mm_y61.desc).map (fun d => d.parameters.length) = some 0 := by decide +kernel
theorem mm_i61 : Cond.instanceMethod mm_y61 ∈ im_Ts := im_in 873 (by decide +kernel) rfl
theorem mm_s61 : Cond.selects mm_y61.cls mm_y61 mm_y61 ∈ im_Ts := im_in 874 (by decide +kernel) rfl
theorem mm_a62 : (parseMethodDescriptor mm_y62.desc).map (fun d => d.parameters.length) = some 0 := by decide +kernel
theorem mm_i62 : Cond.instanceMethod mm_y62 ∈ im_Ts := im_in 893 (by decide +kernel) rfl
theorem mm_s62 : Cond.selects mm_y62.cls mm_y62 mm_y62 ∈ im_Ts := im_in 894 (by decide +kernel) rfl
theorem mm_a63 : (parseMethodDescriptor mm_y63.desc).map (fun d => d.parameters.length) = some 2 := by decide +kernel
theorem mm_i63 : Cond.instanceMethod mm_y63 ∈ im_Ts := im_in 898 (by decide +kernel) rfl
theorem mm_s63 : Cond.selects mm_y63.cls mm_y63 mm_y63 ∈ im_Ts := im_in 21 (by decide +kernel) rfl
theorem mm_a64 : (parseMethodDescriptor mm_y64.desc).map (fun d => d.parameters.length) = some 1 := by decide +kernel
theorem mm_i64 : Cond.instanceMethod mm_y64 ∈ im_Ts := im_in 1023 (by decide +kernel) rfl
theorem mm_s64 : Cond.selects mm_y64.cls mm_y64 mm_y64 ∈ im_Ts := im_in 1024 (by decide +kernel) rfl
theorem mm_a65 : (parseMethodDescriptor mm_y65.desc).map (fun d => d.parameters.length) = some 2 := by decide +kernel
theorem mm_i65 : Cond.instanceMethod mm_y65 ∈ im_Ts := im_in 1044 (by decide +kernel) rfl
theorem mm_s65 : Cond.selects mm_y65.cls mm_y65 mm_y65 ∈ im_Ts := im_in 1045 (by decide +kernel) rfl
theorem mm_a66 : (parseMethodDescriptor mm_y66.desc).map (fun d => d.parameters.length) = some 1 := by decide +kernel
theorem mm_i66 : Cond.instanceMethod mm_y66 ∈ im_Ts := im_in 1049 (by decide +kernel) rfl
theorem mm_s66 : Cond.selects mm_y66.cls mm_y66 mm_y66 ∈ im_Ts := im_in 31 (by decide +kernel) rfl
theorem mm_a67 : (parseMethodDescriptor mm_y67.desc).map (fun d => d.parameters.length) = some 1 := by decide +kernel
theorem mm_i67 : Cond.instanceMethod mm_y67 ∈ im_Ts := im_in 214 (by decide +kernel) rfl
theorem mm_a68 : (parseMethodDescriptor mm_y68.desc).map (fun d => d.parameters.length) = some 1 := by decide +kernel
theorem mm_i68 : Cond.instanceMethod mm_y68 ∈ im_Ts := im_in 693 (by decide +kernel) rfl
theorem mm_s68 : Cond.selects mm_y68.cls mm_y68 mm_y68 ∈ im_Ts := im_in 694 (by decide +kernel) rfl
theorem mm_a69 : (parseMethodDescriptor mm_y69.desc).map (fun d => d.parameters.length) = some 0 := by decide +kernel
theorem mm_i69 : Cond.instanceMethod mm_y69 ∈ im_Ts := im_in 803 (by decide +kernel) rfl
theorem mm_s69 : Cond.selects mm_y69.cls mm_y69 mm_y69 ∈ im_Ts := im_in 804 (by decide +kernel) rfl
theorem mm_a70 : (parseMethodDescriptor mm_y70.desc).map (fun d => d.parameters.length) = some 1 := by decide +kernel
theorem mm_i70 : Cond.instanceMethod mm_y70 ∈ im_Ts := im_in 734 (by decide +kernel) rfl
theorem mm_s70 : Cond.selects mm_y70.cls mm_y70 mm_y70 ∈ im_Ts := im_in 735 (by decide +kernel) rfl
theorem mm_a71 : (parseMethodDescriptor mm_y71.desc).map (fun d => d.parameters.length) = some 1 := by decide +kernel
theorem mm_i71 : Cond.instanceMethod mm_y71 ∈ im_Ts := im_in 739 (by decide +kernel) rfl
theorem mm_s71 : Cond.selects mm_y71.cls mm_y71 mm_y71 ∈ im_Ts := im_in 6 (by decide +kernel) rfl
theorem mm_a72 : (parseMethodDescriptor mm_y72.desc).map (fun d => d.parameters.length) = some 0 := by decide +kernel
theorem mm_i72 : Cond.instanceMethod mm_y72 ∈ im_Ts := im_in 743 (by decide +kernel) rfl
theorem mm_s72 : Cond.selects mm_y72.cls mm_y72 mm_y72 ∈ im_Ts := im_in 7 (by decide +kernel) rfl
theorem mm_a73 : (parseMethodDescriptor mm_y73.desc).map (fun d => d.parameters.length) = some 0 := by decide +kernel
theorem mm_i73 : Cond.instanceMethod mm_y73 ∈ im_Ts := im_in 747 (by decide +kernel) rfl
theorem mm_s73 : Cond.selects mm_y73.cls mm_y73 mm_y73 ∈ im_Ts := im_in 8 (by decide +kernel) rfl
theorem mm_a74 : (parseMethodDescriptor mm_y74.desc).map (fun d => d.parameters.length) = some 0 := by decide +kernel
theorem mm_i74 : Cond.instanceMethod mm_y74 ∈ im_Ts := im_in 761 (by decide +kernel) rfl
theorem mm_s74 : Cond.selects mm_y74.cls mm_y74 mm_y74 ∈ im_Ts := im_in 10 (by decide +kernel) rfl
theorem mm_a75 : (parseMethodDescriptor mm_y75.desc).map (fun d => d.parameters.length) = some 0 := by decide +kernel
theorem mm_i75 : Cond.instanceMethod mm_y75 ∈ im_Ts := im_in 777 (by decide +kernel) rfl
theorem mm_s75 : Cond.selects mm_y75.cls mm_y75 mm_y75 ∈ im_Ts := im_in 13 (by decide +kernel) rfl
theorem mm_a76 : (parseMethodDescriptor mm_y76.desc).map (fun d => d.parameters.length) = some 0 := by decide +kernel
theorem mm_i76 : Cond.instanceMethod mm_y76 ∈ im_Ts := im_in 787 (by decide +kernel) rfl
theorem mm_s76 : Cond.selects mm_y76.cls mm_y76 mm_y76 ∈ im_Ts := im_in 15 (by decide +kernel) rfl
theorem mm_a77 : (parseMethodDescriptor mm_y77.desc).map (fun d => d.parameters.length) = some 0 := by decide +kernel
theorem mm_i77 : Cond.instanceMethod mm_y77 ∈ im_Ts := im_in 791 (by decide +kernel) rfl
theorem mm_s77 : Cond.selects mm_y77.cls mm_y77 mm_y77 ∈ im_Ts := im_in 16 (by decide +kernel) rfl
theorem mm_a78 : (parseMethodDescriptor mm_y78.desc).map (fun d => d.parameters.length) = some 1 := by decide +kernel
theorem mm_i78 : Cond.instanceMethod mm_y78 ∈ im_Ts := im_in 795 (by decide +kernel) rfl
theorem mm_s78 : Cond.selects mm_y78.cls mm_y78 mm_y78 ∈ im_Ts := im_in 17 (by decide +kernel) rfl
theorem mm_a79 : (parseMethodDescriptor mm_y79.desc).map (fun d => d.parameters.length) = some 0 := by decide +kernel
theorem mm_i79 : Cond.instanceMethod mm_y79 ∈ im_Ts := im_in 799 (by decide +kernel) rfl
theorem mm_s79 : Cond.selects mm_y79.cls mm_y79 mm_y79 ∈ im_Ts := im_in 18 (by decide +kernel) rfl
theorem mm_a80 : (parseMethodDescriptor mm_y80.desc).map (fun d => d.parameters.length) = some 2 := by decide +kernel
theorem mm_i80 : Cond.instanceMethod mm_y80 ∈ im_Ts := im_in 783 (by decide +kernel) rfl
theorem mm_s80 : Cond.selects mm_y80.cls mm_y80 mm_y80 ∈ im_Ts := im_in 14 (by decide +kernel) rfl
theorem mm_a81 : (parseMethodDescriptor mm_y81.desc).map (fun d => d.parameters.length) = some 2 := by decide +kernel
theorem mm_i81 : Cond.instanceMethod mm_y81 ∈ im_Ts := im_in 756 (by decide +kernel) rfl
theorem mm_s81 : Cond.selects mm_y81.cls mm_y81 mm_y81 ∈ im_Ts := im_in 9 (by decide +kernel) rfl
theorem mm_a82 : (parseMethodDescriptor mm_y82.desc).map (fun d => d.parameters.length) = some 1 := by decide +kernel
theorem mm_i82 : Cond.instanceMethod mm_y82 ∈ im_Ts := im_in 765 (by decide +kernel) rfl
theorem mm_s82 : Cond.selects mm_y82.cls mm_y82 mm_y82 ∈ im_Ts := im_in 11 (by decide +kernel) rfl
theorem mm_a83 : (parseMethodDescriptor mm_y83.desc).map (fun d => d.parameters.length) = some 1 := by decide +kernel
theorem mm_i83 : Cond.instanceMethod mm_y83 ∈ im_Ts := im_in 773 (by decide +kernel) rfl
theorem mm_s83 : Cond.selects mm_y83.cls mm_y83 mm_y83 ∈ im_Ts := im_in 12 (by decide +kernel) rfl
theorem mm_a84 : (parseMethodDescriptor mm_y84.desc).map (fun d => d.parameters.length) = some 2 := by decide +kernel
theorem mm_i84 : Cond.instanceMethod mm_y84 ∈ im_Ts := im_in 418 (by decide +kernel) rfl
theorem mm_a85 : (parseMethodDescriptor mm_y85.desc).map (fun d => d.parameters.length) = some 1 := by decide +kernel
theorem mm_i85 : Cond.instanceMethod mm_y85 ∈ im_Ts := im_in 543 (by decide +kernel) rfl
theorem mm_s85 : Cond.selects mm_y85.cls mm_y85 mm_y85 ∈ im_Ts := im_in 1 (by decide +kernel) rfl
theorem mm_a86 : (parseMethodDescriptor mm_y86.desc).map (fun d => d.parameters.length) = some 1 := by decide +kernel
theorem mm_i86 : Cond.instanceMethod mm_y86 ∈ im_Ts := im_in 1056 (by decide +kernel) rfl
theorem mm_s86 : Cond.selects mm_y86.cls mm_y86 mm_y86 ∈ im_Ts := im_in 1057 (by decide +kernel) rfl
theorem mm_a87 : (parseMethodDescriptor mm_y87.desc).map (fun d => d.parameters.length) = some 0 := by decide +kernel
theorem mm_i87 : Cond.instanceMethod mm_y87 ∈ im_Ts := im_in 827 (by decide +kernel) rfl
theorem mm_s87 : Cond.selects mm_y87.cls mm_y87 mm_y87 ∈ im_Ts := im_in 828 (by decide +kernel) rfl
theorem mm_a88 : (parseMethodDescriptor mm_y88.desc).map (fun d => d.parameters.length) = some 2 := by decide +kernel
theorem mm_i88 : Cond.instanceMethod mm_y88 ∈ im_Ts := im_in 832 (by decide +kernel) rfl
theorem mm_s88 : Cond.selects mm_y88.cls mm_y88 mm_y88 ∈ im_Ts := im_in 20 (by decide +kernel) rfl
theorem mm_a89 : (parseMethodDescriptor mm_y89.desc).map (fun d => d.parameters.length) = some 1 := by decide +kernel
theorem mm_i89 : Cond.instanceMethod mm_y89 ∈ im_Ts := im_in 1097 (by decide +kernel) rfl
theorem mm_s89 : Cond.selects mm_y89.cls mm_y89 mm_y89 ∈ im_Ts := im_in 1098 (by decide +kernel) rfl
theorem mm_a90 : (parseMethodDescriptor mm_y90.desc).map (fun d => d.parameters.length) = some 1 := by decide +kernel
theorem mm_i90 : Cond.instanceMethod mm_y90 ∈ im_Ts := im_in 1185 (by decide +kernel) rfl
theorem mm_s90 : Cond.selects mm_y90.cls mm_y90 mm_y90 ∈ im_Ts := im_in 42 (by decide +kernel) rfl
theorem mm_a91 : (parseMethodDescriptor mm_y91.desc).map (fun d => d.parameters.length) = some 1 := by decide +kernel
theorem mm_i91 : Cond.instanceMethod mm_y91 ∈ im_Ts := im_in 1191 (by decide +kernel) rfl
theorem mm_s91 : Cond.selects mm_y91.cls mm_y91 mm_y91 ∈ im_Ts := im_in 1192 (by decide +kernel) rfl
theorem mm_a92 : (parseMethodDescriptor mm_y92.desc).map (fun d => d.parameters.length) = some 1 := by decide +kernel
theorem mm_i92 : Cond.instanceMethod mm_y92 ∈ im_Ts := im_in 1201 (by decide +kernel) rfl
theorem mm_s92 : Cond.selects mm_y92.cls mm_y92 mm_y92 ∈ im_Ts := im_in 43 (by decide +kernel) rfl
theorem mm_a93 : (parseMethodDescriptor mm_y93.desc).map (fun d => d.parameters.length) = some 1 := by decide +kernel
theorem mm_i93 : Cond.instanceMethod mm_y93 ∈ im_Ts := im_in 1215 (by decide +kernel) rfl
theorem mm_s93 : Cond.selects mm_y93.cls mm_y93 mm_y93 ∈ im_Ts := im_in 44 (by decide +kernel) rfl
theorem mm_a94 : (parseMethodDescriptor mm_y94.desc).map (fun d => d.parameters.length) = some 2 := by decide +kernel
theorem mm_i94 : Cond.instanceMethod mm_y94 ∈ im_Ts := im_in 1221 (by decide +kernel) rfl
theorem mm_s94 : Cond.selects mm_y94.cls mm_y94 mm_y94 ∈ im_Ts := im_in 45 (by decide +kernel) rfl
theorem mm_a95 : (parseMethodDescriptor mm_y95.desc).map (fun d => d.parameters.length) = some 2 := by decide +kernel
theorem mm_i95 : Cond.instanceMethod mm_y95 ∈ im_Ts := im_in 1264 (by decide +kernel) rfl
theorem mm_s95 : Cond.selects mm_y95.cls mm_y95 mm_y95 ∈ im_Ts := im_in 52 (by decide +kernel) rfl
theorem mm_a96 : (parseMethodDescriptor mm_y96.desc).map (fun d => d.parameters.length) = some 1 := by decide +kernel
theorem mm_i96 : Cond.instanceMethod mm_y96 ∈ im_Ts := im_in 1273 (by decide +kernel) rfl
theorem mm_s96 : Cond.selects mm_y96.cls mm_y96 mm_y96 ∈ im_Ts := im_in 53 (by decide +kernel) rfl
theorem mm_a97 : (parseMethodDescriptor mm_y97.desc).map (fun d => d.parameters.length) = some 1 := by decide +kernel
theorem mm_i97 : Cond.instanceMethod mm_y97 ∈ im_Ts := im_in 1309 (by decide +kernel) rfl
theorem mm_s97 : Cond.selects mm_y97.cls mm_y97 mm_y97 ∈ im_Ts := im_in 55 (by decide +kernel) rfl
theorem mm_a98 : (parseMethodDescriptor mm_y98.desc).map (fun d => d.parameters.length) = some 2 := by decide +kernel
theorem mm_i98 : Cond.instanceMethod mm_y98 ∈ im_Ts := im_in 1277 (by decide +kernel) rfl
theorem mm_s98 : Cond.selects mm_y98.cls mm_y98 mm_y98 ∈ im_Ts := im_in 54 (by decide +kernel) rfl
theorem mm_a99 : (parseMethodDescriptor mm_y99.desc).map (fun d => d.parameters.length) = some 1 := by decide +kernel
theorem mm_i99 : Cond.instanceMethod mm_y99 ∈ im_Ts := im_in 1116 (by decide +kernel) rfl
theorem mm_s99 : Cond.selects mm_y99.cls mm_y99 mm_y99 ∈ im_Ts := im_in 34 (by decide +kernel) rfl
theorem mm_a100 : (parseMethodDescriptor mm_y100.desc).map (fun d => d.parameters.length) = some 0 := by decide +kernel
theorem mm_i100 : Cond.instanceMethod mm_y100 ∈ im_Ts := im_in 1102 (by decide +kernel) rfl
theorem mm_s100 : Cond.selects mm_y100.cls mm_y100 mm_y100 ∈ im_Ts := im_in 33 (by decide +kernel) rfl
theorem mm_a101 : (parseMethodDescriptor mm_y101.desc).map (fun d => d.parameters.length) = some 3 := by decide +kernel
theorem mm_i101 : Cond.instanceMethod mm_y101 ∈ im_Ts := im_in 1124 (by decide +kernel) rfl
theorem mm_s101 : Cond.selects mm_y101.cls mm_y101 mm_y101 ∈ im_Ts := im_in 35 (by decide +kernel) rfl
theorem mm_a102 : (parseMethodDescriptor mm_y102.desc).map (fun d => d.parameters.length) = some 4 := by decide +kernel
theorem mm_i102 : Cond.instanceMethod mm_y102 ∈ im_Ts := im_in 1066 (by decide +kernel) rfl
theorem mm_s102 : Cond.selects mm_y102.cls mm_y102 mm_y102 ∈ im_Ts := im_in 32 (by decide +kernel) rfl
theorem mm_a103 : (parseMethodDescriptor mm_y103.desc).map (fun d => d.parameters.length) = some 1 := by decide +kernel
theorem mm_i103 : Cond.instanceMethod mm_y103 ∈ im_Ts := im_in 1204 (by decide +kernel) rfl
theorem mm_s103 : Cond.selects mm_y103.cls mm_y103 mm_y103 ∈ im_Ts := im_in 1205 (by decide +kernel) rfl
theorem mm_a104 : (parseMethodDescriptor mm_y104.desc).map (fun d => d.parameters.length) = some 1 := by decide +kernel
theorem mm_i104 : Cond.instanceMethod mm_y104 ∈ im_Ts := im_in 1334 (by decide +kernel) rfl
theorem mm_s104 : Cond.selects mm_y104.cls mm_y104 mm_y104 ∈ im_Ts := im_in 1335 (by decide +kernel) rfl
theorem mm_a105 : (parseMethodDescriptor mm_y105.desc).map (fun d => d.parameters.length) = some 1 := by decide +kernel
theorem mm_i105 : Cond.instanceMethod mm_y105 ∈ im_Ts := im_in 918 (by decide +kernel) rfl
theorem mm_s105 : Cond.selects mm_y105.cls mm_y105 mm_y105 ∈ im_Ts := im_in 919 (by decide +kernel) rfl
theorem mm_a106 : (parseMethodDescriptor mm_y106.desc).map (fun d => d.parameters.length) = some 1 := by decide +kernel
theorem mm_i106 : Cond.instanceMethod mm_y106 ∈ im_Ts := im_in 922 (by decide +kernel) rfl
theorem mm_s106 : Cond.selects mm_y106.cls mm_y106 mm_y106 ∈ im_Ts := im_in 923 (by decide +kernel) rfl
theorem mm_a107 : (parseMethodDescriptor mm_y107.desc).map (fun d => d.parameters.length) = some 1 := by decide +kernel
theorem mm_i107 : Cond.instanceMethod mm_y107 ∈ im_Ts := im_in 1350 (by decide +kernel) rfl
theorem mm_s107 : Cond.selects mm_y107.cls mm_y107 mm_y107 ∈ im_Ts := im_in 1351 (by decide +kernel) rfl
theorem mm_a108 : (parseMethodDescriptor mm_y108.desc).map (fun d => d.parameters.length) = some 1 := by decide +kernel
theorem mm_i108 : Cond.instanceMethod mm_y108 ∈ im_Ts := im_in 1357 (by decide +kernel) rfl
theorem mm_s108 : Cond.selects mm_y108.cls mm_y108 mm_y108 ∈ im_Ts := im_in 1358 (by decide +kernel) rfl
theorem mm_a109 : (parseMethodDescriptor mm_y109.desc).map (fun d => d.parameters.length) = some 1 := by decide +kernel
theorem mm_i109 : Cond.instanceMethod mm_y109 ∈ im_Ts := im_in 1375 (by decide +kernel) rfl
theorem mm_s109 : Cond.selects mm_y109.cls mm_y109 mm_y109 ∈ im_Ts := im_in 1376 (by decide +kernel) rfl
theorem mm_a110 : (parseMethodDescriptor mm_y110.desc).map (fun d => d.parameters.length) = some 1 := by decide +kernel
theorem mm_i110 : Cond.instanceMethod mm_y110 ∈ im_Ts := im_in 1106 (by decide +kernel) rfl
theorem mm_s110 : Cond.selects mm_y110.cls mm_y110 mm_y110 ∈ im_Ts := im_in 1107 (by decide +kernel) rfl
theorem mm_a111 : (parseMethodDescriptor mm_y111.desc).map (fun d => d.parameters.length) = some 1 := by decide +kernel
theorem mm_i111 : Cond.instanceMethod mm_y111 ∈ im_Ts := im_in 1322 (by decide +kernel) rfl
theorem mm_s111 : Cond.selects mm_y111.cls mm_y111 mm_y111 ∈ im_Ts := im_in 1323 (by decide +kernel) rfl
theorem mm_a112 : (parseMethodDescriptor mm_y112.desc).map (fun d => d.parameters.length) = some 0 := by decide +kernel
theorem mm_i112 : Cond.instanceMethod mm_y112 ∈ im_Ts := im_in 1327 (by decide +kernel) rfl
theorem mm_s112 : Cond.selects mm_y112.cls mm_y112 mm_y112 ∈ im_Ts := im_in 56 (by decide +kernel) rfl
theorem mm_a113 : (parseMethodDescriptor mm_y113.desc).map (fun d => d.parameters.length) = some 0 := by decide +kernel
theorem mm_i113 : Cond.instanceMethod mm_y113 ∈ im_Ts := im_in 1331 (by decide +kernel) rfl
theorem mm_s113 : Cond.selects mm_y113.cls mm_y113 mm_y113 ∈ im_Ts := im_in 57 (by decide +kernel) rfl
theorem mm_a114 : (parseMethodDescriptor mm_y114.desc).map (fun d => d.parameters.length) = some 0 := by decide +kernel
theorem mm_i114 : Cond.instanceMethod mm_y114 ∈ im_Ts := im_in 1343 (by decide +kernel) rfl
theorem mm_s114 : Cond.selects mm_y114.cls mm_y114 mm_y114 ∈ im_Ts := im_in 58 (by decide +kernel) rfl
theorem mm_a115 : (parseMethodDescriptor mm_y115.desc).map (fun d => d.parameters.length) = some 1 := by decide +kernel
theorem mm_i115 : Cond.instanceMethod mm_y115 ∈ im_Ts := im_in 428 (by decide +kernel) rfl
theorem mm_a116 : (parseMethodDescriptor mm_y116.desc).map (fun d => d.parameters.length) = some 1 := by decide +kernel
theorem mm_i116 : Cond.instanceMethod mm_y116 ∈ im_Ts := im_in 546 (by decide +kernel) rfl
theorem mm_s116 : Cond.selects mm_y116.cls mm_y116 mm_y116 ∈ im_Ts := im_in 547 (by decide +kernel) rfl
theorem mm_a117 : (parseMethodDescriptor mm_y117.desc).map (fun d => d.parameters.length) = some 0 := by decide +kernel
theorem mm_i117 : Cond.instanceMethod mm_y117 ∈ im_Ts := im_in 1128 (by decide +kernel) rfl
theorem mm_s117 : Cond.selects mm_y117.cls mm_y117 mm_y117 ∈ im_Ts := im_in 1129 (by decide +kernel) rfl
theorem mm_a118 : (parseMethodDescriptor mm_y118.desc).map (fun d => d.parameters.length) = some 3 := by decide +kernel
theorem mm_i118 : Cond.instanceMethod mm_y118 ∈ im_Ts := im_in 938 (by decide +kernel) rfl
theorem mm_s118 : Cond.selects mm_y118.cls mm_y118 mm_y118 ∈ im_Ts := im_in 939 (by decide +kernel) rfl
theorem mm_a119 : (parseMethodDescriptor mm_y119.desc).map (fun d => d.parameters.length) = some 2 := by decide +kernel
theorem mm_i119 : Cond.instanceMethod mm_y119 ∈ im_Ts := im_in 1132 (by decide +kernel) rfl
theorem mm_s119 : Cond.selects mm_y119.cls mm_y119 mm_y119 ∈ im_Ts := im_in 1133 (by decide +kernel) rfl
theorem mm_a120 : (parseMethodDescriptor mm_y120.desc).map (fun d => d.parameters.length) = some 0 := by decide +kernel
theorem mm_i120 : Cond.instanceMethod mm_y120 ∈ im_Ts := im_in 835 (by decide +kernel) rfl
theorem mm_s120 : Cond.selects mm_y120.cls mm_y120 mm_y120 ∈ im_Ts := im_in 836 (by decide +kernel) rfl
theorem mm_a121 : (parseMethodDescriptor mm_y121.desc).map (fun d => d.parameters.length) = some 2 := by decide +kernel
theorem mm_i121 : Cond.instanceMethod mm_y121 ∈ im_Ts := im_in 1110 (by decide +kernel) rfl
theorem mm_s121 : Cond.selects mm_y121.cls mm_y121 mm_y121 ∈ im_Ts := im_in 1111 (by decide +kernel) rfl
theorem mm_a122 : (parseMethodDescriptor mm_y122.desc).map (fun d => d.parameters.length) = some 2 := by decide +kernel
theorem mm_i122 : Cond.instanceMethod mm_y122 ∈ im_Ts := im_in 1151 (by decide +kernel) rfl
theorem mm_s122 : Cond.selects mm_y122.cls mm_y122 mm_y122 ∈ im_Ts := im_in 1152 (by decide +kernel) rfl
theorem mm_a123 : (parseMethodDescriptor mm_y123.desc).map (fun d => d.parameters.length) = some 2 := by decide +kernel
theorem mm_i123 : Cond.instanceMethod mm_y123 ∈ im_Ts := im_in 1267 (by decide +kernel) rfl
theorem mm_s123 : Cond.selects mm_y123.cls mm_y123 mm_y123 ∈ im_Ts := im_in 1268 (by decide +kernel) rfl
theorem mm_a124 : (parseMethodDescriptor mm_y124.desc).map (fun d => d.parameters.length) = some 1 := by decide +kernel
theorem mm_i124 : Cond.instanceMethod mm_y124 ∈ im_Ts := im_in 946 (by decide +kernel) rfl
theorem mm_s124 : Cond.selects mm_y124.cls mm_y124 mm_y124 ∈ im_Ts := im_in 947 (by decide +kernel) rfl
theorem mm_a125 : (parseMethodDescriptor mm_y125.desc).map (fun d => d.parameters.length) = some 1 := by decide +kernel
theorem mm_i125 : Cond.instanceMethod mm_y125 ∈ im_Ts := im_in 1155 (by decide +kernel) rfl
theorem mm_s125 : Cond.selects mm_y125.cls mm_y125 mm_y125 ∈ im_Ts := im_in 1156 (by decide +kernel) rfl
theorem mm_a126 : (parseMethodDescriptor mm_y126.desc).map (fun d => d.parameters.length) = some 1 := by decide +kernel
theorem mm_i126 : Cond.instanceMethod mm_y126 ∈ im_Ts := im_in 1180 (by decide +kernel) rfl
theorem mm_s126 : Cond.selects mm_y126.cls mm_y126 mm_y126 ∈ im_Ts := im_in 1181 (by decide +kernel) rfl
theorem mm_a127 : (parseMethodDescriptor mm_y127.desc).map (fun d => d.parameters.length) = some 1 := by decide +kernel
theorem mm_i127 : Cond.instanceMethod mm_y127 ∈ im_Ts := im_in 550 (by decide +kernel) rfl
theorem mm_s127 : Cond.selects mm_y127.cls mm_y127 mm_y127 ∈ im_Ts := im_in 551 (by decide +kernel) rfl
theorem mm_a128 : (parseMethodDescriptor mm_y128.desc).map (fun d => d.parameters.length) = some 1 := by decide +kernel
theorem mm_i128 : Cond.instanceMethod mm_y128 ∈ im_Ts := im_in 1381 (by decide +kernel) rfl
theorem mm_s128 : Cond.selects mm_y128.cls mm_y128 mm_y128 ∈ im_Ts := im_in 1382 (by decide +kernel) rfl
theorem mm_a129 : (parseMethodDescriptor mm_y129.desc).map (fun d => d.parameters.length) = some 1 := by decide +kernel
theorem mm_i129 : Cond.instanceMethod mm_y129 ∈ im_Ts := im_in 963 (by decide +kernel) rfl
theorem mm_s129 : Cond.selects mm_y129.cls mm_y129 mm_y129 ∈ im_Ts := im_in 964 (by decide +kernel) rfl
theorem mm_a130 : (parseMethodDescriptor mm_y130.desc).map (fun d => d.parameters.length) = some 1 := by decide +kernel
theorem mm_i130 : Cond.instanceMethod mm_y130 ∈ im_Ts := im_in 954 (by decide +kernel) rfl
theorem mm_s130 : Cond.selects mm_y130.cls mm_y130 mm_y130 ∈ im_Ts := im_in 955 (by decide +kernel) rfl
theorem mm_a131 : (parseMethodDescriptor mm_y131.desc).map (fun d => d.parameters.length) = some 1 := by decide +kernel
theorem mm_i131 : Cond.instanceMethod mm_y131 ∈ im_Ts := im_in 958 (by decide +kernel) rfl
theorem mm_s131 : Cond.selects mm_y131.cls mm_y131 mm_y131 ∈ im_Ts := im_in 959 (by decide +kernel) rfl
theorem mm_a132 : (parseMethodDescriptor mm_y132.desc).map (fun d => d.parameters.length) = some 2 := by decide +kernel
theorem mm_i132 : Cond.instanceMethod mm_y132 ∈ im_Ts := im_in 1000 (by decide +kernel) rfl
theorem mm_s132 : Cond.selects mm_y132.cls mm_y132 mm_y132 ∈ im_Ts := im_in 1001 (by decide +kernel) rfl
theorem mm_a133 : (parseMethodDescriptor mm_y133.desc).map (fun d => d.parameters.length) = some 0 := by decide +kernel
theorem mm_i133 : Cond.instanceMethod mm_y133 ∈ im_Ts := im_in 184 (by decide +kernel) rfl
theorem mm_a134 : (parseMethodDescriptor mm_y134.desc).map (fun d => d.parameters.length) = some 1 := by decide +kernel
theorem mm_i134 : Cond.instanceMethod mm_y134 ∈ im_Ts := im_in 681 (by decide +kernel) rfl
theorem mm_s134 : Cond.selects mm_y134.cls mm_y134 mm_y134 ∈ im_Ts := im_in 682 (by decide +kernel) rfl
theorem mm_a135 : (parseMethodDescriptor mm_y135.desc).map (fun d => d.parameters.length) = some 0 := by decide +kernel
theorem mm_i135 : Cond.instanceMethod mm_y135 ∈ im_Ts := im_in 697 (by decide +kernel) rfl
theorem mm_s135 : Cond.selects mm_y135.cls mm_y135 mm_y135 ∈ im_Ts := im_in 698 (by decide +kernel) rfl
theorem mm_a136 : (parseMethodDescriptor mm_y136.desc).map (fun d => d.parameters.length) = some 0 := by decide +kernel
theorem mm_i136 : Cond.instanceMethod mm_y136 ∈ im_Ts := im_in 701 (by decide +kernel) rfl
theorem mm_s136 : Cond.selects mm_y136.cls mm_y136 mm_y136 ∈ im_Ts := im_in 702 (by decide +kernel) rfl
theorem mm_a137 : (parseMethodDescriptor mm_y137.desc).map (fun d => d.parameters.length) = some 0 := by decide +kernel
theorem mm_i137 : Cond.instanceMethod mm_y137 ∈ im_Ts := im_in 751 (by decide +kernel) rfl
theorem mm_s137 : Cond.selects mm_y137.cls mm_y137 mm_y137 ∈ im_Ts := im_in 752 (by decide +kernel) rfl
theorem mm_a138 : (parseMethodDescriptor mm_y138.desc).map (fun d => d.parameters.length) = some 0 := by decide +kernel
theorem mm_i138 : Cond.instanceMethod mm_y138 ∈ im_Ts := im_in 706 (by decide +kernel) rfl
theorem mm_s138 : Cond.selects mm_y138.cls mm_y138 mm_y138 ∈ im_Ts := im_in 2 (by decide +kernel) rfl
theorem mm_a139 : (parseMethodDescriptor mm_y139.desc).map (fun d => d.parameters.length) = some 2 := by decide +kernel
theorem mm_i139 : Cond.instanceMethod mm_y139 ∈ im_Ts := im_in 713 (by decide +kernel) rfl
theorem mm_s139 : Cond.selects mm_y139.cls mm_y139 mm_y139 ∈ im_Ts := im_in 3 (by decide +kernel) rfl
theorem mm_a140 : (parseMethodDescriptor mm_y140.desc).map (fun d => d.parameters.length) = some 0 := by decide +kernel
theorem mm_i140 : Cond.instanceMethod mm_y140 ∈ im_Ts := im_in 726 (by decide +kernel) rfl
theorem mm_s140 : Cond.selects mm_y140.cls mm_y140 mm_y140 ∈ im_Ts := im_in 4 (by decide +kernel) rfl
theorem mm_a141 : (parseMethodDescriptor mm_y141.desc).map (fun d => d.parameters.length) = some 1 := by decide +kernel
theorem mm_i141 : Cond.instanceMethod mm_y141 ∈ im_Ts := im_in 731 (by decide +kernel) rfl
theorem mm_s141 : Cond.selects mm_y141.cls mm_y141 mm_y141 ∈ im_Ts := im_in 5 (by decide +kernel) rfl
theorem mm_a142 : (parseMethodDescriptor mm_y142.desc).map (fun d => d.parameters.length) = some 1 := by decide +kernel
theorem mm_t142 : Cond.static mm_y142 ∈ im_Ts := im_in 709 (by decide +kernel) rfl
theorem mm_a143 : (parseMethodDescriptor mm_y143.desc).map (fun d => d.parameters.length) = some 1 := by decide +kernel
theorem mm_t143 : Cond.static mm_y143 ∈ im_Ts := im_in 719 (by decide +kernel) rfl
theorem mm_a144 : (parseMethodDescriptor mm_y144.desc).map (fun d => d.parameters.length) = some 1 := by decide +kernel
theorem mm_t144 : Cond.static mm_y144 ∈ im_Ts := im_in 722 (by decide +kernel) rfl
theorem mm_a145 : (parseMethodDescriptor mm_y145.desc).map (fun d => d.parameters.length) = some 1 := by decide +kernel
theorem mm_t145 : Cond.static mm_y145 ∈ im_Ts := im_in 716 (by decide +kernel) rfl
theorem mm_a146 : (parseMethodDescriptor mm_y146.desc).map (fun d => d.parameters.length) = some 1 := by decide +kernel
theorem mm_i146 : Cond.instanceMethod mm_y146 ∈ im_Ts := im_in 467 (by decide +kernel) rfl
theorem mm_a147 : (parseMethodDescriptor mm_y147.desc).map (fun d => d.parameters.length) = some 1 := by decide +kernel
theorem mm_i147 : Cond.instanceMethod mm_y147 ∈ im_Ts := im_in 555 (by decide +kernel) rfl
theorem mm_s147 : Cond.selects mm_y147.cls mm_y147 mm_y147 ∈ im_Ts := im_in 556 (by decide +kernel) rfl
theorem mm_a148 : (parseMethodDescriptor mm_y148.desc).map (fun d => d.parameters.length) = some 3 := by decide +kernel
theorem mm_i148 : Cond.instanceMethod mm_y148 ∈ im_Ts := im_in 1137 (by decide +kernel) rfl
theorem mm_s148 : Cond.selects mm_y148.cls mm_y148 mm_y148 ∈ im_Ts := im_in 1138 (by decide +kernel) rfl
theorem mm_a149 : (parseMethodDescriptor mm_y149.desc).map (fun d => d.parameters.length) = some 3 := by decide +kernel
theorem mm_i149 : Cond.instanceMethod mm_y149 ∈ im_Ts := im_in 1142 (by decide +kernel) rfl
theorem mm_s149 : Cond.selects mm_y149.cls mm_y149 mm_y149 ∈ im_Ts := im_in 36 (by decide +kernel) rfl
theorem mm_a150 : (parseMethodDescriptor mm_y150.desc).map (fun d => d.parameters.length) = some 1 := by decide +kernel
theorem mm_i150 : Cond.instanceMethod mm_y150 ∈ im_Ts := im_in 1146 (by decide +kernel) rfl
theorem mm_s150 : Cond.selects mm_y150.cls mm_y150 mm_y150 ∈ im_Ts := im_in 37 (by decide +kernel) rfl
theorem mm_a151 : (parseMethodDescriptor mm_y151.desc).map (fun d => d.parameters.length) = some 0 := by decide +kernel
theorem mm_i151 : Cond.instanceMethod mm_y151 ∈ im_Ts := im_in 1163 (by decide +kernel) rfl
theorem mm_s151 : Cond.selects mm_y151.cls mm_y151 mm_y151 ∈ im_Ts := im_in 38 (by decide +kernel) rfl
theorem mm_a152 : (parseMethodDescriptor mm_y152.desc).map (fun d => d.parameters.length) = some 1 := by decide +kernel
theorem mm_i152 : Cond.instanceMethod mm_y152 ∈ im_Ts := im_in 1177 (by decide +kernel) rfl
theorem mm_s152 : Cond.selects mm_y152.cls mm_y152 mm_y152 ∈ im_Ts := im_in 41 (by decide +kernel) rfl
theorem mm_a153 : (parseMethodDescriptor mm_y153.desc).map (fun d => d.parameters.length) = some 1 := by decide +kernel
theorem mm_i153 : Cond.instanceMethod mm_y153 ∈ im_Ts := im_in 1173 (by decide +kernel) rfl
theorem mm_s153 : Cond.selects mm_y153.cls mm_y153 mm_y153 ∈ im_Ts := im_in 40 (by decide +kernel) rfl
theorem mm_a154 : (parseMethodDescriptor mm_y154.desc).map (fun d => d.parameters.length) = some 1 := by decide +kernel
theorem mm_i154 : Cond.instanceMethod mm_y154 ∈ im_Ts := im_in 1167 (by decide +kernel) rfl
theorem mm_s154 : Cond.selects mm_y154.cls mm_y154 mm_y154 ∈ im_Ts := im_in 39 (by decide +kernel) rfl
theorem mm_a155 : (parseMethodDescriptor mm_y155.desc).map (fun d => d.parameters.length) = some 1 := by decide +kernel
theorem mm_i155 : Cond.instanceMethod mm_y155 ∈ im_Ts := im_in 626 (by decide +kernel) rfl
theorem mm_a156 : (parseMethodDescriptor mm_y156.desc).map (fun d => d.parameters.length) = some 0 := by decide +kernel
theorem mm_i156 : Cond.instanceMethod mm_y156 ∈ im_Ts := im_in 930 (by decide +kernel) rfl
theorem mm_s156 : Cond.selects mm_y156.cls mm_y156 mm_y156 ∈ im_Ts := im_in 931 (by decide +kernel) rfl
theorem mm_a157 : (parseMethodDescriptor mm_y157.desc).map (fun d => d.parameters.length) = some 1 := by decide +kernel
theorem mm_i157 : Cond.instanceMethod mm_y157 ∈ im_Ts := im_in 1015 (by decide +kernel) rfl
theorem mm_s157 : Cond.selects mm_y157.cls mm_y157 mm_y157 ∈ im_Ts := im_in 1016 (by decide +kernel) rfl
theorem mm_a158 : (parseMethodDescriptor mm_y158.desc).map (fun d => d.parameters.length) = some 1 := by decide +kernel
theorem mm_i158 : Cond.instanceMethod mm_y158 ∈ im_Ts := im_in 934 (by decide +kernel) rfl
theorem mm_s158 : Cond.selects mm_y158.cls mm_y158 mm_y158 ∈ im_Ts := im_in 935 (by decide +kernel) rfl
theorem mm_a159 : (parseMethodDescriptor mm_y159.desc).map (fun d => d.parameters.length) = some 1 := by decide +kernel
theorem mm_i159 : Cond.instanceMethod mm_y159 ∈ im_Ts := im_in 942 (by decide +kernel) rfl
theorem mm_s159 : Cond.selects mm_y159.cls mm_y159 mm_y159 ∈ im_Ts := im_in 943 (by decide +kernel) rfl
theorem mm_a160 : (parseMethodDescriptor mm_y160.desc).map (fun d => d.parameters.length) = some 1 := by decide +kernel
theorem mm_i160 : Cond.instanceMethod mm_y160 ∈ im_Ts := im_in 951 (by decide +kernel) rfl
theorem mm_s160 : Cond.selects mm_y160.cls mm_y160 mm_y160 ∈ im_Ts := im_in 22 (by decide +kernel) rfl
theorem mm_a161 : (parseMethodDescriptor mm_y161.desc).map (fun d => d.parameters.length) = some 2 := by decide +kernel
theorem mm_i161 : Cond.instanceMethod mm_y161 ∈ im_Ts := im_in 985 (by decide +kernel) rfl
theorem mm_s161 : Cond.selects mm_y161.cls mm_y161 mm_y161 ∈ im_Ts := im_in 26 (by decide +kernel) rfl
theorem mm_a162 : (parseMethodDescriptor mm_y162.desc).map (fun d => d.parameters.length) = some 1 := by decide +kernel
theorem mm_i162 : Cond.instanceMethod mm_y162 ∈ im_Ts := im_in 1011 (by decide +kernel) rfl
theorem mm_s162 : Cond.selects mm_y162.cls mm_y162 mm_y162 ∈ im_Ts := im_in 30 (by decide +kernel) rfl
theorem mm_a163 : (parseMethodDescriptor mm_y163.desc).map (fun d => d.parameters.length) = some 1 := by decide +kernel
theorem mm_i163 : Cond.instanceMethod mm_y163 ∈ im_Ts := im_in 996 (by decide +kernel) rfl
theorem mm_s163 : Cond.selects mm_y163.cls mm_y163 mm_y163 ∈ im_Ts := im_in 28 (by decide +kernel) rfl
theorem mm_a164 : (parseMethodDescriptor mm_y164.desc).map (fun d => d.parameters.length) = some 2 := by decide +kernel
theorem mm_i164 : Cond.instanceMethod mm_y164 ∈ im_Ts := im_in 1007 (by decide +kernel) rfl
theorem mm_s164 : Cond.selects mm_y164.cls mm_y164 mm_y164 ∈ im_Ts := im_in 29 (by decide +kernel) rfl
theorem mm_a165 : (parseMethodDescriptor mm_y165.desc).map (fun d => d.parameters.length) = some 1 := by decide +kernel
theorem mm_i165 : Cond.instanceMethod mm_y165 ∈ im_Ts := im_in 969 (by decide +kernel) rfl
theorem mm_s165 : Cond.selects mm_y165.cls mm_y165 mm_y165 ∈ im_Ts := im_in 23 (by decide +kernel) rfl
theorem mm_a166 : (parseMethodDescriptor mm_y166.desc).map (fun d => d.parameters.length) = some 1 := by decide +kernel
theorem mm_i166 : Cond.instanceMethod mm_y166 ∈ im_Ts := im_in 977 (by decide +kernel) rfl
theorem mm_s166 : Cond.selects mm_y166.cls mm_y166 mm_y166 ∈ im_Ts := im_in 25 (by decide +kernel) rfl
theorem mm_a167 : (parseMethodDescriptor mm_y167.desc).map (fun d => d.parameters.length) = some 1 := by decide +kernel
theorem mm_i167 : Cond.instanceMethod mm_y167 ∈ im_Ts := im_in 990 (by decide +kernel) rfl
theorem mm_s167 : Cond.selects mm_y167.cls mm_y167 mm_y167 ∈ im_Ts := im_in 27 (by decide +kernel) rfl
theorem mm_a168 : (parseMethodDescriptor mm_y168.desc).map (fun d => d.parameters.length) = some 1 := by decide +kernel
theorem mm_i168 : Cond.instanceMethod mm_y168 ∈ im_Ts := im_in 973 (by decide +kernel) rfl
theorem mm_s168 : Cond.selects mm_y168.cls mm_y168 mm_y168 ∈ im_Ts := im_in 24 (by decide +kernel) rfl
theorem mm_a169 : (parseMethodDescriptor mm_y169.desc).map (fun d => d.parameters.length) = some 0 := by decide +kernel
theorem mm_i169 : Cond.instanceMethod mm_y169 ∈ im_Ts := im_in 1394 (by decide +kernel) rfl
theorem mm_a170 : (parseMethodDescriptor mm_y170.desc).map (fun d => d.parameters.length) = some 3 := by decide +kernel
theorem mm_t170 : Cond.static mm_y170 ∈ im_Ts := im_in 1631 (by decide +kernel) rfl
theorem mm_a171 : (parseMethodDescriptor mm_y171.desc).map (fun d => d.parameters.length) = some 4 := by decide +kernel
theorem mm_t171 : Cond.static mm_y171 ∈ im_Ts := im_in 1709 (by decide +kernel) rfl
theorem mm_a172 : (parseMethodDescriptor mm_y172.desc).map (fun d => d.parameters.length) = some 0 := by decide +kernel
theorem mm_i172 : Cond.instanceMethod mm_y172 ∈ im_Ts := im_in 1651 (by decide +kernel) rfl
theorem mm_s172 : Cond.selects mm_y172.cls mm_y172 mm_y172 ∈ im_Ts := im_in 62 (by decide +kernel) rfl
theorem mm_a173 : (parseMethodDescriptor mm_y173.desc).map (fun d => d.parameters.length) = some 1 := by decide +kernel
theorem mm_t173 : Cond.static mm_y173 ∈ im_Ts := im_in 1654 (by decide +kernel) rfl
theorem mm_a174 : (parseMethodDescriptor mm_y174.desc).map (fun d => d.parameters.length) = some 1 := by decide +kernel
theorem mm_t174 : Cond.static mm_y174 ∈ im_Ts := im_in 1661 (by decide +kernel) rfl
theorem mm_a175 : (parseMethodDescriptor mm_y175.desc).map (fun d => d.parameters.length) = some 1 := by decide +kernel
theorem mm_t175 : Cond.static mm_y175 ∈ im_Ts := im_in 1664 (by decide +kernel) rfl
theorem mm_a176 : (parseMethodDescriptor mm_y176.desc).map (fun d => d.parameters.length) = some 2 := by decide +kernel
theorem mm_i176 : Cond.instanceMethod mm_y176 ∈ im_Ts := im_in 1658 (by decide +kernel) rfl
theorem mm_s176 : Cond.selects mm_y176.cls mm_y176 mm_y176 ∈ im_Ts := im_in 63 (by decide +kernel) rfl
theorem mm_a177 : (parseMethodDescriptor mm_y177.desc).map (fun d => d.parameters.length) = some 0 := by decide +kernel
theorem mm_i177 : Cond.instanceMethod mm_y177 ∈ im_Ts := im_in 1669 (by decide +kernel) rfl
theorem mm_s177 : Cond.selects mm_y177.cls mm_y177 mm_y177 ∈ im_Ts := im_in 64 (by decide +kernel) rfl
theorem mm_a178 : (parseMethodDescriptor mm_y178.desc).map (fun d => d.parameters.length) = some 1 := by decide +kernel
theorem mm_i178 : Cond.instanceMethod mm_y178 ∈ im_Ts := im_in 1675 (by decide +kernel) rfl
theorem mm_s178 : Cond.selects mm_y178.cls mm_y178 mm_y178 ∈ im_Ts := im_in 65 (by decide +kernel) rfl
theorem mm_a179 : (parseMethodDescriptor mm_y179.desc).map (fun d => d.parameters.length) = some 0 := by decide +kernel
theorem mm_i179 : Cond.instanceMethod mm_y179 ∈ im_Ts := im_in 1647 (by decide +kernel) rfl
theorem mm_s179 : Cond.selects mm_y179.cls mm_y179 mm_y179 ∈ im_Ts := im_in 61 (by decide +kernel) rfl
theorem mm_a180 : (parseMethodDescriptor mm_y180.desc).map (fun d => d.parameters.length) = some 0 := by decide +kernel
theorem mm_i180 : Cond.instanceMethod mm_y180 ∈ im_Ts := im_in 1713 (by decide +kernel) rfl
theorem mm_s180 : Cond.selects mm_y180.cls mm_y180 mm_y180 ∈ im_Ts := im_in 73 (by decide +kernel) rfl
theorem mm_a181 : (parseMethodDescriptor mm_y181.desc).map (fun d => d.parameters.length) = some 2 := by decide +kernel
theorem mm_i181 : Cond.instanceMethod mm_y181 ∈ im_Ts := im_in 1699 (by decide +kernel) rfl
theorem mm_s181 : Cond.selects mm_y181.cls mm_y181 mm_y181 ∈ im_Ts := im_in 71 (by decide +kernel) rfl
theorem mm_a182 : (parseMethodDescriptor mm_y182.desc).map (fun d => d.parameters.length) = some 2 := by decide +kernel
theorem mm_i182 : Cond.instanceMethod mm_y182 ∈ im_Ts := im_in 1725 (by decide +kernel) rfl
theorem mm_s182 : Cond.selects mm_y182.cls mm_y182 mm_y182 ∈ im_Ts := im_in 76 (by decide +kernel) rfl
theorem mm_a183 : (parseMethodDescriptor mm_y183.desc).map (fun d => d.parameters.length) = some 0 := by decide +kernel
theorem mm_i183 : Cond.instanceMethod mm_y183 ∈ im_Ts := im_in 1717 (by decide +kernel) rfl
theorem mm_s183 : Cond.selects mm_y183.cls mm_y183 mm_y183 ∈ im_Ts := im_in 74 (by decide +kernel) rfl
theorem mm_a184 : (parseMethodDescriptor mm_y184.desc).map (fun d => d.parameters.length) = some 2 := by decide +kernel
theorem mm_t184 : Cond.static mm_y184 ∈ im_Ts := im_in 1706 (by decide +kernel) rfl
theorem mm_a185 : (parseMethodDescriptor mm_y185.desc).map (fun d => d.parameters.length) = some 2 := by decide +kernel
theorem mm_i185 : Cond.instanceMethod mm_y185 ∈ im_Ts := im_in 1703 (by decide +kernel) rfl
theorem mm_s185 : Cond.selects mm_y185.cls mm_y185 mm_y185 ∈ im_Ts := im_in 72 (by decide +kernel) rfl
theorem mm_a186 : (parseMethodDescriptor mm_y186.desc).map (fun d => d.parameters.length) = some 2 := by decide +kernel
theorem mm_i186 : Cond.instanceMethod mm_y186 ∈ im_Ts := im_in 1691 (by decide +kernel) rfl
theorem mm_s186 : Cond.selects mm_y186.cls mm_y186 mm_y186 ∈ im_Ts := im_in 69 (by decide +kernel) rfl
theorem mm_a187 : (parseMethodDescriptor mm_y187.desc).map (fun d => d.parameters.length) = some 1 := by decide +kernel
theorem mm_i187 : Cond.instanceMethod mm_y187 ∈ im_Ts := im_in 1695 (by decide +kernel) rfl
theorem mm_s187 : Cond.selects mm_y187.cls mm_y187 mm_y187 ∈ im_Ts := im_in 70 (by decide +kernel) rfl
theorem mm_a188 : (parseMethodDescriptor mm_y188.desc).map (fun d => d.parameters.length) = some 0 := by decide +kernel
theorem mm_i188 : Cond.instanceMethod mm_y188 ∈ im_Ts := im_in 1729 (by decide +kernel) rfl
theorem mm_s188 : Cond.selects mm_y188.cls mm_y188 mm_y188 ∈ im_Ts := im_in 77 (by decide +kernel) rfl
theorem mm_a189 : (parseMethodDescriptor mm_y189.desc).map (fun d => d.parameters.length) = some 2 := by decide +kernel
theorem mm_i189 : Cond.instanceMethod mm_y189 ∈ im_Ts := im_in 1721 (by decide +kernel) rfl
theorem mm_s189 : Cond.selects mm_y189.cls mm_y189 mm_y189 ∈ im_Ts := im_in 75 (by decide +kernel) rfl
theorem mm_a190 : (parseMethodDescriptor mm_y190.desc).map (fun d => d.parameters.length) = some 1 := by decide +kernel
theorem mm_i190 : Cond.instanceMethod mm_y190 ∈ im_Ts := im_in 1733 (by decide +kernel) rfl
theorem mm_s190 : Cond.selects mm_y190.cls mm_y190 mm_y190 ∈ im_Ts := im_in 78 (by decide +kernel) rfl
theorem mm_a191 : (parseMethodDescriptor mm_y191.desc).map (fun d => d.parameters.length) = some 1 := by decide +kernel
theorem mm_i191 : Cond.instanceMethod mm_y191 ∈ im_Ts := im_in 1738 (by decide +kernel) rfl
theorem mm_s191 : Cond.selects mm_y191.cls mm_y191 mm_y191 ∈ im_Ts := im_in 79 (by decide +kernel) rfl
theorem mm_a192 : (parseMethodDescriptor mm_y192.desc).map (fun d => d.parameters.length) = some 2 := by decide +kernel
theorem mm_i192 : Cond.instanceMethod mm_y192 ∈ im_Ts := im_in 1687 (by decide +kernel) rfl
theorem mm_s192 : Cond.selects mm_y192.cls mm_y192 mm_y192 ∈ im_Ts := im_in 68 (by decide +kernel) rfl
theorem mm_a193 : (parseMethodDescriptor mm_y193.desc).map (fun d => d.parameters.length) = some 1 := by decide +kernel
theorem mm_i193 : Cond.instanceMethod mm_y193 ∈ im_Ts := im_in 1679 (by decide +kernel) rfl
theorem mm_s193 : Cond.selects mm_y193.cls mm_y193 mm_y193 ∈ im_Ts := im_in 66 (by decide +kernel) rfl
theorem mm_a194 : (parseMethodDescriptor mm_y194.desc).map (fun d => d.parameters.length) = some 0 := by decide +kernel
theorem mm_i194 : Cond.instanceMethod mm_y194 ∈ im_Ts := im_in 1683 (by decide +kernel) rfl
theorem mm_s194 : Cond.selects mm_y194.cls mm_y194 mm_y194 ∈ im_Ts := im_in 67 (by decide +kernel) rfl
theorem mm_a195 : (parseMethodDescriptor mm_y195.desc).map (fun d => d.parameters.length) = some 0 := by decide +kernel
theorem mm_i195 : Cond.instanceMethod mm_y195 ∈ im_Ts := im_in 1742 (by decide +kernel) rfl
theorem mm_s195 : Cond.selects mm_y195.cls mm_y195 mm_y195 ∈ im_Ts := im_in 80 (by decide +kernel) rfl
theorem mm_a196 : (parseMethodDescriptor mm_y196.desc).map (fun d => d.parameters.length) = some 1 := by decide +kernel
theorem mm_i196 : Cond.instanceMethod mm_y196 ∈ im_Ts := im_in 1754 (by decide +kernel) rfl
theorem mm_s196 : Cond.selects mm_y196.cls mm_y196 mm_y196 ∈ im_Ts := im_in 83 (by decide +kernel) rfl
theorem mm_a197 : (parseMethodDescriptor mm_y197.desc).map (fun d => d.parameters.length) = some 0 := by decide +kernel
theorem mm_i197 : Cond.instanceMethod mm_y197 ∈ im_Ts := im_in 1750 (by decide +kernel) rfl
theorem mm_s197 : Cond.selects mm_y197.cls mm_y197 mm_y197 ∈ im_Ts := im_in 82 (by decide +kernel) rfl
theorem mm_a198 : (parseMethodDescriptor mm_y198.desc).map (fun d => d.parameters.length) = some 0 := by decide +kernel
theorem mm_i198 : Cond.instanceMethod mm_y198 ∈ im_Ts := im_in 1746 (by decide +kernel) rfl
theorem mm_s198 : Cond.selects mm_y198.cls mm_y198 mm_y198 ∈ im_Ts := im_in 81 (by decide +kernel) rfl
theorem mm_a199 : (parseMethodDescriptor mm_y199.desc).map (fun d => d.parameters.length) = some 1 := by decide +kernel
theorem mm_i199 : Cond.instanceMethod mm_y199 ∈ im_Ts := im_in 1643 (by decide +kernel) rfl
theorem mm_s199 : Cond.selects mm_y199.cls mm_y199 mm_y199 ∈ im_Ts := im_in 60 (by decide +kernel) rfl
theorem mm_a200 : (parseMethodDescriptor mm_y200.desc).map (fun d => d.parameters.length) = some 1 := by decide +kernel
theorem mm_i200 : Cond.instanceMethod mm_y200 ∈ im_Ts := im_in 1627 (by decide +kernel) rfl
theorem mm_s200 : Cond.selects mm_y200.cls mm_y200 mm_y200 ∈ im_Ts := im_in 1628 (by decide +kernel) rfl
theorem mm_a201 : (parseMethodDescriptor mm_y201.desc).map (fun d => d.parameters.length) = some 0 := by decide +kernel
theorem mm_i201 : Cond.instanceMethod mm_y201 ∈ im_Ts := im_in 1634 (by decide +kernel) rfl
theorem mm_s201 : Cond.selects mm_y201.cls mm_y201 mm_y201 ∈ im_Ts := im_in 1635 (by decide +kernel) rfl
theorem mm_a202 : (parseMethodDescriptor mm_y202.desc).map (fun d => d.parameters.length) = some 1 := by decide +kernel
theorem mm_i202 : Cond.instanceMethod mm_y202 ∈ im_Ts := im_in 1638 (by decide +kernel) rfl
theorem mm_s202 : Cond.selects mm_y202.cls mm_y202 mm_y202 ∈ im_Ts := im_in 1639 (by decide +kernel) rfl
theorem mm_a203 : (parseMethodDescriptor mm_y203.desc).map (fun d => d.parameters.length) = some 4 := by decide +kernel
theorem mm_i203 : Cond.instanceMethod mm_y203 ∈ im_Ts := im_in 1766 (by decide +kernel) rfl
theorem mm_s203 : Cond.selects mm_y203.cls mm_y203 mm_y203 ∈ im_Ts := im_in 85 (by decide +kernel) rfl
theorem mm_a204 : (parseMethodDescriptor mm_y204.desc).map (fun d => d.parameters.length) = some 0 := by decide +kernel
theorem mm_i204 : Cond.instanceMethod mm_y204 ∈ im_Ts := im_in 1762 (by decide +kernel) rfl
theorem mm_s204 : Cond.selects mm_y204.cls mm_y204 mm_y204 ∈ im_Ts := im_in 84 (by decide +kernel) rfl
theorem mm_a205 : (parseMethodDescriptor mm_y205.desc).map (fun d => d.parameters.length) = some 1 := by decide +kernel
theorem mm_i205 : Cond.instanceMethod mm_y205 ∈ im_Ts := im_in 1774 (by decide +kernel) rfl
theorem mm_s205 : Cond.selects mm_y205.cls mm_y205 mm_y205 ∈ im_Ts := im_in 86 (by decide +kernel) rfl
theorem mm_a206 : (parseMethodDescriptor mm_y206.desc).map (fun d => d.parameters.length) = some 1 := by decide +kernel
theorem mm_i206 : Cond.instanceMethod mm_y206 ∈ im_Ts := im_in 1794 (by decide +kernel) rfl
theorem mm_s206 : Cond.selects mm_y206.cls mm_y206 mm_y206 ∈ im_Ts := im_in 88 (by decide +kernel) rfl
theorem mm_a207 : (parseMethodDescriptor mm_y207.desc).map (fun d => d.parameters.length) = some 0 := by decide +kernel
theorem mm_i207 : Cond.instanceMethod mm_y207 ∈ im_Ts := im_in 1757 (by decide +kernel) rfl
theorem mm_s207 : Cond.selects mm_y207.cls mm_y207 mm_y207 ∈ im_Ts := im_in 1758 (by decide +kernel) rfl
theorem mm_a208 : (parseMethodDescriptor mm_y208.desc).map (fun d => d.parameters.length) = some 1 := by decide +kernel
theorem mm_i208 : Cond.instanceMethod mm_y208 ∈ im_Ts := im_in 1769 (by decide +kernel) rfl
theorem mm_s208 : Cond.selects mm_y208.cls mm_y208 mm_y208 ∈ im_Ts := im_in 1770 (by decide +kernel) rfl
theorem mm_a209 : (parseMethodDescriptor mm_y209.desc).map (fun d => d.parameters.length) = some 2 := by decide +kernel
theorem mm_i209 : Cond.instanceMethod mm_y209 ∈ im_Ts := im_in 1777 (by decide +kernel) rfl
theorem mm_s209 : Cond.selects mm_y209.cls mm_y209 mm_y209 ∈ im_Ts := im_in 1778 (by decide +kernel) rfl
theorem mm_a210 : (parseMethodDescriptor mm_y210.desc).map (fun d => d.parameters.length) = some 0 := by decide +kernel
theorem mm_i210 : Cond.instanceMethod mm_y210 ∈ im_Ts := im_in 1781 (by decide +kernel) rfl
theorem mm_s210 : Cond.selects mm_y210.cls mm_y210 mm_y210 ∈ im_Ts := im_in 1782 (by decide +kernel) rfl
theorem mm_a211 : (parseMethodDescriptor mm_y211.desc).map (fun d => d.parameters.length) = some 2 := by decide +kernel
theorem mm_i211 : Cond.instanceMethod mm_y211 ∈ im_Ts := im_in 1802 (by decide +kernel) rfl
theorem mm_s211 : Cond.selects mm_y211.cls mm_y211 mm_y211 ∈ im_Ts := im_in 90 (by decide +kernel) rfl
theorem mm_a212 : (parseMethodDescriptor mm_y212.desc).map (fun d => d.parameters.length) = some 1 := by decide +kernel
theorem mm_i212 : Cond.instanceMethod mm_y212 ∈ im_Ts := im_in 1798 (by decide +kernel) rfl
theorem mm_s212 : Cond.selects mm_y212.cls mm_y212 mm_y212 ∈ im_Ts := im_in 89 (by decide +kernel) rfl
theorem mm_a213 : (parseMethodDescriptor mm_y213.desc).map (fun d => d.parameters.length) = some 0 := by decide +kernel
theorem mm_i213 : Cond.instanceMethod mm_y213 ∈ im_Ts := im_in 1790 (by decide +kernel) rfl
theorem mm_s213 : Cond.selects mm_y213.cls mm_y213 mm_y213 ∈ im_Ts := im_in 87 (by decide +kernel) rfl
theorem mm_a214 : (parseMethodDescriptor mm_y214.desc).map (fun d => d.parameters.length) = some 1 := by decide +kernel
theorem mm_i214 : Cond.instanceMethod mm_y214 ∈ im_Ts := im_in 1822 (by decide +kernel) rfl
theorem mm_s214 : Cond.selects mm_y214.cls mm_y214 mm_y214 ∈ im_Ts := im_in 95 (by decide +kernel) rfl
theorem mm_a215 : (parseMethodDescriptor mm_y215.desc).map (fun d => d.parameters.length) = some 1 := by decide +kernel
theorem mm_i215 : Cond.instanceMethod mm_y215 ∈ im_Ts := im_in 1818 (by decide +kernel) rfl
theorem mm_s215 : Cond.selects mm_y215.cls mm_y215 mm_y215 ∈ im_Ts := im_in 94 (by decide +kernel) rfl
theorem mm_a216 : (parseMethodDescriptor mm_y216.desc).map (fun d => d.parameters.length) = some 1 := by decide +kernel
theorem mm_i216 : Cond.instanceMethod mm_y216 ∈ im_Ts := im_in 1814 (by decide +kernel) rfl
theorem mm_s216 : Cond.selects mm_y216.cls mm_y216 mm_y216 ∈ im_Ts := im_in 93 (by decide +kernel) rfl
theorem mm_a217 : (parseMethodDescriptor mm_y217.desc).map (fun d => d.parameters.length) = some 1 := by decide +kernel
theorem mm_i217 : Cond.instanceMethod mm_y217 ∈ im_Ts := im_in 1810 (by decide +kernel) rfl
theorem mm_s217 : Cond.selects mm_y217.cls mm_y217 mm_y217 ∈ im_Ts := im_in 92 (by decide +kernel) rfl
theorem mm_a218 : (parseMethodDescriptor mm_y218.desc).map (fun d => d.parameters.length) = some 0 := by decide +kernel
theorem mm_i218 : Cond.instanceMethod mm_y218 ∈ im_Ts := im_in 1806 (by decide +kernel) rfl
theorem mm_s218 : Cond.selects mm_y218.cls mm_y218 mm_y218 ∈ im_Ts := im_in 91 (by decide +kernel) rfl
theorem mm_a219 : (parseMethodDescriptor mm_y219.desc).map (fun d => d.parameters.length) = some 1 := by decide +kernel
theorem mm_i219 : Cond.instanceMethod mm_y219 ∈ im_Ts := im_in 1785 (by decide +kernel) rfl
theorem mm_s219 : Cond.selects mm_y219.cls mm_y219 mm_y219 ∈ im_Ts := im_in 1786 (by decide +kernel) rfl
theorem mm_a220 : (parseMethodDescriptor mm_y220.desc).map (fun d => d.parameters.length) = some 2 := by decide +kernel
theorem mm_i220 : Cond.instanceMethod mm_y220 ∈ im_Ts := im_in 1834 (by decide +kernel) rfl
theorem mm_s220 : Cond.selects mm_y220.cls mm_y220 mm_y220 ∈ im_Ts := im_in 97 (by decide +kernel) rfl
theorem mm_a221 : (parseMethodDescriptor mm_y221.desc).map (fun d => d.parameters.length) = some 1 := by decide +kernel
theorem mm_i221 : Cond.instanceMethod mm_y221 ∈ im_Ts := im_in 1830 (by decide +kernel) rfl
theorem mm_s221 : Cond.selects mm_y221.cls mm_y221 mm_y221 ∈ im_Ts := im_in 96 (by decide +kernel) rfl
theorem mm_a222 : (parseMethodDescriptor mm_y222.desc).map (fun d => d.parameters.length) = some 1 := by decide +kernel
theorem mm_i222 : Cond.instanceMethod mm_y222 ∈ im_Ts := im_in 1838 (by decide +kernel) rfl
theorem mm_s222 : Cond.selects mm_y222.cls mm_y222 mm_y222 ∈ im_Ts := im_in 98 (by decide +kernel) rfl
theorem mm_a223 : (parseMethodDescriptor mm_y223.desc).map (fun d => d.parameters.length) = some 2 := by decide +kernel
theorem mm_i223 : Cond.instanceMethod mm_y223 ∈ im_Ts := im_in 1825 (by decide +kernel) rfl
theorem mm_s223 : Cond.selects mm_y223.cls mm_y223 mm_y223 ∈ im_Ts := im_in 1826 (by decide +kernel) rfl
theorem mm_a224 : (parseMethodDescriptor mm_y224.desc).map (fun d => d.parameters.length) = some 2 := by decide +kernel
theorem mm_i224 : Cond.instanceMethod mm_y224 ∈ im_Ts := im_in 1846 (by decide +kernel) rfl
theorem mm_s224 : Cond.selects mm_y224.cls mm_y224 mm_y224 ∈ im_Ts := im_in 99 (by decide +kernel) rfl
theorem mm_a225 : (parseMethodDescriptor mm_y225.desc).map (fun d => d.parameters.length) = some 1 := by decide +kernel
theorem mm_i225 : Cond.instanceMethod mm_y225 ∈ im_Ts := im_in 1841 (by decide +kernel) rfl
theorem mm_s225 : Cond.selects mm_y225.cls mm_y225 mm_y225 ∈ im_Ts := im_in 1842 (by decide +kernel) rfl
theorem mm_a226 : (parseMethodDescriptor mm_y226.desc).map (fun d => d.parameters.length) = some 2 := by decide +kernel
theorem mm_i226 : Cond.instanceMethod mm_y226 ∈ im_Ts := im_in 1858 (by decide +kernel) rfl
theorem mm_s226 : Cond.selects mm_y226.cls mm_y226 mm_y226 ∈ im_Ts := im_in 101 (by decide +kernel) rfl
theorem mm_a227 : (parseMethodDescriptor mm_y227.desc).map (fun d => d.parameters.length) = some 3 := by decide +kernel
theorem mm_i227 : Cond.instanceMethod mm_y227 ∈ im_Ts := im_in 1854 (by decide +kernel) rfl
theorem mm_s227 : Cond.selects mm_y227.cls mm_y227 mm_y227 ∈ im_Ts := im_in 100 (by decide +kernel) rfl
theorem mm_a228 : (parseMethodDescriptor mm_y228.desc).map (fun d => d.parameters.length) = some 2 := by decide +kernel
theorem mm_i228 : Cond.instanceMethod mm_y228 ∈ im_Ts := im_in 1849 (by decide +kernel) rfl
theorem mm_s228 : Cond.selects mm_y228.cls mm_y228 mm_y228 ∈ im_Ts := im_in 1850 (by decide +kernel) rfl
theorem mm_a229 : (parseMethodDescriptor mm_y229.desc).map (fun d => d.parameters.length) = some 0 := by decide +kernel
theorem mm_i229 : Cond.instanceMethod mm_y229 ∈ im_Ts := im_in 1400 (by decide +kernel) rfl
theorem mm_s229 : Cond.selects mm_y229.cls mm_y229 mm_y229 ∈ im_Ts := im_in 59 (by decide +kernel) rfl
theorem mm_a230 : (parseMethodDescriptor mm_y230.desc).map (fun d => d.parameters.length) = some 1 := by decide +kernel
theorem mm_t230 : Cond.static mm_y230 ∈ im_Ts := im_in 1902 (by decide +kernel) rfl
theorem mm_a231 : (parseMethodDescriptor mm_y231.desc).map (fun d => d.parameters.length) = some 1 := by decide +kernel
theorem mm_t231 : Cond.static mm_y231 ∈ im_Ts := im_in 1907 (by decide +kernel) rfl
theorem mm_a232 : (parseMethodDescriptor mm_y232.desc).map (fun d => d.parameters.length) = some 1 := by decide +kernel
theorem mm_t232 : Cond.static mm_y232 ∈ im_Ts := im_in 1888 (by decide +kernel) rfl
theorem mm_a233 : (parseMethodDescriptor mm_y233.desc).map (fun d => d.parameters.length) = some 1 := by decide +kernel
theorem mm_t233 : Cond.static mm_y233 ∈ im_Ts := im_in 1891 (by decide +kernel) rfl
theorem mm_a234 : (parseMethodDescriptor mm_y234.desc).map (fun d => d.parameters.length) = some 2 := by decide +kernel
theorem mm_t234 : Cond.static mm_y234 ∈ im_Ts := im_in 1880 (by decide +kernel) rfl
theorem mm_a235 : (parseMethodDescriptor mm_y235.desc).map (fun d => d.parameters.length) = some 1 := by decide +kernel
theorem mm_t235 : Cond.static mm_y235 ∈ im_Ts := im_in 2034 (by decide +kernel) rfl
theorem mm_a236 : (parseMethodDescriptor mm_y236.desc).map (fun d => d.parameters.length) = some 2 := by decide +kernel
theorem mm_i236 : Cond.instanceMethod mm_y236 ∈ im_Ts := im_in 1885 (by decide +kernel) rfl
theorem mm_s236 : Cond.selects mm_y236.cls mm_y236 mm_y236 ∈ im_Ts := im_in 105 (by decide +kernel) rfl
theorem mm_a237 : (parseMethodDescriptor mm_y237.desc).map (fun d => d.parameters.length) = some 1 := by decide +kernel
theorem mm_i237 : Cond.instanceMethod mm_y237 ∈ im_Ts := im_in 1916 (by decide +kernel) rfl
theorem mm_s237 : Cond.selects mm_y237.cls mm_y237 mm_y237 ∈ im_Ts := im_in 109 (by decide +kernel) rfl
theorem mm_a238 : (parseMethodDescriptor mm_y238.desc).map (fun d => d.parameters.length) = some 1 := by decide +kernel
theorem mm_i238 : Cond.instanceMethod mm_y238 ∈ im_Ts := im_in 1929 (by decide +kernel) rfl
theorem mm_s238 : Cond.selects mm_y238.cls mm_y238 mm_y238 ∈ im_Ts := im_in 112 (by decide +kernel) rfl
theorem mm_a239 : (parseMethodDescriptor mm_y239.desc).map (fun d => d.parameters.length) = some 1 := by decide +kernel
theorem mm_i239 : Cond.instanceMethod mm_y239 ∈ im_Ts := im_in 1945 (by decide +kernel) rfl
theorem mm_s239 : Cond.selects mm_y239.cls mm_y239 mm_y239 ∈ im_Ts := im_in 116 (by decide +kernel) rfl
theorem mm_a240 : (parseMethodDescriptor mm_y240.desc).map (fun d => d.parameters.length) = some 2 := by decide +kernel
theorem mm_i240 : Cond.instanceMethod mm_y240 ∈ im_Ts := im_in 1925 (by decide +kernel) rfl
theorem mm_s240 : Cond.selects mm_y240.cls mm_y240 mm_y240 ∈ im_Ts := im_in 111 (by decide +kernel) rfl
theorem mm_a241 : (parseMethodDescriptor mm_y241.desc).map (fun d => d.parameters.length) = some 1 := by decide +kernel
theorem mm_i241 : Cond.instanceMethod mm_y241 ∈ im_Ts := im_in 1899 (by decide +kernel) rfl
theorem mm_s241 : Cond.selects mm_y241.cls mm_y241 mm_y241 ∈ im_Ts := im_in 107 (by decide +kernel) rfl
theorem mm_a242 : (parseMethodDescriptor mm_y242.desc).map (fun d => d.parameters.length) = some 1 := by decide +kernel
theorem mm_i242 : Cond.instanceMethod mm_y242 ∈ im_Ts := im_in 1937 (by decide +kernel) rfl
theorem mm_s242 : Cond.selects mm_y242.cls mm_y242 mm_y242 ∈ im_Ts := im_in 114 (by decide +kernel) rfl
theorem mm_a243 : (parseMethodDescriptor mm_y243.desc).map (fun d => d.parameters.length) = some 2 := by decide +kernel
theorem mm_i243 : Cond.instanceMethod mm_y243 ∈ im_Ts := im_in 1933 (by decide +kernel) rfl
theorem mm_s243 : Cond.selects mm_y243.cls mm_y243 mm_y243 ∈ im_Ts := im_in 113 (by decide +kernel) rfl
theorem mm_a244 : (parseMethodDescriptor mm_y244.desc).map (fun d => d.parameters.length) = some 2 := by decide +kernel
theorem mm_i244 : Cond.instanceMethod mm_y244 ∈ im_Ts := im_in 1921 (by decide +kernel) rfl
theorem mm_s244 : Cond.selects mm_y244.cls mm_y244 mm_y244 ∈ im_Ts := im_in 110 (by decide +kernel) rfl
theorem mm_a245 : (parseMethodDescriptor mm_y245.desc).map (fun d => d.parameters.length) = some 2 := by decide +kernel
theorem mm_i245 : Cond.instanceMethod mm_y245 ∈ im_Ts := im_in 1941 (by decide +kernel) rfl
theorem mm_s245 : Cond.selects mm_y245.cls mm_y245 mm_y245 ∈ im_Ts := im_in 115 (by decide +kernel) rfl
theorem mm_a246 : (parseMethodDescriptor mm_y246.desc).map (fun d => d.parameters.length) = some 2 := by decide +kernel
theorem mm_i246 : Cond.instanceMethod mm_y246 ∈ im_Ts := im_in 1911 (by decide +kernel) rfl
theorem mm_s246 : Cond.selects mm_y246.cls mm_y246 mm_y246 ∈ im_Ts := im_in 108 (by decide +kernel) rfl
theorem mm_a247 : (parseMethodDescriptor mm_y247.desc).map (fun d => d.parameters.length) = some 2 := by decide +kernel
theorem mm_i247 : Cond.instanceMethod mm_y247 ∈ im_Ts := im_in 1895 (by decide +kernel) rfl
theorem mm_s247 : Cond.selects mm_y247.cls mm_y247 mm_y247 ∈ im_Ts := im_in 106 (by decide +kernel) rfl
theorem mm_a248 : (parseMethodDescriptor mm_y248.desc).map (fun d => d.parameters.length) = some 3 := by decide +kernel
theorem mm_t248 : Cond.static mm_y248 ∈ im_Ts := im_in 2026 (by decide +kernel) rfl
theorem mm_a249 : (parseMethodDescriptor mm_y249.desc).map (fun d => d.parameters.length) = some 1 := by decide +kernel
theorem mm_i249 : Cond.instanceMethod mm_y249 ∈ im_Ts := im_in 2031 (by decide +kernel) rfl
theorem mm_s249 : Cond.selects mm_y249.cls mm_y249 mm_y249 ∈ im_Ts := im_in 135 (by decide +kernel) rfl
theorem mm_a250 : (parseMethodDescriptor mm_y250.desc).map (fun d => d.parameters.length) = some 2 := by decide +kernel
theorem mm_t250 : Cond.static mm_y250 ∈ im_Ts := im_in 2021 (by decide +kernel) rfl
theorem mm_a251 : (parseMethodDescriptor mm_y251.desc).map (fun d => d.parameters.length) = some 1 := by decide +kernel
theorem mm_i251 : Cond.instanceMethod mm_y251 ∈ im_Ts := im_in 2017 (by decide +kernel) rfl
theorem mm_s251 : Cond.selects mm_y251.cls mm_y251 mm_y251 ∈ im_Ts := im_in 134 (by decide +kernel) rfl
theorem mm_a252 : (parseMethodDescriptor mm_y252.desc).map (fun d => d.parameters.length) = some 5 := by decide +kernel
theorem mm_i252 : Cond.instanceMethod mm_y252 ∈ im_Ts := im_in 1949 (by decide +kernel) rfl
theorem mm_s252 : Cond.selects mm_y252.cls mm_y252 mm_y252 ∈ im_Ts := im_in 117 (by decide +kernel) rfl
theorem mm_a253 : (parseMethodDescriptor mm_y253.desc).map (fun d => d.parameters.length) = some 2 := by decide +kernel
theorem mm_i253 : Cond.instanceMethod mm_y253 ∈ im_Ts := im_in 2001 (by decide +kernel) rfl
theorem mm_s253 : Cond.selects mm_y253.cls mm_y253 mm_y253 ∈ im_Ts := im_in 130 (by decide +kernel) rfl
theorem mm_a254 : (parseMethodDescriptor mm_y254.desc).map (fun d => d.parameters.length) = some 1 := by decide +kernel
theorem mm_t254 : Cond.static mm_y254 ∈ im_Ts := im_in 1873 (by decide +kernel) rfl
theorem mm_a255 : (parseMethodDescriptor mm_y255.desc).map (fun d => d.parameters.length) = some 3 := by decide +kernel
theorem mm_i255 : Cond.instanceMethod mm_y255 ∈ im_Ts := im_in 1877 (by decide +kernel) rfl
theorem mm_s255 : Cond.selects mm_y255.cls mm_y255 mm_y255 ∈ im_Ts := im_in 104 (by decide +kernel) rfl
theorem mm_a256 : (parseMethodDescriptor mm_y256.desc).map (fun d => d.parameters.length) = some 1 := by decide +kernel
theorem mm_i256 : Cond.instanceMethod mm_y256 ∈ im_Ts := im_in 1870 (by decide +kernel) rfl
theorem mm_s256 : Cond.selects mm_y256.cls mm_y256 mm_y256 ∈ im_Ts := im_in 103 (by decide +kernel) rfl
theorem mm_a257 : (parseMethodDescriptor mm_y257.desc).map (fun d => d.parameters.length) = some 0 := by decide +kernel
theorem mm_i257 : Cond.instanceMethod mm_y257 ∈ im_Ts := im_in 1866 (by decide +kernel) rfl
theorem mm_s257 : Cond.selects mm_y257.cls mm_y257 mm_y257 ∈ im_Ts := im_in 102 (by decide +kernel) rfl
theorem mm_a258 : (parseMethodDescriptor mm_y258.desc).map (fun d => d.parameters.length) = some 3 := by decide +kernel
theorem mm_i258 : Cond.instanceMethod mm_y258 ∈ im_Ts := im_in 1997 (by decide +kernel) rfl
theorem mm_s258 : Cond.selects mm_y258.cls mm_y258 mm_y258 ∈ im_Ts := im_in 129 (by decide +kernel) rfl
theorem mm_a259 : (parseMethodDescriptor mm_y259.desc).map (fun d => d.parameters.length) = some 1 := by decide +kernel
theorem mm_i259 : Cond.instanceMethod mm_y259 ∈ im_Ts := im_in 1993 (by decide +kernel) rfl
theorem mm_s259 : Cond.selects mm_y259.cls mm_y259 mm_y259 ∈ im_Ts := im_in 128 (by decide +kernel) rfl
theorem mm_a260 : (parseMethodDescriptor mm_y260.desc).map (fun d => d.parameters.length) = some 1 := by decide +kernel
theorem mm_i260 : Cond.instanceMethod mm_y260 ∈ im_Ts := im_in 1989 (by decide +kernel) rfl
theorem mm_s260 : Cond.selects mm_y260.cls mm_y260 mm_y260 ∈ im_Ts := im_in 127 (by decide +kernel) rfl
theorem mm_a261 : (parseMethodDescriptor mm_y261.desc).map (fun d => d.parameters.length) = some 1 := by decide +kernel
theorem mm_i261 : Cond.instanceMethod mm_y261 ∈ im_Ts := im_in 1981 (by decide +kernel) rfl
theorem mm_s261 : Cond.selects mm_y261.cls mm_y261 mm_y261 ∈ im_Ts := im_in 125 (by decide +kernel) rfl
theorem mm_a262 : (parseMethodDescriptor mm_y262.desc).map (fun d => d.parameters.length) = some 1 := by decide +kernel
theorem mm_i262 : Cond.instanceMethod mm_y262 ∈ im_Ts := im_in 1961 (by decide +kernel) rfl
theorem mm_s262 : Cond.selects mm_y262.cls mm_y262 mm_y262 ∈ im_Ts := im_in 120 (by decide +kernel) rfl
theorem mm_a263 : (parseMethodDescriptor mm_y263.desc).map (fun d => d.parameters.length) = some 1 := by decide +kernel
theorem mm_i263 : Cond.instanceMethod mm_y263 ∈ im_Ts := im_in 2009 (by decide +kernel) rfl
theorem mm_s263 : Cond.selects mm_y263.cls mm_y263 mm_y263 ∈ im_Ts := im_in 132 (by decide +kernel) rfl
theorem mm_a264 : (parseMethodDescriptor mm_y264.desc).map (fun d => d.parameters.length) = some 1 := by decide +kernel
theorem mm_i264 : Cond.instanceMethod mm_y264 ∈ im_Ts := im_in 2013 (by decide +kernel) rfl
theorem mm_s264 : Cond.selects mm_y264.cls mm_y264 mm_y264 ∈ im_Ts := im_in 133 (by decide +kernel) rfl
theorem mm_a265 : (parseMethodDescriptor mm_y265.desc).map (fun d => d.parameters.length) = some 1 := by decide +kernel
theorem mm_i265 : Cond.instanceMethod mm_y265 ∈ im_Ts := im_in 2039 (by decide +kernel) rfl
theorem mm_s265 : Cond.selects mm_y265.cls mm_y265 mm_y265 ∈ im_Ts := im_in 136 (by decide +kernel) rfl
theorem mm_a266 : (parseMethodDescriptor mm_y266.desc).map (fun d => d.parameters.length) = some 3 := by decide +kernel
theorem mm_i266 : Cond.instanceMethod mm_y266 ∈ im_Ts := im_in 2005 (by decide +kernel) rfl
theorem mm_s266 : Cond.selects mm_y266.cls mm_y266 mm_y266 ∈ im_Ts := im_in 131 (by decide +kernel) rfl
theorem mm_a267 : (parseMethodDescriptor mm_y267.desc).map (fun d => d.parameters.length) = some 3 := by decide +kernel
theorem mm_i267 : Cond.instanceMethod mm_y267 ∈ im_Ts := im_in 1985 (by decide +kernel) rfl
theorem mm_s267 : Cond.selects mm_y267.cls mm_y267 mm_y267 ∈ im_Ts := im_in 126 (by decide +kernel) rfl
theorem mm_a268 : (parseMethodDescriptor mm_y268.desc).map (fun d => d.parameters.length) = some 1 := by decide +kernel
theorem mm_i268 : Cond.instanceMethod mm_y268 ∈ im_Ts := im_in 1969 (by decide +kernel) rfl
theorem mm_s268 : Cond.selects mm_y268.cls mm_y268 mm_y268 ∈ im_Ts := im_in 122 (by decide +kernel) rfl
theorem mm_a269 : (parseMethodDescriptor mm_y269.desc).map (fun d => d.parameters.length) = some 1 := by decide +kernel
theorem mm_i269 : Cond.instanceMethod mm_y269 ∈ im_Ts := im_in 1973 (by decide +kernel) rfl
theorem mm_s269 : Cond.selects mm_y269.cls mm_y269 mm_y269 ∈ im_Ts := im_in 123 (by decide +kernel) rfl
theorem mm_a270 : (parseMethodDescriptor mm_y270.desc).map (fun d => d.parameters.length) = some 1 := by decide +kernel
theorem mm_i270 : Cond.instanceMethod mm_y270 ∈ im_Ts := im_in 1977 (by decide +kernel) rfl
theorem mm_s270 : Cond.selects mm_y270.cls mm_y270 mm_y270 ∈ im_Ts := im_in 124 (by decide +kernel) rfl
theorem mm_a271 : (parseMethodDescriptor mm_y271.desc).map (fun d => d.parameters.length) = some 0 := by decide +kernel
theorem mm_i271 : Cond.instanceMethod mm_y271 ∈ im_Ts := im_in 1965 (by decide +kernel) rfl
theorem mm_s271 : Cond.selects mm_y271.cls mm_y271 mm_y271 ∈ im_Ts := im_in 121 (by decide +kernel) rfl
theorem mm_a272 : (parseMethodDescriptor mm_y272.desc).map (fun d => d.parameters.length) = some 1 := by decide +kernel
theorem mm_i272 : Cond.instanceMethod mm_y272 ∈ im_Ts := im_in 2043 (by decide +kernel) rfl
theorem mm_s272 : Cond.selects mm_y272.cls mm_y272 mm_y272 ∈ im_Ts := im_in 137 (by decide +kernel) rfl
theorem mm_a273 : (parseMethodDescriptor mm_y273.desc).map (fun d => d.parameters.length) = some 0 := by decide +kernel
theorem mm_i273 : Cond.instanceMethod mm_y273 ∈ im_Ts := im_in 1953 (by decide +kernel) rfl
theorem mm_s273 : Cond.selects mm_y273.cls mm_y273 mm_y273 ∈ im_Ts := im_in 118 (by decide +kernel) rfl
theorem mm_a274 : (parseMethodDescriptor mm_y274.desc).map (fun d => d.parameters.length) = some 0 := by decide +kernel
theorem mm_i274 : Cond.instanceMethod mm_y274 ∈ im_Ts := im_in 1957 (by decide +kernel) rfl
theorem mm_s274 : Cond.selects mm_y274.cls mm_y274 mm_y274 ∈ im_Ts := im_in 119 (by decide +kernel) rfl
theorem mm_a275 : (parseMethodDescriptor mm_y275.desc).map (fun d => d.parameters.length) = some 1 := by decide +kernel
theorem mm_i275 : Cond.instanceMethod mm_y275 ∈ im_Ts := im_in 1861 (by decide +kernel) rfl
theorem mm_s275 : Cond.selects mm_y275.cls mm_y275 mm_y275 ∈ im_Ts := im_in 1862 (by decide +kernel) rfl
theorem mm_a276 : (parseMethodDescriptor mm_y276.desc).map (fun d => d.parameters.length) = some 0 := by decide +kernel
theorem mm_i276 : Cond.instanceMethod mm_y276 ∈ im_Ts := im_in 2046 (by decide +kernel) rfl
theorem mm_s276 : Cond.selects mm_y276.cls mm_y276 mm_y276 ∈ im_Ts := im_in 2047 (by decide +kernel) rfl
theorem mm_a277 : (parseMethodDescriptor mm_y277.desc).map (fun d => d.parameters.length) = some 0 := by decide +kernel
theorem mm_i277 : Cond.instanceMethod mm_y277 ∈ im_Ts := im_in 2050 (by decide +kernel) rfl
theorem mm_s277 : Cond.selects mm_y277.cls mm_y277 mm_y277 ∈ im_Ts := im_in 2051 (by decide +kernel) rfl
theorem mm_a278 : (parseMethodDescriptor mm_y278.desc).map (fun d => d.parameters.length) = some 1 := by decide +kernel
theorem mm_i278 : Cond.instanceMethod mm_y278 ∈ im_Ts := im_in 2067 (by decide +kernel) rfl
theorem mm_s278 : Cond.selects mm_y278.cls mm_y278 mm_y278 ∈ im_Ts := im_in 140 (by decide +kernel) rfl
theorem mm_a279 : (parseMethodDescriptor mm_y279.desc).map (fun d => d.parameters.length) = some 1 := by decide +kernel
theorem mm_i279 : Cond.instanceMethod mm_y279 ∈ im_Ts := im_in 2063 (by decide +kernel) rfl
theorem mm_s279 : Cond.selects mm_y279.cls mm_y279 mm_y279 ∈ im_Ts := im_in 139 (by decide +kernel) rfl
theorem mm_a280 : (parseMethodDescriptor mm_y280.desc).map (fun d => d.parameters.length) = some 1 := by decide +kernel
theorem mm_i280 : Cond.instanceMethod mm_y280 ∈ im_Ts := im_in 2059 (by decide +kernel) rfl
theorem mm_s280 : Cond.selects mm_y280.cls mm_y280 mm_y280 ∈ im_Ts := im_in 138 (by decide +kernel) rfl
theorem mm_a281 : (parseMethodDescriptor mm_y281.desc).map (fun d => d.parameters.length) = some 0 := by decide +kernel
theorem mm_i281 : Cond.instanceMethod mm_y281 ∈ im_Ts := im_in 2071 (by decide +kernel) rfl
theorem mm_s281 : Cond.selects mm_y281.cls mm_y281 mm_y281 ∈ im_Ts := im_in 141 (by decide +kernel) rfl
theorem mm_a282 : (parseMethodDescriptor mm_y282.desc).map (fun d => d.parameters.length) = some 1 := by decide +kernel
theorem mm_i282 : Cond.instanceMethod mm_y282 ∈ im_Ts := im_in 2054 (by decide +kernel) rfl
theorem mm_s282 : Cond.selects mm_y282.cls mm_y282 mm_y282 ∈ im_Ts := im_in 2055 (by decide +kernel) rfl
theorem mm_a283 : (parseMethodDescriptor mm_y283.desc).map (fun d => d.parameters.length) = some 1 := by decide +kernel
theorem mm_i283 : Cond.instanceMethod mm_y283 ∈ im_Ts := im_in 2079 (by decide +kernel) rfl
theorem mm_s283 : Cond.selects mm_y283.cls mm_y283 mm_y283 ∈ im_Ts := im_in 142 (by decide +kernel) rfl
theorem mm_a284 : (parseMethodDescriptor mm_y284.desc).map (fun d => d.parameters.length) = some 1 := by decide +kernel
theorem mm_i284 : Cond.instanceMethod mm_y284 ∈ im_Ts := im_in 2083 (by decide +kernel) rfl
theorem mm_s284 : Cond.selects mm_y284.cls mm_y284 mm_y284 ∈ im_Ts := im_in 143 (by decide +kernel) rfl
theorem mm_a285 : (parseMethodDescriptor mm_y285.desc).map (fun d => d.parameters.length) = some 2 := by decide +kernel
theorem mm_i285 : Cond.instanceMethod mm_y285 ∈ im_Ts := im_in 2074 (by decide +kernel) rfl
theorem mm_s285 : Cond.selects mm_y285.cls mm_y285 mm_y285 ∈ im_Ts := im_in 2075 (by decide +kernel) rfl
theorem mm_a286 : (parseMethodDescriptor mm_y286.desc).map (fun d => d.parameters.length) = some 1 := by decide +kernel
theorem mm_i286 : Cond.instanceMethod mm_y286 ∈ im_Ts := im_in 2108 (by decide +kernel) rfl
theorem mm_s286 : Cond.selects mm_y286.cls mm_y286 mm_y286 ∈ im_Ts := im_in 148 (by decide +kernel) rfl
theorem mm_a287 : (parseMethodDescriptor mm_y287.desc).map (fun d => d.parameters.length) = some 1 := by decide +kernel
theorem mm_i287 : Cond.instanceMethod mm_y287 ∈ im_Ts := im_in 2122 (by decide +kernel) rfl
theorem mm_s287 : Cond.selects mm_y287.cls mm_y287 mm_y287 ∈ im_Ts := im_in 151 (by decide +kernel) rfl
theorem mm_a288 : (parseMethodDescriptor mm_y288.desc).map (fun d => d.parameters.length) = some 1 := by decide +kernel
theorem mm_i288 : Cond.instanceMethod mm_y288 ∈ im_Ts := im_in 2126 (by decide +kernel) rfl
theorem mm_s288 : Cond.selects mm_y288.cls mm_y288 mm_y288 ∈ im_Ts := im_in 152 (by decide +kernel) rfl
theorem mm_a289 : (parseMethodDescriptor mm_y289.desc).map (fun d => d.parameters.length) = some 1 := by decide +kernel
theorem mm_i289 : Cond.instanceMethod mm_y289 ∈ im_Ts := im_in 2118 (by decide +kernel) rfl
theorem mm_s289 : Cond.selects mm_y289.cls mm_y289 mm_y289 ∈ im_Ts := im_in 150 (by decide +kernel) rfl
theorem mm_a290 : (parseMethodDescriptor mm_y290.desc).map (fun d => d.parameters.length) = some 1 := by decide +kernel
theorem mm_i290 : Cond.instanceMethod mm_y290 ∈ im_Ts := im_in 2099 (by decide +kernel) rfl
theorem mm_s290 : Cond.selects mm_y290.cls mm_y290 mm_y290 ∈ im_Ts := im_in 146 (by decide +kernel) rfl
theorem mm_a291 : (parseMethodDescriptor mm_y291.desc).map (fun d => d.parameters.length) = some 1 := by decide +kernel
theorem mm_i291 : Cond.instanceMethod mm_y291 ∈ im_Ts := im_in 2130 (by decide +kernel) rfl
theorem mm_s291 : Cond.selects mm_y291.cls mm_y291 mm_y291 ∈ im_Ts := im_in 153 (by decide +kernel) rfl
theorem mm_a292 : (parseMethodDescriptor mm_y292.desc).map (fun d => d.parameters.length) = some 1 := by decide +kernel
theorem mm_i292 : Cond.instanceMethod mm_y292 ∈ im_Ts := im_in 2113 (by decide +kernel) rfl
theorem mm_s292 : Cond.selects mm_y292.cls mm_y292 mm_y292 ∈ im_Ts := im_in 149 (by decide +kernel) rfl
theorem mm_a293 : (parseMethodDescriptor mm_y293.desc).map (fun d => d.parameters.length) = some 1 := by decide +kernel
theorem mm_i293 : Cond.instanceMethod mm_y293 ∈ im_Ts := im_in 2103 (by decide +kernel) rfl
theorem mm_s293 : Cond.selects mm_y293.cls mm_y293 mm_y293 ∈ im_Ts := im_in 147 (by decide +kernel) rfl
theorem mm_a294 : (parseMethodDescriptor mm_y294.desc).map (fun d => d.parameters.length) = some 1 := by decide +kernel
theorem mm_i294 : Cond.instanceMethod mm_y294 ∈ im_Ts := im_in 2095 (by decide +kernel) rfl
theorem mm_s294 : Cond.selects mm_y294.cls mm_y294 mm_y294 ∈ im_Ts := im_in 145 (by decide +kernel) rfl
theorem mm_a295 : (parseMethodDescriptor mm_y295.desc).map (fun d => d.parameters.length) = some 0 := by decide +kernel
theorem mm_i295 : Cond.instanceMethod mm_y295 ∈ im_Ts := im_in 2091 (by decide +kernel) rfl
theorem mm_s295 : Cond.selects mm_y295.cls mm_y295 mm_y295 ∈ im_Ts := im_in 144 (by decide +kernel) rfl
theorem mm_a296 : (parseMethodDescriptor mm_y296.desc).map (fun d => d.parameters.length) = some 2 := by decide +kernel
theorem mm_i296 : Cond.instanceMethod mm_y296 ∈ im_Ts := im_in 2086 (by decide +kernel) rfl
theorem mm_s296 : Cond.selects mm_y296.cls mm_y296 mm_y296 ∈ im_Ts := im_in 2087 (by decide +kernel) rfl
theorem mm_a297 : (parseMethodDescriptor mm_y297.desc).map (fun d => d.parameters.length) = some 2 := by decide +kernel
theorem mm_i297 : Cond.instanceMethod mm_y297 ∈ im_Ts := im_in 2135 (by decide +kernel) rfl
theorem mm_s297 : Cond.selects mm_y297.cls mm_y297 mm_y297 ∈ im_Ts := im_in 2136 (by decide +kernel) rfl
theorem mm_a298 : (parseMethodDescriptor mm_y298.desc).map (fun d => d.parameters.length) = some 1 := by decide +kernel
theorem mm_i298 : Cond.instanceMethod mm_y298 ∈ im_Ts := im_in 2139 (by decide +kernel) rfl
theorem mm_s298 : Cond.selects mm_y298.cls mm_y298 mm_y298 ∈ im_Ts := im_in 2140 (by decide +kernel) rfl
theorem mm_a299 : (parseMethodDescriptor mm_y299.desc).map (fun d => d.parameters.length) = some 1 := by decide +kernel
theorem mm_i299 : Cond.instanceMethod mm_y299 ∈ im_Ts := im_in 2148 (by decide +kernel) rfl
theorem mm_s299 : Cond.selects mm_y299.cls mm_y299 mm_y299 ∈ im_Ts := im_in 154 (by decide +kernel) rfl
theorem mm_a300 : (parseMethodDescriptor mm_y300.desc).map (fun d => d.parameters.length) = some 2 := by decide +kernel
theorem mm_i300 : Cond.instanceMethod mm_y300 ∈ im_Ts := im_in 2143 (by decide +kernel) rfl
theorem mm_s300 : Cond.selects mm_y300.cls mm_y300 mm_y300 ∈ im_Ts := im_in 2144 (by decide +kernel) rfl
theorem mm_a301 : (parseMethodDescriptor mm_y301.desc).map (fun d => d.parameters.length) = some 1 := by decide +kernel
theorem mm_t301 : Cond.static mm_y301 ∈ im_Ts := im_in 2155 (by decide +kernel) rfl
theorem mm_a302 : (parseMethodDescriptor mm_y302.desc).map (fun d => d.parameters.length) = some 2 := by decide +kernel
theorem mm_i302 : Cond.instanceMethod mm_y302 ∈ im_Ts := im_in 2151 (by decide +kernel) rfl
theorem mm_s302 : Cond.selects mm_y302.cls mm_y302 mm_y302 ∈ im_Ts := im_in 2152 (by decide +kernel) rfl
theorem mm_a303 : (parseMethodDescriptor mm_y303.desc).map (fun d => d.parameters.length) = some 4 := by decide +kernel
theorem mm_t303 : Cond.static mm_y303 ∈ im_Ts := im_in 218 (by decide +kernel) rfl
theorem mm_a304 : (parseMethodDescriptor mm_y304.desc).map (fun d => d.parameters.length) = some 3 := by decide +kernel
theorem mm_t304 : Cond.static mm_y304 ∈ im_Ts := im_in 221 (by decide +kernel) rfl
theorem mm_a305 : (parseMethodDescriptor mm_y305.desc).map (fun d => d.parameters.length) = some 2 := by decide +kernel
theorem mm_t305 : Cond.static mm_y305 ∈ im_Ts := im_in 297 (by decide +kernel) rfl
theorem mm_a306 : (parseMethodDescriptor mm_y306.desc).map (fun d => d.parameters.length) = some 2 := by decide +kernel
theorem mm_t306 : Cond.static mm_y306 ∈ im_Ts := im_in 313 (by decide +kernel) rfl
theorem mm_a307 : (parseMethodDescriptor mm_y307.desc).map (fun d => d.parameters.length) = some 1 := by decide +kernel
theorem mm_t307 : Cond.static mm_y307 ∈ im_Ts := im_in 321 (by decide +kernel) rfl
theorem mm_a308 : (parseMethodDescriptor mm_y308.desc).map (fun d => d.parameters.length) = some 2 := by decide +kernel
theorem mm_t308 : Cond.static mm_y308 ∈ im_Ts := im_in 1061 (by decide +kernel) rfl
theorem mm_a309 : (parseMethodDescriptor mm_y309.desc).map (fun d => d.parameters.length) = some 1 := by decide +kernel
def mz_0 : im_Z := ([(12, 0, 0, 1), (21, 0, 1, 1), (35, 0, 2, 1), (39, 0, 3, 1), (48, 0, 5, 1), (54, 7, 1, 2), (61, 0, 6, 1), (65, 9, 1, 0), (73, 5, 2, 0), (108, 0, 4, 0), (128, 3, 4, 2), (132, 3, 5, 2), (135, 3, 6, 2), (175, 7, 10, 0), (205, 7, 6, 0), (223, 4, 0, 0), (238, 2, 2, 0), (249, 2, 0, 0), (250, 4, 4, 0), (253, 8, 6, 0), (256, 2, 4, 0)], [(9, 9), (16, 6), (25, 3), (30, 5), (43, 7), (52, 11)], [(30, 5)], [], [(257, 854975952), (259, 912901016), (261, 7662476), (263, 913097613), (265, 7659449), (267, 854442958), (269, 972278706), (271, 59302), (273, 47980), (275, 186), (277, 3)], [], [(0, 3, 0, 0), (4, 11, 133, 0), (3, 18, 67, 1), (3, 27, 39, 1), (3, 32, 51, 1), (3, 45, 84, 2), (3, 58, 155, 1), (1, 69, 134, 1), (1, 76, 68, 1), (1, 80, 69, 0), (1, 84, 22, 0), (1, 87, 135, 0), (1, 90, 70, 1), (1, 94, 55, 1), (1, 97, 52, 1), (1, 101, 56, 1), (1, 104, 57, 2), (1, 111, 54, 1), (1, 115, 87, 0), (1, 118, 61, 0), (1, 121, 62, 0), (1, 124, 53, 1), (1, 138, 45, 0), (1, 142, 58, 1), (1, 146, 46, 0), (1, 149, 48, 0), (1, 153, 105, 1), (1, 156, 106, 1), (1, 159, 156, 0), (1, 160, 158, 1), (1, 163, 157, 1), (1, 165, 64, 1), (1, 168, 65, 2), (1, 172, 86, 1), (1, 178, 89, 1), (1, 181, 111, 1), (1, 184, 107, 1), (1, 187, 124, 1), (1, 192, 129, 1), (1, 195, 130, 1), (1, 199, 108, 1), (1, 202, 159, 1), (1, 209, 91, 1), (1, 213, 109, 1), (1, 217, 103, 1), (1, 220, 104, 1), (1, 228, 128, 1), (1, 229, 110, 1), (1, 233, 38, 0), (5, 241, 27, 1), (5, 244, 307, 1)])
theorem mz_0_f12 : im_fF im_Ts mx_cl mx_R0 (12, 0, 0, 1) := ⟨(mx_R0, mx_T0, 7), rfl, by decide, im_in 654 (by decide +kernel) rfl, fun _ => ⟨by decide, fun _ => rfl⟩⟩
theorem mz_0_f21 : im_fF im_Ts mx_cl mx_R0 (21, 0, 1, 1) := ⟨(mx_R0, mx_T0, 7), rfl, by decide, im_in 655 (by decide +kernel) rfl, fun _ => ⟨by decide, fun _ => rfl⟩⟩
theorem mz_0_f35 : im_fF im_Ts mx_cl mx_R0 (35, 0, 2, 1) := ⟨(mx_R0, mx_T0, 7), rfl, by decide, im_in 656 (by decide +kernel) rfl, fun _ => ⟨by decide, fun _ => rfl⟩⟩
theorem mz_0_f39 : im_fF im_Ts mx_cl mx_R0 (39, 0, 3, 1) := ⟨(mx_R0, mx_T0, 7), rfl, by decide, im_in 657 (by decide +kernel) rfl, fun _ => ⟨by decide, fun _ => rfl⟩⟩
theorem mz_0_f48 : im_fF im_Ts mx_cl mx_R0 (48, 0, 5, 1) := ⟨(mx_R0, mx_T0, 7), rfl, by decide, im_in 659 (by decide +kernel) rfl, fun _ => ⟨by decide, fun _ => rfl⟩⟩
theorem mz_0_f54 : im_fF im_Ts mx_cl mx_R0 (54, 7, 1, 2) := ⟨(mx_R7, mx_T7, 19), rfl, by decide, im_in 564 (by decide +kernel) rfl, fun _ => ⟨by decide, fun h => absurd h (by decide)⟩⟩
theorem mz_0_f61 : im_fF im_Ts mx_cl mx_R0 (61, 0, 6, 1) := ⟨(mx_R0, mx_T0, 7), rfl, by decide, im_in 660 (by decide +kernel) rfl, fun _ => ⟨by decide, fun _ => rfl⟩⟩
theorem mz_0_f65 : im_fF im_Ts mx_cl mx_R0 (65, 9, 1, 0) := ⟨(mx_R9, mx_T9, 6), rfl, by decide, im_in 189 (by decide +kernel) rfl, fun h => absurd h (by decide)⟩
theorem mz_0_f73 : im_fF im_Ts mx_cl mx_R0 (73, 5, 2, 0) := ⟨(mx_R5, mx_T5, 3), rfl, by decide, im_in 406 (by decide +kernel) rfl, fun h => absurd h (by decide)⟩
theorem mz_0_f108 : im_fF im_Ts mx_cl mx_R0 (108, 0, 4, 0) := ⟨(mx_R0, mx_T0, 7), rfl, by decide, im_in 658 (by decide +kernel) rfl, fun h => absurd h (by decide)⟩
theorem mz_0_f128 : im_fF im_Ts mx_cl mx_R0 (128, 3, 4, 2) := ⟨(mx_R3, mx_T3, 9), rfl, by decide, im_in 366 (by decide +kernel) rfl, fun _ => ⟨by decide, fun h => absurd h (by decide)⟩⟩
theorem mz_0_f132 : im_fF im_Ts mx_cl mx_R0 (132, 3, 5, 2) := ⟨(mx_R3, mx_T3, 9), rfl, by decide, im_in 369 (by decide +kernel) rfl, fun _ => ⟨by decide, fun h => absurd h (by decide)⟩⟩
theorem mz_0_f135 : im_fF im_Ts mx_cl mx_R0 (135, 3, 6, 2) := ⟨(mx_R3, mx_T3, 9), rfl, by decide, im_in 372 (by decide +kernel) rfl, fun _ => ⟨by decide, fun h => absurd h (by decide)⟩⟩
theorem mz_0_f175 : im_fF im_Ts mx_cl mx_R0 (175, 7, 10, 0) := ⟨(mx_R7, mx_T7, 19), rfl, by decide, im_in 575 (by decide +kernel) rfl, fun h => absurd h (by decide)⟩
theorem mz_0_f205 : im_fF im_Ts mx_cl mx_R0 (205, 7, 6, 0) := ⟨(mx_R7, mx_T7, 19), rfl, by decide, im_in 570 (by decide +kernel) rfl, fun h => absurd h (by decide)⟩
theorem mz_0_f223 : im_fF im_Ts mx_cl mx_R0 (223, 4, 0, 0) := ⟨(mx_R4, mx_T4, 5), rfl, by decide, im_in 1075 (by decide +kernel) rfl, fun h => absurd h (by decide)⟩
theorem mz_0_f238 : im_fF im_Ts mx_cl mx_R0 (238, 2, 2, 0) := ⟨(mx_R2, mx_T2, 6), rfl, by decide, im_in 1289 (by decide +kernel) rfl, fun h => absurd h (by decide)⟩
theorem mz_0_f249 : im_fF im_Ts mx_cl mx_R0 (249, 2, 0, 0) := ⟨(mx_R2, mx_T2, 6), rfl, by decide, im_in 1285 (by decide +kernel) rfl, fun h => absurd h (by decide)⟩
theorem mz_0_f250 : im_fF im_Ts mx_cl mx_R0 (250, 4, 4, 0) := ⟨(mx_R4, mx_T4, 5), rfl, by decide, im_in 1080 (by decide +kernel) rfl, fun h => absurd h (by decide)⟩
theorem mz_0_f253 : im_fF im_Ts mx_cl mx_R0 (253, 8, 6, 0) := ⟨(mx_R8, mx_T8, 9), rfl, by decide, im_in 441 (by decide +kernel) rfl, fun h => absurd h (by decide)⟩
theorem mz_0_f256 : im_fF im_Ts mx_cl mx_R0 (256, 2, 4, 0) := ⟨(mx_R2, mx_T2, 6), rfl, by decide, im_in 1292 (by decide +kernel) rfl, fun h => absurd h (by decide)⟩
theorem mz_0_n9 : im_fN im_Ts mx_cl mx_nf mx_R0 (9, 9) := ⟨(mx_R9, mx_T9, 6), rfl, by decide, im_in 181 (by decide +kernel) rfl, rfl⟩
theorem mz_0_n16 : im_fN im_Ts mx_cl mx_nf mx_R0 (16, 6) := ⟨(mx_R6, mx_T6, 18), rfl, by decide, im_in 211 (by decide +kernel) rfl, rfl⟩
theorem mz_0_n25 : im_fN im_Ts mx_cl mx_nf mx_R0 (25, 3) := ⟨(mx_R3, mx_T3, 9), rfl, by decide, im_in 290 (by decide +kernel) rfl, rfl⟩
theorem mz_0_n30 : im_fN im_Ts mx_cl mx_nf mx_R0 (30, 5) := ⟨(mx_R5, mx_T5, 3), rfl, by decide, im_in 395 (by decide +kernel) rfl, rfl⟩
theorem mz_0_n43 : im_fN im_Ts mx_cl mx_nf mx_R0 (43, 7) := ⟨(mx_R7, mx_T7, 19), rfl, by decide, im_in 415 (by decide +kernel) rfl, rfl⟩
theorem mz_0_n52 : im_fN im_Ts mx_cl mx_nf mx_R0 (52, 11) := ⟨(mx_R11, mx_T11, 8), rfl, by decide, im_in 623 (by decide +kernel) rfl, rfl⟩
theorem mz_0_a30 : im_fA im_Ts mx_cl mx_rA mx_R0 (30, 5) := ⟨(mx_R5, mx_T5, 3), rfl, by decide, im_in 395 (by decide +kernel) rfl⟩
theorem mz_0_l257 : im_fL im_Ts mx_R0 (257, 854975952) := im_in 337 (by decide +kernel) rfl
theorem mz_0_l259 : im_fL im_Ts mx_R0 (259, 912901016) := im_in 338 (by decide +kernel) rfl
theorem mz_0_l261 : im_fL im_Ts mx_R0 (261, 7662476) := im_in 339 (by decide +kernel) rfl
theorem mz_0_l263 : im_fL im_Ts mx_R0 (263, 913097613) := im_in 340 (by decide +kernel) rfl
theorem mz_0_l265 : im_fL im_Ts mx_R0 (265, 7659449) := im_in 341 (by decide +kernel) rfl
theorem mz_0_l267 : im_fL im_Ts mx_R0 (267, 854442958) := im_in 342 (by decide +kernel) rfl
theorem mz_0_l269 : im_fL im_Ts mx_R0 (269, 972278706) := im_in 343 (by decide +kernel) rfl
theorem mz_0_l271 : im_fL im_Ts mx_R0 (271, 59302) := im_in 344 (by decide +kernel) rfl
theorem mz_0_l273 : im_fL im_Ts mx_R0 (273, 47980) := im_in 356 (by decide +kernel) rfl
theorem mz_0_l275 : im_fL im_Ts mx_R0 (275, 186) := im_in 357 (by decide +kernel) rfl
theorem mz_0_l277 : im_fL im_Ts mx_R0 (277, 3) := im_in 770 (by decide +kernel) rfl
theorem mz_0_m3 : im_fM im_Ts mx_nw mm_tb mx_R0 (0, 3, 0, 0) := fun y pc len v h => Or.inl ⟨rfl, 3, rfl, by rw [h]; exact im_in 178 (by decide +kernel) rfl⟩
theorem mz_0_m11 : im_fM im_Ts mx_nw mm_tb mx_R0 (4, 11, 133, 0) := fun y pc len v h => Or.inr (Or.inr (Or.inr (Or.inr (Or.inr (Or.inr ⟨im_m133, rfl, mm_a133, Or.inr (Or.inr (Or.inl ⟨rfl, 11, mx_R0, rfl, by rw [h]; exact List.mem_of_getElem? (i := 0) rfl, mm_i133, rfl, rfl⟩))⟩)))))
theorem mz_0_m18 : im_fM im_Ts mx_nw mm_tb mx_R0 (3, 18, 67, 1) := fun y pc len v h => Or.inr (Or.inr (Or.inr (Or.inr (Or.inr (Or.inr ⟨im_m67, rfl, mm_a67, Or.inr (Or.inl ⟨rfl, 18, rfl, by rw [h]; exact im_in 213 (by decide +kernel) rfl, mm_i67, rfl, rfl⟩)⟩)))))
theorem mz_0_m27 : im_fM im_Ts mx_nw mm_tb mx_R0 (3, 27, 39, 1) := fun y pc len v h => Or.inr (Or.inr (Or.inr (Or.inr (Or.inr (Or.inr ⟨im_m39, rfl, mm_a39, Or.inr (Or.inl ⟨rfl, 27, rfl, by rw [h]; exact im_in 292 (by decide +kernel) rfl, mm_i39, rfl, rfl⟩)⟩)))))
theorem mz_0_m32 : im_fM im_Ts mx_nw mm_tb mx_R0 (3, 32, 51, 1) := fun y pc len v h => Or.inr (Or.inr (Or.inr (Or.inr (Or.inr (Or.inr ⟨im_m51, rfl, mm_a51, Or.inr (Or.inl ⟨rfl, 32, rfl, by rw [h]; exact im_in 397 (by decide +kernel) rfl, mm_i51, rfl, rfl⟩)⟩)))))
theorem mz_0_m45 : im_fM im_Ts mx_nw mm_tb mx_R0 (3, 45, 84, 2) := fun y pc len v h => Or.inr (Or.inr (Or.inr (Or.inr (Or.inr (Or.inr ⟨im_m84, rfl, mm_a84, Or.inr (Or.inl ⟨rfl, 45, rfl, by rw [h]; exact im_in 417 (by decide +kernel) rfl, mm_i84, rfl, rfl⟩)⟩)))))
theorem mz_0_m58 : im_fM im_Ts mx_nw mm_tb mx_R0 (3, 58, 155, 1) := fun y pc len v h => Or.inr (Or.inr (Or.inr (Or.inr (Or.inr (Or.inr ⟨im_m155, rfl, mm_a155, Or.inr (Or.inl ⟨rfl, 58, rfl, by rw [h]; exact im_in 625 (by decide +kernel) rfl, mm_i155, rfl, rfl⟩)⟩)))))
theorem mz_0_m69 : im_fM im_Ts mx_nw mm_tb mx_R0 (1, 69, 134, 1) := fun y pc len v h => Or.inr (Or.inr (Or.inr (Or.inr (Or.inr (Or.inr ⟨im_m134, rfl, mm_a134, Or.inl ⟨rfl, 69, rfl, by rw [h]; exact im_in 680 (by decide +kernel) rfl, mm_i134, mm_s134⟩⟩)))))
theorem mz_0_m76 : im_fM im_Ts mx_nw mm_tb mx_R0 (1, 76, 68, 1) := fun y pc len v h => Or.inr (Or.inr (Or.inr (Or.inr (Or.inr (Or.inr ⟨im_m68, rfl, mm_a68, Or.inl ⟨rfl, 76, rfl, by rw [h]; exact im_in 692 (by decide +kernel) rfl, mm_i68, mm_s68⟩⟩)))))
theorem mz_0_m80 : im_fM im_Ts mx_nw mm_tb mx_R0 (1, 80, 69, 0) := fun y pc len v h => Or.inr (Or.inr (Or.inr (Or.inr (Or.inr (Or.inr ⟨im_m69, rfl, mm_a69, Or.inl ⟨rfl, 80, rfl, by rw [h]; exact im_in 802 (by decide +kernel) rfl, mm_i69, mm_s69⟩⟩)))))
theorem mz_0_m84 : im_fM im_Ts mx_nw mm_tb mx_R0 (1, 84, 22, 0) := fun y pc len v h => Or.inr (Or.inr (Or.inr (Or.inr (Or.inr (Or.inr ⟨im_m22, rfl, mm_a22, Or.inl ⟨rfl, 84, rfl, by rw [h]; exact im_in 810 (by decide +kernel) rfl, mm_i22, mm_s22⟩⟩)))))
theorem mz_0_m87 : im_fM im_Ts mx_nw mm_tb mx_R0 (1, 87, 135, 0) := fun y pc len v h => Or.inr (Or.inr (Or.inr (Or.inr (Or.inr (Or.inr ⟨im_m135, rfl, mm_a135, Or.inl ⟨rfl, 87, rfl, by rw [h]; exact im_in 840 (by decide +kernel) rfl, mm_i135, mm_s135⟩⟩)))))
theorem mz_0_m90 : im_fM im_Ts mx_nw mm_tb mx_R0 (1, 90, 70, 1) := fun y pc len v h => Or.inr (Or.inr (Or.inr (Or.inr (Or.inr (Or.inr ⟨im_m70, rfl, mm_a70, Or.inl ⟨rfl, 90, rfl, by rw [h]; exact im_in 841 (by decide +kernel) rfl, mm_i70, mm_s70⟩⟩)))))
theorem mz_0_m94 : im_fM im_Ts mx_nw mm_tb mx_R0 (1, 94, 55, 1) := fun y pc len v h => Or.inr (Or.inr (Or.inr (Or.inr (Or.inr (Or.inr ⟨im_m55, rfl, mm_a55, Or.inl ⟨rfl, 94, rfl, by rw [h]; exact im_in 842 (by decide +kernel) rfl, mm_i55, mm_s55⟩⟩)))))
theorem mz_0_m97 : im_fM im_Ts mx_nw mm_tb mx_R0 (1, 97, 52, 1) := fun y pc len v h => Or.inr (Or.inr (Or.inr (Or.inr (Or.inr (Or.inr ⟨im_m52, rfl, mm_a52, Or.inl ⟨rfl, 97, rfl, by rw [h]; exact im_in 850 (by decide +kernel) rfl, mm_i52, mm_s52⟩⟩)))))
theorem mz_0_m101 : im_fM im_Ts mx_nw mm_tb mx_R0 (1, 101, 56, 1) := fun y pc len v h => Or.inr (Or.inr (Or.inr (Or.inr (Or.inr (Or.inr ⟨im_m56, rfl, mm_a56, Or.inl ⟨rfl, 101, rfl, by rw [h]; exact im_in 851 (by decide +kernel) rfl, mm_i56, mm_s56⟩⟩)))))
theorem mz_0_m104 : im_fM im_Ts mx_nw mm_tb mx_R0 (1, 104, 57, 2) := fun y pc len v h => Or.inr (Or.inr (Or.inr (Or.inr (Or.inr (Or.inr ⟨im_m57, rfl, mm_a57, Or.inl ⟨rfl, 104, rfl, by rw [h]; exact im_in 863 (by decide +kernel) rfl, mm_i57, mm_s57⟩⟩)))))
theorem mz_0_m111 : im_fM im_Ts mx_nw mm_tb mx_R0 (1, 111, 54, 1) := fun y pc len v h => Or.inr (Or.inr (Or.inr (Or.inr (Or.inr (Or.inr ⟨im_m54, rfl, mm_a54, Or.inl ⟨rfl, 111, rfl, by rw [h]; exact im_in 814 (by decide +kernel) rfl, mm_i54, mm_s54⟩⟩)))))
theorem mz_0_m115 : im_fM im_Ts mx_nw mm_tb mx_R0 (1, 115, 87, 0) := fun y pc len v h => Or.inr (Or.inr (Or.inr (Or.inr (Or.inr (Or.inr ⟨im_m87, rfl, mm_a87, Or.inl ⟨rfl, 115, rfl, by rw [h]; exact im_in 826 (by decide +kernel) rfl, mm_i87, mm_s87⟩⟩)))))
theorem mz_0_m118 : im_fM im_Ts mx_nw mm_tb mx_R0 (1, 118, 61, 0) := fun y pc len v h => Or.inr (Or.inr (Or.inr (Or.inr (Or.inr (Or.inr ⟨im_m61, rfl, mm_a61, Or.inl ⟨rfl, 118, rfl, by rw [h]; exact im_in 872 (by decide +kernel) rfl, mm_i61, mm_s61⟩⟩)))))
theorem mz_0_m121 : im_fM im_Ts mx_nw mm_tb mx_R0 (1, 121, 62, 0) := fun y pc len v h => Or.inr (Or.inr (Or.inr (Or.inr (Or.inr (Or.inr ⟨im_m62, rfl, mm_a62, Or.inl ⟨rfl, 121, rfl, by rw [h]; exact im_in 892 (by decide +kernel) rfl, mm_i62, mm_s62⟩⟩)))))
theorem mz_0_m124 : im_fM im_Ts mx_nw mm_tb mx_R0 (1, 124, 53, 1) := fun y pc len v h => Or.inr (Or.inr (Or.inr (Or.inr (Or.inr (Or.inr ⟨im_m53, rfl, mm_a53, Or.inl ⟨rfl, 124, rfl, by rw [h]; exact im_in 904 (by decide +kernel) rfl, mm_i53, mm_s53⟩⟩)))))
theorem mz_0_m138 : im_fM im_Ts mx_nw mm_tb mx_R0 (1, 138, 45, 0) := fun y pc len v h => Or.inr (Or.inr (Or.inr (Or.inr (Or.inr (Or.inr ⟨im_m45, rfl, mm_a45, Or.inl ⟨rfl, 138, rfl, by rw [h]; exact im_in 905 (by decide +kernel) rfl, mm_i45, mm_s45⟩⟩)))))
theorem mz_0_m142 : im_fM im_Ts mx_nw mm_tb mx_R0 (1, 142, 58, 1) := fun y pc len v h => Or.inr (Or.inr (Or.inr (Or.inr (Or.inr (Or.inr ⟨im_m58, rfl, mm_a58, Or.inl ⟨rfl, 142, rfl, by rw [h]; exact im_in 906 (by decide +kernel) rfl, mm_i58, mm_s58⟩⟩)))))
theorem mz_0_m146 : im_fM im_Ts mx_nw mm_tb mx_R0 (1, 146, 46, 0) := fun y pc len v h => Or.inr (Or.inr (Or.inr (Or.inr (Or.inr (Or.inr ⟨im_m46, rfl, mm_a46, Or.inl ⟨rfl, 146, rfl, by rw [h]; exact im_in 907 (by decide +kernel) rfl, mm_i46, mm_s46⟩⟩)))))
theorem mz_0_m149 : im_fM im_Ts mx_nw mm_tb mx_R0 (1, 149, 48, 0) := fun y pc len v h => Or.inr (Or.inr (Or.inr (Or.inr (Or.inr (Or.inr ⟨im_m48, rfl, mm_a48, Or.inl ⟨rfl, 149, rfl, by rw [h]; exact im_in 913 (by decide +kernel) rfl, mm_i48, mm_s48⟩⟩)))))
theorem mz_0_m153 : im_fM im_Ts mx_nw mm_tb mx_R0 (1, 153, 105, 1) := fun y pc len v h => Or.inr (Or.inr (Or.inr (Or.inr (Or.inr (Or.inr ⟨im_m105, rfl, mm_a105, Or.inl ⟨rfl, 153, rfl, by rw [h]; exact im_in 917 (by decide +kernel) rfl, mm_i105, mm_s105⟩⟩)))))
theorem mz_0_m156 : im_fM im_Ts mx_nw mm_tb mx_R0 (1, 156, 106, 1) := fun y pc len v h => Or.inr (Or.inr (Or.inr (Or.inr (Or.inr (Or.inr ⟨im_m106, rfl, mm_a106, Or.inl ⟨rfl, 156, rfl, by rw [h]; exact im_in 921 (by decide +kernel) rfl, mm_i106, mm_s106⟩⟩)))))
theorem mz_0_m159 : im_fM im_Ts mx_nw mm_tb mx_R0 (1, 159, 156, 0) := fun y pc len v h => Or.inr (Or.inr (Or.inr (Or.inr (Or.inr (Or.inr ⟨im_m156, rfl, mm_a156, Or.inl ⟨rfl, 159, rfl, by rw [h]; exact im_in 929 (by decide +kernel) rfl, mm_i156, mm_s156⟩⟩)))))
theorem mz_0_m160 : im_fM im_Ts mx_nw mm_tb mx_R0 (1, 160, 158, 1) := fun y pc len v h => Or.inr (Or.inr (Or.inr (Or.inr (Or.inr (Or.inr ⟨im_m158, rfl, mm_a158, Or.inl ⟨rfl, 160, rfl, by rw [h]; exact im_in 933 (by decide +kernel) rfl, mm_i158, mm_s158⟩⟩)))))
theorem mz_0_m163 : im_fM im_Ts mx_nw mm_tb mx_R0 (1, 163, 157, 1) := fun y pc len v h => Or.inr (Or.inr (Or.inr (Or.inr (Or.inr (Or.inr ⟨im_m157, rfl, mm_a157, Or.inl ⟨rfl, 163, rfl, by rw [h]; exact im_in 1014 (by decide +kernel) rfl, mm_i157, mm_s157⟩⟩)))))
theorem mz_0_m165 : im_fM im_Ts mx_nw mm_tb mx_R0 (1, 165, 64, 1) := fun y pc len v h => Or.inr (Or.inr (Or.inr (Or.inr (Or.inr (Or.inr ⟨im_m64, rfl, mm_a64, Or.inl ⟨rfl, 165, rfl, by rw [h]; exact im_in 1022 (by decide +kernel) rfl, mm_i64, mm_s64⟩⟩)))))
theorem mz_0_m168 : im_fM im_Ts mx_nw mm_tb mx_R0 (1, 168, 65, 2) := fun y pc len v h => Or.inr (Or.inr (Or.inr (Or.inr (Or.inr (Or.inr ⟨im_m65, rfl, mm_a65, Or.inl ⟨rfl, 168, rfl, by rw [h]; exact im_in 1043 (by decide +kernel) rfl, mm_i65, mm_s65⟩⟩)))))
theorem mz_0_m172 : im_fM im_Ts mx_nw mm_tb mx_R0 (1, 172, 86, 1) := fun y pc len v h => Or.inr (Or.inr (Or.inr (Or.inr (Or.inr (Or.inr ⟨im_m86, rfl, mm_a86, Or.inl ⟨rfl, 172, rfl, by rw [h]; exact im_in 1055 (by decide +kernel) rfl, mm_i86, mm_s86⟩⟩)))))
theorem mz_0_m178 : im_fM im_Ts mx_nw mm_tb mx_R0 (1, 178, 89, 1) := fun y pc len v h => Or.inr (Or.inr (Or.inr (Or.inr (Or.inr (Or.inr ⟨im_m89, rfl, mm_a89, Or.inl ⟨rfl, 178, rfl, by rw [h]; exact im_in 1096 (by decide +kernel) rfl, mm_i89, mm_s89⟩⟩)))))
theorem mz_0_m181 : im_fM im_Ts mx_nw mm_tb mx_R0 (1, 181, 111, 1) := fun y pc len v h => Or.inr (Or.inr (Or.inr (Or.inr (Or.inr (Or.inr ⟨im_m111, rfl, mm_a111, Or.inl ⟨rfl, 181, rfl, by rw [h]; exact im_in 1321 (by decide +kernel) rfl, mm_i111, mm_s111⟩⟩)))))
theorem mz_0_m184 : im_fM im_Ts mx_nw mm_tb mx_R0 (1, 184, 107, 1) := fun y pc len v h => Or.inr (Or.inr (Or.inr (Or.inr (Or.inr (Or.inr ⟨im_m107, rfl, mm_a107, Or.inl ⟨rfl, 184, rfl, by rw [h]; exact im_in 1349 (by decide +kernel) rfl, mm_i107, mm_s107⟩⟩)))))
theorem mz_0_m187 : im_fM im_Ts mx_nw mm_tb mx_R0 (1, 187, 124, 1) := fun y pc len v h => Or.inr (Or.inr (Or.inr (Or.inr (Or.inr (Or.inr ⟨im_m124, rfl, mm_a124, Or.inl ⟨rfl, 187, rfl, by rw [h]; exact im_in 1353 (by decide +kernel) rfl, mm_i124, mm_s124⟩⟩)))))
theorem mz_0_m192 : im_fM im_Ts mx_nw mm_tb mx_R0 (1, 192, 129, 1) := fun y pc len v h => Or.inr (Or.inr (Or.inr (Or.inr (Or.inr (Or.inr ⟨im_m129, rfl, mm_a129, Or.inl ⟨rfl, 192, rfl, by rw [h]; exact im_in 1354 (by decide +kernel) rfl, mm_i129, mm_s129⟩⟩)))))
theorem mz_0_m195 : im_fM im_Ts mx_nw mm_tb mx_R0 (1, 195, 130, 1) := fun y pc len v h => Or.inr (Or.inr (Or.inr (Or.inr (Or.inr (Or.inr ⟨im_m130, rfl, mm_a130, Or.inl ⟨rfl, 195, rfl, by rw [h]; exact im_in 1355 (by decide +kernel) rfl, mm_i130, mm_s130⟩⟩)))))
theorem mz_0_m199 : im_fM im_Ts mx_nw mm_tb mx_R0 (1, 199, 108, 1) := fun y pc len v h => Or.inr (Or.inr (Or.inr (Or.inr (Or.inr (Or.inr ⟨im_m108, rfl, mm_a108, Or.inl ⟨rfl, 199, rfl, by rw [h]; exact im_in 1356 (by decide +kernel) rfl, mm_i108, mm_s108⟩⟩)))))
theorem mz_0_m202 : im_fM im_Ts mx_nw mm_tb mx_R0 (1, 202, 159, 1) := fun y pc len v h => Or.inr (Or.inr (Or.inr (Or.inr (Or.inr (Or.inr ⟨im_m159, rfl, mm_a159, Or.inl ⟨rfl, 202, rfl, by rw [h]; exact im_in 1364 (by decide +kernel) rfl, mm_i159, mm_s159⟩⟩)))))
theorem mz_0_m209 : im_fM im_Ts mx_nw mm_tb mx_R0 (1, 209, 91, 1) := fun y pc len v h => Or.inr (Or.inr (Or.inr (Or.inr (Or.inr (Or.inr ⟨im_m91, rfl, mm_a91, Or.inl ⟨rfl, 209, rfl, by rw [h]; exact im_in 1369 (by decide +kernel) rfl, mm_i91, mm_s91⟩⟩)))))
theorem mz_0_m213 : im_fM im_Ts mx_nw mm_tb mx_R0 (1, 213, 109, 1) := fun y pc len v h => Or.inr (Or.inr (Or.inr (Or.inr (Or.inr (Or.inr ⟨im_m109, rfl, mm_a109, Or.inl ⟨rfl, 213, rfl, by rw [h]; exact im_in 1374 (by decide +kernel) rfl, mm_i109, mm_s109⟩⟩)))))
theorem mz_0_m217 : im_fM im_Ts mx_nw mm_tb mx_R0 (1, 217, 103, 1) := fun y pc len v h => Or.inr (Or.inr (Or.inr (Or.inr (Or.inr (Or.inr ⟨im_m103, rfl, mm_a103, Or.inl ⟨rfl, 217, rfl, by rw [h]; exact im_in 1378 (by decide +kernel) rfl, mm_i103, mm_s103⟩⟩)))))
theorem mz_0_m220 : im_fM im_Ts mx_nw mm_tb mx_R0 (1, 220, 104, 1) := fun y pc len v h => Or.inr (Or.inr (Or.inr (Or.inr (Or.inr (Or.inr ⟨im_m104, rfl, mm_a104, Or.inl ⟨rfl, 220, rfl, by rw [h]; exact im_in 1379 (by decide +kernel) rfl, mm_i104, mm_s104⟩⟩)))))
theorem mz_0_m228 : im_fM im_Ts mx_nw mm_tb mx_R0 (1, 228, 128, 1) := fun y pc len v h => Or.inr (Or.inr (Or.inr (Or.inr (Or.inr (Or.inr ⟨im_m128, rfl, mm_a128, Or.inl ⟨rfl, 228, rfl, by rw [h]; exact im_in 1380 (by decide +kernel) rfl, mm_i128, mm_s128⟩⟩)))))
theorem mz_0_m229 : im_fM im_Ts mx_nw mm_tb mx_R0 (1, 229, 110, 1) := fun y pc len v h => Or.inr (Or.inr (Or.inr (Or.inr (Or.inr (Or.inr ⟨im_m110, rfl, mm_a110, Or.inl ⟨rfl, 229, rfl, by rw [h]; exact im_in 1388 (by decide +kernel) rfl, mm_i110, mm_s110⟩⟩)))))
theorem mz_0_m233 : im_fM im_Ts mx_nw mm_tb mx_R0 (1, 233, 38, 0) := fun y pc len v h => Or.inr (Or.inr (Or.inr (Or.inr (Or.inr (Or.inr ⟨im_m38, rfl, mm_a38, Or.inl ⟨rfl, 233, rfl, by rw [h]; exact im_in 1389 (by decide +kernel) rfl, mm_i38, mm_s38⟩⟩)))))
theorem mz_0_m241 : im_fM im_Ts mx_nw mm_tb mx_R0 (5, 241, 27, 1) := fun y pc len v h => Or.inr (Or.inr (Or.inr (Or.inr (Or.inr (Or.inr ⟨im_m27, rfl, mm_a27, Or.inr (Or.inr (Or.inr (Or.inl ⟨rfl, 241, rfl, by rw [h]; exact im_in 1390 (by decide +kernel) rfl, mm_t27⟩)))⟩)))))
theorem mz_0_m244 : im_fM im_Ts mx_nw mm_tb mx_R0 (5, 244, 307, 1) := fun y pc len v h => Or.inr (Or.inr (Or.inr (Or.inr (Or.inr (Or.inr ⟨im_m307, rfl, mm_a307, Or.inr (Or.inr (Or.inr (Or.inl ⟨rfl, 244, rfl, by rw [h]; exact im_in 891 (by decide +kernel) rfl, mm_t307⟩)))⟩)))))
theorem mz_0_ok : im_zo im_Ts mx_nw mx_cl mx_rA mx_nf mm_tb mx_R0 mz_0 := ⟨List.forall_mem_cons.mpr ⟨mz_0_f12, List.forall_mem_cons.mpr ⟨mz_0_f21, List.forall_mem_cons.mpr ⟨mz_0_f35, List.forall_mem_cons.mpr ⟨mz_0_f39, List.forall_mem_cons.mpr ⟨mz_0_f48, List.forall_mem_cons.mpr ⟨mz_0_f54, List.forall_mem_cons.mpr ⟨mz_0_f61, List.forall_mem_cons.mpr ⟨mz_0_f65, List.forall_mem_cons.mpr ⟨mz_0_f73, List.forall_mem_cons.mpr ⟨mz_0_f108, List.forall_mem_cons.mpr ⟨mz_0_f128, List.forall_mem_cons.mpr ⟨mz_0_f132, List.forall_mem_cons.mpr ⟨mz_0_f135, List.forall_mem_cons.mpr ⟨mz_0_f175, List.forall_mem_cons.mpr ⟨mz_0_f205, List.forall_mem_cons.mpr ⟨mz_0_f223, List.forall_mem_cons.mpr ⟨mz_0_f238, List.forall_mem_cons.mpr ⟨mz_0_f249, List.forall_mem_cons.mpr ⟨mz_0_f250, List.forall_mem_cons.mpr ⟨mz_0_f253, List.forall_mem_cons.mpr ⟨mz_0_f256, fun _ h => absurd h List.not_mem_nil⟩⟩⟩⟩⟩⟩⟩⟩⟩⟩⟩⟩⟩⟩⟩⟩⟩⟩⟩⟩⟩, List.forall_mem_cons.mpr ⟨mz_0_n9, List.forall_mem_cons.mpr ⟨mz_0_n16, List.forall_mem_cons.mpr ⟨mz_0_n25, List.forall_mem_cons.mpr ⟨mz_0_n30, List.forall_mem_cons.mpr ⟨mz_0_n43, List.forall_mem_cons.mpr ⟨mz_0_n52, fun _ h => absurd h List.not_mem_nil⟩⟩⟩⟩⟩⟩, List.forall_mem_cons.mpr ⟨mz_0_a30, fun _ h => absurd h List.not_mem_nil⟩, fun _ h => absurd h List.not_mem_nil, List.forall_mem_cons.mpr ⟨mz_0_l257, List.forall_mem_cons.mpr ⟨mz_0_l259, List.forall_mem_cons.mpr ⟨mz_0_l261, List.forall_mem_cons.mpr ⟨mz_0_l263, List.forall_mem_cons.mpr ⟨mz_0_l265, List.forall_mem_cons.mpr ⟨mz_0_l267, List.forall_mem_cons.mpr ⟨mz_0_l269, List.forall_mem_cons.mpr ⟨mz_0_l271, List.forall_mem_cons.mpr ⟨mz_0_l273, List.forall_mem_cons.mpr ⟨mz_0_l275, List.forall_mem_cons.mpr ⟨mz_0_l277, fun _ h => absurd h List.not_mem_nil⟩⟩⟩⟩⟩⟩⟩⟩⟩⟩⟩, fun _ h => absurd h List.not_mem_nil, List.forall_mem_cons.mpr ⟨mz_0_m3, List.forall_mem_cons.mpr ⟨mz_0_m11, List.forall_mem_cons.mpr ⟨mz_0_m18, List.forall_mem_cons.mpr ⟨mz_0_m27, List.forall_mem_cons.mpr ⟨mz_0_m32, List.forall_mem_cons.mpr ⟨mz_0_m45, List.forall_mem_cons.mpr ⟨mz_0_m58, List.forall_mem_cons.mpr ⟨mz_0_m69, List.forall_mem_cons.mpr ⟨mz_0_m76, List.forall_mem_cons.mpr ⟨mz_0_m80, List.forall_mem_cons.mpr ⟨mz_0_m84, List.forall_mem_cons.mpr ⟨mz_0_m87, List.forall_mem_cons.mpr ⟨mz_0_m90, List.forall_mem_cons.mpr ⟨mz_0_m94, List.forall_mem_cons.mpr ⟨mz_0_m97, List.forall_mem_cons.mpr ⟨mz_0_m101, List.forall_mem_cons.mpr ⟨mz_0_m104, List.forall_mem_cons.mpr ⟨mz_0_m111, List.forall_mem_cons.mpr ⟨mz_0_m115, List.forall_mem_cons.mpr ⟨mz_0_m118, List.forall_mem_cons.mpr ⟨mz_0_m121, List.forall_mem_cons.mpr ⟨mz_0_m124, List.forall_mem_cons.mpr ⟨mz_0_m138, List.forall_mem_cons.mpr ⟨mz_0_m142, List.forall_mem_cons.mpr ⟨mz_0_m146, List.forall_mem_cons.mpr ⟨mz_0_m149, List.forall_mem_cons.mpr ⟨mz_0_m153, List.forall_mem_cons.mpr ⟨mz_0_m156, List.forall_mem_cons.mpr ⟨mz_0_m159, List.forall_mem_cons.mpr ⟨mz_0_m160, List.forall_mem_cons.mpr ⟨mz_0_m163, List.forall_mem_cons.mpr ⟨mz_0_m165, List.forall_mem_cons.mpr ⟨mz_0_m168, List.forall_mem_cons.mpr ⟨mz_0_m172, List.forall_mem_cons.mpr ⟨mz_0_m178, List.forall_mem_cons.mpr ⟨mz_0_m181, List.forall_mem_cons.mpr ⟨mz_0_m184, List.forall_mem_cons.mpr ⟨mz_0_m187, List.forall_mem_cons.mpr ⟨mz_0_m192, List.forall_mem_cons.mpr ⟨mz_0_m195, List.forall_mem_cons.mpr ⟨mz_0_m199, List.forall_mem_cons.mpr ⟨mz_0_m202, List.forall_mem_cons.mpr ⟨mz_0_m209, List.forall_mem_cons.mpr ⟨mz_0_m213, List.forall_mem_cons.mpr ⟨mz_0_m217, List.forall_mem_cons.mpr ⟨mz_0_m220, List.forall_mem_cons.mpr ⟨mz_0_m228, List.forall_mem_cons.mpr ⟨mz_0_m229, List.forall_mem_cons.mpr ⟨mz_0_m233, List.forall_mem_cons.mpr ⟨mz_0_m241, List.forall_mem_cons.mpr ⟨mz_0_m244, fun _ h => absurd h List.not_mem_nil⟩⟩⟩⟩⟩⟩⟩⟩⟩⟩⟩⟩⟩⟩⟩⟩⟩⟩⟩⟩⟩⟩⟩⟩⟩⟩⟩⟩⟩⟩⟩⟩⟩⟩⟩⟩⟩⟩⟩⟩⟩⟩⟩⟩⟩⟩⟩⟩⟩⟩⟩⟩
def mz_1 : im_Z := ([(9, 1, 1, 0), (15, 1, 3, 0), (18, 1, 5, 0), (21, 1, 6, 0), (24, 1, 0, 1), (28, 10, 6, 0), (33, 10, 2, 0), (36, 1, 7, 0), (40, 1, 2, 0), (43, 1, 4, 0), (65, 1, 8, 0)], [], [], [(50, 1000000), (51, 65535)], [(81, 6605190), (83, 6482894), (85, 7138230)], [], [(0, 3, 0, 0), (1, 46, 31, 1), (1, 52, 130, 1), (1, 58, 33, 1), (1, 62, 34, 1), (1, 68, 129, 1), (1, 72, 125, 1), (1, 75, 32, 1), (1, 78, 36, 1), (1, 87, 35, 2), (1, 91, 132, 2), (1, 95, 126, 1), (1, 98, 131, 1)])
theorem mz_1_f9 : im_fF im_Ts mx_cl mx_R1 (9, 1, 1, 0) := ⟨(mx_R1, mx_T1, 9), rfl, by decide, im_in 513 (by decide +kernel) rfl, fun h => absurd h (by decide)⟩
theorem mz_1_f15 : im_fF im_Ts mx_cl mx_R1 (15, 1, 3, 0) := ⟨(mx_R1, mx_T1, 9), rfl, by decide, im_in 515 (by decide +kernel) rfl, fun h => absurd h (by decide)⟩
theorem mz_1_f18 : im_fF im_Ts mx_cl mx_R1 (18, 1, 5, 0) := ⟨(mx_R1, mx_T1, 9), rfl, by decide, im_in 517 (by decide +kernel) rfl, fun h => absurd h (by decide)⟩
theorem mz_1_f21 : im_fF im_Ts mx_cl mx_R1 (21, 1, 6, 0) := ⟨(mx_R1, mx_T1, 9), rfl, by decide, im_in 518 (by decide +kernel) rfl, fun h => absurd h (by decide)⟩
theorem mz_1_f24 : im_fF im_Ts mx_cl mx_R1 (24, 1, 0, 1) := ⟨(mx_R1, mx_T1, 9), rfl, by decide, im_in 512 (by decide +kernel) rfl, fun _ => ⟨by decide, fun _ => rfl⟩⟩
theorem mz_1_f28 : im_fF im_Ts mx_cl mx_R1 (28, 10, 6, 0) := ⟨(mx_R10, mx_T10, 11), rfl, by decide, im_in 478 (by decide +kernel) rfl, fun h => absurd h (by decide)⟩
theorem mz_1_f33 : im_fF im_Ts mx_cl mx_R1 (33, 10, 2, 0) := ⟨(mx_R10, mx_T10, 11), rfl, by decide, im_in 473 (by decide +kernel) rfl, fun h => absurd h (by decide)⟩
theorem mz_1_f36 : im_fF im_Ts mx_cl mx_R1 (36, 1, 7, 0) := ⟨(mx_R1, mx_T1, 9), rfl, by decide, im_in 519 (by decide +kernel) rfl, fun h => absurd h (by decide)⟩
theorem mz_1_f40 : im_fF im_Ts mx_cl mx_R1 (40, 1, 2, 0) := ⟨(mx_R1, mx_T1, 9), rfl, by decide, im_in 514 (by decide +kernel) rfl, fun h => absurd h (by decide)⟩
theorem mz_1_f43 : im_fF im_Ts mx_cl mx_R1 (43, 1, 4, 0) := ⟨(mx_R1, mx_T1, 9), rfl, by decide, im_in 516 (by decide +kernel) rfl, fun h => absurd h (by decide)⟩
theorem mz_1_f65 : im_fF im_Ts mx_cl mx_R1 (65, 1, 8, 0) := ⟨(mx_R1, mx_T1, 9), rfl, by decide, im_in 520 (by decide +kernel) rfl, fun h => absurd h (by decide)⟩
theorem mz_1_i50 : im_fI im_Ts mx_R1 (50, 1000000) := im_in 1252 (by decide +kernel) rfl
theorem mz_1_i51 : im_fI im_Ts mx_R1 (51, 65535) := im_in 1253 (by decide +kernel) rfl
theorem mz_1_l81 : im_fL im_Ts mx_R1 (81, 6605190) := im_in 1248 (by decide +kernel) rfl
theorem mz_1_l83 : im_fL im_Ts mx_R1 (83, 6482894) := im_in 1249 (by decide +kernel) rfl
theorem mz_1_l85 : im_fL im_Ts mx_R1 (85, 7138230) := im_in 1250 (by decide +kernel) rfl
theorem mz_1_m3 : im_fM im_Ts mx_nw mm_tb mx_R1 (0, 3, 0, 0) := fun y pc len v h => Or.inl ⟨rfl, 3, rfl, by rw [h]; exact im_in 511 (by decide +kernel) rfl⟩
theorem mz_1_m46 : im_fM im_Ts mx_nw mm_tb mx_R1 (1, 46, 31, 1) := fun y pc len v h => Or.inr (Or.inr (Or.inr (Or.inr (Or.inr (Or.inr ⟨im_m31, rfl, mm_a31, Or.inl ⟨rfl, 46, rfl, by rw [h]; exact im_in 1227 (by decide +kernel) rfl, mm_i31, mm_s31⟩⟩)))))
theorem mz_1_m52 : im_fM im_Ts mx_nw mm_tb mx_R1 (1, 52, 130, 1) := fun y pc len v h => Or.inr (Or.inr (Or.inr (Or.inr (Or.inr (Or.inr ⟨im_m130, rfl, mm_a130, Or.inl ⟨rfl, 52, rfl, by rw [h]; exact im_in 1247 (by decide +kernel) rfl, mm_i130, mm_s130⟩⟩)))))
theorem mz_1_m58 : im_fM im_Ts mx_nw mm_tb mx_R1 (1, 58, 33, 1) := fun y pc len v h => Or.inr (Or.inr (Or.inr (Or.inr (Or.inr (Or.inr ⟨im_m33, rfl, mm_a33, Or.inl ⟨rfl, 58, rfl, by rw [h]; exact im_in 1254 (by decide +kernel) rfl, mm_i33, mm_s33⟩⟩)))))
theorem mz_1_m62 : im_fM im_Ts mx_nw mm_tb mx_R1 (1, 62, 34, 1) := fun y pc len v h => Or.inr (Or.inr (Or.inr (Or.inr (Or.inr (Or.inr ⟨im_m34, rfl, mm_a34, Or.inl ⟨rfl, 62, rfl, by rw [h]; exact im_in 1258 (by decide +kernel) rfl, mm_i34, mm_s34⟩⟩)))))
theorem mz_1_m68 : im_fM im_Ts mx_nw mm_tb mx_R1 (1, 68, 129, 1) := fun y pc len v h => Or.inr (Or.inr (Or.inr (Or.inr (Or.inr (Or.inr ⟨im_m129, rfl, mm_a129, Or.inl ⟨rfl, 68, rfl, by rw [h]; exact im_in 1231 (by decide +kernel) rfl, mm_i129, mm_s129⟩⟩)))))
theorem mz_1_m72 : im_fM im_Ts mx_nw mm_tb mx_R1 (1, 72, 125, 1) := fun y pc len v h => Or.inr (Or.inr (Or.inr (Or.inr (Or.inr (Or.inr ⟨im_m125, rfl, mm_a125, Or.inl ⟨rfl, 72, rfl, by rw [h]; exact im_in 1232 (by decide +kernel) rfl, mm_i125, mm_s125⟩⟩)))))
theorem mz_1_m75 : im_fM im_Ts mx_nw mm_tb mx_R1 (1, 75, 32, 1) := fun y pc len v h => Or.inr (Or.inr (Or.inr (Or.inr (Or.inr (Or.inr ⟨im_m32, rfl, mm_a32, Or.inl ⟨rfl, 75, rfl, by rw [h]; exact im_in 1233 (by decide +kernel) rfl, mm_i32, mm_s32⟩⟩)))))
theorem mz_1_m78 : im_fM im_Ts mx_nw mm_tb mx_R1 (1, 78, 36, 1) := fun y pc len v h => Or.inr (Or.inr (Or.inr (Or.inr (Or.inr (Or.inr ⟨im_m36, rfl, mm_a36, Or.inl ⟨rfl, 78, rfl, by rw [h]; exact im_in 1239 (by decide +kernel) rfl, mm_i36, mm_s36⟩⟩)))))
theorem mz_1_m87 : im_fM im_Ts mx_nw mm_tb mx_R1 (1, 87, 35, 2) := fun y pc len v h => Or.inr (Or.inr (Or.inr (Or.inr (Or.inr (Or.inr ⟨im_m35, rfl, mm_a35, Or.inl ⟨rfl, 87, rfl, by rw [h]; exact im_in 1243 (by decide +kernel) rfl, mm_i35, mm_s35⟩⟩)))))
theorem mz_1_m91 : im_fM im_Ts mx_nw mm_tb mx_R1 (1, 91, 132, 2) := fun y pc len v h => Or.inr (Or.inr (Or.inr (Or.inr (Or.inr (Or.inr ⟨im_m132, rfl, mm_a132, Or.inl ⟨rfl, 91, rfl, by rw [h]; exact im_in 1251 (by decide +kernel) rfl, mm_i132, mm_s132⟩⟩)))))
theorem mz_1_m95 : im_fM im_Ts mx_nw mm_tb mx_R1 (1, 95, 126, 1) := fun y pc len v h => Or.inr (Or.inr (Or.inr (Or.inr (Or.inr (Or.inr ⟨im_m126, rfl, mm_a126, Or.inl ⟨rfl, 95, rfl, by rw [h]; exact im_in 1237 (by decide +kernel) rfl, mm_i126, mm_s126⟩⟩)))))
theorem mz_1_m98 : im_fM im_Ts mx_nw mm_tb mx_R1 (1, 98, 131, 1) := fun y pc len v h => Or.inr (Or.inr (Or.inr (Or.inr (Or.inr (Or.inr ⟨im_m131, rfl, mm_a131, Or.inl ⟨rfl, 98, rfl, by rw [h]; exact im_in 1238 (by decide +kernel) rfl, mm_i131, mm_s131⟩⟩)))))
theorem mz_1_ok : im_zo im_Ts mx_nw mx_cl mx_rA mx_nf mm_tb mx_R1 mz_1 := ⟨List.forall_mem_cons.mpr ⟨mz_1_f9, List.forall_mem_cons.mpr ⟨mz_1_f15, List.forall_mem_cons.mpr ⟨mz_1_f18, List.forall_mem_cons.mpr ⟨mz_1_f21, List.forall_mem_cons.mpr ⟨mz_1_f24, List.forall_mem_cons.mpr ⟨mz_1_f28, List.forall_mem_cons.mpr ⟨mz_1_f33, List.forall_mem_cons.mpr ⟨mz_1_f36, List.forall_mem_cons.mpr ⟨mz_1_f40, List.forall_mem_cons.mpr ⟨mz_1_f43, List.forall_mem_cons.mpr ⟨mz_1_f65, fun _ h => absurd h List.not_mem_nil⟩⟩⟩⟩⟩⟩⟩⟩⟩⟩⟩, fun _ h => absurd h List.not_mem_nil, fun _ h => absurd h List.not_mem_nil, List.forall_mem_cons.mpr ⟨mz_1_i50, List.forall_mem_cons.mpr ⟨mz_1_i51, fun _ h => absurd h List.not_mem_nil⟩⟩, List.forall_mem_cons.mpr ⟨mz_1_l81, List.forall_mem_cons.mpr ⟨mz_1_l83, List.forall_mem_cons.mpr ⟨mz_1_l85, fun _ h => absurd h List.not_mem_nil⟩⟩⟩, fun _ h => absurd h List.not_mem_nil, List.forall_mem_cons.mpr ⟨mz_1_m3, List.forall_mem_cons.mpr ⟨mz_1_m46, List.forall_mem_cons.mpr ⟨mz_1_m52, List.forall_mem_cons.mpr ⟨mz_1_m58, List.forall_mem_cons.mpr ⟨mz_1_m62, List.forall_mem_cons.mpr ⟨mz_1_m68, List.forall_mem_cons.mpr ⟨mz_1_m72, List.forall_mem_cons.mpr ⟨mz_1_m75, List.forall_mem_cons.mpr ⟨mz_1_m78, List.forall_mem_cons.mpr ⟨mz_1_m87, List.forall_mem_cons.mpr ⟨mz_1_m91, List.forall_mem_cons.mpr ⟨mz_1_m95, List.forall_mem_cons.mpr ⟨mz_1_m98, fun _ h => absurd h List.not_mem_nil⟩⟩⟩⟩⟩⟩⟩⟩⟩⟩⟩⟩⟩⟩
def mz_2 : im_Z := ([(9, 2, 1, 0)], [], [], [], [], [], [(0, 3, 0, 0)])
theorem mz_2_f9 : im_fF im_Ts mx_cl mx_R2 (9, 2, 1, 0) := ⟨(mx_R2, mx_T2, 6), rfl, by decide, im_in 1286 (by decide +kernel) rfl, fun h => absurd h (by decide)⟩
theorem mz_2_m3 : im_fM im_Ts mx_nw mm_tb mx_R2 (0, 3, 0, 0) := fun y pc len v h => Or.inl ⟨rfl, 3, rfl, by rw [h]; exact im_in 1283 (by decide +kernel) rfl⟩
theorem mz_2_ok : im_zo im_Ts mx_nw mx_cl mx_rA mx_nf mm_tb mx_R2 mz_2 := ⟨List.forall_mem_cons.mpr ⟨mz_2_f9, fun _ h => absurd h List.not_mem_nil⟩, fun _ h => absurd h List.not_mem_nil, fun _ h => absurd h List.not_mem_nil, fun _ h => absurd h List.not_mem_nil, fun _ h => absurd h List.not_mem_nil, fun _ h => absurd h List.not_mem_nil, List.forall_mem_cons.mpr ⟨mz_2_m3, fun _ h => absurd h List.not_mem_nil⟩⟩
def mz_3 : im_Z := ([(9, 6, 1, 2), (15, 6, 4, 0), (25, 3, 0, 1), (28, 6, 2, 2), (35, 3, 1, 1), (36, 6, 3, 2), (39, 3, 2, 1), (40, 6, 5, 0), (43, 3, 3, 1), (44, 6, 6, 2), (47, 6, 7, 0), (50, 3, 4, 1), (51, 6, 10, 0), (54, 3, 5, 1), (55, 6, 9, 2), (58, 3, 6, 1), (61, 3, 7, 1), (64, 3, 8, 1), (67, 6, 11, 2)], [], [], [], [], [], [(0, 3, 0, 0), (5, 19, 305, 2), (5, 32, 306, 2), (5, 70, 307, 1), (1, 76, 49, 1), (1, 80, 41, 1), (1, 83, 45, 0), (7, 87, 26, 1), (1, 91, 42, 2), (1, 95, 40, 1), (7, 98, 23, 1), (7, 101, 24, 2)])
theorem mz_3_f9 : im_fF im_Ts mx_cl mx_R3 (9, 6, 1, 2) := ⟨(mx_R6, mx_T6, 18), rfl, by decide, im_in 224 (by decide +kernel) rfl, fun _ => ⟨by decide, fun h => absurd h (by decide)⟩⟩
theorem mz_3_f15 : im_fF im_Ts mx_cl mx_R3 (15, 6, 4, 0) := ⟨(mx_R6, mx_T6, 18), rfl, by decide, im_in 230 (by decide +kernel) rfl, fun h => absurd h (by decide)⟩
theorem mz_3_f25 : im_fF im_Ts mx_cl mx_R3 (25, 3, 0, 1) := ⟨(mx_R3, mx_T3, 9), rfl, by decide, im_in 358 (by decide +kernel) rfl, fun _ => ⟨by decide, fun _ => rfl⟩⟩
theorem mz_3_f28 : im_fF im_Ts mx_cl mx_R3 (28, 6, 2, 2) := ⟨(mx_R6, mx_T6, 18), rfl, by decide, im_in 227 (by decide +kernel) rfl, fun _ => ⟨by decide, fun h => absurd h (by decide)⟩⟩
theorem mz_3_f35 : im_fF im_Ts mx_cl mx_R3 (35, 3, 1, 1) := ⟨(mx_R3, mx_T3, 9), rfl, by decide, im_in 359 (by decide +kernel) rfl, fun _ => ⟨by decide, fun _ => rfl⟩⟩
theorem mz_3_f36 : im_fF im_Ts mx_cl mx_R3 (36, 6, 3, 2) := ⟨(mx_R6, mx_T6, 18), rfl, by decide, im_in 229 (by decide +kernel) rfl, fun _ => ⟨by decide, fun h => absurd h (by decide)⟩⟩
theorem mz_3_f39 : im_fF im_Ts mx_cl mx_R3 (39, 3, 2, 1) := ⟨(mx_R3, mx_T3, 9), rfl, by decide, im_in 360 (by decide +kernel) rfl, fun _ => ⟨by decide, fun _ => rfl⟩⟩
theorem mz_3_f40 : im_fF im_Ts mx_cl mx_R3 (40, 6, 5, 0) := ⟨(mx_R6, mx_T6, 18), rfl, by decide, im_in 233 (by decide +kernel) rfl, fun h => absurd h (by decide)⟩
theorem mz_3_f43 : im_fF im_Ts mx_cl mx_R3 (43, 3, 3, 1) := ⟨(mx_R3, mx_T3, 9), rfl, by decide, im_in 361 (by decide +kernel) rfl, fun _ => ⟨by decide, fun _ => rfl⟩⟩
theorem mz_3_f44 : im_fF im_Ts mx_cl mx_R3 (44, 6, 6, 2) := ⟨(mx_R6, mx_T6, 18), rfl, by decide, im_in 235 (by decide +kernel) rfl, fun _ => ⟨by decide, fun h => absurd h (by decide)⟩⟩
theorem mz_3_f47 : im_fF im_Ts mx_cl mx_R3 (47, 6, 7, 0) := ⟨(mx_R6, mx_T6, 18), rfl, by decide, im_in 236 (by decide +kernel) rfl, fun h => absurd h (by decide)⟩
theorem mz_3_f50 : im_fF im_Ts mx_cl mx_R3 (50, 3, 4, 1) := ⟨(mx_R3, mx_T3, 9), rfl, by decide, im_in 364 (by decide +kernel) rfl, fun _ => ⟨by decide, fun _ => rfl⟩⟩
theorem mz_3_f51 : im_fF im_Ts mx_cl mx_R3 (51, 6, 10, 0) := ⟨(mx_R6, mx_T6, 18), rfl, by decide, im_in 241 (by decide +kernel) rfl, fun h => absurd h (by decide)⟩
theorem mz_3_f54 : im_fF im_Ts mx_cl mx_R3 (54, 3, 5, 1) := ⟨(mx_R3, mx_T3, 9), rfl, by decide, im_in 368 (by decide +kernel) rfl, fun _ => ⟨by decide, fun _ => rfl⟩⟩
theorem mz_3_f55 : im_fF im_Ts mx_cl mx_R3 (55, 6, 9, 2) := ⟨(mx_R6, mx_T6, 18), rfl, by decide, im_in 240 (by decide +kernel) rfl, fun _ => ⟨by decide, fun h => absurd h (by decide)⟩⟩
theorem mz_3_f58 : im_fF im_Ts mx_cl mx_R3 (58, 3, 6, 1) := ⟨(mx_R3, mx_T3, 9), rfl, by decide, im_in 371 (by decide +kernel) rfl, fun _ => ⟨by decide, fun _ => rfl⟩⟩
theorem mz_3_f61 : im_fF im_Ts mx_cl mx_R3 (61, 3, 7, 1) := ⟨(mx_R3, mx_T3, 9), rfl, by decide, im_in 373 (by decide +kernel) rfl, fun _ => ⟨by decide, fun _ => rfl⟩⟩
theorem mz_3_f64 : im_fF im_Ts mx_cl mx_R3 (64, 3, 8, 1) := ⟨(mx_R3, mx_T3, 9), rfl, by decide, im_in 375 (by decide +kernel) rfl, fun _ => ⟨by decide, fun _ => rfl⟩⟩
theorem mz_3_f67 : im_fF im_Ts mx_cl mx_R3 (67, 6, 11, 2) := ⟨(mx_R6, mx_T6, 18), rfl, by decide, im_in 244 (by decide +kernel) rfl, fun _ => ⟨by decide, fun h => absurd h (by decide)⟩⟩
theorem mz_3_m3 : im_fM im_Ts mx_nw mm_tb mx_R3 (0, 3, 0, 0) := fun y pc len v h => Or.inl ⟨rfl, 3, rfl, by rw [h]; exact im_in 295 (by decide +kernel) rfl⟩
theorem mz_3_m19 : im_fM im_Ts mx_nw mm_tb mx_R3 (5, 19, 305, 2) := fun y pc len v h => Or.inr (Or.inr (Or.inr (Or.inr (Or.inr (Or.inr ⟨im_m305, rfl, mm_a305, Or.inr (Or.inr (Or.inr (Or.inl ⟨rfl, 19, rfl, by rw [h]; exact im_in 296 (by decide +kernel) rfl, mm_t305⟩)))⟩)))))
theorem mz_3_m32 : im_fM im_Ts mx_nw mm_tb mx_R3 (5, 32, 306, 2) := fun y pc len v h => Or.inr (Or.inr (Or.inr (Or.inr (Or.inr (Or.inr ⟨im_m306, rfl, mm_a306, Or.inr (Or.inr (Or.inr (Or.inl ⟨rfl, 32, rfl, by rw [h]; exact im_in 312 (by decide +kernel) rfl, mm_t306⟩)))⟩)))))
theorem mz_3_m70 : im_fM im_Ts mx_nw mm_tb mx_R3 (5, 70, 307, 1) := fun y pc len v h => Or.inr (Or.inr (Or.inr (Or.inr (Or.inr (Or.inr ⟨im_m307, rfl, mm_a307, Or.inr (Or.inr (Or.inr (Or.inl ⟨rfl, 70, rfl, by rw [h]; exact im_in 320 (by decide +kernel) rfl, mm_t307⟩)))⟩)))))
theorem mz_3_m76 : im_fM im_Ts mx_nw mm_tb mx_R3 (1, 76, 49, 1) := fun y pc len v h => Or.inr (Or.inr (Or.inr (Or.inr (Or.inr (Or.inr ⟨im_m49, rfl, mm_a49, Or.inl ⟨rfl, 76, rfl, by rw [h]; exact im_in 326 (by decide +kernel) rfl, mm_i49, mm_s49⟩⟩)))))
theorem mz_3_m80 : im_fM im_Ts mx_nw mm_tb mx_R3 (1, 80, 41, 1) := fun y pc len v h => Or.inr (Or.inr (Or.inr (Or.inr (Or.inr (Or.inr ⟨im_m41, rfl, mm_a41, Or.inl ⟨rfl, 80, rfl, by rw [h]; exact im_in 330 (by decide +kernel) rfl, mm_i41, mm_s41⟩⟩)))))
theorem mz_3_m83 : im_fM im_Ts mx_nw mm_tb mx_R3 (1, 83, 45, 0) := fun y pc len v h => Or.inr (Or.inr (Or.inr (Or.inr (Or.inr (Or.inr ⟨im_m45, rfl, mm_a45, Or.inl ⟨rfl, 83, rfl, by rw [h]; exact im_in 911 (by decide +kernel) rfl, mm_i45, mm_s45⟩⟩)))))
theorem mz_3_m87 : im_fM im_Ts mx_nw mm_tb mx_R3 (7, 87, 26, 1) := fun y pc len v h => Or.inr (Or.inr (Or.inr (Or.inr (Or.inr (Or.inr ⟨im_m26, rfl, mm_a26, Or.inr (Or.inr (Or.inr (Or.inr ⟨rfl, 87, mx_R0, rfl, by rw [h]; exact List.mem_of_getElem? (i := 6) rfl, mm_t26⟩)))⟩)))))
theorem mz_3_m91 : im_fM im_Ts mx_nw mm_tb mx_R3 (1, 91, 42, 2) := fun y pc len v h => Or.inr (Or.inr (Or.inr (Or.inr (Or.inr (Or.inr ⟨im_m42, rfl, mm_a42, Or.inl ⟨rfl, 91, rfl, by rw [h]; exact im_in 345 (by decide +kernel) rfl, mm_i42, mm_s42⟩⟩)))))
theorem mz_3_m95 : im_fM im_Ts mx_nw mm_tb mx_R3 (1, 95, 40, 1) := fun y pc len v h => Or.inr (Or.inr (Or.inr (Or.inr (Or.inr (Or.inr ⟨im_m40, rfl, mm_a40, Or.inl ⟨rfl, 95, rfl, by rw [h]; exact im_in 349 (by decide +kernel) rfl, mm_i40, mm_s40⟩⟩)))))
theorem mz_3_m98 : im_fM im_Ts mx_nw mm_tb mx_R3 (7, 98, 23, 1) := fun y pc len v h => Or.inr (Or.inr (Or.inr (Or.inr (Or.inr (Or.inr ⟨im_m23, rfl, mm_a23, Or.inr (Or.inr (Or.inr (Or.inr ⟨rfl, 98, mx_R0, rfl, by rw [h]; exact List.mem_of_getElem? (i := 1) rfl, mm_t23⟩)))⟩)))))
theorem mz_3_m101 : im_fM im_Ts mx_nw mm_tb mx_R3 (7, 101, 24, 2) := fun y pc len v h => Or.inr (Or.inr (Or.inr (Or.inr (Or.inr (Or.inr ⟨im_m24, rfl, mm_a24, Or.inr (Or.inr (Or.inr (Or.inr ⟨rfl, 101, mx_R0, rfl, by rw [h]; exact List.mem_of_getElem? (i := 2) rfl, mm_t24⟩)))⟩)))))
theorem mz_3_ok : im_zo im_Ts mx_nw mx_cl mx_rA mx_nf mm_tb mx_R3 mz_3 := ⟨List.forall_mem_cons.mpr ⟨mz_3_f9, List.forall_mem_cons.mpr ⟨mz_3_f15, List.forall_mem_cons.mpr ⟨mz_3_f25, List.forall_mem_cons.mpr ⟨mz_3_f28, List.forall_mem_cons.mpr ⟨mz_3_f35, List.forall_mem_cons.mpr ⟨mz_3_f36, List.forall_mem_cons.mpr ⟨mz_3_f39, List.forall_mem_cons.mpr ⟨mz_3_f40, List.forall_mem_cons.mpr ⟨mz_3_f43, List.forall_mem_cons.mpr ⟨mz_3_f44, List.forall_mem_cons.mpr ⟨mz_3_f47, List.forall_mem_cons.mpr ⟨mz_3_f50, List.forall_mem_cons.mpr ⟨mz_3_f51, List.forall_mem_cons.mpr ⟨mz_3_f54, List.forall_mem_cons.mpr ⟨mz_3_f55, List.forall_mem_cons.mpr ⟨mz_3_f58, List.forall_mem_cons.mpr ⟨mz_3_f61, List.forall_mem_cons.mpr ⟨mz_3_f64, List.forall_mem_cons.mpr ⟨mz_3_f67, fun _ h => absurd h List.not_mem_nil⟩⟩⟩⟩⟩⟩⟩⟩⟩⟩⟩⟩⟩⟩⟩⟩⟩⟩⟩, fun _ h => absurd h List.not_mem_nil, fun _ h => absurd h List.not_mem_nil, fun _ h => absurd h List.not_mem_nil, fun _ h => absurd h List.not_mem_nil, fun _ h => absurd h List.not_mem_nil, List.forall_mem_cons.mpr ⟨mz_3_m3, List.forall_mem_cons.mpr ⟨mz_3_m19, List.forall_mem_cons.mpr ⟨mz_3_m32, List.forall_mem_cons.mpr ⟨mz_3_m70, List.forall_mem_cons.mpr ⟨mz_3_m76, List.forall_mem_cons.mpr ⟨mz_3_m80, List.forall_mem_cons.mpr ⟨mz_3_m83, List.forall_mem_cons.mpr ⟨mz_3_m87, List.forall_mem_cons.mpr ⟨mz_3_m91, List.forall_mem_cons.mpr ⟨mz_3_m95, List.forall_mem_cons.mpr ⟨mz_3_m98, List.forall_mem_cons.mpr ⟨mz_3_m101, fun _ h => absurd h List.not_mem_nil⟩⟩⟩⟩⟩⟩⟩⟩⟩⟩⟩⟩⟩
def mz_4 : im_Z := ([], [], [], [], [], [], [(0, 1, 0, 0)])
theorem mz_4_m1 : im_fM im_Ts mx_nw mm_tb mx_R4 (0, 1, 0, 0) := fun y pc len v h => Or.inl ⟨rfl, 1, rfl, by rw [h]; exact im_in 1073 (by decide +kernel) rfl⟩
theorem mz_4_ok : im_zo im_Ts mx_nw mx_cl mx_rA mx_nf mm_tb mx_R4 mz_4 := ⟨fun _ h => absurd h List.not_mem_nil, fun _ h => absurd h List.not_mem_nil, fun _ h => absurd h List.not_mem_nil, fun _ h => absurd h List.not_mem_nil, fun _ h => absurd h List.not_mem_nil, fun _ h => absurd h List.not_mem_nil, List.forall_mem_cons.mpr ⟨mz_4_m1, fun _ h => absurd h List.not_mem_nil⟩⟩
def mz_5 : im_Z := ([(11, 5, 1, 1), (17, 5, 0, 1), (21, 5, 2, 0), (63, 3, 7, 2)], [], [(9, 3)], [], [], [], [(0, 3, 0, 0), (1, 25, 52, 1), (1, 29, 53, 1), (1, 33, 57, 2), (1, 37, 59, 1), (7, 41, 27, 1), (1, 45, 45, 0), (1, 49, 46, 0), (1, 53, 47, 0), (7, 56, 25, 4), (1, 60, 58, 1), (1, 67, 63, 2), (1, 71, 60, 3), (5, 75, 307, 1), (1, 80, 66, 1)])
theorem mz_5_f11 : im_fF im_Ts mx_cl mx_R5 (11, 5, 1, 1) := ⟨(mx_R5, mx_T5, 3), rfl, by decide, im_in 404 (by decide +kernel) rfl, fun _ => ⟨by decide, fun _ => rfl⟩⟩
theorem mz_5_f17 : im_fF im_Ts mx_cl mx_R5 (17, 5, 0, 1) := ⟨(mx_R5, mx_T5, 3), rfl, by decide, im_in 403 (by decide +kernel) rfl, fun _ => ⟨by decide, fun _ => rfl⟩⟩
theorem mz_5_f21 : im_fF im_Ts mx_cl mx_R5 (21, 5, 2, 0) := ⟨(mx_R5, mx_T5, 3), rfl, by decide, im_in 405 (by decide +kernel) rfl, fun h => absurd h (by decide)⟩
theorem mz_5_f63 : im_fF im_Ts mx_cl mx_R5 (63, 3, 7, 2) := ⟨(mx_R3, mx_T3, 9), rfl, by decide, im_in 374 (by decide +kernel) rfl, fun _ => ⟨by decide, fun h => absurd h (by decide)⟩⟩
theorem mz_5_a9 : im_fA im_Ts mx_cl mx_rA mx_R5 (9, 3) := ⟨(mx_R3, mx_T3, 9), rfl, by decide, im_in 401 (by decide +kernel) rfl⟩
theorem mz_5_m3 : im_fM im_Ts mx_nw mm_tb mx_R5 (0, 3, 0, 0) := fun y pc len v h => Or.inl ⟨rfl, 3, rfl, by rw [h]; exact im_in 400 (by decide +kernel) rfl⟩
theorem mz_5_m25 : im_fM im_Ts mx_nw mm_tb mx_R5 (1, 25, 52, 1) := fun y pc len v h => Or.inr (Or.inr (Or.inr (Or.inr (Or.inr (Or.inr ⟨im_m52, rfl, mm_a52, Or.inl ⟨rfl, 25, rfl, by rw [h]; exact im_in 822 (by decide +kernel) rfl, mm_i52, mm_s52⟩⟩)))))
theorem mz_5_m29 : im_fM im_Ts mx_nw mm_tb mx_R5 (1, 29, 53, 1) := fun y pc len v h => Or.inr (Or.inr (Or.inr (Or.inr (Or.inr (Or.inr ⟨im_m53, rfl, mm_a53, Or.inl ⟨rfl, 29, rfl, by rw [h]; exact im_in 818 (by decide +kernel) rfl, mm_i53, mm_s53⟩⟩)))))
theorem mz_5_m33 : im_fM im_Ts mx_nw mm_tb mx_R5 (1, 33, 57, 2) := fun y pc len v h => Or.inr (Or.inr (Or.inr (Or.inr (Or.inr (Or.inr ⟨im_m57, rfl, mm_a57, Or.inl ⟨rfl, 33, rfl, by rw [h]; exact im_in 855 (by decide +kernel) rfl, mm_i57, mm_s57⟩⟩)))))
theorem mz_5_m37 : im_fM im_Ts mx_nw mm_tb mx_R5 (1, 37, 59, 1) := fun y pc len v h => Or.inr (Or.inr (Or.inr (Or.inr (Or.inr (Or.inr ⟨im_m59, rfl, mm_a59, Or.inl ⟨rfl, 37, rfl, by rw [h]; exact im_in 884 (by decide +kernel) rfl, mm_i59, mm_s59⟩⟩)))))
theorem mz_5_m41 : im_fM im_Ts mx_nw mm_tb mx_R5 (7, 41, 27, 1) := fun y pc len v h => Or.inr (Or.inr (Or.inr (Or.inr (Or.inr (Or.inr ⟨im_m27, rfl, mm_a27, Or.inr (Or.inr (Or.inr (Or.inr ⟨rfl, 41, mx_R0, rfl, by rw [h]; exact List.mem_of_getElem? (i := 5) rfl, mm_t27⟩)))⟩)))))
theorem mz_5_m45 : im_fM im_Ts mx_nw mm_tb mx_R5 (1, 45, 45, 0) := fun y pc len v h => Or.inr (Or.inr (Or.inr (Or.inr (Or.inr (Or.inr ⟨im_m45, rfl, mm_a45, Or.inl ⟨rfl, 45, rfl, by rw [h]; exact im_in 876 (by decide +kernel) rfl, mm_i45, mm_s45⟩⟩)))))
theorem mz_5_m49 : im_fM im_Ts mx_nw mm_tb mx_R5 (1, 49, 46, 0) := fun y pc len v h => Or.inr (Or.inr (Or.inr (Or.inr (Or.inr (Or.inr ⟨im_m46, rfl, mm_a46, Or.inl ⟨rfl, 49, rfl, by rw [h]; exact im_in 1026 (by decide +kernel) rfl, mm_i46, mm_s46⟩⟩)))))
theorem mz_5_m53 : im_fM im_Ts mx_nw mm_tb mx_R5 (1, 53, 47, 0) := fun y pc len v h => Or.inr (Or.inr (Or.inr (Or.inr (Or.inr (Or.inr ⟨im_m47, rfl, mm_a47, Or.inl ⟨rfl, 53, rfl, by rw [h]; exact im_in 1027 (by decide +kernel) rfl, mm_i47, mm_s47⟩⟩)))))
theorem mz_5_m56 : im_fM im_Ts mx_nw mm_tb mx_R5 (7, 56, 25, 4) := fun y pc len v h => Or.inr (Or.inr (Or.inr (Or.inr (Or.inr (Or.inr ⟨im_m25, rfl, mm_a25, Or.inr (Or.inr (Or.inr (Or.inr ⟨rfl, 56, mx_R0, rfl, by rw [h]; exact List.mem_of_getElem? (i := 8) rfl, mm_t25⟩)))⟩)))))
theorem mz_5_m60 : im_fM im_Ts mx_nw mm_tb mx_R5 (1, 60, 58, 1) := fun y pc len v h => Or.inr (Or.inr (Or.inr (Or.inr (Or.inr (Or.inr ⟨im_m58, rfl, mm_a58, Or.inl ⟨rfl, 60, rfl, by rw [h]; exact im_in 880 (by decide +kernel) rfl, mm_i58, mm_s58⟩⟩)))))
theorem mz_5_m67 : im_fM im_Ts mx_nw mm_tb mx_R5 (1, 67, 63, 2) := fun y pc len v h => Or.inr (Or.inr (Or.inr (Or.inr (Or.inr (Or.inr ⟨im_m63, rfl, mm_a63, Or.inl ⟨rfl, 67, rfl, by rw [h]; exact im_in 896 (by decide +kernel) rfl, mm_i63, mm_s63⟩⟩)))))
theorem mz_5_m71 : im_fM im_Ts mx_nw mm_tb mx_R5 (1, 71, 60, 3) := fun y pc len v h => Or.inr (Or.inr (Or.inr (Or.inr (Or.inr (Or.inr ⟨im_m60, rfl, mm_a60, Or.inl ⟨rfl, 71, rfl, by rw [h]; exact im_in 1031 (by decide +kernel) rfl, mm_i60, mm_s60⟩⟩)))))
theorem mz_5_m75 : im_fM im_Ts mx_nw mm_tb mx_R5 (5, 75, 307, 1) := fun y pc len v h => Or.inr (Or.inr (Or.inr (Or.inr (Or.inr (Or.inr ⟨im_m307, rfl, mm_a307, Or.inr (Or.inr (Or.inr (Or.inl ⟨rfl, 75, rfl, by rw [h]; exact im_in 1038 (by decide +kernel) rfl, mm_t307⟩)))⟩)))))
theorem mz_5_m80 : im_fM im_Ts mx_nw mm_tb mx_R5 (1, 80, 66, 1) := fun y pc len v h => Or.inr (Or.inr (Or.inr (Or.inr (Or.inr (Or.inr ⟨im_m66, rfl, mm_a66, Or.inl ⟨rfl, 80, rfl, by rw [h]; exact im_in 1047 (by decide +kernel) rfl, mm_i66, mm_s66⟩⟩)))))
theorem mz_5_ok : im_zo im_Ts mx_nw mx_cl mx_rA mx_nf mm_tb mx_R5 mz_5 := ⟨List.forall_mem_cons.mpr ⟨mz_5_f11, List.forall_mem_cons.mpr ⟨mz_5_f17, List.forall_mem_cons.mpr ⟨mz_5_f21, List.forall_mem_cons.mpr ⟨mz_5_f63, fun _ h => absurd h List.not_mem_nil⟩⟩⟩⟩, fun _ h => absurd h List.not_mem_nil, List.forall_mem_cons.mpr ⟨mz_5_a9, fun _ h => absurd h List.not_mem_nil⟩, fun _ h => absurd h List.not_mem_nil, fun _ h => absurd h List.not_mem_nil, fun _ h => absurd h List.not_mem_nil, List.forall_mem_cons.mpr ⟨mz_5_m3, List.forall_mem_cons.mpr ⟨mz_5_m25, List.forall_mem_cons.mpr ⟨mz_5_m29, List.forall_mem_cons.mpr ⟨mz_5_m33, List.forall_mem_cons.mpr ⟨mz_5_m37, List.forall_mem_cons.mpr ⟨mz_5_m41, List.forall_mem_cons.mpr ⟨mz_5_m45, List.forall_mem_cons.mpr ⟨mz_5_m49, List.forall_mem_cons.mpr ⟨mz_5_m53, List.forall_mem_cons.mpr ⟨mz_5_m56, List.forall_mem_cons.mpr ⟨mz_5_m60, List.forall_mem_cons.mpr ⟨mz_5_m67, List.forall_mem_cons.mpr ⟨mz_5_m71, List.forall_mem_cons.mpr ⟨mz_5_m75, List.forall_mem_cons.mpr ⟨mz_5_m80, fun _ h => absurd h List.not_mem_nil⟩⟩⟩⟩⟩⟩⟩⟩⟩⟩⟩⟩⟩⟩⟩⟩
def mz_6 : im_Z := ([(9, 6, 1, 1), (15, 6, 2, 1), (19, 6, 3, 1), (22, 6, 4, 0), (26, 6, 5, 0), (29, 6, 6, 1), (32, 6, 8, 1), (35, 6, 9, 1), (38, 6, 11, 1), (41, 6, 12, 1), (44, 6, 13, 1), (47, 6, 0, 1), (62, 9, 2, 0), (69, 9, 3, 0), (83, 6, 16, 0), (86, 6, 15, 0), (90, 6, 7, 0), (93, 6, 10, 0), (96, 6, 14, 0), (99, 6, 17, 0), (114, 9, 4, 0)], [], [], [], [(136, 47980), (138, 184)], [], [(0, 3, 0, 0), (5, 51, 303, 4), (1, 57, 135, 0), (1, 65, 70, 1), (1, 72, 71, 1), (1, 76, 72, 0), (1, 80, 136, 0), (1, 102, 73, 0), (1, 105, 74, 0), (1, 108, 75, 0), (1, 111, 76, 0), (7, 118, 23, 1), (1, 122, 137, 0), (1, 125, 81, 2), (1, 129, 82, 1), (1, 133, 83, 1), (1, 140, 80, 2), (1, 144, 77, 0), (1, 147, 78, 1), (1, 151, 79, 0), (7, 154, 26, 1), (10, 157, 0, 0)])
theorem mz_6_f9 : im_fF im_Ts mx_cl mx_R6 (9, 6, 1, 1) := ⟨(mx_R6, mx_T6, 18), rfl, by decide, im_in 225 (by decide +kernel) rfl, fun _ => ⟨by decide, fun _ => rfl⟩⟩
theorem mz_6_f15 : im_fF im_Ts mx_cl mx_R6 (15, 6, 2, 1) := ⟨(mx_R6, mx_T6, 18), rfl, by decide, im_in 226 (by decide +kernel) rfl, fun _ => ⟨by decide, fun _ => rfl⟩⟩
theorem mz_6_f19 : im_fF im_Ts mx_cl mx_R6 (19, 6, 3, 1) := ⟨(mx_R6, mx_T6, 18), rfl, by decide, im_in 228 (by decide +kernel) rfl, fun _ => ⟨by decide, fun _ => rfl⟩⟩
theorem mz_6_f22 : im_fF im_Ts mx_cl mx_R6 (22, 6, 4, 0) := ⟨(mx_R6, mx_T6, 18), rfl, by decide, im_in 231 (by decide +kernel) rfl, fun h => absurd h (by decide)⟩
theorem mz_6_f26 : im_fF im_Ts mx_cl mx_R6 (26, 6, 5, 0) := ⟨(mx_R6, mx_T6, 18), rfl, by decide, im_in 232 (by decide +kernel) rfl, fun h => absurd h (by decide)⟩
theorem mz_6_f29 : im_fF im_Ts mx_cl mx_R6 (29, 6, 6, 1) := ⟨(mx_R6, mx_T6, 18), rfl, by decide, im_in 234 (by decide +kernel) rfl, fun _ => ⟨by decide, fun _ => rfl⟩⟩
theorem mz_6_f32 : im_fF im_Ts mx_cl mx_R6 (32, 6, 8, 1) := ⟨(mx_R6, mx_T6, 18), rfl, by decide, im_in 238 (by decide +kernel) rfl, fun _ => ⟨by decide, fun _ => rfl⟩⟩
theorem mz_6_f35 : im_fF im_Ts mx_cl mx_R6 (35, 6, 9, 1) := ⟨(mx_R6, mx_T6, 18), rfl, by decide, im_in 239 (by decide +kernel) rfl, fun _ => ⟨by decide, fun _ => rfl⟩⟩
theorem mz_6_f38 : im_fF im_Ts mx_cl mx_R6 (38, 6, 11, 1) := ⟨(mx_R6, mx_T6, 18), rfl, by decide, im_in 243 (by decide +kernel) rfl, fun _ => ⟨by decide, fun _ => rfl⟩⟩
theorem mz_6_f41 : im_fF im_Ts mx_cl mx_R6 (41, 6, 12, 1) := ⟨(mx_R6, mx_T6, 18), rfl, by decide, im_in 245 (by decide +kernel) rfl, fun _ => ⟨by decide, fun _ => rfl⟩⟩
theorem mz_6_f44 : im_fF im_Ts mx_cl mx_R6 (44, 6, 13, 1) := ⟨(mx_R6, mx_T6, 18), rfl, by decide, im_in 246 (by decide +kernel) rfl, fun _ => ⟨by decide, fun _ => rfl⟩⟩
theorem mz_6_f47 : im_fF im_Ts mx_cl mx_R6 (47, 6, 0, 1) := ⟨(mx_R6, mx_T6, 18), rfl, by decide, im_in 223 (by decide +kernel) rfl, fun _ => ⟨by decide, fun _ => rfl⟩⟩
theorem mz_6_f62 : im_fF im_Ts mx_cl mx_R6 (62, 9, 2, 0) := ⟨(mx_R9, mx_T9, 6), rfl, by decide, im_in 190 (by decide +kernel) rfl, fun h => absurd h (by decide)⟩
theorem mz_6_f69 : im_fF im_Ts mx_cl mx_R6 (69, 9, 3, 0) := ⟨(mx_R9, mx_T9, 6), rfl, by decide, im_in 192 (by decide +kernel) rfl, fun h => absurd h (by decide)⟩
theorem mz_6_f83 : im_fF im_Ts mx_cl mx_R6 (83, 6, 16, 0) := ⟨(mx_R6, mx_T6, 18), rfl, by decide, im_in 249 (by decide +kernel) rfl, fun h => absurd h (by decide)⟩
theorem mz_6_f86 : im_fF im_Ts mx_cl mx_R6 (86, 6, 15, 0) := ⟨(mx_R6, mx_T6, 18), rfl, by decide, im_in 248 (by decide +kernel) rfl, fun h => absurd h (by decide)⟩
theorem mz_6_f90 : im_fF im_Ts mx_cl mx_R6 (90, 6, 7, 0) := ⟨(mx_R6, mx_T6, 18), rfl, by decide, im_in 237 (by decide +kernel) rfl, fun h => absurd h (by decide)⟩
theorem mz_6_f93 : im_fF im_Ts mx_cl mx_R6 (93, 6, 10, 0) := ⟨(mx_R6, mx_T6, 18), rfl, by decide, im_in 242 (by decide +kernel) rfl, fun h => absurd h (by decide)⟩
theorem mz_6_f96 : im_fF im_Ts mx_cl mx_R6 (96, 6, 14, 0) := ⟨(mx_R6, mx_T6, 18), rfl, by decide, im_in 247 (by decide +kernel) rfl, fun h => absurd h (by decide)⟩
theorem mz_6_f99 : im_fF im_Ts mx_cl mx_R6 (99, 6, 17, 0) := ⟨(mx_R6, mx_T6, 18), rfl, by decide, im_in 250 (by decide +kernel) rfl, fun h => absurd h (by decide)⟩
theorem mz_6_f114 : im_fF im_Ts mx_cl mx_R6 (114, 9, 4, 0) := ⟨(mx_R9, mx_T9, 6), rfl, by decide, im_in 195 (by decide +kernel) rfl, fun h => absurd h (by decide)⟩
theorem mz_6_l136 : im_fL im_Ts mx_R6 (136, 47980) := im_in 779 (by decide +kernel) rfl
theorem mz_6_l138 : im_fL im_Ts mx_R6 (138, 184) := im_in 780 (by decide +kernel) rfl
theorem mz_6_m3 : im_fM im_Ts mx_nw mm_tb mx_R6 (0, 3, 0, 0) := fun y pc len v h => Or.inl ⟨rfl, 3, rfl, by rw [h]; exact im_in 216 (by decide +kernel) rfl⟩
theorem mz_6_m51 : im_fM im_Ts mx_nw mm_tb mx_R6 (5, 51, 303, 4) := fun y pc len v h => Or.inr (Or.inr (Or.inr (Or.inr (Or.inr (Or.inr ⟨im_m303, rfl, mm_a303, Or.inr (Or.inr (Or.inr (Or.inl ⟨rfl, 51, rfl, by rw [h]; exact im_in 217 (by decide +kernel) rfl, mm_t303⟩)))⟩)))))
theorem mz_6_m57 : im_fM im_Ts mx_nw mm_tb mx_R6 (1, 57, 135, 0) := fun y pc len v h => Or.inr (Or.inr (Or.inr (Or.inr (Or.inr (Or.inr ⟨im_m135, rfl, mm_a135, Or.inl ⟨rfl, 57, rfl, by rw [h]; exact im_in 696 (by decide +kernel) rfl, mm_i135, mm_s135⟩⟩)))))
theorem mz_6_m65 : im_fM im_Ts mx_nw mm_tb mx_R6 (1, 65, 70, 1) := fun y pc len v h => Or.inr (Or.inr (Or.inr (Or.inr (Or.inr (Or.inr ⟨im_m70, rfl, mm_a70, Or.inl ⟨rfl, 65, rfl, by rw [h]; exact im_in 733 (by decide +kernel) rfl, mm_i70, mm_s70⟩⟩)))))
theorem mz_6_m72 : im_fM im_Ts mx_nw mm_tb mx_R6 (1, 72, 71, 1) := fun y pc len v h => Or.inr (Or.inr (Or.inr (Or.inr (Or.inr (Or.inr ⟨im_m71, rfl, mm_a71, Or.inl ⟨rfl, 72, rfl, by rw [h]; exact im_in 737 (by decide +kernel) rfl, mm_i71, mm_s71⟩⟩)))))
theorem mz_6_m76 : im_fM im_Ts mx_nw mm_tb mx_R6 (1, 76, 72, 0) := fun y pc len v h => Or.inr (Or.inr (Or.inr (Or.inr (Or.inr (Or.inr ⟨im_m72, rfl, mm_a72, Or.inl ⟨rfl, 76, rfl, by rw [h]; exact im_in 741 (by decide +kernel) rfl, mm_i72, mm_s72⟩⟩)))))
theorem mz_6_m80 : im_fM im_Ts mx_nw mm_tb mx_R6 (1, 80, 136, 0) := fun y pc len v h => Or.inr (Or.inr (Or.inr (Or.inr (Or.inr (Or.inr ⟨im_m136, rfl, mm_a136, Or.inl ⟨rfl, 80, rfl, by rw [h]; exact im_in 801 (by decide +kernel) rfl, mm_i136, mm_s136⟩⟩)))))
theorem mz_6_m102 : im_fM im_Ts mx_nw mm_tb mx_R6 (1, 102, 73, 0) := fun y pc len v h => Or.inr (Or.inr (Or.inr (Or.inr (Or.inr (Or.inr ⟨im_m73, rfl, mm_a73, Or.inl ⟨rfl, 102, rfl, by rw [h]; exact im_in 745 (by decide +kernel) rfl, mm_i73, mm_s73⟩⟩)))))
theorem mz_6_m105 : im_fM im_Ts mx_nw mm_tb mx_R6 (1, 105, 74, 0) := fun y pc len v h => Or.inr (Or.inr (Or.inr (Or.inr (Or.inr (Or.inr ⟨im_m74, rfl, mm_a74, Or.inl ⟨rfl, 105, rfl, by rw [h]; exact im_in 759 (by decide +kernel) rfl, mm_i74, mm_s74⟩⟩)))))
theorem mz_6_m108 : im_fM im_Ts mx_nw mm_tb mx_R6 (1, 108, 75, 0) := fun y pc len v h => Or.inr (Or.inr (Or.inr (Or.inr (Or.inr (Or.inr ⟨im_m75, rfl, mm_a75, Or.inl ⟨rfl, 108, rfl, by rw [h]; exact im_in 775 (by decide +kernel) rfl, mm_i75, mm_s75⟩⟩)))))
theorem mz_6_m111 : im_fM im_Ts mx_nw mm_tb mx_R6 (1, 111, 76, 0) := fun y pc len v h => Or.inr (Or.inr (Or.inr (Or.inr (Or.inr (Or.inr ⟨im_m76, rfl, mm_a76, Or.inl ⟨rfl, 111, rfl, by rw [h]; exact im_in 785 (by decide +kernel) rfl, mm_i76, mm_s76⟩⟩)))))
theorem mz_6_m118 : im_fM im_Ts mx_nw mm_tb mx_R6 (7, 118, 23, 1) := fun y pc len v h => Or.inr (Or.inr (Or.inr (Or.inr (Or.inr (Or.inr ⟨im_m23, rfl, mm_a23, Or.inr (Or.inr (Or.inr (Or.inr ⟨rfl, 118, mx_R0, rfl, by rw [h]; exact List.mem_of_getElem? (i := 3) rfl, mm_t23⟩)))⟩)))))
theorem mz_6_m122 : im_fM im_Ts mx_nw mm_tb mx_R6 (1, 122, 137, 0) := fun y pc len v h => Or.inr (Or.inr (Or.inr (Or.inr (Or.inr (Or.inr ⟨im_m137, rfl, mm_a137, Or.inl ⟨rfl, 122, rfl, by rw [h]; exact im_in 750 (by decide +kernel) rfl, mm_i137, mm_s137⟩⟩)))))
theorem mz_6_m125 : im_fM im_Ts mx_nw mm_tb mx_R6 (1, 125, 81, 2) := fun y pc len v h => Or.inr (Or.inr (Or.inr (Or.inr (Or.inr (Or.inr ⟨im_m81, rfl, mm_a81, Or.inl ⟨rfl, 125, rfl, by rw [h]; exact im_in 754 (by decide +kernel) rfl, mm_i81, mm_s81⟩⟩)))))
theorem mz_6_m129 : im_fM im_Ts mx_nw mm_tb mx_R6 (1, 129, 82, 1) := fun y pc len v h => Or.inr (Or.inr (Or.inr (Or.inr (Or.inr (Or.inr ⟨im_m82, rfl, mm_a82, Or.inl ⟨rfl, 129, rfl, by rw [h]; exact im_in 763 (by decide +kernel) rfl, mm_i82, mm_s82⟩⟩)))))
theorem mz_6_m133 : im_fM im_Ts mx_nw mm_tb mx_R6 (1, 133, 83, 1) := fun y pc len v h => Or.inr (Or.inr (Or.inr (Or.inr (Or.inr (Or.inr ⟨im_m83, rfl, mm_a83, Or.inl ⟨rfl, 133, rfl, by rw [h]; exact im_in 771 (by decide +kernel) rfl, mm_i83, mm_s83⟩⟩)))))
theorem mz_6_m140 : im_fM im_Ts mx_nw mm_tb mx_R6 (1, 140, 80, 2) := fun y pc len v h => Or.inr (Or.inr (Or.inr (Or.inr (Or.inr (Or.inr ⟨im_m80, rfl, mm_a80, Or.inl ⟨rfl, 140, rfl, by rw [h]; exact im_in 781 (by decide +kernel) rfl, mm_i80, mm_s80⟩⟩)))))
theorem mz_6_m144 : im_fM im_Ts mx_nw mm_tb mx_R6 (1, 144, 77, 0) := fun y pc len v h => Or.inr (Or.inr (Or.inr (Or.inr (Or.inr (Or.inr ⟨im_m77, rfl, mm_a77, Or.inl ⟨rfl, 144, rfl, by rw [h]; exact im_in 789 (by decide +kernel) rfl, mm_i77, mm_s77⟩⟩)))))
theorem mz_6_m147 : im_fM im_Ts mx_nw mm_tb mx_R6 (1, 147, 78, 1) := fun y pc len v h => Or.inr (Or.inr (Or.inr (Or.inr (Or.inr (Or.inr ⟨im_m78, rfl, mm_a78, Or.inl ⟨rfl, 147, rfl, by rw [h]; exact im_in 793 (by decide +kernel) rfl, mm_i78, mm_s78⟩⟩)))))
theorem mz_6_m151 : im_fM im_Ts mx_nw mm_tb mx_R6 (1, 151, 79, 0) := fun y pc len v h => Or.inr (Or.inr (Or.inr (Or.inr (Or.inr (Or.inr ⟨im_m79, rfl, mm_a79, Or.inl ⟨rfl, 151, rfl, by rw [h]; exact im_in 797 (by decide +kernel) rfl, mm_i79, mm_s79⟩⟩)))))
theorem mz_6_m154 : im_fM im_Ts mx_nw mm_tb mx_R6 (7, 154, 26, 1) := fun y pc len v h => Or.inr (Or.inr (Or.inr (Or.inr (Or.inr (Or.inr ⟨im_m26, rfl, mm_a26, Or.inr (Or.inr (Or.inr (Or.inr ⟨rfl, 154, mx_R0, rfl, by rw [h]; exact List.mem_of_getElem? (i := 4) rfl, mm_t26⟩)))⟩)))))
theorem mz_6_m157 : im_fM im_Ts mx_nw mm_tb mx_R6 (10, 157, 0, 0) := fun y pc len v h => Or.inr (Or.inr (Or.inr (Or.inl ⟨rfl, 157, rfl, by rw [h]; exact im_in 758 (by decide +kernel) rfl, im_in 307 (by decide +kernel) rfl, im_in 308 (by decide +kernel) rfl, im_in 161 (by decide +kernel) rfl⟩)))
theorem mz_6_ok : im_zo im_Ts mx_nw mx_cl mx_rA mx_nf mm_tb mx_R6 mz_6 := ⟨List.forall_mem_cons.mpr ⟨mz_6_f9, List.forall_mem_cons.mpr ⟨mz_6_f15, List.forall_mem_cons.mpr ⟨mz_6_f19, List.forall_mem_cons.mpr ⟨mz_6_f22, List.forall_mem_cons.mpr ⟨mz_6_f26, List.forall_mem_cons.mpr ⟨mz_6_f29, List.forall_mem_cons.mpr ⟨mz_6_f32, List.forall_mem_cons.mpr ⟨mz_6_f35, List.forall_mem_cons.mpr ⟨mz_6_f38, List.forall_mem_cons.mpr ⟨mz_6_f41, List.forall_mem_cons.mpr ⟨mz_6_f44, List.forall_mem_cons.mpr ⟨mz_6_f47, List.forall_mem_cons.mpr ⟨mz_6_f62, List.forall_mem_cons.mpr ⟨mz_6_f69, List.forall_mem_cons.mpr ⟨mz_6_f83, List.forall_mem_cons.mpr ⟨mz_6_f86, List.forall_mem_cons.mpr ⟨mz_6_f90, List.forall_mem_cons.mpr ⟨mz_6_f93, List.forall_mem_cons.mpr ⟨mz_6_f96, List.forall_mem_cons.mpr ⟨mz_6_f99, List.forall_mem_cons.mpr ⟨mz_6_f114, fun _ h => absurd h List.not_mem_nil⟩⟩⟩⟩⟩⟩⟩⟩⟩⟩⟩⟩⟩⟩⟩⟩⟩⟩⟩⟩⟩, fun _ h => absurd h List.not_mem_nil, fun _ h => absurd h List.not_mem_nil, fun _ h => absurd h List.not_mem_nil, List.forall_mem_cons.mpr ⟨mz_6_l136, List.forall_mem_cons.mpr ⟨mz_6_l138, fun _ h => absurd h List.not_mem_nil⟩⟩, fun _ h => absurd h List.not_mem_nil, List.forall_mem_cons.mpr ⟨mz_6_m3, List.forall_mem_cons.mpr ⟨mz_6_m51, List.forall_mem_cons.mpr ⟨mz_6_m57, List.forall_mem_cons.mpr ⟨mz_6_m65, List.forall_mem_cons.mpr ⟨mz_6_m72, List.forall_mem_cons.mpr ⟨mz_6_m76, List.forall_mem_cons.mpr ⟨mz_6_m80, List.forall_mem_cons.mpr ⟨mz_6_m102, List.forall_mem_cons.mpr ⟨mz_6_m105, List.forall_mem_cons.mpr ⟨mz_6_m108, List.forall_mem_cons.mpr ⟨mz_6_m111, List.forall_mem_cons.mpr ⟨mz_6_m118, List.forall_mem_cons.mpr ⟨mz_6_m122, List.forall_mem_cons.mpr ⟨mz_6_m125, List.forall_mem_cons.mpr ⟨mz_6_m129, List.forall_mem_cons.mpr ⟨mz_6_m133, List.forall_mem_cons.mpr ⟨mz_6_m140, List.forall_mem_cons.mpr ⟨mz_6_m144, List.forall_mem_cons.mpr ⟨mz_6_m147, List.forall_mem_cons.mpr ⟨mz_6_m151, List.forall_mem_cons.mpr ⟨mz_6_m154, List.forall_mem_cons.mpr ⟨mz_6_m157, fun _ h => absurd h List.not_mem_nil⟩⟩⟩⟩⟩⟩⟩⟩⟩⟩⟩⟩⟩⟩⟩⟩⟩⟩⟩⟩⟩⟩⟩
def mz_7 : im_Z := ([(11, 7, 4, 1), (19, 7, 7, 1), (23, 7, 17, 1), (27, 7, 18, 1), (30, 7, 0, 1), (39, 7, 1, 1), (48, 7, 2, 1), (55, 7, 3, 1), (71, 7, 10, 0), (75, 7, 11, 0), (78, 7, 12, 0), (81, 7, 13, 0), (84, 7, 14, 0), (87, 7, 15, 0), (90, 7, 16, 0), (107, 7, 6, 0), (115, 7, 5, 0), (118, 7, 8, 0), (128, 4, 0, 0), (131, 4, 3, 0), (145, 4, 4, 0), (161, 7, 9, 0), (184, 4, 1, 0), (196, 4, 2, 0), (227, 1, 8, 0), (246, 2, 0, 0), (247, 2, 1, 0), (250, 2, 2, 0), (253, 8, 3, 0), (256, 2, 3, 0), (259, 8, 6, 0), (262, 2, 4, 0), (263, 2, 5, 0), (268, 8, 7, 0), (298, 3, 3, 2), (301, 3, 4, 2), (308, 3, 5, 2)], [(9, 4), (17, 2), (34, 8), (43, 10), (52, 1)], [(9, 4), (17, 2)], [(127, 1000000), (206, 38656)], [(168, 913097613)], [], [(0, 3, 0, 0), (3, 36, 115, 1), (3, 45, 146, 1), (3, 54, 28, 1), (1, 59, 85, 1), (1, 63, 116, 1), (1, 64, 147, 1), (1, 65, 29, 2), (1, 68, 87, 0), (5, 93, 308, 2), (1, 99, 118, 3), (1, 103, 102, 4), (1, 111, 88, 2), (1, 121, 120, 0), (1, 124, 100, 0), (1, 134, 99, 1), (1, 137, 90, 1), (1, 141, 93, 1), (11, 148, 0, 0), (1, 154, 91, 1), (1, 157, 92, 1), (1, 164, 130, 1), (1, 170, 132, 2), (1, 173, 124, 1), (1, 177, 129, 1), (7, 180, 24, 2), (1, 187, 127, 1), (1, 191, 43, 1), (1, 199, 103, 1), (7, 202, 23, 1), (1, 207, 148, 3), (1, 211, 94, 2), (1, 215, 95, 2), (1, 218, 96, 1), (1, 221, 97, 1), (1, 224, 30, 1), (1, 230, 123, 2), (1, 233, 98, 2), (7, 236, 26, 1), (1, 239, 60, 3), (4, 245, 37, 0), (1, 264, 110, 1), (1, 271, 121, 2), (7, 274, 27, 1), (1, 277, 38, 0), (1, 281, 101, 3), (1, 284, 53, 1), (1, 287, 117, 0), (10, 291, 0, 0), (1, 294, 119, 2), (4, 304, 50, 0), (1, 305, 44, 1), (1, 311, 112, 0), (1, 314, 113, 0), (1, 317, 114, 0), (1, 320, 104, 1)])
theorem mz_7_f11 : im_fF im_Ts mx_cl mx_R7 (11, 7, 4, 1) := ⟨(mx_R7, mx_T7, 19), rfl, by decide, im_in 567 (by decide +kernel) rfl, fun _ => ⟨by decide, fun _ => rfl⟩⟩
theorem mz_7_f19 : im_fF im_Ts mx_cl mx_R7 (19, 7, 7, 1) := ⟨(mx_R7, mx_T7, 19), rfl, by decide, im_in 571 (by decide +kernel) rfl, fun _ => ⟨by decide, fun _ => rfl⟩⟩
theorem mz_7_f23 : im_fF im_Ts mx_cl mx_R7 (23, 7, 17, 1) := ⟨(mx_R7, mx_T7, 19), rfl, by decide, im_in 582 (by decide +kernel) rfl, fun _ => ⟨by decide, fun _ => rfl⟩⟩
theorem mz_7_f27 : im_fF im_Ts mx_cl mx_R7 (27, 7, 18, 1) := ⟨(mx_R7, mx_T7, 19), rfl, by decide, im_in 583 (by decide +kernel) rfl, fun _ => ⟨by decide, fun _ => rfl⟩⟩
theorem mz_7_f30 : im_fF im_Ts mx_cl mx_R7 (30, 7, 0, 1) := ⟨(mx_R7, mx_T7, 19), rfl, by decide, im_in 562 (by decide +kernel) rfl, fun _ => ⟨by decide, fun _ => rfl⟩⟩
theorem mz_7_f39 : im_fF im_Ts mx_cl mx_R7 (39, 7, 1, 1) := ⟨(mx_R7, mx_T7, 19), rfl, by decide, im_in 563 (by decide +kernel) rfl, fun _ => ⟨by decide, fun _ => rfl⟩⟩
theorem mz_7_f48 : im_fF im_Ts mx_cl mx_R7 (48, 7, 2, 1) := ⟨(mx_R7, mx_T7, 19), rfl, by decide, im_in 565 (by decide +kernel) rfl, fun _ => ⟨by decide, fun _ => rfl⟩⟩
theorem mz_7_f55 : im_fF im_Ts mx_cl mx_R7 (55, 7, 3, 1) := ⟨(mx_R7, mx_T7, 19), rfl, by decide, im_in 566 (by decide +kernel) rfl, fun _ => ⟨by decide, fun _ => rfl⟩⟩
theorem mz_7_f71 : im_fF im_Ts mx_cl mx_R7 (71, 7, 10, 0) := ⟨(mx_R7, mx_T7, 19), rfl, by decide, im_in 574 (by decide +kernel) rfl, fun h => absurd h (by decide)⟩
theorem mz_7_f75 : im_fF im_Ts mx_cl mx_R7 (75, 7, 11, 0) := ⟨(mx_R7, mx_T7, 19), rfl, by decide, im_in 576 (by decide +kernel) rfl, fun h => absurd h (by decide)⟩
theorem mz_7_f78 : im_fF im_Ts mx_cl mx_R7 (78, 7, 12, 0) := ⟨(mx_R7, mx_T7, 19), rfl, by decide, im_in 577 (by decide +kernel) rfl, fun h => absurd h (by decide)⟩
theorem mz_7_f81 : im_fF im_Ts mx_cl mx_R7 (81, 7, 13, 0) := ⟨(mx_R7, mx_T7, 19), rfl, by decide, im_in 578 (by decide +kernel) rfl, fun h => absurd h (by decide)⟩
theorem mz_7_f84 : im_fF im_Ts mx_cl mx_R7 (84, 7, 14, 0) := ⟨(mx_R7, mx_T7, 19), rfl, by decide, im_in 579 (by decide +kernel) rfl, fun h => absurd h (by decide)⟩
theorem mz_7_f87 : im_fF im_Ts mx_cl mx_R7 (87, 7, 15, 0) := ⟨(mx_R7, mx_T7, 19), rfl, by decide, im_in 580 (by decide +kernel) rfl, fun h => absurd h (by decide)⟩
theorem mz_7_f90 : im_fF im_Ts mx_cl mx_R7 (90, 7, 16, 0) := ⟨(mx_R7, mx_T7, 19), rfl, by decide, im_in 581 (by decide +kernel) rfl, fun h => absurd h (by decide)⟩
theorem mz_7_f107 : im_fF im_Ts mx_cl mx_R7 (107, 7, 6, 0) := ⟨(mx_R7, mx_T7, 19), rfl, by decide, im_in 569 (by decide +kernel) rfl, fun h => absurd h (by decide)⟩
theorem mz_7_f115 : im_fF im_Ts mx_cl mx_R7 (115, 7, 5, 0) := ⟨(mx_R7, mx_T7, 19), rfl, by decide, im_in 568 (by decide +kernel) rfl, fun h => absurd h (by decide)⟩
theorem mz_7_f118 : im_fF im_Ts mx_cl mx_R7 (118, 7, 8, 0) := ⟨(mx_R7, mx_T7, 19), rfl, by decide, im_in 572 (by decide +kernel) rfl, fun h => absurd h (by decide)⟩
theorem mz_7_f128 : im_fF im_Ts mx_cl mx_R7 (128, 4, 0, 0) := ⟨(mx_R4, mx_T4, 5), rfl, by decide, im_in 1074 (by decide +kernel) rfl, fun h => absurd h (by decide)⟩
theorem mz_7_f131 : im_fF im_Ts mx_cl mx_R7 (131, 4, 3, 0) := ⟨(mx_R4, mx_T4, 5), rfl, by decide, im_in 1078 (by decide +kernel) rfl, fun h => absurd h (by decide)⟩
theorem mz_7_f145 : im_fF im_Ts mx_cl mx_R7 (145, 4, 4, 0) := ⟨(mx_R4, mx_T4, 5), rfl, by decide, im_in 1079 (by decide +kernel) rfl, fun h => absurd h (by decide)⟩
theorem mz_7_f161 : im_fF im_Ts mx_cl mx_R7 (161, 7, 9, 0) := ⟨(mx_R7, mx_T7, 19), rfl, by decide, im_in 573 (by decide +kernel) rfl, fun h => absurd h (by decide)⟩
theorem mz_7_f184 : im_fF im_Ts mx_cl mx_R7 (184, 4, 1, 0) := ⟨(mx_R4, mx_T4, 5), rfl, by decide, im_in 1076 (by decide +kernel) rfl, fun h => absurd h (by decide)⟩
theorem mz_7_f196 : im_fF im_Ts mx_cl mx_R7 (196, 4, 2, 0) := ⟨(mx_R4, mx_T4, 5), rfl, by decide, im_in 1077 (by decide +kernel) rfl, fun h => absurd h (by decide)⟩
theorem mz_7_f227 : im_fF im_Ts mx_cl mx_R7 (227, 1, 8, 0) := ⟨(mx_R1, mx_T1, 9), rfl, by decide, im_in 521 (by decide +kernel) rfl, fun h => absurd h (by decide)⟩
theorem mz_7_f246 : im_fF im_Ts mx_cl mx_R7 (246, 2, 0, 0) := ⟨(mx_R2, mx_T2, 6), rfl, by decide, im_in 1284 (by decide +kernel) rfl, fun h => absurd h (by decide)⟩
theorem mz_7_f247 : im_fF im_Ts mx_cl mx_R7 (247, 2, 1, 0) := ⟨(mx_R2, mx_T2, 6), rfl, by decide, im_in 1287 (by decide +kernel) rfl, fun h => absurd h (by decide)⟩
theorem mz_7_f250 : im_fF im_Ts mx_cl mx_R7 (250, 2, 2, 0) := ⟨(mx_R2, mx_T2, 6), rfl, by decide, im_in 1288 (by decide +kernel) rfl, fun h => absurd h (by decide)⟩
theorem mz_7_f253 : im_fF im_Ts mx_cl mx_R7 (253, 8, 3, 0) := ⟨(mx_R8, mx_T8, 9), rfl, by decide, im_in 436 (by decide +kernel) rfl, fun h => absurd h (by decide)⟩
theorem mz_7_f256 : im_fF im_Ts mx_cl mx_R7 (256, 2, 3, 0) := ⟨(mx_R2, mx_T2, 6), rfl, by decide, im_in 1290 (by decide +kernel) rfl, fun h => absurd h (by decide)⟩
theorem mz_7_f259 : im_fF im_Ts mx_cl mx_R7 (259, 8, 6, 0) := ⟨(mx_R8, mx_T8, 9), rfl, by decide, im_in 440 (by decide +kernel) rfl, fun h => absurd h (by decide)⟩
theorem mz_7_f262 : im_fF im_Ts mx_cl mx_R7 (262, 2, 4, 0) := ⟨(mx_R2, mx_T2, 6), rfl, by decide, im_in 1291 (by decide +kernel) rfl, fun h => absurd h (by decide)⟩
theorem mz_7_f263 : im_fF im_Ts mx_cl mx_R7 (263, 2, 5, 0) := ⟨(mx_R2, mx_T2, 6), rfl, by decide, im_in 1293 (by decide +kernel) rfl, fun h => absurd h (by decide)⟩
theorem mz_7_f268 : im_fF im_Ts mx_cl mx_R7 (268, 8, 7, 0) := ⟨(mx_R8, mx_T8, 9), rfl, by decide, im_in 443 (by decide +kernel) rfl, fun h => absurd h (by decide)⟩
theorem mz_7_f298 : im_fF im_Ts mx_cl mx_R7 (298, 3, 3, 2) := ⟨(mx_R3, mx_T3, 9), rfl, by decide, im_in 363 (by decide +kernel) rfl, fun _ => ⟨by decide, fun h => absurd h (by decide)⟩⟩
theorem mz_7_f301 : im_fF im_Ts mx_cl mx_R7 (301, 3, 4, 2) := ⟨(mx_R3, mx_T3, 9), rfl, by decide, im_in 367 (by decide +kernel) rfl, fun _ => ⟨by decide, fun h => absurd h (by decide)⟩⟩
theorem mz_7_f308 : im_fF im_Ts mx_cl mx_R7 (308, 3, 5, 2) := ⟨(mx_R3, mx_T3, 9), rfl, by decide, im_in 370 (by decide +kernel) rfl, fun _ => ⟨by decide, fun h => absurd h (by decide)⟩⟩
theorem mz_7_n9 : im_fN im_Ts mx_cl mx_nf mx_R7 (9, 4) := ⟨(mx_R4, mx_T4, 5), rfl, by decide, im_in 421 (by decide +kernel) rfl, rfl⟩
theorem mz_7_n17 : im_fN im_Ts mx_cl mx_nf mx_R7 (17, 2) := ⟨(mx_R2, mx_T2, 6), rfl, by decide, im_in 423 (by decide +kernel) rfl, rfl⟩
theorem mz_7_n34 : im_fN im_Ts mx_cl mx_nf mx_R7 (34, 8) := ⟨(mx_R8, mx_T8, 9), rfl, by decide, im_in 425 (by decide +kernel) rfl, rfl⟩
theorem mz_7_n43 : im_fN im_Ts mx_cl mx_nf mx_R7 (43, 10) := ⟨(mx_R10, mx_T10, 11), rfl, by decide, im_in 464 (by decide +kernel) rfl, rfl⟩
theorem mz_7_n52 : im_fN im_Ts mx_cl mx_nf mx_R7 (52, 1) := ⟨(mx_R1, mx_T1, 9), rfl, by decide, im_in 506 (by decide +kernel) rfl, rfl⟩
theorem mz_7_a9 : im_fA im_Ts mx_cl mx_rA mx_R7 (9, 4) := ⟨(mx_R4, mx_T4, 5), rfl, by decide, im_in 421 (by decide +kernel) rfl⟩
theorem mz_7_a17 : im_fA im_Ts mx_cl mx_rA mx_R7 (17, 2) := ⟨(mx_R2, mx_T2, 6), rfl, by decide, im_in 423 (by decide +kernel) rfl⟩
theorem mz_7_i127 : im_fI im_Ts mx_R7 (127, 1000000) := im_in 1104 (by decide +kernel) rfl
theorem mz_7_i206 : im_fI im_Ts mx_R7 (206, 38656) := im_in 1218 (by decide +kernel) rfl
theorem mz_7_l168 : im_fL im_Ts mx_R7 (168, 913097613) := im_in 1208 (by decide +kernel) rfl
theorem mz_7_m3 : im_fM im_Ts mx_nw mm_tb mx_R7 (0, 3, 0, 0) := fun y pc len v h => Or.inl ⟨rfl, 3, rfl, by rw [h]; exact im_in 420 (by decide +kernel) rfl⟩
theorem mz_7_m36 : im_fM im_Ts mx_nw mm_tb mx_R7 (3, 36, 115, 1) := fun y pc len v h => Or.inr (Or.inr (Or.inr (Or.inr (Or.inr (Or.inr ⟨im_m115, rfl, mm_a115, Or.inr (Or.inl ⟨rfl, 36, rfl, by rw [h]; exact im_in 427 (by decide +kernel) rfl, mm_i115, rfl, rfl⟩)⟩)))))
theorem mz_7_m45 : im_fM im_Ts mx_nw mm_tb mx_R7 (3, 45, 146, 1) := fun y pc len v h => Or.inr (Or.inr (Or.inr (Or.inr (Or.inr (Or.inr ⟨im_m146, rfl, mm_a146, Or.inr (Or.inl ⟨rfl, 45, rfl, by rw [h]; exact im_in 466 (by decide +kernel) rfl, mm_i146, rfl, rfl⟩)⟩)))))
theorem mz_7_m54 : im_fM im_Ts mx_nw mm_tb mx_R7 (3, 54, 28, 1) := fun y pc len v h => Or.inr (Or.inr (Or.inr (Or.inr (Or.inr (Or.inr ⟨im_m28, rfl, mm_a28, Or.inr (Or.inl ⟨rfl, 54, rfl, by rw [h]; exact im_in 508 (by decide +kernel) rfl, mm_i28, rfl, rfl⟩)⟩)))))
theorem mz_7_m59 : im_fM im_Ts mx_nw mm_tb mx_R7 (1, 59, 85, 1) := fun y pc len v h => Or.inr (Or.inr (Or.inr (Or.inr (Or.inr (Or.inr ⟨im_m85, rfl, mm_a85, Or.inl ⟨rfl, 59, rfl, by rw [h]; exact im_in 541 (by decide +kernel) rfl, mm_i85, mm_s85⟩⟩)))))
theorem mz_7_m63 : im_fM im_Ts mx_nw mm_tb mx_R7 (1, 63, 116, 1) := fun y pc len v h => Or.inr (Or.inr (Or.inr (Or.inr (Or.inr (Or.inr ⟨im_m116, rfl, mm_a116, Or.inl ⟨rfl, 63, rfl, by rw [h]; exact im_in 545 (by decide +kernel) rfl, mm_i116, mm_s116⟩⟩)))))
theorem mz_7_m64 : im_fM im_Ts mx_nw mm_tb mx_R7 (1, 64, 147, 1) := fun y pc len v h => Or.inr (Or.inr (Or.inr (Or.inr (Or.inr (Or.inr ⟨im_m147, rfl, mm_a147, Or.inl ⟨rfl, 64, rfl, by rw [h]; exact im_in 554 (by decide +kernel) rfl, mm_i147, mm_s147⟩⟩)))))
theorem mz_7_m65 : im_fM im_Ts mx_nw mm_tb mx_R7 (1, 65, 29, 2) := fun y pc len v h => Or.inr (Or.inr (Or.inr (Or.inr (Or.inr (Or.inr ⟨im_m29, rfl, mm_a29, Or.inl ⟨rfl, 65, rfl, by rw [h]; exact im_in 558 (by decide +kernel) rfl, mm_i29, mm_s29⟩⟩)))))
theorem mz_7_m68 : im_fM im_Ts mx_nw mm_tb mx_R7 (1, 68, 87, 0) := fun y pc len v h => Or.inr (Or.inr (Or.inr (Or.inr (Or.inr (Or.inr ⟨im_m87, rfl, mm_a87, Or.inl ⟨rfl, 68, rfl, by rw [h]; exact im_in 1059 (by decide +kernel) rfl, mm_i87, mm_s87⟩⟩)))))
theorem mz_7_m93 : im_fM im_Ts mx_nw mm_tb mx_R7 (5, 93, 308, 2) := fun y pc len v h => Or.inr (Or.inr (Or.inr (Or.inr (Or.inr (Or.inr ⟨im_m308, rfl, mm_a308, Or.inr (Or.inr (Or.inr (Or.inl ⟨rfl, 93, rfl, by rw [h]; exact im_in 1060 (by decide +kernel) rfl, mm_t308⟩)))⟩)))))
theorem mz_7_m99 : im_fM im_Ts mx_nw mm_tb mx_R7 (1, 99, 118, 3) := fun y pc len v h => Or.inr (Or.inr (Or.inr (Or.inr (Or.inr (Or.inr ⟨im_m118, rfl, mm_a118, Or.inl ⟨rfl, 99, rfl, by rw [h]; exact im_in 1063 (by decide +kernel) rfl, mm_i118, mm_s118⟩⟩)))))
theorem mz_7_m103 : im_fM im_Ts mx_nw mm_tb mx_R7 (1, 103, 102, 4) := fun y pc len v h => Or.inr (Or.inr (Or.inr (Or.inr (Or.inr (Or.inr ⟨im_m102, rfl, mm_a102, Or.inl ⟨rfl, 103, rfl, by rw [h]; exact im_in 1064 (by decide +kernel) rfl, mm_i102, mm_s102⟩⟩)))))
theorem mz_7_m111 : im_fM im_Ts mx_nw mm_tb mx_R7 (1, 111, 88, 2) := fun y pc len v h => Or.inr (Or.inr (Or.inr (Or.inr (Or.inr (Or.inr ⟨im_m88, rfl, mm_a88, Or.inl ⟨rfl, 111, rfl, by rw [h]; exact im_in 830 (by decide +kernel) rfl, mm_i88, mm_s88⟩⟩)))))
theorem mz_7_m121 : im_fM im_Ts mx_nw mm_tb mx_R7 (1, 121, 120, 0) := fun y pc len v h => Or.inr (Or.inr (Or.inr (Or.inr (Or.inr (Or.inr ⟨im_m120, rfl, mm_a120, Or.inl ⟨rfl, 121, rfl, by rw [h]; exact im_in 834 (by decide +kernel) rfl, mm_i120, mm_s120⟩⟩)))))
theorem mz_7_m124 : im_fM im_Ts mx_nw mm_tb mx_R7 (1, 124, 100, 0) := fun y pc len v h => Or.inr (Or.inr (Or.inr (Or.inr (Or.inr (Or.inr ⟨im_m100, rfl, mm_a100, Or.inl ⟨rfl, 124, rfl, by rw [h]; exact im_in 1100 (by decide +kernel) rfl, mm_i100, mm_s100⟩⟩)))))
theorem mz_7_m134 : im_fM im_Ts mx_nw mm_tb mx_R7 (1, 134, 99, 1) := fun y pc len v h => Or.inr (Or.inr (Or.inr (Or.inr (Or.inr (Or.inr ⟨im_m99, rfl, mm_a99, Or.inl ⟨rfl, 134, rfl, by rw [h]; exact im_in 1114 (by decide +kernel) rfl, mm_i99, mm_s99⟩⟩)))))
theorem mz_7_m137 : im_fM im_Ts mx_nw mm_tb mx_R7 (1, 137, 90, 1) := fun y pc len v h => Or.inr (Or.inr (Or.inr (Or.inr (Or.inr (Or.inr ⟨im_m90, rfl, mm_a90, Or.inl ⟨rfl, 137, rfl, by rw [h]; exact im_in 1183 (by decide +kernel) rfl, mm_i90, mm_s90⟩⟩)))))
theorem mz_7_m141 : im_fM im_Ts mx_nw mm_tb mx_R7 (1, 141, 93, 1) := fun y pc len v h => Or.inr (Or.inr (Or.inr (Or.inr (Or.inr (Or.inr ⟨im_m93, rfl, mm_a93, Or.inl ⟨rfl, 141, rfl, by rw [h]; exact im_in 1213 (by decide +kernel) rfl, mm_i93, mm_s93⟩⟩)))))
theorem mz_7_m148 : im_fM im_Ts mx_nw mm_tb mx_R7 (11, 148, 0, 0) := fun y pc len v h => Or.inr (Or.inr (Or.inr (Or.inr (Or.inl ⟨rfl, 148, rfl, by rw [h]; exact im_in 1187 (by decide +kernel) rfl, im_in 1188 (by decide +kernel) rfl, im_in 1189 (by decide +kernel) rfl, im_in 161 (by decide +kernel) rfl⟩))))
theorem mz_7_m154 : im_fM im_Ts mx_nw mm_tb mx_R7 (1, 154, 91, 1) := fun y pc len v h => Or.inr (Or.inr (Or.inr (Or.inr (Or.inr (Or.inr ⟨im_m91, rfl, mm_a91, Or.inl ⟨rfl, 154, rfl, by rw [h]; exact im_in 1190 (by decide +kernel) rfl, mm_i91, mm_s91⟩⟩)))))
theorem mz_7_m157 : im_fM im_Ts mx_nw mm_tb mx_R7 (1, 157, 92, 1) := fun y pc len v h => Or.inr (Or.inr (Or.inr (Or.inr (Or.inr (Or.inr ⟨im_m92, rfl, mm_a92, Or.inl ⟨rfl, 157, rfl, by rw [h]; exact im_in 1199 (by decide +kernel) rfl, mm_i92, mm_s92⟩⟩)))))
theorem mz_7_m164 : im_fM im_Ts mx_nw mm_tb mx_R7 (1, 164, 130, 1) := fun y pc len v h => Or.inr (Or.inr (Or.inr (Or.inr (Or.inr (Or.inr ⟨im_m130, rfl, mm_a130, Or.inl ⟨rfl, 164, rfl, by rw [h]; exact im_in 1207 (by decide +kernel) rfl, mm_i130, mm_s130⟩⟩)))))
theorem mz_7_m170 : im_fM im_Ts mx_nw mm_tb mx_R7 (1, 170, 132, 2) := fun y pc len v h => Or.inr (Or.inr (Or.inr (Or.inr (Or.inr (Or.inr ⟨im_m132, rfl, mm_a132, Or.inl ⟨rfl, 170, rfl, by rw [h]; exact im_in 1209 (by decide +kernel) rfl, mm_i132, mm_s132⟩⟩)))))
theorem mz_7_m173 : im_fM im_Ts mx_nw mm_tb mx_R7 (1, 173, 124, 1) := fun y pc len v h => Or.inr (Or.inr (Or.inr (Or.inr (Or.inr (Or.inr ⟨im_m124, rfl, mm_a124, Or.inl ⟨rfl, 173, rfl, by rw [h]; exact im_in 1210 (by decide +kernel) rfl, mm_i124, mm_s124⟩⟩)))))
theorem mz_7_m177 : im_fM im_Ts mx_nw mm_tb mx_R7 (1, 177, 129, 1) := fun y pc len v h => Or.inr (Or.inr (Or.inr (Or.inr (Or.inr (Or.inr ⟨im_m129, rfl, mm_a129, Or.inl ⟨rfl, 177, rfl, by rw [h]; exact im_in 1211 (by decide +kernel) rfl, mm_i129, mm_s129⟩⟩)))))
theorem mz_7_m180 : im_fM im_Ts mx_nw mm_tb mx_R7 (7, 180, 24, 2) := fun y pc len v h => Or.inr (Or.inr (Or.inr (Or.inr (Or.inr (Or.inr ⟨im_m24, rfl, mm_a24, Or.inr (Or.inr (Or.inr (Or.inr ⟨rfl, 180, mx_R0, rfl, by rw [h]; exact List.mem_of_getElem? (i := 12) rfl, mm_t24⟩)))⟩)))))
theorem mz_7_m187 : im_fM im_Ts mx_nw mm_tb mx_R7 (1, 187, 127, 1) := fun y pc len v h => Or.inr (Or.inr (Or.inr (Or.inr (Or.inr (Or.inr ⟨im_m127, rfl, mm_a127, Or.inl ⟨rfl, 187, rfl, by rw [h]; exact im_in 1194 (by decide +kernel) rfl, mm_i127, mm_s127⟩⟩)))))
theorem mz_7_m191 : im_fM im_Ts mx_nw mm_tb mx_R7 (1, 191, 43, 1) := fun y pc len v h => Or.inr (Or.inr (Or.inr (Or.inr (Or.inr (Or.inr ⟨im_m43, rfl, mm_a43, Or.inl ⟨rfl, 191, rfl, by rw [h]; exact im_in 1195 (by decide +kernel) rfl, mm_i43, mm_s43⟩⟩)))))
theorem mz_7_m199 : im_fM im_Ts mx_nw mm_tb mx_R7 (1, 199, 103, 1) := fun y pc len v h => Or.inr (Or.inr (Or.inr (Or.inr (Or.inr (Or.inr ⟨im_m103, rfl, mm_a103, Or.inl ⟨rfl, 199, rfl, by rw [h]; exact im_in 1203 (by decide +kernel) rfl, mm_i103, mm_s103⟩⟩)))))
theorem mz_7_m202 : im_fM im_Ts mx_nw mm_tb mx_R7 (7, 202, 23, 1) := fun y pc len v h => Or.inr (Or.inr (Or.inr (Or.inr (Or.inr (Or.inr ⟨im_m23, rfl, mm_a23, Or.inr (Or.inr (Or.inr (Or.inr ⟨rfl, 202, mx_R0, rfl, by rw [h]; exact List.mem_of_getElem? (i := 13) rfl, mm_t23⟩)))⟩)))))
theorem mz_7_m207 : im_fM im_Ts mx_nw mm_tb mx_R7 (1, 207, 148, 3) := fun y pc len v h => Or.inr (Or.inr (Or.inr (Or.inr (Or.inr (Or.inr ⟨im_m148, rfl, mm_a148, Or.inl ⟨rfl, 207, rfl, by rw [h]; exact im_in 1136 (by decide +kernel) rfl, mm_i148, mm_s148⟩⟩)))))
theorem mz_7_m211 : im_fM im_Ts mx_nw mm_tb mx_R7 (1, 211, 94, 2) := fun y pc len v h => Or.inr (Or.inr (Or.inr (Or.inr (Or.inr (Or.inr ⟨im_m94, rfl, mm_a94, Or.inl ⟨rfl, 211, rfl, by rw [h]; exact im_in 1219 (by decide +kernel) rfl, mm_i94, mm_s94⟩⟩)))))
theorem mz_7_m215 : im_fM im_Ts mx_nw mm_tb mx_R7 (1, 215, 95, 2) := fun y pc len v h => Or.inr (Or.inr (Or.inr (Or.inr (Or.inr (Or.inr ⟨im_m95, rfl, mm_a95, Or.inl ⟨rfl, 215, rfl, by rw [h]; exact im_in 1262 (by decide +kernel) rfl, mm_i95, mm_s95⟩⟩)))))
theorem mz_7_m218 : im_fM im_Ts mx_nw mm_tb mx_R7 (1, 218, 96, 1) := fun y pc len v h => Or.inr (Or.inr (Or.inr (Or.inr (Or.inr (Or.inr ⟨im_m96, rfl, mm_a96, Or.inl ⟨rfl, 218, rfl, by rw [h]; exact im_in 1271 (by decide +kernel) rfl, mm_i96, mm_s96⟩⟩)))))
theorem mz_7_m221 : im_fM im_Ts mx_nw mm_tb mx_R7 (1, 221, 97, 1) := fun y pc len v h => Or.inr (Or.inr (Or.inr (Or.inr (Or.inr (Or.inr ⟨im_m97, rfl, mm_a97, Or.inl ⟨rfl, 221, rfl, by rw [h]; exact im_in 1307 (by decide +kernel) rfl, mm_i97, mm_s97⟩⟩)))))
theorem mz_7_m224 : im_fM im_Ts mx_nw mm_tb mx_R7 (1, 224, 30, 1) := fun y pc len v h => Or.inr (Or.inr (Or.inr (Or.inr (Or.inr (Or.inr ⟨im_m30, rfl, mm_a30, Or.inl ⟨rfl, 224, rfl, by rw [h]; exact im_in 1223 (by decide +kernel) rfl, mm_i30, mm_s30⟩⟩)))))
theorem mz_7_m230 : im_fM im_Ts mx_nw mm_tb mx_R7 (1, 230, 123, 2) := fun y pc len v h => Or.inr (Or.inr (Or.inr (Or.inr (Or.inr (Or.inr ⟨im_m123, rfl, mm_a123, Or.inl ⟨rfl, 230, rfl, by rw [h]; exact im_in 1266 (by decide +kernel) rfl, mm_i123, mm_s123⟩⟩)))))
theorem mz_7_m233 : im_fM im_Ts mx_nw mm_tb mx_R7 (1, 233, 98, 2) := fun y pc len v h => Or.inr (Or.inr (Or.inr (Or.inr (Or.inr (Or.inr ⟨im_m98, rfl, mm_a98, Or.inl ⟨rfl, 233, rfl, by rw [h]; exact im_in 1275 (by decide +kernel) rfl, mm_i98, mm_s98⟩⟩)))))
theorem mz_7_m236 : im_fM im_Ts mx_nw mm_tb mx_R7 (7, 236, 26, 1) := fun y pc len v h => Or.inr (Or.inr (Or.inr (Or.inr (Or.inr (Or.inr ⟨im_m26, rfl, mm_a26, Or.inr (Or.inr (Or.inr (Or.inr ⟨rfl, 236, mx_R0, rfl, by rw [h]; exact List.mem_of_getElem? (i := 15) rfl, mm_t26⟩)))⟩)))))
theorem mz_7_m239 : im_fM im_Ts mx_nw mm_tb mx_R7 (1, 239, 60, 3) := fun y pc len v h => Or.inr (Or.inr (Or.inr (Or.inr (Or.inr (Or.inr ⟨im_m60, rfl, mm_a60, Or.inl ⟨rfl, 239, rfl, by rw [h]; exact im_in 1312 (by decide +kernel) rfl, mm_i60, mm_s60⟩⟩)))))
theorem mz_7_m245 : im_fM im_Ts mx_nw mm_tb mx_R7 (4, 245, 37, 0) := fun y pc len v h => Or.inr (Or.inr (Or.inr (Or.inr (Or.inr (Or.inr ⟨im_m37, rfl, mm_a37, Or.inr (Or.inr (Or.inl ⟨rfl, 245, mx_R0, rfl, by rw [h]; exact List.mem_of_getElem? (i := 14) rfl, mm_i37, rfl, rfl⟩))⟩)))))
theorem mz_7_m264 : im_fM im_Ts mx_nw mm_tb mx_R7 (1, 264, 110, 1) := fun y pc len v h => Or.inr (Or.inr (Or.inr (Or.inr (Or.inr (Or.inr ⟨im_m110, rfl, mm_a110, Or.inl ⟨rfl, 264, rfl, by rw [h]; exact im_in 1105 (by decide +kernel) rfl, mm_i110, mm_s110⟩⟩)))))
theorem mz_7_m271 : im_fM im_Ts mx_nw mm_tb mx_R7 (1, 271, 121, 2) := fun y pc len v h => Or.inr (Or.inr (Or.inr (Or.inr (Or.inr (Or.inr ⟨im_m121, rfl, mm_a121, Or.inl ⟨rfl, 271, rfl, by rw [h]; exact im_in 1109 (by decide +kernel) rfl, mm_i121, mm_s121⟩⟩)))))
theorem mz_7_m274 : im_fM im_Ts mx_nw mm_tb mx_R7 (7, 274, 27, 1) := fun y pc len v h => Or.inr (Or.inr (Or.inr (Or.inr (Or.inr (Or.inr ⟨im_m27, rfl, mm_a27, Or.inr (Or.inr (Or.inr (Or.inr ⟨rfl, 274, mx_R0, rfl, by rw [h]; exact List.mem_of_getElem? (i := 10) rfl, mm_t27⟩)))⟩)))))
theorem mz_7_m277 : im_fM im_Ts mx_nw mm_tb mx_R7 (1, 277, 38, 0) := fun y pc len v h => Or.inr (Or.inr (Or.inr (Or.inr (Or.inr (Or.inr ⟨im_m38, rfl, mm_a38, Or.inl ⟨rfl, 277, rfl, by rw [h]; exact im_in 1118 (by decide +kernel) rfl, mm_i38, mm_s38⟩⟩)))))
theorem mz_7_m281 : im_fM im_Ts mx_nw mm_tb mx_R7 (1, 281, 101, 3) := fun y pc len v h => Or.inr (Or.inr (Or.inr (Or.inr (Or.inr (Or.inr ⟨im_m101, rfl, mm_a101, Or.inl ⟨rfl, 281, rfl, by rw [h]; exact im_in 1122 (by decide +kernel) rfl, mm_i101, mm_s101⟩⟩)))))
theorem mz_7_m284 : im_fM im_Ts mx_nw mm_tb mx_R7 (1, 284, 53, 1) := fun y pc len v h => Or.inr (Or.inr (Or.inr (Or.inr (Or.inr (Or.inr ⟨im_m53, rfl, mm_a53, Or.inl ⟨rfl, 284, rfl, by rw [h]; exact im_in 1126 (by decide +kernel) rfl, mm_i53, mm_s53⟩⟩)))))
theorem mz_7_m287 : im_fM im_Ts mx_nw mm_tb mx_R7 (1, 287, 117, 0) := fun y pc len v h => Or.inr (Or.inr (Or.inr (Or.inr (Or.inr (Or.inr ⟨im_m117, rfl, mm_a117, Or.inl ⟨rfl, 287, rfl, by rw [h]; exact im_in 1127 (by decide +kernel) rfl, mm_i117, mm_s117⟩⟩)))))
theorem mz_7_m291 : im_fM im_Ts mx_nw mm_tb mx_R7 (10, 291, 0, 0) := fun y pc len v h => Or.inr (Or.inr (Or.inr (Or.inl ⟨rfl, 291, rfl, by rw [h]; exact im_in 1068 (by decide +kernel) rfl, im_in 307 (by decide +kernel) rfl, im_in 308 (by decide +kernel) rfl, im_in 161 (by decide +kernel) rfl⟩)))
theorem mz_7_m294 : im_fM im_Ts mx_nw mm_tb mx_R7 (1, 294, 119, 2) := fun y pc len v h => Or.inr (Or.inr (Or.inr (Or.inr (Or.inr (Or.inr ⟨im_m119, rfl, mm_a119, Or.inl ⟨rfl, 294, rfl, by rw [h]; exact im_in 1131 (by decide +kernel) rfl, mm_i119, mm_s119⟩⟩)))))
theorem mz_7_m304 : im_fM im_Ts mx_nw mm_tb mx_R7 (4, 304, 50, 0) := fun y pc len v h => Or.inr (Or.inr (Or.inr (Or.inr (Or.inr (Or.inr ⟨im_m50, rfl, mm_a50, Or.inr (Or.inr (Or.inl ⟨rfl, 304, mx_R0, rfl, by rw [h]; exact List.mem_of_getElem? (i := 9) rfl, mm_i50, rfl, rfl⟩))⟩)))))
theorem mz_7_m305 : im_fM im_Ts mx_nw mm_tb mx_R7 (1, 305, 44, 1) := fun y pc len v h => Or.inr (Or.inr (Or.inr (Or.inr (Or.inr (Or.inr ⟨im_m44, rfl, mm_a44, Or.inl ⟨rfl, 305, rfl, by rw [h]; exact im_in 1337 (by decide +kernel) rfl, mm_i44, mm_s44⟩⟩)))))
theorem mz_7_m311 : im_fM im_Ts mx_nw mm_tb mx_R7 (1, 311, 112, 0) := fun y pc len v h => Or.inr (Or.inr (Or.inr (Or.inr (Or.inr (Or.inr ⟨im_m112, rfl, mm_a112, Or.inl ⟨rfl, 311, rfl, by rw [h]; exact im_in 1325 (by decide +kernel) rfl, mm_i112, mm_s112⟩⟩)))))
theorem mz_7_m314 : im_fM im_Ts mx_nw mm_tb mx_R7 (1, 314, 113, 0) := fun y pc len v h => Or.inr (Or.inr (Or.inr (Or.inr (Or.inr (Or.inr ⟨im_m113, rfl, mm_a113, Or.inl ⟨rfl, 314, rfl, by rw [h]; exact im_in 1329 (by decide +kernel) rfl, mm_i113, mm_s113⟩⟩)))))
theorem mz_7_m317 : im_fM im_Ts mx_nw mm_tb mx_R7 (1, 317, 114, 0) := fun y pc len v h => Or.inr (Or.inr (Or.inr (Or.inr (Or.inr (Or.inr ⟨im_m114, rfl, mm_a114, Or.inl ⟨rfl, 317, rfl, by rw [h]; exact im_in 1341 (by decide +kernel) rfl, mm_i114, mm_s114⟩⟩)))))
theorem mz_7_m320 : im_fM im_Ts mx_nw mm_tb mx_R7 (1, 320, 104, 1) := fun y pc len v h => Or.inr (Or.inr (Or.inr (Or.inr (Or.inr (Or.inr ⟨im_m104, rfl, mm_a104, Or.inl ⟨rfl, 320, rfl, by rw [h]; exact im_in 1333 (by decide +kernel) rfl, mm_i104, mm_s104⟩⟩)))))
theorem mz_7_ok : im_zo im_Ts mx_nw mx_cl mx_rA mx_nf mm_tb mx_R7 mz_7 := ⟨List.forall_mem_cons.mpr ⟨mz_7_f11, List.forall_mem_cons.mpr ⟨mz_7_f19, List.forall_mem_cons.mpr ⟨mz_7_f23, List.forall_mem_cons.mpr ⟨mz_7_f27, List.forall_mem_cons.mpr ⟨mz_7_f30, List.forall_mem_cons.mpr ⟨mz_7_f39, List.forall_mem_cons.mpr ⟨mz_7_f48, List.forall_mem_cons.mpr ⟨mz_7_f55, List.forall_mem_cons.mpr ⟨mz_7_f71, List.forall_mem_cons.mpr ⟨mz_7_f75, List.forall_mem_cons.mpr ⟨mz_7_f78, List.forall_mem_cons.mpr ⟨mz_7_f81, List.forall_mem_cons.mpr ⟨mz_7_f84, List.forall_mem_cons.mpr ⟨mz_7_f87, List.forall_mem_cons.mpr ⟨mz_7_f90, List.forall_mem_cons.mpr ⟨mz_7_f107, List.forall_mem_cons.mpr ⟨mz_7_f115, List.forall_mem_cons.mpr ⟨mz_7_f118, List.forall_mem_cons.mpr ⟨mz_7_f128, List.forall_mem_cons.mpr ⟨mz_7_f131, List.forall_mem_cons.mpr ⟨mz_7_f145, List.forall_mem_cons.mpr ⟨mz_7_f161, List.forall_mem_cons.mpr ⟨mz_7_f184, List.forall_mem_cons.mpr ⟨mz_7_f196, List.forall_mem_cons.mpr ⟨mz_7_f227, List.forall_mem_cons.mpr ⟨mz_7_f246, List.forall_mem_cons.mpr ⟨mz_7_f247, List.forall_mem_cons.mpr ⟨mz_7_f250, List.forall_mem_cons.mpr ⟨mz_7_f253, List.forall_mem_cons.mpr ⟨mz_7_f256, List.forall_mem_cons.mpr ⟨mz_7_f259, List.forall_mem_cons.mpr ⟨mz_7_f262, List.forall_mem_cons.mpr ⟨mz_7_f263, List.forall_mem_cons.mpr ⟨mz_7_f268, List.forall_mem_cons.mpr ⟨mz_7_f298, List.forall_mem_cons.mpr ⟨mz_7_f301, List.forall_mem_cons.mpr ⟨mz_7_f308, fun _ h => absurd h List.not_mem_nil⟩⟩⟩⟩⟩⟩⟩⟩⟩⟩⟩⟩⟩⟩⟩⟩⟩⟩⟩⟩⟩⟩⟩⟩⟩⟩⟩⟩⟩⟩⟩⟩⟩⟩⟩⟩⟩, List.forall_mem_cons.mpr ⟨mz_7_n9, List.forall_mem_cons.mpr ⟨mz_7_n17, List.forall_mem_cons.mpr ⟨mz_7_n34, List.forall_mem_cons.mpr ⟨mz_7_n43, List.forall_mem_cons.mpr ⟨mz_7_n52, fun _ h => absurd h List.not_mem_nil⟩⟩⟩⟩⟩, List.forall_mem_cons.mpr ⟨mz_7_a9, List.forall_mem_cons.mpr ⟨mz_7_a17, fun _ h => absurd h List.not_mem_nil⟩⟩, List.forall_mem_cons.mpr ⟨mz_7_i127, List.forall_mem_cons.mpr ⟨mz_7_i206, fun _ h => absurd h List.not_mem_nil⟩⟩, List.forall_mem_cons.mpr ⟨mz_7_l168, fun _ h => absurd h List.not_mem_nil⟩, fun _ h => absurd h List.not_mem_nil, List.forall_mem_cons.mpr ⟨mz_7_m3, List.forall_mem_cons.mpr ⟨mz_7_m36, List.forall_mem_cons.mpr ⟨mz_7_m45, List.forall_mem_cons.mpr ⟨mz_7_m54, List.forall_mem_cons.mpr ⟨mz_7_m59, List.forall_mem_cons.mpr ⟨mz_7_m63, List.forall_mem_cons.mpr ⟨mz_7_m64, List.forall_mem_cons.mpr ⟨mz_7_m65, List.forall_mem_cons.mpr ⟨mz_7_m68, List.forall_mem_cons.mpr ⟨mz_7_m93, List.forall_mem_cons.mpr ⟨mz_7_m99, List.forall_mem_cons.mpr ⟨mz_7_m103, List.forall_mem_cons.mpr ⟨mz_7_m111, List.forall_mem_cons.mpr ⟨mz_7_m121, List.forall_mem_cons.mpr ⟨mz_7_m124, List.forall_mem_cons.mpr ⟨mz_7_m134, List.forall_mem_cons.mpr ⟨mz_7_m137, List.forall_mem_cons.mpr ⟨mz_7_m141, List.forall_mem_cons.mpr ⟨mz_7_m148, List.forall_mem_cons.mpr ⟨mz_7_m154, List.forall_mem_cons.mpr ⟨mz_7_m157, List.forall_mem_cons.mpr ⟨mz_7_m164, List.forall_mem_cons.mpr ⟨mz_7_m170, List.forall_mem_cons.mpr ⟨mz_7_m173, List.forall_mem_cons.mpr ⟨mz_7_m177, List.forall_mem_cons.mpr ⟨mz_7_m180, List.forall_mem_cons.mpr ⟨mz_7_m187, List.forall_mem_cons.mpr ⟨mz_7_m191, List.forall_mem_cons.mpr ⟨mz_7_m199, List.forall_mem_cons.mpr ⟨mz_7_m202, List.forall_mem_cons.mpr ⟨mz_7_m207, List.forall_mem_cons.mpr ⟨mz_7_m211, List.forall_mem_cons.mpr ⟨mz_7_m215, List.forall_mem_cons.mpr ⟨mz_7_m218, List.forall_mem_cons.mpr ⟨mz_7_m221, List.forall_mem_cons.mpr ⟨mz_7_m224, List.forall_mem_cons.mpr ⟨mz_7_m230, List.forall_mem_cons.mpr ⟨mz_7_m233, List.forall_mem_cons.mpr ⟨mz_7_m236, List.forall_mem_cons.mpr ⟨mz_7_m239, List.forall_mem_cons.mpr ⟨mz_7_m245, List.forall_mem_cons.mpr ⟨mz_7_m264, List.forall_mem_cons.mpr ⟨mz_7_m271, List.forall_mem_cons.mpr ⟨mz_7_m274, List.forall_mem_cons.mpr ⟨mz_7_m277, List.forall_mem_cons.mpr ⟨mz_7_m281, List.forall_mem_cons.mpr ⟨mz_7_m284, List.forall_mem_cons.mpr ⟨mz_7_m287, List.forall_mem_cons.mpr ⟨mz_7_m291, List.forall_mem_cons.mpr ⟨mz_7_m294, List.forall_mem_cons.mpr ⟨mz_7_m304, List.forall_mem_cons.mpr ⟨mz_7_m305, List.forall_mem_cons.mpr ⟨mz_7_m311, List.forall_mem_cons.mpr ⟨mz_7_m314, List.forall_mem_cons.mpr ⟨mz_7_m317, List.forall_mem_cons.mpr ⟨mz_7_m320, fun _ h => absurd h List.not_mem_nil⟩⟩⟩⟩⟩⟩⟩⟩⟩⟩⟩⟩⟩⟩⟩⟩⟩⟩⟩⟩⟩⟩⟩⟩⟩⟩⟩⟩⟩⟩⟩⟩⟩⟩⟩⟩⟩⟩⟩⟩⟩⟩⟩⟩⟩⟩⟩⟩⟩⟩⟩⟩⟩⟩⟩⟩⟩
def mz_8 : im_Z := ([(11, 8, 1, 0), (17, 8, 2, 0), (21, 8, 4, 0), (24, 8, 5, 0), (27, 8, 8, 1), (30, 8, 0, 1), (48, 8, 3, 0), (62, 8, 6, 0), (65, 8, 7, 0)], [], [(9, 3)], [], [], [], [(0, 3, 0, 0), (1, 34, 127, 1), (5, 38, 305, 2), (5, 44, 303, 4), (1, 52, 118, 3), (10, 56, 0, 0), (1, 68, 125, 1), (11, 72, 0, 0), (1, 75, 40, 1), (1, 78, 131, 1), (1, 81, 41, 1), (1, 85, 42, 2)])
theorem mz_8_f11 : im_fF im_Ts mx_cl mx_R8 (11, 8, 1, 0) := ⟨(mx_R8, mx_T8, 9), rfl, by decide, im_in 433 (by decide +kernel) rfl, fun h => absurd h (by decide)⟩
theorem mz_8_f17 : im_fF im_Ts mx_cl mx_R8 (17, 8, 2, 0) := ⟨(mx_R8, mx_T8, 9), rfl, by decide, im_in 434 (by decide +kernel) rfl, fun h => absurd h (by decide)⟩
theorem mz_8_f21 : im_fF im_Ts mx_cl mx_R8 (21, 8, 4, 0) := ⟨(mx_R8, mx_T8, 9), rfl, by decide, im_in 437 (by decide +kernel) rfl, fun h => absurd h (by decide)⟩
theorem mz_8_f24 : im_fF im_Ts mx_cl mx_R8 (24, 8, 5, 0) := ⟨(mx_R8, mx_T8, 9), rfl, by decide, im_in 438 (by decide +kernel) rfl, fun h => absurd h (by decide)⟩
theorem mz_8_f27 : im_fF im_Ts mx_cl mx_R8 (27, 8, 8, 1) := ⟨(mx_R8, mx_T8, 9), rfl, by decide, im_in 444 (by decide +kernel) rfl, fun _ => ⟨by decide, fun _ => rfl⟩⟩
theorem mz_8_f30 : im_fF im_Ts mx_cl mx_R8 (30, 8, 0, 1) := ⟨(mx_R8, mx_T8, 9), rfl, by decide, im_in 432 (by decide +kernel) rfl, fun _ => ⟨by decide, fun _ => rfl⟩⟩
theorem mz_8_f48 : im_fF im_Ts mx_cl mx_R8 (48, 8, 3, 0) := ⟨(mx_R8, mx_T8, 9), rfl, by decide, im_in 435 (by decide +kernel) rfl, fun h => absurd h (by decide)⟩
theorem mz_8_f62 : im_fF im_Ts mx_cl mx_R8 (62, 8, 6, 0) := ⟨(mx_R8, mx_T8, 9), rfl, by decide, im_in 439 (by decide +kernel) rfl, fun h => absurd h (by decide)⟩
theorem mz_8_f65 : im_fF im_Ts mx_cl mx_R8 (65, 8, 7, 0) := ⟨(mx_R8, mx_T8, 9), rfl, by decide, im_in 442 (by decide +kernel) rfl, fun h => absurd h (by decide)⟩
theorem mz_8_a9 : im_fA im_Ts mx_cl mx_rA mx_R8 (9, 3) := ⟨(mx_R3, mx_T3, 9), rfl, by decide, im_in 431 (by decide +kernel) rfl⟩
theorem mz_8_m3 : im_fM im_Ts mx_nw mm_tb mx_R8 (0, 3, 0, 0) := fun y pc len v h => Or.inl ⟨rfl, 3, rfl, by rw [h]; exact im_in 430 (by decide +kernel) rfl⟩
theorem mz_8_m34 : im_fM im_Ts mx_nw mm_tb mx_R8 (1, 34, 127, 1) := fun y pc len v h => Or.inr (Or.inr (Or.inr (Or.inr (Or.inr (Or.inr ⟨im_m127, rfl, mm_a127, Or.inl ⟨rfl, 34, rfl, by rw [h]; exact im_in 549 (by decide +kernel) rfl, mm_i127, mm_s127⟩⟩)))))
theorem mz_8_m38 : im_fM im_Ts mx_nw mm_tb mx_R8 (5, 38, 305, 2) := fun y pc len v h => Or.inr (Or.inr (Or.inr (Or.inr (Or.inr (Or.inr ⟨im_m305, rfl, mm_a305, Or.inr (Or.inr (Or.inr (Or.inl ⟨rfl, 38, rfl, by rw [h]; exact im_in 553 (by decide +kernel) rfl, mm_t305⟩)))⟩)))))
theorem mz_8_m44 : im_fM im_Ts mx_nw mm_tb mx_R8 (5, 44, 303, 4) := fun y pc len v h => Or.inr (Or.inr (Or.inr (Or.inr (Or.inr (Or.inr ⟨im_m303, rfl, mm_a303, Or.inr (Or.inr (Or.inr (Or.inl ⟨rfl, 44, rfl, by rw [h]; exact im_in 839 (by decide +kernel) rfl, mm_t303⟩)))⟩)))))
theorem mz_8_m52 : im_fM im_Ts mx_nw mm_tb mx_R8 (1, 52, 118, 3) := fun y pc len v h => Or.inr (Or.inr (Or.inr (Or.inr (Or.inr (Or.inr ⟨im_m118, rfl, mm_a118, Or.inl ⟨rfl, 52, rfl, by rw [h]; exact im_in 1135 (by decide +kernel) rfl, mm_i118, mm_s118⟩⟩)))))
theorem mz_8_m56 : im_fM im_Ts mx_nw mm_tb mx_R8 (10, 56, 0, 0) := fun y pc len v h => Or.inr (Or.inr (Or.inr (Or.inl ⟨rfl, 56, rfl, by rw [h]; exact im_in 838 (by decide +kernel) rfl, im_in 307 (by decide +kernel) rfl, im_in 308 (by decide +kernel) rfl, im_in 161 (by decide +kernel) rfl⟩)))
theorem mz_8_m68 : im_fM im_Ts mx_nw mm_tb mx_R8 (1, 68, 125, 1) := fun y pc len v h => Or.inr (Or.inr (Or.inr (Or.inr (Or.inr (Or.inr ⟨im_m125, rfl, mm_a125, Or.inl ⟨rfl, 68, rfl, by rw [h]; exact im_in 1154 (by decide +kernel) rfl, mm_i125, mm_s125⟩⟩)))))
theorem mz_8_m72 : im_fM im_Ts mx_nw mm_tb mx_R8 (11, 72, 0, 0) := fun y pc len v h => Or.inr (Or.inr (Or.inr (Or.inr (Or.inl ⟨rfl, 72, rfl, by rw [h]; exact im_in 1270 (by decide +kernel) rfl, im_in 1188 (by decide +kernel) rfl, im_in 1189 (by decide +kernel) rfl, im_in 161 (by decide +kernel) rfl⟩))))
theorem mz_8_m75 : im_fM im_Ts mx_nw mm_tb mx_R8 (1, 75, 40, 1) := fun y pc len v h => Or.inr (Or.inr (Or.inr (Or.inr (Or.inr (Or.inr ⟨im_m40, rfl, mm_a40, Or.inl ⟨rfl, 75, rfl, by rw [h]; exact im_in 966 (by decide +kernel) rfl, mm_i40, mm_s40⟩⟩)))))
theorem mz_8_m78 : im_fM im_Ts mx_nw mm_tb mx_R8 (1, 78, 131, 1) := fun y pc len v h => Or.inr (Or.inr (Or.inr (Or.inr (Or.inr (Or.inr ⟨im_m131, rfl, mm_a131, Or.inl ⟨rfl, 78, rfl, by rw [h]; exact im_in 957 (by decide +kernel) rfl, mm_i131, mm_s131⟩⟩)))))
theorem mz_8_m81 : im_fM im_Ts mx_nw mm_tb mx_R8 (1, 81, 41, 1) := fun y pc len v h => Or.inr (Or.inr (Or.inr (Or.inr (Or.inr (Or.inr ⟨im_m41, rfl, mm_a41, Or.inl ⟨rfl, 81, rfl, by rw [h]; exact im_in 961 (by decide +kernel) rfl, mm_i41, mm_s41⟩⟩)))))
theorem mz_8_m85 : im_fM im_Ts mx_nw mm_tb mx_R8 (1, 85, 42, 2) := fun y pc len v h => Or.inr (Or.inr (Or.inr (Or.inr (Or.inr (Or.inr ⟨im_m42, rfl, mm_a42, Or.inl ⟨rfl, 85, rfl, by rw [h]; exact im_in 1003 (by decide +kernel) rfl, mm_i42, mm_s42⟩⟩)))))
theorem mz_8_ok : im_zo im_Ts mx_nw mx_cl mx_rA mx_nf mm_tb mx_R8 mz_8 := ⟨List.forall_mem_cons.mpr ⟨mz_8_f11, List.forall_mem_cons.mpr ⟨mz_8_f17, List.forall_mem_cons.mpr ⟨mz_8_f21, List.forall_mem_cons.mpr ⟨mz_8_f24, List.forall_mem_cons.mpr ⟨mz_8_f27, List.forall_mem_cons.mpr ⟨mz_8_f30, List.forall_mem_cons.mpr ⟨mz_8_f48, List.forall_mem_cons.mpr ⟨mz_8_f62, List.forall_mem_cons.mpr ⟨mz_8_f65, fun _ h => absurd h List.not_mem_nil⟩⟩⟩⟩⟩⟩⟩⟩⟩, fun _ h => absurd h List.not_mem_nil, List.forall_mem_cons.mpr ⟨mz_8_a9, fun _ h => absurd h List.not_mem_nil⟩, fun _ h => absurd h List.not_mem_nil, fun _ h => absurd h List.not_mem_nil, fun _ h => absurd h List.not_mem_nil, List.forall_mem_cons.mpr ⟨mz_8_m3, List.forall_mem_cons.mpr ⟨mz_8_m34, List.forall_mem_cons.mpr ⟨mz_8_m38, List.forall_mem_cons.mpr ⟨mz_8_m44, List.forall_mem_cons.mpr ⟨mz_8_m52, List.forall_mem_cons.mpr ⟨mz_8_m56, List.forall_mem_cons.mpr ⟨mz_8_m68, List.forall_mem_cons.mpr ⟨mz_8_m72, List.forall_mem_cons.mpr ⟨mz_8_m75, List.forall_mem_cons.mpr ⟨mz_8_m78, List.forall_mem_cons.mpr ⟨mz_8_m81, List.forall_mem_cons.mpr ⟨mz_8_m85, fun _ h => absurd h List.not_mem_nil⟩⟩⟩⟩⟩⟩⟩⟩⟩⟩⟩⟩⟩
def mz_9 : im_Z := ([(9, 9, 0, 1), (15, 9, 1, 0), (19, 9, 5, 0), (29, 9, 3, 0), (32, 9, 2, 0), (56, 9, 4, 0)], [], [], [], [(63, 10)], [], [(0, 3, 0, 0), (1, 22, 136, 0), (1, 25, 138, 0), (5, 35, 142, 1), (1, 39, 139, 2), (5, 43, 143, 1), (5, 46, 144, 1), (1, 49, 140, 0), (1, 52, 141, 1), (5, 60, 145, 1)])
theorem mz_9_f9 : im_fF im_Ts mx_cl mx_R9 (9, 9, 0, 1) := ⟨(mx_R9, mx_T9, 6), rfl, by decide, im_in 187 (by decide +kernel) rfl, fun _ => ⟨by decide, fun _ => rfl⟩⟩
theorem mz_9_f15 : im_fF im_Ts mx_cl mx_R9 (15, 9, 1, 0) := ⟨(mx_R9, mx_T9, 6), rfl, by decide, im_in 188 (by decide +kernel) rfl, fun h => absurd h (by decide)⟩
theorem mz_9_f19 : im_fF im_Ts mx_cl mx_R9 (19, 9, 5, 0) := ⟨(mx_R9, mx_T9, 6), rfl, by decide, im_in 196 (by decide +kernel) rfl, fun h => absurd h (by decide)⟩
theorem mz_9_f29 : im_fF im_Ts mx_cl mx_R9 (29, 9, 3, 0) := ⟨(mx_R9, mx_T9, 6), rfl, by decide, im_in 193 (by decide +kernel) rfl, fun h => absurd h (by decide)⟩
theorem mz_9_f32 : im_fF im_Ts mx_cl mx_R9 (32, 9, 2, 0) := ⟨(mx_R9, mx_T9, 6), rfl, by decide, im_in 191 (by decide +kernel) rfl, fun h => absurd h (by decide)⟩
theorem mz_9_f56 : im_fF im_Ts mx_cl mx_R9 (56, 9, 4, 0) := ⟨(mx_R9, mx_T9, 6), rfl, by decide, im_in 194 (by decide +kernel) rfl, fun h => absurd h (by decide)⟩
theorem mz_9_l63 : im_fL im_Ts mx_R9 (63, 10) := im_in 728 (by decide +kernel) rfl
theorem mz_9_m3 : im_fM im_Ts mx_nw mm_tb mx_R9 (0, 3, 0, 0) := fun y pc len v h => Or.inl ⟨rfl, 3, rfl, by rw [h]; exact im_in 186 (by decide +kernel) rfl⟩
theorem mz_9_m22 : im_fM im_Ts mx_nw mm_tb mx_R9 (1, 22, 136, 0) := fun y pc len v h => Or.inr (Or.inr (Or.inr (Or.inr (Or.inr (Or.inr ⟨im_m136, rfl, mm_a136, Or.inl ⟨rfl, 22, rfl, by rw [h]; exact im_in 700 (by decide +kernel) rfl, mm_i136, mm_s136⟩⟩)))))
theorem mz_9_m25 : im_fM im_Ts mx_nw mm_tb mx_R9 (1, 25, 138, 0) := fun y pc len v h => Or.inr (Or.inr (Or.inr (Or.inr (Or.inr (Or.inr ⟨im_m138, rfl, mm_a138, Or.inl ⟨rfl, 25, rfl, by rw [h]; exact im_in 704 (by decide +kernel) rfl, mm_i138, mm_s138⟩⟩)))))
theorem mz_9_m35 : im_fM im_Ts mx_nw mm_tb mx_R9 (5, 35, 142, 1) := fun y pc len v h => Or.inr (Or.inr (Or.inr (Or.inr (Or.inr (Or.inr ⟨im_m142, rfl, mm_a142, Or.inr (Or.inr (Or.inr (Or.inl ⟨rfl, 35, rfl, by rw [h]; exact im_in 708 (by decide +kernel) rfl, mm_t142⟩)))⟩)))))
theorem mz_9_m39 : im_fM im_Ts mx_nw mm_tb mx_R9 (1, 39, 139, 2) := fun y pc len v h => Or.inr (Or.inr (Or.inr (Or.inr (Or.inr (Or.inr ⟨im_m139, rfl, mm_a139, Or.inl ⟨rfl, 39, rfl, by rw [h]; exact im_in 711 (by decide +kernel) rfl, mm_i139, mm_s139⟩⟩)))))
theorem mz_9_m43 : im_fM im_Ts mx_nw mm_tb mx_R9 (5, 43, 143, 1) := fun y pc len v h => Or.inr (Or.inr (Or.inr (Or.inr (Or.inr (Or.inr ⟨im_m143, rfl, mm_a143, Or.inr (Or.inr (Or.inr (Or.inl ⟨rfl, 43, rfl, by rw [h]; exact im_in 718 (by decide +kernel) rfl, mm_t143⟩)))⟩)))))
theorem mz_9_m46 : im_fM im_Ts mx_nw mm_tb mx_R9 (5, 46, 144, 1) := fun y pc len v h => Or.inr (Or.inr (Or.inr (Or.inr (Or.inr (Or.inr ⟨im_m144, rfl, mm_a144, Or.inr (Or.inr (Or.inr (Or.inl ⟨rfl, 46, rfl, by rw [h]; exact im_in 721 (by decide +kernel) rfl, mm_t144⟩)))⟩)))))
theorem mz_9_m49 : im_fM im_Ts mx_nw mm_tb mx_R9 (1, 49, 140, 0) := fun y pc len v h => Or.inr (Or.inr (Or.inr (Or.inr (Or.inr (Or.inr ⟨im_m140, rfl, mm_a140, Or.inl ⟨rfl, 49, rfl, by rw [h]; exact im_in 724 (by decide +kernel) rfl, mm_i140, mm_s140⟩⟩)))))
theorem mz_9_m52 : im_fM im_Ts mx_nw mm_tb mx_R9 (1, 52, 141, 1) := fun y pc len v h => Or.inr (Or.inr (Or.inr (Or.inr (Or.inr (Or.inr ⟨im_m141, rfl, mm_a141, Or.inl ⟨rfl, 52, rfl, by rw [h]; exact im_in 729 (by decide +kernel) rfl, mm_i141, mm_s141⟩⟩)))))
theorem mz_9_m60 : im_fM im_Ts mx_nw mm_tb mx_R9 (5, 60, 145, 1) := fun y pc len v h => Or.inr (Or.inr (Or.inr (Or.inr (Or.inr (Or.inr ⟨im_m145, rfl, mm_a145, Or.inr (Or.inr (Or.inr (Or.inl ⟨rfl, 60, rfl, by rw [h]; exact im_in 715 (by decide +kernel) rfl, mm_t145⟩)))⟩)))))
theorem mz_9_ok : im_zo im_Ts mx_nw mx_cl mx_rA mx_nf mm_tb mx_R9 mz_9 := ⟨List.forall_mem_cons.mpr ⟨mz_9_f9, List.forall_mem_cons.mpr ⟨mz_9_f15, List.forall_mem_cons.mpr ⟨mz_9_f19, List.forall_mem_cons.mpr ⟨mz_9_f29, List.forall_mem_cons.mpr ⟨mz_9_f32, List.forall_mem_cons.mpr ⟨mz_9_f56, fun _ h => absurd h List.not_mem_nil⟩⟩⟩⟩⟩⟩, fun _ h => absurd h List.not_mem_nil, fun _ h => absurd h List.not_mem_nil, fun _ h => absurd h List.not_mem_nil, List.forall_mem_cons.mpr ⟨mz_9_l63, fun _ h => absurd h List.not_mem_nil⟩, fun _ h => absurd h List.not_mem_nil, List.forall_mem_cons.mpr ⟨mz_9_m3, List.forall_mem_cons.mpr ⟨mz_9_m22, List.forall_mem_cons.mpr ⟨mz_9_m25, List.forall_mem_cons.mpr ⟨mz_9_m35, List.forall_mem_cons.mpr ⟨mz_9_m39, List.forall_mem_cons.mpr ⟨mz_9_m43, List.forall_mem_cons.mpr ⟨mz_9_m46, List.forall_mem_cons.mpr ⟨mz_9_m49, List.forall_mem_cons.mpr ⟨mz_9_m52, List.forall_mem_cons.mpr ⟨mz_9_m60, fun _ h => absurd h List.not_mem_nil⟩⟩⟩⟩⟩⟩⟩⟩⟩⟩⟩
def mz_10 : im_Z := ([(9, 10, 1, 0), (15, 10, 2, 0), (18, 10, 4, 0), (21, 10, 6, 0), (24, 10, 8, 0), (27, 10, 0, 1), (31, 10, 3, 0), (35, 10, 5, 0), (74, 10, 10, 0), (77, 10, 9, 0), (80, 10, 7, 0)], [], [], [(87, 1000000)], [], [], [(0, 3, 0, 0), (1, 38, 149, 3), (1, 42, 130, 1), (7, 48, 26, 1), (1, 52, 132, 2), (1, 56, 151, 0), (1, 60, 150, 1), (1, 64, 129, 1), (1, 67, 122, 2), (1, 71, 124, 1), (1, 83, 154, 1), (1, 88, 125, 1), (1, 91, 153, 1), (1, 94, 152, 1), (1, 97, 126, 1)])
theorem mz_10_f9 : im_fF im_Ts mx_cl mx_R10 (9, 10, 1, 0) := ⟨(mx_R10, mx_T10, 11), rfl, by decide, im_in 471 (by decide +kernel) rfl, fun h => absurd h (by decide)⟩
theorem mz_10_f15 : im_fF im_Ts mx_cl mx_R10 (15, 10, 2, 0) := ⟨(mx_R10, mx_T10, 11), rfl, by decide, im_in 472 (by decide +kernel) rfl, fun h => absurd h (by decide)⟩
theorem mz_10_f18 : im_fF im_Ts mx_cl mx_R10 (18, 10, 4, 0) := ⟨(mx_R10, mx_T10, 11), rfl, by decide, im_in 475 (by decide +kernel) rfl, fun h => absurd h (by decide)⟩
theorem mz_10_f21 : im_fF im_Ts mx_cl mx_R10 (21, 10, 6, 0) := ⟨(mx_R10, mx_T10, 11), rfl, by decide, im_in 477 (by decide +kernel) rfl, fun h => absurd h (by decide)⟩
theorem mz_10_f24 : im_fF im_Ts mx_cl mx_R10 (24, 10, 8, 0) := ⟨(mx_R10, mx_T10, 11), rfl, by decide, im_in 480 (by decide +kernel) rfl, fun h => absurd h (by decide)⟩
theorem mz_10_f27 : im_fF im_Ts mx_cl mx_R10 (27, 10, 0, 1) := ⟨(mx_R10, mx_T10, 11), rfl, by decide, im_in 470 (by decide +kernel) rfl, fun _ => ⟨by decide, fun _ => rfl⟩⟩
theorem mz_10_f31 : im_fF im_Ts mx_cl mx_R10 (31, 10, 3, 0) := ⟨(mx_R10, mx_T10, 11), rfl, by decide, im_in 474 (by decide +kernel) rfl, fun h => absurd h (by decide)⟩
theorem mz_10_f35 : im_fF im_Ts mx_cl mx_R10 (35, 10, 5, 0) := ⟨(mx_R10, mx_T10, 11), rfl, by decide, im_in 476 (by decide +kernel) rfl, fun h => absurd h (by decide)⟩
theorem mz_10_f74 : im_fF im_Ts mx_cl mx_R10 (74, 10, 10, 0) := ⟨(mx_R10, mx_T10, 11), rfl, by decide, im_in 482 (by decide +kernel) rfl, fun h => absurd h (by decide)⟩
theorem mz_10_f77 : im_fF im_Ts mx_cl mx_R10 (77, 10, 9, 0) := ⟨(mx_R10, mx_T10, 11), rfl, by decide, im_in 481 (by decide +kernel) rfl, fun h => absurd h (by decide)⟩
theorem mz_10_f80 : im_fF im_Ts mx_cl mx_R10 (80, 10, 7, 0) := ⟨(mx_R10, mx_T10, 11), rfl, by decide, im_in 479 (by decide +kernel) rfl, fun h => absurd h (by decide)⟩
theorem mz_10_i87 : im_fI im_Ts mx_R10 (87, 1000000) := im_in 1169 (by decide +kernel) rfl
theorem mz_10_m3 : im_fM im_Ts mx_nw mm_tb mx_R10 (0, 3, 0, 0) := fun y pc len v h => Or.inl ⟨rfl, 3, rfl, by rw [h]; exact im_in 469 (by decide +kernel) rfl⟩
theorem mz_10_m38 : im_fM im_Ts mx_nw mm_tb mx_R10 (1, 38, 149, 3) := fun y pc len v h => Or.inr (Or.inr (Or.inr (Or.inr (Or.inr (Or.inr ⟨im_m149, rfl, mm_a149, Or.inl ⟨rfl, 38, rfl, by rw [h]; exact im_in 1140 (by decide +kernel) rfl, mm_i149, mm_s149⟩⟩)))))
theorem mz_10_m42 : im_fM im_Ts mx_nw mm_tb mx_R10 (1, 42, 130, 1) := fun y pc len v h => Or.inr (Or.inr (Or.inr (Or.inr (Or.inr (Or.inr ⟨im_m130, rfl, mm_a130, Or.inl ⟨rfl, 42, rfl, by rw [h]; exact im_in 1158 (by decide +kernel) rfl, mm_i130, mm_s130⟩⟩)))))
theorem mz_10_m48 : im_fM im_Ts mx_nw mm_tb mx_R10 (7, 48, 26, 1) := fun y pc len v h => Or.inr (Or.inr (Or.inr (Or.inr (Or.inr (Or.inr ⟨im_m26, rfl, mm_a26, Or.inr (Or.inr (Or.inr (Or.inr ⟨rfl, 48, mx_R0, rfl, by rw [h]; exact List.mem_of_getElem? (i := 11) rfl, mm_t26⟩)))⟩)))))
theorem mz_10_m52 : im_fM im_Ts mx_nw mm_tb mx_R10 (1, 52, 132, 2) := fun y pc len v h => Or.inr (Or.inr (Or.inr (Or.inr (Or.inr (Or.inr ⟨im_m132, rfl, mm_a132, Or.inl ⟨rfl, 52, rfl, by rw [h]; exact im_in 1160 (by decide +kernel) rfl, mm_i132, mm_s132⟩⟩)))))
theorem mz_10_m56 : im_fM im_Ts mx_nw mm_tb mx_R10 (1, 56, 151, 0) := fun y pc len v h => Or.inr (Or.inr (Or.inr (Or.inr (Or.inr (Or.inr ⟨im_m151, rfl, mm_a151, Or.inl ⟨rfl, 56, rfl, by rw [h]; exact im_in 1161 (by decide +kernel) rfl, mm_i151, mm_s151⟩⟩)))))
theorem mz_10_m60 : im_fM im_Ts mx_nw mm_tb mx_R10 (1, 60, 150, 1) := fun y pc len v h => Or.inr (Or.inr (Or.inr (Or.inr (Or.inr (Or.inr ⟨im_m150, rfl, mm_a150, Or.inl ⟨rfl, 60, rfl, by rw [h]; exact im_in 1144 (by decide +kernel) rfl, mm_i150, mm_s150⟩⟩)))))
theorem mz_10_m64 : im_fM im_Ts mx_nw mm_tb mx_R10 (1, 64, 129, 1) := fun y pc len v h => Or.inr (Or.inr (Or.inr (Or.inr (Or.inr (Or.inr ⟨im_m129, rfl, mm_a129, Or.inl ⟨rfl, 64, rfl, by rw [h]; exact im_in 1149 (by decide +kernel) rfl, mm_i129, mm_s129⟩⟩)))))
theorem mz_10_m67 : im_fM im_Ts mx_nw mm_tb mx_R10 (1, 67, 122, 2) := fun y pc len v h => Or.inr (Or.inr (Or.inr (Or.inr (Or.inr (Or.inr ⟨im_m122, rfl, mm_a122, Or.inl ⟨rfl, 67, rfl, by rw [h]; exact im_in 1150 (by decide +kernel) rfl, mm_i122, mm_s122⟩⟩)))))
theorem mz_10_m71 : im_fM im_Ts mx_nw mm_tb mx_R10 (1, 71, 124, 1) := fun y pc len v h => Or.inr (Or.inr (Or.inr (Or.inr (Or.inr (Or.inr ⟨im_m124, rfl, mm_a124, Or.inl ⟨rfl, 71, rfl, by rw [h]; exact im_in 1148 (by decide +kernel) rfl, mm_i124, mm_s124⟩⟩)))))
theorem mz_10_m83 : im_fM im_Ts mx_nw mm_tb mx_R10 (1, 83, 154, 1) := fun y pc len v h => Or.inr (Or.inr (Or.inr (Or.inr (Or.inr (Or.inr ⟨im_m154, rfl, mm_a154, Or.inl ⟨rfl, 83, rfl, by rw [h]; exact im_in 1165 (by decide +kernel) rfl, mm_i154, mm_s154⟩⟩)))))
theorem mz_10_m88 : im_fM im_Ts mx_nw mm_tb mx_R10 (1, 88, 125, 1) := fun y pc len v h => Or.inr (Or.inr (Or.inr (Or.inr (Or.inr (Or.inr ⟨im_m125, rfl, mm_a125, Or.inl ⟨rfl, 88, rfl, by rw [h]; exact im_in 1170 (by decide +kernel) rfl, mm_i125, mm_s125⟩⟩)))))
theorem mz_10_m91 : im_fM im_Ts mx_nw mm_tb mx_R10 (1, 91, 153, 1) := fun y pc len v h => Or.inr (Or.inr (Or.inr (Or.inr (Or.inr (Or.inr ⟨im_m153, rfl, mm_a153, Or.inl ⟨rfl, 91, rfl, by rw [h]; exact im_in 1171 (by decide +kernel) rfl, mm_i153, mm_s153⟩⟩)))))
theorem mz_10_m94 : im_fM im_Ts mx_nw mm_tb mx_R10 (1, 94, 152, 1) := fun y pc len v h => Or.inr (Or.inr (Or.inr (Or.inr (Or.inr (Or.inr ⟨im_m152, rfl, mm_a152, Or.inl ⟨rfl, 94, rfl, by rw [h]; exact im_in 1175 (by decide +kernel) rfl, mm_i152, mm_s152⟩⟩)))))
theorem mz_10_m97 : im_fM im_Ts mx_nw mm_tb mx_R10 (1, 97, 126, 1) := fun y pc len v h => Or.inr (Or.inr (Or.inr (Or.inr (Or.inr (Or.inr ⟨im_m126, rfl, mm_a126, Or.inl ⟨rfl, 97, rfl, by rw [h]; exact im_in 1179 (by decide +kernel) rfl, mm_i126, mm_s126⟩⟩)))))
theorem mz_10_ok : im_zo im_Ts mx_nw mx_cl mx_rA mx_nf mm_tb mx_R10 mz_10 := ⟨List.forall_mem_cons.mpr ⟨mz_10_f9, List.forall_mem_cons.mpr ⟨mz_10_f15, List.forall_mem_cons.mpr ⟨mz_10_f18, List.forall_mem_cons.mpr ⟨mz_10_f21, List.forall_mem_cons.mpr ⟨mz_10_f24, List.forall_mem_cons.mpr ⟨mz_10_f27, List.forall_mem_cons.mpr ⟨mz_10_f31, List.forall_mem_cons.mpr ⟨mz_10_f35, List.forall_mem_cons.mpr ⟨mz_10_f74, List.forall_mem_cons.mpr ⟨mz_10_f77, List.forall_mem_cons.mpr ⟨mz_10_f80, fun _ h => absurd h List.not_mem_nil⟩⟩⟩⟩⟩⟩⟩⟩⟩⟩⟩, fun _ h => absurd h List.not_mem_nil, fun _ h => absurd h List.not_mem_nil, List.forall_mem_cons.mpr ⟨mz_10_i87, fun _ h => absurd h List.not_mem_nil⟩, fun _ h => absurd h List.not_mem_nil, fun _ h => absurd h List.not_mem_nil, List.forall_mem_cons.mpr ⟨mz_10_m3, List.forall_mem_cons.mpr ⟨mz_10_m38, List.forall_mem_cons.mpr ⟨mz_10_m42, List.forall_mem_cons.mpr ⟨mz_10_m48, List.forall_mem_cons.mpr ⟨mz_10_m52, List.forall_mem_cons.mpr ⟨mz_10_m56, List.forall_mem_cons.mpr ⟨mz_10_m60, List.forall_mem_cons.mpr ⟨mz_10_m64, List.forall_mem_cons.mpr ⟨mz_10_m67, List.forall_mem_cons.mpr ⟨mz_10_m71, List.forall_mem_cons.mpr ⟨mz_10_m83, List.forall_mem_cons.mpr ⟨mz_10_m88, List.forall_mem_cons.mpr ⟨mz_10_m91, List.forall_mem_cons.mpr ⟨mz_10_m94, List.forall_mem_cons.mpr ⟨mz_10_m97, fun _ h => absurd h List.not_mem_nil⟩⟩⟩⟩⟩⟩⟩⟩⟩⟩⟩⟩⟩⟩⟩⟩
def mz_11 : im_Z := ([(9, 11, 1, 1), (15, 11, 3, 1), (19, 11, 5, 1), (22, 11, 6, 1), (25, 11, 0, 1), (29, 11, 2, 0), (33, 11, 4, 0), (42, 3, 3, 2), (51, 3, 4, 2), (57, 11, 7, 0)], [], [], [(67, 1000000)], [(72, 186), (110, 47980), (120, 10), (122, 127)], [], [(0, 3, 0, 0), (1, 36, 118, 3), (1, 47, 159, 1), (1, 54, 168, 1), (1, 60, 124, 1), (1, 64, 160, 1), (1, 68, 130, 1), (1, 74, 163, 1), (1, 77, 162, 1), (1, 80, 129, 1), (1, 83, 165, 1), (1, 86, 166, 1), (1, 90, 161, 2), (1, 94, 167, 1), (7, 97, 26, 1), (1, 101, 132, 2), (10, 105, 0, 0), (1, 112, 164, 2), (12, 116, 0, 0)])
theorem mz_11_f9 : im_fF im_Ts mx_cl mx_R11 (9, 11, 1, 1) := ⟨(mx_R11, mx_T11, 8), rfl, by decide, im_in 630 (by decide +kernel) rfl, fun _ => ⟨by decide, fun _ => rfl⟩⟩
theorem mz_11_f15 : im_fF im_Ts mx_cl mx_R11 (15, 11, 3, 1) := ⟨(mx_R11, mx_T11, 8), rfl, by decide, im_in 632 (by decide +kernel) rfl, fun _ => ⟨by decide, fun _ => rfl⟩⟩
theorem mz_11_f19 : im_fF im_Ts mx_cl mx_R11 (19, 11, 5, 1) := ⟨(mx_R11, mx_T11, 8), rfl, by decide, im_in 634 (by decide +kernel) rfl, fun _ => ⟨by decide, fun _ => rfl⟩⟩
theorem mz_11_f22 : im_fF im_Ts mx_cl mx_R11 (22, 11, 6, 1) := ⟨(mx_R11, mx_T11, 8), rfl, by decide, im_in 635 (by decide +kernel) rfl, fun _ => ⟨by decide, fun _ => rfl⟩⟩
theorem mz_11_f25 : im_fF im_Ts mx_cl mx_R11 (25, 11, 0, 1) := ⟨(mx_R11, mx_T11, 8), rfl, by decide, im_in 629 (by decide +kernel) rfl, fun _ => ⟨by decide, fun _ => rfl⟩⟩
theorem mz_11_f29 : im_fF im_Ts mx_cl mx_R11 (29, 11, 2, 0) := ⟨(mx_R11, mx_T11, 8), rfl, by decide, im_in 631 (by decide +kernel) rfl, fun h => absurd h (by decide)⟩
theorem mz_11_f33 : im_fF im_Ts mx_cl mx_R11 (33, 11, 4, 0) := ⟨(mx_R11, mx_T11, 8), rfl, by decide, im_in 633 (by decide +kernel) rfl, fun h => absurd h (by decide)⟩
theorem mz_11_f42 : im_fF im_Ts mx_cl mx_R11 (42, 3, 3, 2) := ⟨(mx_R3, mx_T3, 9), rfl, by decide, im_in 362 (by decide +kernel) rfl, fun _ => ⟨by decide, fun h => absurd h (by decide)⟩⟩
theorem mz_11_f51 : im_fF im_Ts mx_cl mx_R11 (51, 3, 4, 2) := ⟨(mx_R3, mx_T3, 9), rfl, by decide, im_in 365 (by decide +kernel) rfl, fun _ => ⟨by decide, fun h => absurd h (by decide)⟩⟩
theorem mz_11_f57 : im_fF im_Ts mx_cl mx_R11 (57, 11, 7, 0) := ⟨(mx_R11, mx_T11, 8), rfl, by decide, im_in 636 (by decide +kernel) rfl, fun h => absurd h (by decide)⟩
theorem mz_11_i67 : im_fI im_Ts mx_R11 (67, 1000000) := im_in 993 (by decide +kernel) rfl
theorem mz_11_l72 : im_fL im_Ts mx_R11 (72, 186) := im_in 987 (by decide +kernel) rfl
theorem mz_11_l110 : im_fL im_Ts mx_R11 (110, 47980) := im_in 1004 (by decide +kernel) rfl
theorem mz_11_l120 : im_fL im_Ts mx_R11 (120, 10) := im_in 982 (by decide +kernel) rfl
theorem mz_11_l122 : im_fL im_Ts mx_R11 (122, 127) := im_in 992 (by decide +kernel) rfl
theorem mz_11_m3 : im_fM im_Ts mx_nw mm_tb mx_R11 (0, 3, 0, 0) := fun y pc len v h => Or.inl ⟨rfl, 3, rfl, by rw [h]; exact im_in 628 (by decide +kernel) rfl⟩
theorem mz_11_m36 : im_fM im_Ts mx_nw mm_tb mx_R11 (1, 36, 118, 3) := fun y pc len v h => Or.inr (Or.inr (Or.inr (Or.inr (Or.inr (Or.inr ⟨im_m118, rfl, mm_a118, Or.inl ⟨rfl, 36, rfl, by rw [h]; exact im_in 937 (by decide +kernel) rfl, mm_i118, mm_s118⟩⟩)))))
theorem mz_11_m47 : im_fM im_Ts mx_nw mm_tb mx_R11 (1, 47, 159, 1) := fun y pc len v h => Or.inr (Or.inr (Or.inr (Or.inr (Or.inr (Or.inr ⟨im_m159, rfl, mm_a159, Or.inl ⟨rfl, 47, rfl, by rw [h]; exact im_in 941 (by decide +kernel) rfl, mm_i159, mm_s159⟩⟩)))))
theorem mz_11_m54 : im_fM im_Ts mx_nw mm_tb mx_R11 (1, 54, 168, 1) := fun y pc len v h => Or.inr (Or.inr (Or.inr (Or.inr (Or.inr (Or.inr ⟨im_m168, rfl, mm_a168, Or.inl ⟨rfl, 54, rfl, by rw [h]; exact im_in 971 (by decide +kernel) rfl, mm_i168, mm_s168⟩⟩)))))
theorem mz_11_m60 : im_fM im_Ts mx_nw mm_tb mx_R11 (1, 60, 124, 1) := fun y pc len v h => Or.inr (Or.inr (Or.inr (Or.inr (Or.inr (Or.inr ⟨im_m124, rfl, mm_a124, Or.inl ⟨rfl, 60, rfl, by rw [h]; exact im_in 945 (by decide +kernel) rfl, mm_i124, mm_s124⟩⟩)))))
theorem mz_11_m64 : im_fM im_Ts mx_nw mm_tb mx_R11 (1, 64, 160, 1) := fun y pc len v h => Or.inr (Or.inr (Or.inr (Or.inr (Or.inr (Or.inr ⟨im_m160, rfl, mm_a160, Or.inl ⟨rfl, 64, rfl, by rw [h]; exact im_in 949 (by decide +kernel) rfl, mm_i160, mm_s160⟩⟩)))))
theorem mz_11_m68 : im_fM im_Ts mx_nw mm_tb mx_R11 (1, 68, 130, 1) := fun y pc len v h => Or.inr (Or.inr (Or.inr (Or.inr (Or.inr (Or.inr ⟨im_m130, rfl, mm_a130, Or.inl ⟨rfl, 68, rfl, by rw [h]; exact im_in 953 (by decide +kernel) rfl, mm_i130, mm_s130⟩⟩)))))
theorem mz_11_m74 : im_fM im_Ts mx_nw mm_tb mx_R11 (1, 74, 163, 1) := fun y pc len v h => Or.inr (Or.inr (Or.inr (Or.inr (Or.inr (Or.inr ⟨im_m163, rfl, mm_a163, Or.inl ⟨rfl, 74, rfl, by rw [h]; exact im_in 994 (by decide +kernel) rfl, mm_i163, mm_s163⟩⟩)))))
theorem mz_11_m77 : im_fM im_Ts mx_nw mm_tb mx_R11 (1, 77, 162, 1) := fun y pc len v h => Or.inr (Or.inr (Or.inr (Or.inr (Or.inr (Or.inr ⟨im_m162, rfl, mm_a162, Or.inl ⟨rfl, 77, rfl, by rw [h]; exact im_in 1009 (by decide +kernel) rfl, mm_i162, mm_s162⟩⟩)))))
theorem mz_11_m80 : im_fM im_Ts mx_nw mm_tb mx_R11 (1, 80, 129, 1) := fun y pc len v h => Or.inr (Or.inr (Or.inr (Or.inr (Or.inr (Or.inr ⟨im_m129, rfl, mm_a129, Or.inl ⟨rfl, 80, rfl, by rw [h]; exact im_in 962 (by decide +kernel) rfl, mm_i129, mm_s129⟩⟩)))))
theorem mz_11_m83 : im_fM im_Ts mx_nw mm_tb mx_R11 (1, 83, 165, 1) := fun y pc len v h => Or.inr (Or.inr (Or.inr (Or.inr (Or.inr (Or.inr ⟨im_m165, rfl, mm_a165, Or.inl ⟨rfl, 83, rfl, by rw [h]; exact im_in 967 (by decide +kernel) rfl, mm_i165, mm_s165⟩⟩)))))
theorem mz_11_m86 : im_fM im_Ts mx_nw mm_tb mx_R11 (1, 86, 166, 1) := fun y pc len v h => Or.inr (Or.inr (Or.inr (Or.inr (Or.inr (Or.inr ⟨im_m166, rfl, mm_a166, Or.inl ⟨rfl, 86, rfl, by rw [h]; exact im_in 975 (by decide +kernel) rfl, mm_i166, mm_s166⟩⟩)))))
theorem mz_11_m90 : im_fM im_Ts mx_nw mm_tb mx_R11 (1, 90, 161, 2) := fun y pc len v h => Or.inr (Or.inr (Or.inr (Or.inr (Or.inr (Or.inr ⟨im_m161, rfl, mm_a161, Or.inl ⟨rfl, 90, rfl, by rw [h]; exact im_in 983 (by decide +kernel) rfl, mm_i161, mm_s161⟩⟩)))))
theorem mz_11_m94 : im_fM im_Ts mx_nw mm_tb mx_R11 (1, 94, 167, 1) := fun y pc len v h => Or.inr (Or.inr (Or.inr (Or.inr (Or.inr (Or.inr ⟨im_m167, rfl, mm_a167, Or.inl ⟨rfl, 94, rfl, by rw [h]; exact im_in 988 (by decide +kernel) rfl, mm_i167, mm_s167⟩⟩)))))
theorem mz_11_m97 : im_fM im_Ts mx_nw mm_tb mx_R11 (7, 97, 26, 1) := fun y pc len v h => Or.inr (Or.inr (Or.inr (Or.inr (Or.inr (Or.inr ⟨im_m26, rfl, mm_a26, Or.inr (Or.inr (Or.inr (Or.inr ⟨rfl, 97, mx_R0, rfl, by rw [h]; exact List.mem_of_getElem? (i := 7) rfl, mm_t26⟩)))⟩)))))
theorem mz_11_m101 : im_fM im_Ts mx_nw mm_tb mx_R11 (1, 101, 132, 2) := fun y pc len v h => Or.inr (Or.inr (Or.inr (Or.inr (Or.inr (Or.inr ⟨im_m132, rfl, mm_a132, Or.inl ⟨rfl, 101, rfl, by rw [h]; exact im_in 999 (by decide +kernel) rfl, mm_i132, mm_s132⟩⟩)))))
theorem mz_11_m105 : im_fM im_Ts mx_nw mm_tb mx_R11 (10, 105, 0, 0) := fun y pc len v h => Or.inr (Or.inr (Or.inr (Or.inl ⟨rfl, 105, rfl, by rw [h]; exact im_in 998 (by decide +kernel) rfl, im_in 307 (by decide +kernel) rfl, im_in 308 (by decide +kernel) rfl, im_in 161 (by decide +kernel) rfl⟩)))
theorem mz_11_m112 : im_fM im_Ts mx_nw mm_tb mx_R11 (1, 112, 164, 2) := fun y pc len v h => Or.inr (Or.inr (Or.inr (Or.inr (Or.inr (Or.inr ⟨im_m164, rfl, mm_a164, Or.inl ⟨rfl, 112, rfl, by rw [h]; exact im_in 1005 (by decide +kernel) rfl, mm_i164, mm_s164⟩⟩)))))
theorem mz_11_m116 : im_fM im_Ts mx_nw mm_tb mx_R11 (12, 116, 0, 0) := fun y pc len v h => Or.inr (Or.inr (Or.inr (Or.inr (Or.inr (Or.inl ⟨rfl, 116, rfl, by rw [h]; exact im_in 979 (by decide +kernel) rfl, im_in 980 (by decide +kernel) rfl, im_in 981 (by decide +kernel) rfl, im_in 161 (by decide +kernel) rfl⟩)))))
theorem mz_11_ok : im_zo im_Ts mx_nw mx_cl mx_rA mx_nf mm_tb mx_R11 mz_11 := ⟨List.forall_mem_cons.mpr ⟨mz_11_f9, List.forall_mem_cons.mpr ⟨mz_11_f15, List.forall_mem_cons.mpr ⟨mz_11_f19, List.forall_mem_cons.mpr ⟨mz_11_f22, List.forall_mem_cons.mpr ⟨mz_11_f25, List.forall_mem_cons.mpr ⟨mz_11_f29, List.forall_mem_cons.mpr ⟨mz_11_f33, List.forall_mem_cons.mpr ⟨mz_11_f42, List.forall_mem_cons.mpr ⟨mz_11_f51, List.forall_mem_cons.mpr ⟨mz_11_f57, fun _ h => absurd h List.not_mem_nil⟩⟩⟩⟩⟩⟩⟩⟩⟩⟩, fun _ h => absurd h List.not_mem_nil, fun _ h => absurd h List.not_mem_nil, List.forall_mem_cons.mpr ⟨mz_11_i67, fun _ h => absurd h List.not_mem_nil⟩, List.forall_mem_cons.mpr ⟨mz_11_l72, List.forall_mem_cons.mpr ⟨mz_11_l110, List.forall_mem_cons.mpr ⟨mz_11_l120, List.forall_mem_cons.mpr ⟨mz_11_l122, fun _ h => absurd h List.not_mem_nil⟩⟩⟩⟩, fun _ h => absurd h List.not_mem_nil, List.forall_mem_cons.mpr ⟨mz_11_m3, List.forall_mem_cons.mpr ⟨mz_11_m36, List.forall_mem_cons.mpr ⟨mz_11_m47, List.forall_mem_cons.mpr ⟨mz_11_m54, List.forall_mem_cons.mpr ⟨mz_11_m60, List.forall_mem_cons.mpr ⟨mz_11_m64, List.forall_mem_cons.mpr ⟨mz_11_m68, List.forall_mem_cons.mpr ⟨mz_11_m74, List.forall_mem_cons.mpr ⟨mz_11_m77, List.forall_mem_cons.mpr ⟨mz_11_m80, List.forall_mem_cons.mpr ⟨mz_11_m83, List.forall_mem_cons.mpr ⟨mz_11_m86, List.forall_mem_cons.mpr ⟨mz_11_m90, List.forall_mem_cons.mpr ⟨mz_11_m94, List.forall_mem_cons.mpr ⟨mz_11_m97, List.forall_mem_cons.mpr ⟨mz_11_m101, List.forall_mem_cons.mpr ⟨mz_11_m105, List.forall_mem_cons.mpr ⟨mz_11_m112, List.forall_mem_cons.mpr ⟨mz_11_m116, fun _ h => absurd h List.not_mem_nil⟩⟩⟩⟩⟩⟩⟩⟩⟩⟩⟩⟩⟩⟩⟩⟩⟩⟩⟩⟩
def mz_12 : im_Z := ([(7, 12, 0, 1), (13, 12, 2, 1), (16, 12, 3, 1), (20, 12, 4, 1), (23, 12, 5, 1), (26, 12, 6, 1), (29, 12, 7, 1), (32, 12, 8, 1), (35, 12, 9, 1), (38, 12, 10, 1), (41, 12, 11, 1), (44, 12, 12, 1), (47, 12, 20, 1), (50, 12, 22, 1), (53, 12, 23, 1), (56, 12, 24, 1), (59, 12, 26, 1), (62, 12, 28, 1), (65, 12, 30, 1), (68, 12, 31, 1), (71, 12, 39, 1), (74, 12, 40, 1), (77, 12, 41, 1), (80, 12, 43, 1), (83, 12, 45, 1), (86, 12, 46, 1), (89, 12, 47, 1), (92, 12, 48, 1), (95, 12, 49, 1), (98, 12, 50, 1), (101, 12, 53, 1), (104, 12, 54, 1), (107, 12, 55, 1), (110, 12, 56, 1), (113, 12, 57, 1), (116, 12, 58, 1), (120, 12, 60, 1), (123, 12, 61, 1), (126, 12, 62, 1), (129, 12, 63, 1), (132, 12, 65, 1), (135, 12, 67, 1), (138, 12, 69, 1), (141, 12, 71, 1), (149, 12, 14, 0), (153, 12, 1, 0), (156, 12, 17, 0), (174, 12, 15, 0), (181, 12, 16, 0), (195, 12, 18, 0), (198, 12, 19, 0), (201, 12, 21, 0), (215, 12, 25, 0), (263, 12, 13, 0), (266, 12, 27, 0), (318, 12, 29, 0), (352, 12, 32, 0), (355, 12, 33, 0), (358, 12, 34, 0), (361, 12, 35, 0), (364, 12, 36, 0), (367, 12, 37, 0), (370, 12, 38, 0), (373, 12, 42, 0), (376, 12, 44, 0), (379, 12, 51, 0), (382, 12, 52, 0), (385, 12, 59, 0), (418, 12, 64, 0), (449, 12, 66, 0), (481, 12, 68, 0), (587, 12, 70, 0), (593, 12, 72, 0), (600, 12, 73, 0)], [], [], [(119, 50000)], [(147, 128), (177, 10), (179, 48), (241, 2), (388, (-1)), (390, 2305843009213693952), (392, 4611686018427387904), (394, 4096), (396, 4294967295), (416, 65535), (452, 2500), (463, 1729382256910270464), (468, 1152921504606846976), (470, 3), (476, 576460752303423488), (609, 1152921504606847017), (611, 1152921504606847020), (613, 1152921504606847069), (615, 127), (617, (-576460752303423489))], [], [(0, 1, 0, 0), (1, 144, 229, 0), (1, 160, 172, 0), (5, 164, 173, 1), (5, 168, 174, 1), (5, 171, 175, 1), (1, 184, 176, 2), (1, 188, 177, 0), (1, 191, 178, 1), (1, 204, 180, 0), (1, 207, 181, 2), (5, 211, 171, 4), (1, 218, 187, 1), (1, 222, 179, 0), (1, 225, 185, 2), (1, 228, 183, 0), (5, 231, 184, 2), (1, 235, 182, 2), (1, 238, 188, 0), (1, 243, 186, 2), (1, 247, 189, 2), (1, 251, 190, 1), (1, 254, 191, 1), (1, 257, 192, 2), (1, 260, 195, 0), (1, 269, 196, 1), (1, 272, 197, 0), (1, 275, 193, 1), (1, 279, 194, 0), (1, 282, 198, 0), (5, 285, 170, 3), (1, 289, 199, 1), (1, 292, 203, 4), (1, 296, 204, 0), (1, 299, 205, 1), (1, 302, 206, 1), (1, 305, 211, 2), (1, 309, 212, 1), (1, 312, 215, 1), (1, 315, 214, 1), (1, 321, 217, 1), (1, 324, 216, 1), (1, 327, 213, 0), (1, 330, 218, 0), (1, 333, 220, 2), (1, 337, 221, 1), (1, 340, 222, 1), (1, 343, 224, 2), (1, 346, 226, 2), (1, 349, 227, 3), (5, 398, 232, 1), (5, 402, 233, 1), (5, 405, 234, 2), (5, 409, 230, 1), (5, 413, 231, 1), (1, 421, 241, 1), (1, 424, 242, 1), (1, 427, 237, 1), (1, 431, 238, 1), (1, 434, 236, 2), (1, 438, 240, 2), (1, 442, 243, 2), (1, 446, 239, 1), (1, 454, 246, 2), (1, 457, 244, 2), (1, 460, 245, 2), (5, 465, 250, 2), (5, 472, 248, 3), (1, 478, 249, 1), (1, 484, 247, 2), (1, 487, 252, 5), (1, 491, 256, 1), (5, 494, 254, 1), (1, 497, 255, 3), (1, 501, 258, 3), (1, 505, 259, 1), (1, 508, 257, 0), (1, 512, 253, 2), (1, 516, 261, 1), (1, 519, 262, 1), (1, 522, 251, 1), (5, 525, 235, 1), (1, 529, 260, 1), (1, 532, 266, 3), (1, 536, 263, 1), (1, 539, 264, 1), (1, 542, 265, 1), (1, 545, 268, 1), (1, 548, 269, 1), (1, 551, 270, 1), (1, 554, 267, 3), (1, 557, 273, 0), (1, 560, 274, 0), (1, 563, 271, 0), (1, 566, 272, 1), (1, 569, 279, 1), (1, 572, 278, 1), (1, 575, 280, 1), (1, 578, 281, 0), (1, 581, 283, 1), (1, 584, 284, 1), (1, 590, 286, 1), (1, 596, 287, 1), (1, 603, 290, 1), (1, 606, 288, 1), (1, 619, 292, 1), (1, 622, 289, 1), (1, 625, 291, 1), (1, 628, 293, 1), (1, 631, 295, 0), (1, 634, 294, 1), (1, 637, 299, 1), (5, 640, 301, 1)])
theorem mz_12_f7 : im_fF im_Ts mx_cl mx_R12 (7, 12, 0, 1) := ⟨(mx_R12, mx_T12, 74), rfl, by decide, im_in 1403 (by decide +kernel) rfl, fun _ => ⟨by decide, fun _ => rfl⟩⟩
theorem mz_12_f13 : im_fF im_Ts mx_cl mx_R12 (13, 12, 2, 1) := ⟨(mx_R12, mx_T12, 74), rfl, by decide, im_in 1405 (by decide +kernel) rfl, fun _ => ⟨by decide, fun _ => rfl⟩⟩
theorem mz_12_f16 : im_fF im_Ts mx_cl mx_R12 (16, 12, 3, 1) := ⟨(mx_R12, mx_T12, 74), rfl, by decide, im_in 1406 (by decide +kernel) rfl, fun _ => ⟨by decide, fun _ => rfl⟩⟩
theorem mz_12_f20 : im_fF im_Ts mx_cl mx_R12 (20, 12, 4, 1) := ⟨(mx_R12, mx_T12, 74), rfl, by decide, im_in 1407 (by decide +kernel) rfl, fun _ => ⟨by decide, fun _ => rfl⟩⟩
theorem mz_12_f23 : im_fF im_Ts mx_cl mx_R12 (23, 12, 5, 1) := ⟨(mx_R12, mx_T12, 74), rfl, by decide, im_in 1408 (by decide +kernel) rfl, fun _ => ⟨by decide, fun _ => rfl⟩⟩
theorem mz_12_f26 : im_fF im_Ts mx_cl mx_R12 (26, 12, 6, 1) := ⟨(mx_R12, mx_T12, 74), rfl, by decide, im_in 1409 (by decide +kernel) rfl, fun _ => ⟨by decide, fun _ => rfl⟩⟩
theorem mz_12_f29 : im_fF im_Ts mx_cl mx_R12 (29, 12, 7, 1) := ⟨(mx_R12, mx_T12, 74), rfl, by decide, im_in 1410 (by decide +kernel) rfl, fun _ => ⟨by decide, fun _ => rfl⟩⟩
theorem mz_12_f32 : im_fF im_Ts mx_cl mx_R12 (32, 12, 8, 1) := ⟨(mx_R12, mx_T12, 74), rfl, by decide, im_in 1411 (by decide +kernel) rfl, fun _ => ⟨by decide, fun _ => rfl⟩⟩
theorem mz_12_f35 : im_fF im_Ts mx_cl mx_R12 (35, 12, 9, 1) := ⟨(mx_R12, mx_T12, 74), rfl, by decide, im_in 1412 (by decide +kernel) rfl, fun _ => ⟨by decide, fun _ => rfl⟩⟩
theorem mz_12_f38 : im_fF im_Ts mx_cl mx_R12 (38, 12, 10, 1) := ⟨(mx_R12, mx_T12, 74), rfl, by decide, im_in 1413 (by decide +kernel) rfl, fun _ => ⟨by decide, fun _ => rfl⟩⟩
theorem mz_12_f41 : im_fF im_Ts mx_cl mx_R12 (41, 12, 11, 1) := ⟨(mx_R12, mx_T12, 74), rfl, by decide, im_in 1414 (by decide +kernel) rfl, fun _ => ⟨by decide, fun _ => rfl⟩⟩
theorem mz_12_f44 : im_fF im_Ts mx_cl mx_R12 (44, 12, 12, 1) := ⟨(mx_R12, mx_T12, 74), rfl, by decide, im_in 1415 (by decide +kernel) rfl, fun _ => ⟨by decide, fun _ => rfl⟩⟩
theorem mz_12_f47 : im_fF im_Ts mx_cl mx_R12 (47, 12, 20, 1) := ⟨(mx_R12, mx_T12, 74), rfl, by decide, im_in 1423 (by decide +kernel) rfl, fun _ => ⟨by decide, fun _ => rfl⟩⟩
theorem mz_12_f50 : im_fF im_Ts mx_cl mx_R12 (50, 12, 22, 1) := ⟨(mx_R12, mx_T12, 74), rfl, by decide, im_in 1425 (by decide +kernel) rfl, fun _ => ⟨by decide, fun _ => rfl⟩⟩
theorem mz_12_f53 : im_fF im_Ts mx_cl mx_R12 (53, 12, 23, 1) := ⟨(mx_R12, mx_T12, 74), rfl, by decide, im_in 1426 (by decide +kernel) rfl, fun _ => ⟨by decide, fun _ => rfl⟩⟩
theorem mz_12_f56 : im_fF im_Ts mx_cl mx_R12 (56, 12, 24, 1) := ⟨(mx_R12, mx_T12, 74), rfl, by decide, im_in 1427 (by decide +kernel) rfl, fun _ => ⟨by decide, fun _ => rfl⟩⟩
theorem mz_12_f59 : im_fF im_Ts mx_cl mx_R12 (59, 12, 26, 1) := ⟨(mx_R12, mx_T12, 74), rfl, by decide, im_in 1429 (by decide +kernel) rfl, fun _ => ⟨by decide, fun _ => rfl⟩⟩
theorem mz_12_f62 : im_fF im_Ts mx_cl mx_R12 (62, 12, 28, 1) := ⟨(mx_R12, mx_T12, 74), rfl, by decide, im_in 1431 (by decide +kernel) rfl, fun _ => ⟨by decide, fun _ => rfl⟩⟩
theorem mz_12_f65 : im_fF im_Ts mx_cl mx_R12 (65, 12, 30, 1) := ⟨(mx_R12, mx_T12, 74), rfl, by decide, im_in 1433 (by decide +kernel) rfl, fun _ => ⟨by decide, fun _ => rfl⟩⟩
theorem mz_12_f68 : im_fF im_Ts mx_cl mx_R12 (68, 12, 31, 1) := ⟨(mx_R12, mx_T12, 74), rfl, by decide, im_in 1434 (by decide +kernel) rfl, fun _ => ⟨by decide, fun _ => rfl⟩⟩
theorem mz_12_f71 : im_fF im_Ts mx_cl mx_R12 (71, 12, 39, 1) := ⟨(mx_R12, mx_T12, 74), rfl, by decide, im_in 1442 (by decide +kernel) rfl, fun _ => ⟨by decide, fun _ => rfl⟩⟩
theorem mz_12_f74 : im_fF im_Ts mx_cl mx_R12 (74, 12, 40, 1) := ⟨(mx_R12, mx_T12, 74), rfl, by decide, im_in 1443 (by decide +kernel) rfl, fun _ => ⟨by decide, fun _ => rfl⟩⟩
theorem mz_12_f77 : im_fF im_Ts mx_cl mx_R12 (77, 12, 41, 1) := ⟨(mx_R12, mx_T12, 74), rfl, by decide, im_in 1444 (by decide +kernel) rfl, fun _ => ⟨by decide, fun _ => rfl⟩⟩
theorem mz_12_f80 : im_fF im_Ts mx_cl mx_R12 (80, 12, 43, 1) := ⟨(mx_R12, mx_T12, 74), rfl, by decide, im_in 1446 (by decide +kernel) rfl, fun _ => ⟨by decide, fun _ => rfl⟩⟩
theorem mz_12_f83 : im_fF im_Ts mx_cl mx_R12 (83, 12, 45, 1) := ⟨(mx_R12, mx_T12, 74), rfl, by decide, im_in 1448 (by decide +kernel) rfl, fun _ => ⟨by decide, fun _ => rfl⟩⟩
theorem mz_12_f86 : im_fF im_Ts mx_cl mx_R12 (86, 12, 46, 1) := ⟨(mx_R12, mx_T12, 74), rfl, by decide, im_in 1449 (by decide +kernel) rfl, fun _ => ⟨by decide, fun _ => rfl⟩⟩
theorem mz_12_f89 : im_fF im_Ts mx_cl mx_R12 (89, 12, 47, 1) := ⟨(mx_R12, mx_T12, 74), rfl, by decide, im_in 1450 (by decide +kernel) rfl, fun _ => ⟨by decide, fun _ => rfl⟩⟩
theorem mz_12_f92 : im_fF im_Ts mx_cl mx_R12 (92, 12, 48, 1) := ⟨(mx_R12, mx_T12, 74), rfl, by decide, im_in 1451 (by decide +kernel) rfl, fun _ => ⟨by decide, fun _ => rfl⟩⟩
theorem mz_12_f95 : im_fF im_Ts mx_cl mx_R12 (95, 12, 49, 1) := ⟨(mx_R12, mx_T12, 74), rfl, by decide, im_in 1452 (by decide +kernel) rfl, fun _ => ⟨by decide, fun _ => rfl⟩⟩
theorem mz_12_f98 : im_fF im_Ts mx_cl mx_R12 (98, 12, 50, 1) := ⟨(mx_R12, mx_T12, 74), rfl, by decide, im_in 1453 (by decide +kernel) rfl, fun _ => ⟨by decide, fun _ => rfl⟩⟩
theorem mz_12_f101 : im_fF im_Ts mx_cl mx_R12 (101, 12, 53, 1) := ⟨(mx_R12, mx_T12, 74), rfl, by decide, im_in 1456 (by decide +kernel) rfl, fun _ => ⟨by decide, fun _ => rfl⟩⟩
theorem mz_12_f104 : im_fF im_Ts mx_cl mx_R12 (104, 12, 54, 1) := ⟨(mx_R12, mx_T12, 74), rfl, by decide, im_in 1457 (by decide +kernel) rfl, fun _ => ⟨by decide, fun _ => rfl⟩⟩
theorem mz_12_f107 : im_fF im_Ts mx_cl mx_R12 (107, 12, 55, 1) := ⟨(mx_R12, mx_T12, 74), rfl, by decide, im_in 1458 (by decide +kernel) rfl, fun _ => ⟨by decide, fun _ => rfl⟩⟩
theorem mz_12_f110 : im_fF im_Ts mx_cl mx_R12 (110, 12, 56, 1) := ⟨(mx_R12, mx_T12, 74), rfl, by decide, im_in 1459 (by decide +kernel) rfl, fun _ => ⟨by decide, fun _ => rfl⟩⟩
theorem mz_12_f113 : im_fF im_Ts mx_cl mx_R12 (113, 12, 57, 1) := ⟨(mx_R12, mx_T12, 74), rfl, by decide, im_in 1460 (by decide +kernel) rfl, fun _ => ⟨by decide, fun _ => rfl⟩⟩
theorem mz_12_f116 : im_fF im_Ts mx_cl mx_R12 (116, 12, 58, 1) := ⟨(mx_R12, mx_T12, 74), rfl, by decide, im_in 1461 (by decide +kernel) rfl, fun _ => ⟨by decide, fun _ => rfl⟩⟩
theorem mz_12_f120 : im_fF im_Ts mx_cl mx_R12 (120, 12, 60, 1) := ⟨(mx_R12, mx_T12, 74), rfl, by decide, im_in 1463 (by decide +kernel) rfl, fun _ => ⟨by decide, fun _ => rfl⟩⟩
theorem mz_12_f123 : im_fF im_Ts mx_cl mx_R12 (123, 12, 61, 1) := ⟨(mx_R12, mx_T12, 74), rfl, by decide, im_in 1464 (by decide +kernel) rfl, fun _ => ⟨by decide, fun _ => rfl⟩⟩
theorem mz_12_f126 : im_fF im_Ts mx_cl mx_R12 (126, 12, 62, 1) := ⟨(mx_R12, mx_T12, 74), rfl, by decide, im_in 1465 (by decide +kernel) rfl, fun _ => ⟨by decide, fun _ => rfl⟩⟩
theorem mz_12_f129 : im_fF im_Ts mx_cl mx_R12 (129, 12, 63, 1) := ⟨(mx_R12, mx_T12, 74), rfl, by decide, im_in 1466 (by decide +kernel) rfl, fun _ => ⟨by decide, fun _ => rfl⟩⟩
theorem mz_12_f132 : im_fF im_Ts mx_cl mx_R12 (132, 12, 65, 1) := ⟨(mx_R12, mx_T12, 74), rfl, by decide, im_in 1468 (by decide +kernel) rfl, fun _ => ⟨by decide, fun _ => rfl⟩⟩
theorem mz_12_f135 : im_fF im_Ts mx_cl mx_R12 (135, 12, 67, 1) := ⟨(mx_R12, mx_T12, 74), rfl, by decide, im_in 1470 (by decide +kernel) rfl, fun _ => ⟨by decide, fun _ => rfl⟩⟩
theorem mz_12_f138 : im_fF im_Ts mx_cl mx_R12 (138, 12, 69, 1) := ⟨(mx_R12, mx_T12, 74), rfl, by decide, im_in 1472 (by decide +kernel) rfl, fun _ => ⟨by decide, fun _ => rfl⟩⟩
theorem mz_12_f141 : im_fF im_Ts mx_cl mx_R12 (141, 12, 71, 1) := ⟨(mx_R12, mx_T12, 74), rfl, by decide, im_in 1474 (by decide +kernel) rfl, fun _ => ⟨by decide, fun _ => rfl⟩⟩
theorem mz_12_f149 : im_fF im_Ts mx_cl mx_R12 (149, 12, 14, 0) := ⟨(mx_R12, mx_T12, 74), rfl, by decide, im_in 1417 (by decide +kernel) rfl, fun h => absurd h (by decide)⟩
theorem mz_12_f153 : im_fF im_Ts mx_cl mx_R12 (153, 12, 1, 0) := ⟨(mx_R12, mx_T12, 74), rfl, by decide, im_in 1404 (by decide +kernel) rfl, fun h => absurd h (by decide)⟩
theorem mz_12_f156 : im_fF im_Ts mx_cl mx_R12 (156, 12, 17, 0) := ⟨(mx_R12, mx_T12, 74), rfl, by decide, im_in 1420 (by decide +kernel) rfl, fun h => absurd h (by decide)⟩
theorem mz_12_f174 : im_fF im_Ts mx_cl mx_R12 (174, 12, 15, 0) := ⟨(mx_R12, mx_T12, 74), rfl, by decide, im_in 1418 (by decide +kernel) rfl, fun h => absurd h (by decide)⟩
theorem mz_12_f181 : im_fF im_Ts mx_cl mx_R12 (181, 12, 16, 0) := ⟨(mx_R12, mx_T12, 74), rfl, by decide, im_in 1419 (by decide +kernel) rfl, fun h => absurd h (by decide)⟩
theorem mz_12_f195 : im_fF im_Ts mx_cl mx_R12 (195, 12, 18, 0) := ⟨(mx_R12, mx_T12, 74), rfl, by decide, im_in 1421 (by decide +kernel) rfl, fun h => absurd h (by decide)⟩
theorem mz_12_f198 : im_fF im_Ts mx_cl mx_R12 (198, 12, 19, 0) := ⟨(mx_R12, mx_T12, 74), rfl, by decide, im_in 1422 (by decide +kernel) rfl, fun h => absurd h (by decide)⟩
theorem mz_12_f201 : im_fF im_Ts mx_cl mx_R12 (201, 12, 21, 0) := ⟨(mx_R12, mx_T12, 74), rfl, by decide, im_in 1424 (by decide +kernel) rfl, fun h => absurd h (by decide)⟩
theorem mz_12_f215 : im_fF im_Ts mx_cl mx_R12 (215, 12, 25, 0) := ⟨(mx_R12, mx_T12, 74), rfl, by decide, im_in 1428 (by decide +kernel) rfl, fun h => absurd h (by decide)⟩
theorem mz_12_f263 : im_fF im_Ts mx_cl mx_R12 (263, 12, 13, 0) := ⟨(mx_R12, mx_T12, 74), rfl, by decide, im_in 1416 (by decide +kernel) rfl, fun h => absurd h (by decide)⟩
theorem mz_12_f266 : im_fF im_Ts mx_cl mx_R12 (266, 12, 27, 0) := ⟨(mx_R12, mx_T12, 74), rfl, by decide, im_in 1430 (by decide +kernel) rfl, fun h => absurd h (by decide)⟩
theorem mz_12_f318 : im_fF im_Ts mx_cl mx_R12 (318, 12, 29, 0) := ⟨(mx_R12, mx_T12, 74), rfl, by decide, im_in 1432 (by decide +kernel) rfl, fun h => absurd h (by decide)⟩
theorem mz_12_f352 : im_fF im_Ts mx_cl mx_R12 (352, 12, 32, 0) := ⟨(mx_R12, mx_T12, 74), rfl, by decide, im_in 1435 (by decide +kernel) rfl, fun h => absurd h (by decide)⟩
theorem mz_12_f355 : im_fF im_Ts mx_cl mx_R12 (355, 12, 33, 0) := ⟨(mx_R12, mx_T12, 74), rfl, by decide, im_in 1436 (by decide +kernel) rfl, fun h => absurd h (by decide)⟩
theorem mz_12_f358 : im_fF im_Ts mx_cl mx_R12 (358, 12, 34, 0) := ⟨(mx_R12, mx_T12, 74), rfl, by decide, im_in 1437 (by decide +kernel) rfl, fun h => absurd h (by decide)⟩
theorem mz_12_f361 : im_fF im_Ts mx_cl mx_R12 (361, 12, 35, 0) := ⟨(mx_R12, mx_T12, 74), rfl, by decide, im_in 1438 (by decide +kernel) rfl, fun h => absurd h (by decide)⟩
theorem mz_12_f364 : im_fF im_Ts mx_cl mx_R12 (364, 12, 36, 0) := ⟨(mx_R12, mx_T12, 74), rfl, by decide, im_in 1439 (by decide +kernel) rfl, fun h => absurd h (by decide)⟩
theorem mz_12_f367 : im_fF im_Ts mx_cl mx_R12 (367, 12, 37, 0) := ⟨(mx_R12, mx_T12, 74), rfl, by decide, im_in 1440 (by decide +kernel) rfl, fun h => absurd h (by decide)⟩
theorem mz_12_f370 : im_fF im_Ts mx_cl mx_R12 (370, 12, 38, 0) := ⟨(mx_R12, mx_T12, 74), rfl, by decide, im_in 1441 (by decide +kernel) rfl, fun h => absurd h (by decide)⟩
theorem mz_12_f373 : im_fF im_Ts mx_cl mx_R12 (373, 12, 42, 0) := ⟨(mx_R12, mx_T12, 74), rfl, by decide, im_in 1445 (by decide +kernel) rfl, fun h => absurd h (by decide)⟩
theorem mz_12_f376 : im_fF im_Ts mx_cl mx_R12 (376, 12, 44, 0) := ⟨(mx_R12, mx_T12, 74), rfl, by decide, im_in 1447 (by decide +kernel) rfl, fun h => absurd h (by decide)⟩
theorem mz_12_f379 : im_fF im_Ts mx_cl mx_R12 (379, 12, 51, 0) := ⟨(mx_R12, mx_T12, 74), rfl, by decide, im_in 1454 (by decide +kernel) rfl, fun h => absurd h (by decide)⟩
theorem mz_12_f382 : im_fF im_Ts mx_cl mx_R12 (382, 12, 52, 0) := ⟨(mx_R12, mx_T12, 74), rfl, by decide, im_in 1455 (by decide +kernel) rfl, fun h => absurd h (by decide)⟩
theorem mz_12_f385 : im_fF im_Ts mx_cl mx_R12 (385, 12, 59, 0) := ⟨(mx_R12, mx_T12, 74), rfl, by decide, im_in 1462 (by decide +kernel) rfl, fun h => absurd h (by decide)⟩
theorem mz_12_f418 : im_fF im_Ts mx_cl mx_R12 (418, 12, 64, 0) := ⟨(mx_R12, mx_T12, 74), rfl, by decide, im_in 1467 (by decide +kernel) rfl, fun h => absurd h (by decide)⟩
theorem mz_12_f449 : im_fF im_Ts mx_cl mx_R12 (449, 12, 66, 0) := ⟨(mx_R12, mx_T12, 74), rfl, by decide, im_in 1469 (by decide +kernel) rfl, fun h => absurd h (by decide)⟩
theorem mz_12_f481 : im_fF im_Ts mx_cl mx_R12 (481, 12, 68, 0) := ⟨(mx_R12, mx_T12, 74), rfl, by decide, im_in 1471 (by decide +kernel) rfl, fun h => absurd h (by decide)⟩
theorem mz_12_f587 : im_fF im_Ts mx_cl mx_R12 (587, 12, 70, 0) := ⟨(mx_R12, mx_T12, 74), rfl, by decide, im_in 1473 (by decide +kernel) rfl, fun h => absurd h (by decide)⟩
theorem mz_12_f593 : im_fF im_Ts mx_cl mx_R12 (593, 12, 72, 0) := ⟨(mx_R12, mx_T12, 74), rfl, by decide, im_in 1475 (by decide +kernel) rfl, fun h => absurd h (by decide)⟩
theorem mz_12_f600 : im_fF im_Ts mx_cl mx_R12 (600, 12, 73, 0) := ⟨(mx_R12, mx_T12, 74), rfl, by decide, im_in 1476 (by decide +kernel) rfl, fun h => absurd h (by decide)⟩
theorem mz_12_i119 : im_fI im_Ts mx_R12 (119, 50000) := im_in 1397 (by decide +kernel) rfl
theorem mz_12_l147 : im_fL im_Ts mx_R12 (147, 128) := im_in 1666 (by decide +kernel) rfl
theorem mz_12_l177 : im_fL im_Ts mx_R12 (177, 10) := im_in 1671 (by decide +kernel) rfl
theorem mz_12_l179 : im_fL im_Ts mx_R12 (179, 48) := im_in 1672 (by decide +kernel) rfl
theorem mz_12_l241 : im_fL im_Ts mx_R12 (241, 2) := im_in 1735 (by decide +kernel) rfl
theorem mz_12_l388 : im_fL im_Ts mx_R12 (388, (-1)) := im_in 1402 (by decide +kernel) rfl
theorem mz_12_l390 : im_fL im_Ts mx_R12 (390, 2305843009213693952) := im_in 1904 (by decide +kernel) rfl
theorem mz_12_l392 : im_fL im_Ts mx_R12 (392, 4611686018427387904) := im_in 1905 (by decide +kernel) rfl
theorem mz_12_l394 : im_fL im_Ts mx_R12 (394, 4096) := im_in 1882 (by decide +kernel) rfl
theorem mz_12_l396 : im_fL im_Ts mx_R12 (396, 4294967295) := im_in 2036 (by decide +kernel) rfl
theorem mz_12_l416 : im_fL im_Ts mx_R12 (416, 65535) := im_in 1918 (by decide +kernel) rfl
theorem mz_12_l452 : im_fL im_Ts mx_R12 (452, 2500) := im_in 1913 (by decide +kernel) rfl
theorem mz_12_l463 : im_fL im_Ts mx_R12 (463, 1729382256910270464) := im_in 2019 (by decide +kernel) rfl
theorem mz_12_l468 : im_fL im_Ts mx_R12 (468, 1152921504606846976) := im_in 2023 (by decide +kernel) rfl
theorem mz_12_l470 : im_fL im_Ts mx_R12 (470, 3) := im_in 2024 (by decide +kernel) rfl
theorem mz_12_l476 : im_fL im_Ts mx_R12 (476, 576460752303423488) := im_in 2028 (by decide +kernel) rfl
theorem mz_12_l609 : im_fL im_Ts mx_R12 (609, 1152921504606847017) := im_in 2132 (by decide +kernel) rfl
theorem mz_12_l611 : im_fL im_Ts mx_R12 (611, 1152921504606847020) := im_in 2133 (by decide +kernel) rfl
theorem mz_12_l613 : im_fL im_Ts mx_R12 (613, 1152921504606847069) := im_in 2115 (by decide +kernel) rfl
theorem mz_12_l615 : im_fL im_Ts mx_R12 (615, 127) := im_in 2105 (by decide +kernel) rfl
theorem mz_12_l617 : im_fL im_Ts mx_R12 (617, (-576460752303423489)) := im_in 2110 (by decide +kernel) rfl
theorem mz_12_m1 : im_fM im_Ts mx_nw mm_tb mx_R12 (0, 1, 0, 0) := fun y pc len v h => Or.inl ⟨rfl, 1, rfl, by rw [h]; exact im_in 1396 (by decide +kernel) rfl⟩
theorem mz_12_m144 : im_fM im_Ts mx_nw mm_tb mx_R12 (1, 144, 229, 0) := fun y pc len v h => Or.inr (Or.inr (Or.inr (Or.inr (Or.inr (Or.inr ⟨im_m229, rfl, mm_a229, Or.inl ⟨rfl, 144, rfl, by rw [h]; exact im_in 1398 (by decide +kernel) rfl, mm_i229, mm_s229⟩⟩)))))
theorem mz_12_m160 : im_fM im_Ts mx_nw mm_tb mx_R12 (1, 160, 172, 0) := fun y pc len v h => Or.inr (Or.inr (Or.inr (Or.inr (Or.inr (Or.inr ⟨im_m172, rfl, mm_a172, Or.inl ⟨rfl, 160, rfl, by rw [h]; exact im_in 1649 (by decide +kernel) rfl, mm_i172, mm_s172⟩⟩)))))
theorem mz_12_m164 : im_fM im_Ts mx_nw mm_tb mx_R12 (5, 164, 173, 1) := fun y pc len v h => Or.inr (Or.inr (Or.inr (Or.inr (Or.inr (Or.inr ⟨im_m173, rfl, mm_a173, Or.inr (Or.inr (Or.inr (Or.inl ⟨rfl, 164, rfl, by rw [h]; exact im_in 1653 (by decide +kernel) rfl, mm_t173⟩)))⟩)))))
theorem mz_12_m168 : im_fM im_Ts mx_nw mm_tb mx_R12 (5, 168, 174, 1) := fun y pc len v h => Or.inr (Or.inr (Or.inr (Or.inr (Or.inr (Or.inr ⟨im_m174, rfl, mm_a174, Or.inr (Or.inr (Or.inr (Or.inl ⟨rfl, 168, rfl, by rw [h]; exact im_in 1660 (by decide +kernel) rfl, mm_t174⟩)))⟩)))))
theorem mz_12_m171 : im_fM im_Ts mx_nw mm_tb mx_R12 (5, 171, 175, 1) := fun y pc len v h => Or.inr (Or.inr (Or.inr (Or.inr (Or.inr (Or.inr ⟨im_m175, rfl, mm_a175, Or.inr (Or.inr (Or.inr (Or.inl ⟨rfl, 171, rfl, by rw [h]; exact im_in 1663 (by decide +kernel) rfl, mm_t175⟩)))⟩)))))
theorem mz_12_m184 : im_fM im_Ts mx_nw mm_tb mx_R12 (1, 184, 176, 2) := fun y pc len v h => Or.inr (Or.inr (Or.inr (Or.inr (Or.inr (Or.inr ⟨im_m176, rfl, mm_a176, Or.inl ⟨rfl, 184, rfl, by rw [h]; exact im_in 1656 (by decide +kernel) rfl, mm_i176, mm_s176⟩⟩)))))
theorem mz_12_m188 : im_fM im_Ts mx_nw mm_tb mx_R12 (1, 188, 177, 0) := fun y pc len v h => Or.inr (Or.inr (Or.inr (Or.inr (Or.inr (Or.inr ⟨im_m177, rfl, mm_a177, Or.inl ⟨rfl, 188, rfl, by rw [h]; exact im_in 1667 (by decide +kernel) rfl, mm_i177, mm_s177⟩⟩)))))
theorem mz_12_m191 : im_fM im_Ts mx_nw mm_tb mx_R12 (1, 191, 178, 1) := fun y pc len v h => Or.inr (Or.inr (Or.inr (Or.inr (Or.inr (Or.inr ⟨im_m178, rfl, mm_a178, Or.inl ⟨rfl, 191, rfl, by rw [h]; exact im_in 1673 (by decide +kernel) rfl, mm_i178, mm_s178⟩⟩)))))
theorem mz_12_m204 : im_fM im_Ts mx_nw mm_tb mx_R12 (1, 204, 180, 0) := fun y pc len v h => Or.inr (Or.inr (Or.inr (Or.inr (Or.inr (Or.inr ⟨im_m180, rfl, mm_a180, Or.inl ⟨rfl, 204, rfl, by rw [h]; exact im_in 1711 (by decide +kernel) rfl, mm_i180, mm_s180⟩⟩)))))
theorem mz_12_m207 : im_fM im_Ts mx_nw mm_tb mx_R12 (1, 207, 181, 2) := fun y pc len v h => Or.inr (Or.inr (Or.inr (Or.inr (Or.inr (Or.inr ⟨im_m181, rfl, mm_a181, Or.inl ⟨rfl, 207, rfl, by rw [h]; exact im_in 1697 (by decide +kernel) rfl, mm_i181, mm_s181⟩⟩)))))
theorem mz_12_m211 : im_fM im_Ts mx_nw mm_tb mx_R12 (5, 211, 171, 4) := fun y pc len v h => Or.inr (Or.inr (Or.inr (Or.inr (Or.inr (Or.inr ⟨im_m171, rfl, mm_a171, Or.inr (Or.inr (Or.inr (Or.inl ⟨rfl, 211, rfl, by rw [h]; exact im_in 1708 (by decide +kernel) rfl, mm_t171⟩)))⟩)))))
theorem mz_12_m218 : im_fM im_Ts mx_nw mm_tb mx_R12 (1, 218, 187, 1) := fun y pc len v h => Or.inr (Or.inr (Or.inr (Or.inr (Or.inr (Or.inr ⟨im_m187, rfl, mm_a187, Or.inl ⟨rfl, 218, rfl, by rw [h]; exact im_in 1693 (by decide +kernel) rfl, mm_i187, mm_s187⟩⟩)))))
theorem mz_12_m222 : im_fM im_Ts mx_nw mm_tb mx_R12 (1, 222, 179, 0) := fun y pc len v h => Or.inr (Or.inr (Or.inr (Or.inr (Or.inr (Or.inr ⟨im_m179, rfl, mm_a179, Or.inl ⟨rfl, 222, rfl, by rw [h]; exact im_in 1645 (by decide +kernel) rfl, mm_i179, mm_s179⟩⟩)))))
theorem mz_12_m225 : im_fM im_Ts mx_nw mm_tb mx_R12 (1, 225, 185, 2) := fun y pc len v h => Or.inr (Or.inr (Or.inr (Or.inr (Or.inr (Or.inr ⟨im_m185, rfl, mm_a185, Or.inl ⟨rfl, 225, rfl, by rw [h]; exact im_in 1701 (by decide +kernel) rfl, mm_i185, mm_s185⟩⟩)))))
theorem mz_12_m228 : im_fM im_Ts mx_nw mm_tb mx_R12 (1, 228, 183, 0) := fun y pc len v h => Or.inr (Or.inr (Or.inr (Or.inr (Or.inr (Or.inr ⟨im_m183, rfl, mm_a183, Or.inl ⟨rfl, 228, rfl, by rw [h]; exact im_in 1715 (by decide +kernel) rfl, mm_i183, mm_s183⟩⟩)))))
theorem mz_12_m231 : im_fM im_Ts mx_nw mm_tb mx_R12 (5, 231, 184, 2) := fun y pc len v h => Or.inr (Or.inr (Or.inr (Or.inr (Or.inr (Or.inr ⟨im_m184, rfl, mm_a184, Or.inr (Or.inr (Or.inr (Or.inl ⟨rfl, 231, rfl, by rw [h]; exact im_in 1705 (by decide +kernel) rfl, mm_t184⟩)))⟩)))))
theorem mz_12_m235 : im_fM im_Ts mx_nw mm_tb mx_R12 (1, 235, 182, 2) := fun y pc len v h => Or.inr (Or.inr (Or.inr (Or.inr (Or.inr (Or.inr ⟨im_m182, rfl, mm_a182, Or.inl ⟨rfl, 235, rfl, by rw [h]; exact im_in 1723 (by decide +kernel) rfl, mm_i182, mm_s182⟩⟩)))))
theorem mz_12_m238 : im_fM im_Ts mx_nw mm_tb mx_R12 (1, 238, 188, 0) := fun y pc len v h => Or.inr (Or.inr (Or.inr (Or.inr (Or.inr (Or.inr ⟨im_m188, rfl, mm_a188, Or.inl ⟨rfl, 238, rfl, by rw [h]; exact im_in 1727 (by decide +kernel) rfl, mm_i188, mm_s188⟩⟩)))))
theorem mz_12_m243 : im_fM im_Ts mx_nw mm_tb mx_R12 (1, 243, 186, 2) := fun y pc len v h => Or.inr (Or.inr (Or.inr (Or.inr (Or.inr (Or.inr ⟨im_m186, rfl, mm_a186, Or.inl ⟨rfl, 243, rfl, by rw [h]; exact im_in 1689 (by decide +kernel) rfl, mm_i186, mm_s186⟩⟩)))))
theorem mz_12_m247 : im_fM im_Ts mx_nw mm_tb mx_R12 (1, 247, 189, 2) := fun y pc len v h => Or.inr (Or.inr (Or.inr (Or.inr (Or.inr (Or.inr ⟨im_m189, rfl, mm_a189, Or.inl ⟨rfl, 247, rfl, by rw [h]; exact im_in 1719 (by decide +kernel) rfl, mm_i189, mm_s189⟩⟩)))))
theorem mz_12_m251 : im_fM im_Ts mx_nw mm_tb mx_R12 (1, 251, 190, 1) := fun y pc len v h => Or.inr (Or.inr (Or.inr (Or.inr (Or.inr (Or.inr ⟨im_m190, rfl, mm_a190, Or.inl ⟨rfl, 251, rfl, by rw [h]; exact im_in 1731 (by decide +kernel) rfl, mm_i190, mm_s190⟩⟩)))))
theorem mz_12_m254 : im_fM im_Ts mx_nw mm_tb mx_R12 (1, 254, 191, 1) := fun y pc len v h => Or.inr (Or.inr (Or.inr (Or.inr (Or.inr (Or.inr ⟨im_m191, rfl, mm_a191, Or.inl ⟨rfl, 254, rfl, by rw [h]; exact im_in 1736 (by decide +kernel) rfl, mm_i191, mm_s191⟩⟩)))))
theorem mz_12_m257 : im_fM im_Ts mx_nw mm_tb mx_R12 (1, 257, 192, 2) := fun y pc len v h => Or.inr (Or.inr (Or.inr (Or.inr (Or.inr (Or.inr ⟨im_m192, rfl, mm_a192, Or.inl ⟨rfl, 257, rfl, by rw [h]; exact im_in 1685 (by decide +kernel) rfl, mm_i192, mm_s192⟩⟩)))))
theorem mz_12_m260 : im_fM im_Ts mx_nw mm_tb mx_R12 (1, 260, 195, 0) := fun y pc len v h => Or.inr (Or.inr (Or.inr (Or.inr (Or.inr (Or.inr ⟨im_m195, rfl, mm_a195, Or.inl ⟨rfl, 260, rfl, by rw [h]; exact im_in 1740 (by decide +kernel) rfl, mm_i195, mm_s195⟩⟩)))))
theorem mz_12_m269 : im_fM im_Ts mx_nw mm_tb mx_R12 (1, 269, 196, 1) := fun y pc len v h => Or.inr (Or.inr (Or.inr (Or.inr (Or.inr (Or.inr ⟨im_m196, rfl, mm_a196, Or.inl ⟨rfl, 269, rfl, by rw [h]; exact im_in 1752 (by decide +kernel) rfl, mm_i196, mm_s196⟩⟩)))))
theorem mz_12_m272 : im_fM im_Ts mx_nw mm_tb mx_R12 (1, 272, 197, 0) := fun y pc len v h => Or.inr (Or.inr (Or.inr (Or.inr (Or.inr (Or.inr ⟨im_m197, rfl, mm_a197, Or.inl ⟨rfl, 272, rfl, by rw [h]; exact im_in 1748 (by decide +kernel) rfl, mm_i197, mm_s197⟩⟩)))))
theorem mz_12_m275 : im_fM im_Ts mx_nw mm_tb mx_R12 (1, 275, 193, 1) := fun y pc len v h => Or.inr (Or.inr (Or.inr (Or.inr (Or.inr (Or.inr ⟨im_m193, rfl, mm_a193, Or.inl ⟨rfl, 275, rfl, by rw [h]; exact im_in 1677 (by decide +kernel) rfl, mm_i193, mm_s193⟩⟩)))))
theorem mz_12_m279 : im_fM im_Ts mx_nw mm_tb mx_R12 (1, 279, 194, 0) := fun y pc len v h => Or.inr (Or.inr (Or.inr (Or.inr (Or.inr (Or.inr ⟨im_m194, rfl, mm_a194, Or.inl ⟨rfl, 279, rfl, by rw [h]; exact im_in 1681 (by decide +kernel) rfl, mm_i194, mm_s194⟩⟩)))))
theorem mz_12_m282 : im_fM im_Ts mx_nw mm_tb mx_R12 (1, 282, 198, 0) := fun y pc len v h => Or.inr (Or.inr (Or.inr (Or.inr (Or.inr (Or.inr ⟨im_m198, rfl, mm_a198, Or.inl ⟨rfl, 282, rfl, by rw [h]; exact im_in 1744 (by decide +kernel) rfl, mm_i198, mm_s198⟩⟩)))))
theorem mz_12_m285 : im_fM im_Ts mx_nw mm_tb mx_R12 (5, 285, 170, 3) := fun y pc len v h => Or.inr (Or.inr (Or.inr (Or.inr (Or.inr (Or.inr ⟨im_m170, rfl, mm_a170, Or.inr (Or.inr (Or.inr (Or.inl ⟨rfl, 285, rfl, by rw [h]; exact im_in 1630 (by decide +kernel) rfl, mm_t170⟩)))⟩)))))
theorem mz_12_m289 : im_fM im_Ts mx_nw mm_tb mx_R12 (1, 289, 199, 1) := fun y pc len v h => Or.inr (Or.inr (Or.inr (Or.inr (Or.inr (Or.inr ⟨im_m199, rfl, mm_a199, Or.inl ⟨rfl, 289, rfl, by rw [h]; exact im_in 1641 (by decide +kernel) rfl, mm_i199, mm_s199⟩⟩)))))
theorem mz_12_m292 : im_fM im_Ts mx_nw mm_tb mx_R12 (1, 292, 203, 4) := fun y pc len v h => Or.inr (Or.inr (Or.inr (Or.inr (Or.inr (Or.inr ⟨im_m203, rfl, mm_a203, Or.inl ⟨rfl, 292, rfl, by rw [h]; exact im_in 1764 (by decide +kernel) rfl, mm_i203, mm_s203⟩⟩)))))
theorem mz_12_m296 : im_fM im_Ts mx_nw mm_tb mx_R12 (1, 296, 204, 0) := fun y pc len v h => Or.inr (Or.inr (Or.inr (Or.inr (Or.inr (Or.inr ⟨im_m204, rfl, mm_a204, Or.inl ⟨rfl, 296, rfl, by rw [h]; exact im_in 1760 (by decide +kernel) rfl, mm_i204, mm_s204⟩⟩)))))
theorem mz_12_m299 : im_fM im_Ts mx_nw mm_tb mx_R12 (1, 299, 205, 1) := fun y pc len v h => Or.inr (Or.inr (Or.inr (Or.inr (Or.inr (Or.inr ⟨im_m205, rfl, mm_a205, Or.inl ⟨rfl, 299, rfl, by rw [h]; exact im_in 1772 (by decide +kernel) rfl, mm_i205, mm_s205⟩⟩)))))
theorem mz_12_m302 : im_fM im_Ts mx_nw mm_tb mx_R12 (1, 302, 206, 1) := fun y pc len v h => Or.inr (Or.inr (Or.inr (Or.inr (Or.inr (Or.inr ⟨im_m206, rfl, mm_a206, Or.inl ⟨rfl, 302, rfl, by rw [h]; exact im_in 1792 (by decide +kernel) rfl, mm_i206, mm_s206⟩⟩)))))
theorem mz_12_m305 : im_fM im_Ts mx_nw mm_tb mx_R12 (1, 305, 211, 2) := fun y pc len v h => Or.inr (Or.inr (Or.inr (Or.inr (Or.inr (Or.inr ⟨im_m211, rfl, mm_a211, Or.inl ⟨rfl, 305, rfl, by rw [h]; exact im_in 1800 (by decide +kernel) rfl, mm_i211, mm_s211⟩⟩)))))
theorem mz_12_m309 : im_fM im_Ts mx_nw mm_tb mx_R12 (1, 309, 212, 1) := fun y pc len v h => Or.inr (Or.inr (Or.inr (Or.inr (Or.inr (Or.inr ⟨im_m212, rfl, mm_a212, Or.inl ⟨rfl, 309, rfl, by rw [h]; exact im_in 1796 (by decide +kernel) rfl, mm_i212, mm_s212⟩⟩)))))
theorem mz_12_m312 : im_fM im_Ts mx_nw mm_tb mx_R12 (1, 312, 215, 1) := fun y pc len v h => Or.inr (Or.inr (Or.inr (Or.inr (Or.inr (Or.inr ⟨im_m215, rfl, mm_a215, Or.inl ⟨rfl, 312, rfl, by rw [h]; exact im_in 1816 (by decide +kernel) rfl, mm_i215, mm_s215⟩⟩)))))
theorem mz_12_m315 : im_fM im_Ts mx_nw mm_tb mx_R12 (1, 315, 214, 1) := fun y pc len v h => Or.inr (Or.inr (Or.inr (Or.inr (Or.inr (Or.inr ⟨im_m214, rfl, mm_a214, Or.inl ⟨rfl, 315, rfl, by rw [h]; exact im_in 1820 (by decide +kernel) rfl, mm_i214, mm_s214⟩⟩)))))
theorem mz_12_m321 : im_fM im_Ts mx_nw mm_tb mx_R12 (1, 321, 217, 1) := fun y pc len v h => Or.inr (Or.inr (Or.inr (Or.inr (Or.inr (Or.inr ⟨im_m217, rfl, mm_a217, Or.inl ⟨rfl, 321, rfl, by rw [h]; exact im_in 1808 (by decide +kernel) rfl, mm_i217, mm_s217⟩⟩)))))
theorem mz_12_m324 : im_fM im_Ts mx_nw mm_tb mx_R12 (1, 324, 216, 1) := fun y pc len v h => Or.inr (Or.inr (Or.inr (Or.inr (Or.inr (Or.inr ⟨im_m216, rfl, mm_a216, Or.inl ⟨rfl, 324, rfl, by rw [h]; exact im_in 1812 (by decide +kernel) rfl, mm_i216, mm_s216⟩⟩)))))
theorem mz_12_m327 : im_fM im_Ts mx_nw mm_tb mx_R12 (1, 327, 213, 0) := fun y pc len v h => Or.inr (Or.inr (Or.inr (Or.inr (Or.inr (Or.inr ⟨im_m213, rfl, mm_a213, Or.inl ⟨rfl, 327, rfl, by rw [h]; exact im_in 1788 (by decide +kernel) rfl, mm_i213, mm_s213⟩⟩)))))
theorem mz_12_m330 : im_fM im_Ts mx_nw mm_tb mx_R12 (1, 330, 218, 0) := fun y pc len v h => Or.inr (Or.inr (Or.inr (Or.inr (Or.inr (Or.inr ⟨im_m218, rfl, mm_a218, Or.inl ⟨rfl, 330, rfl, by rw [h]; exact im_in 1804 (by decide +kernel) rfl, mm_i218, mm_s218⟩⟩)))))
theorem mz_12_m333 : im_fM im_Ts mx_nw mm_tb mx_R12 (1, 333, 220, 2) := fun y pc len v h => Or.inr (Or.inr (Or.inr (Or.inr (Or.inr (Or.inr ⟨im_m220, rfl, mm_a220, Or.inl ⟨rfl, 333, rfl, by rw [h]; exact im_in 1832 (by decide +kernel) rfl, mm_i220, mm_s220⟩⟩)))))
theorem mz_12_m337 : im_fM im_Ts mx_nw mm_tb mx_R12 (1, 337, 221, 1) := fun y pc len v h => Or.inr (Or.inr (Or.inr (Or.inr (Or.inr (Or.inr ⟨im_m221, rfl, mm_a221, Or.inl ⟨rfl, 337, rfl, by rw [h]; exact im_in 1828 (by decide +kernel) rfl, mm_i221, mm_s221⟩⟩)))))
theorem mz_12_m340 : im_fM im_Ts mx_nw mm_tb mx_R12 (1, 340, 222, 1) := fun y pc len v h => Or.inr (Or.inr (Or.inr (Or.inr (Or.inr (Or.inr ⟨im_m222, rfl, mm_a222, Or.inl ⟨rfl, 340, rfl, by rw [h]; exact im_in 1836 (by decide +kernel) rfl, mm_i222, mm_s222⟩⟩)))))
theorem mz_12_m343 : im_fM im_Ts mx_nw mm_tb mx_R12 (1, 343, 224, 2) := fun y pc len v h => Or.inr (Or.inr (Or.inr (Or.inr (Or.inr (Or.inr ⟨im_m224, rfl, mm_a224, Or.inl ⟨rfl, 343, rfl, by rw [h]; exact im_in 1844 (by decide +kernel) rfl, mm_i224, mm_s224⟩⟩)))))
theorem mz_12_m346 : im_fM im_Ts mx_nw mm_tb mx_R12 (1, 346, 226, 2) := fun y pc len v h => Or.inr (Or.inr (Or.inr (Or.inr (Or.inr (Or.inr ⟨im_m226, rfl, mm_a226, Or.inl ⟨rfl, 346, rfl, by rw [h]; exact im_in 1856 (by decide +kernel) rfl, mm_i226, mm_s226⟩⟩)))))
theorem mz_12_m349 : im_fM im_Ts mx_nw mm_tb mx_R12 (1, 349, 227, 3) := fun y pc len v h => Or.inr (Or.inr (Or.inr (Or.inr (Or.inr (Or.inr ⟨im_m227, rfl, mm_a227, Or.inl ⟨rfl, 349, rfl, by rw [h]; exact im_in 1852 (by decide +kernel) rfl, mm_i227, mm_s227⟩⟩)))))
theorem mz_12_m398 : im_fM im_Ts mx_nw mm_tb mx_R12 (5, 398, 232, 1) := fun y pc len v h => Or.inr (Or.inr (Or.inr (Or.inr (Or.inr (Or.inr ⟨im_m232, rfl, mm_a232, Or.inr (Or.inr (Or.inr (Or.inl ⟨rfl, 398, rfl, by rw [h]; exact im_in 1887 (by decide +kernel) rfl, mm_t232⟩)))⟩)))))
theorem mz_12_m402 : im_fM im_Ts mx_nw mm_tb mx_R12 (5, 402, 233, 1) := fun y pc len v h => Or.inr (Or.inr (Or.inr (Or.inr (Or.inr (Or.inr ⟨im_m233, rfl, mm_a233, Or.inr (Or.inr (Or.inr (Or.inl ⟨rfl, 402, rfl, by rw [h]; exact im_in 1890 (by decide +kernel) rfl, mm_t233⟩)))⟩)))))
theorem mz_12_m405 : im_fM im_Ts mx_nw mm_tb mx_R12 (5, 405, 234, 2) := fun y pc len v h => Or.inr (Or.inr (Or.inr (Or.inr (Or.inr (Or.inr ⟨im_m234, rfl, mm_a234, Or.inr (Or.inr (Or.inr (Or.inl ⟨rfl, 405, rfl, by rw [h]; exact im_in 1879 (by decide +kernel) rfl, mm_t234⟩)))⟩)))))
theorem mz_12_m409 : im_fM im_Ts mx_nw mm_tb mx_R12 (5, 409, 230, 1) := fun y pc len v h => Or.inr (Or.inr (Or.inr (Or.inr (Or.inr (Or.inr ⟨im_m230, rfl, mm_a230, Or.inr (Or.inr (Or.inr (Or.inl ⟨rfl, 409, rfl, by rw [h]; exact im_in 1901 (by decide +kernel) rfl, mm_t230⟩)))⟩)))))
theorem mz_12_m413 : im_fM im_Ts mx_nw mm_tb mx_R12 (5, 413, 231, 1) := fun y pc len v h => Or.inr (Or.inr (Or.inr (Or.inr (Or.inr (Or.inr ⟨im_m231, rfl, mm_a231, Or.inr (Or.inr (Or.inr (Or.inl ⟨rfl, 413, rfl, by rw [h]; exact im_in 1906 (by decide +kernel) rfl, mm_t231⟩)))⟩)))))
theorem mz_12_m421 : im_fM im_Ts mx_nw mm_tb mx_R12 (1, 421, 241, 1) := fun y pc len v h => Or.inr (Or.inr (Or.inr (Or.inr (Or.inr (Or.inr ⟨im_m241, rfl, mm_a241, Or.inl ⟨rfl, 421, rfl, by rw [h]; exact im_in 1897 (by decide +kernel) rfl, mm_i241, mm_s241⟩⟩)))))
theorem mz_12_m424 : im_fM im_Ts mx_nw mm_tb mx_R12 (1, 424, 242, 1) := fun y pc len v h => Or.inr (Or.inr (Or.inr (Or.inr (Or.inr (Or.inr ⟨im_m242, rfl, mm_a242, Or.inl ⟨rfl, 424, rfl, by rw [h]; exact im_in 1935 (by decide +kernel) rfl, mm_i242, mm_s242⟩⟩)))))
theorem mz_12_m427 : im_fM im_Ts mx_nw mm_tb mx_R12 (1, 427, 237, 1) := fun y pc len v h => Or.inr (Or.inr (Or.inr (Or.inr (Or.inr (Or.inr ⟨im_m237, rfl, mm_a237, Or.inl ⟨rfl, 427, rfl, by rw [h]; exact im_in 1914 (by decide +kernel) rfl, mm_i237, mm_s237⟩⟩)))))
theorem mz_12_m431 : im_fM im_Ts mx_nw mm_tb mx_R12 (1, 431, 238, 1) := fun y pc len v h => Or.inr (Or.inr (Or.inr (Or.inr (Or.inr (Or.inr ⟨im_m238, rfl, mm_a238, Or.inl ⟨rfl, 431, rfl, by rw [h]; exact im_in 1927 (by decide +kernel) rfl, mm_i238, mm_s238⟩⟩)))))
theorem mz_12_m434 : im_fM im_Ts mx_nw mm_tb mx_R12 (1, 434, 236, 2) := fun y pc len v h => Or.inr (Or.inr (Or.inr (Or.inr (Or.inr (Or.inr ⟨im_m236, rfl, mm_a236, Or.inl ⟨rfl, 434, rfl, by rw [h]; exact im_in 1883 (by decide +kernel) rfl, mm_i236, mm_s236⟩⟩)))))
theorem mz_12_m438 : im_fM im_Ts mx_nw mm_tb mx_R12 (1, 438, 240, 2) := fun y pc len v h => Or.inr (Or.inr (Or.inr (Or.inr (Or.inr (Or.inr ⟨im_m240, rfl, mm_a240, Or.inl ⟨rfl, 438, rfl, by rw [h]; exact im_in 1923 (by decide +kernel) rfl, mm_i240, mm_s240⟩⟩)))))
theorem mz_12_m442 : im_fM im_Ts mx_nw mm_tb mx_R12 (1, 442, 243, 2) := fun y pc len v h => Or.inr (Or.inr (Or.inr (Or.inr (Or.inr (Or.inr ⟨im_m243, rfl, mm_a243, Or.inl ⟨rfl, 442, rfl, by rw [h]; exact im_in 1931 (by decide +kernel) rfl, mm_i243, mm_s243⟩⟩)))))
theorem mz_12_m446 : im_fM im_Ts mx_nw mm_tb mx_R12 (1, 446, 239, 1) := fun y pc len v h => Or.inr (Or.inr (Or.inr (Or.inr (Or.inr (Or.inr ⟨im_m239, rfl, mm_a239, Or.inl ⟨rfl, 446, rfl, by rw [h]; exact im_in 1943 (by decide +kernel) rfl, mm_i239, mm_s239⟩⟩)))))
theorem mz_12_m454 : im_fM im_Ts mx_nw mm_tb mx_R12 (1, 454, 246, 2) := fun y pc len v h => Or.inr (Or.inr (Or.inr (Or.inr (Or.inr (Or.inr ⟨im_m246, rfl, mm_a246, Or.inl ⟨rfl, 454, rfl, by rw [h]; exact im_in 1909 (by decide +kernel) rfl, mm_i246, mm_s246⟩⟩)))))
theorem mz_12_m457 : im_fM im_Ts mx_nw mm_tb mx_R12 (1, 457, 244, 2) := fun y pc len v h => Or.inr (Or.inr (Or.inr (Or.inr (Or.inr (Or.inr ⟨im_m244, rfl, mm_a244, Or.inl ⟨rfl, 457, rfl, by rw [h]; exact im_in 1919 (by decide +kernel) rfl, mm_i244, mm_s244⟩⟩)))))
theorem mz_12_m460 : im_fM im_Ts mx_nw mm_tb mx_R12 (1, 460, 245, 2) := fun y pc len v h => Or.inr (Or.inr (Or.inr (Or.inr (Or.inr (Or.inr ⟨im_m245, rfl, mm_a245, Or.inl ⟨rfl, 460, rfl, by rw [h]; exact im_in 1939 (by decide +kernel) rfl, mm_i245, mm_s245⟩⟩)))))
theorem mz_12_m465 : im_fM im_Ts mx_nw mm_tb mx_R12 (5, 465, 250, 2) := fun y pc len v h => Or.inr (Or.inr (Or.inr (Or.inr (Or.inr (Or.inr ⟨im_m250, rfl, mm_a250, Or.inr (Or.inr (Or.inr (Or.inl ⟨rfl, 465, rfl, by rw [h]; exact im_in 2020 (by decide +kernel) rfl, mm_t250⟩)))⟩)))))
theorem mz_12_m472 : im_fM im_Ts mx_nw mm_tb mx_R12 (5, 472, 248, 3) := fun y pc len v h => Or.inr (Or.inr (Or.inr (Or.inr (Or.inr (Or.inr ⟨im_m248, rfl, mm_a248, Or.inr (Or.inr (Or.inr (Or.inl ⟨rfl, 472, rfl, by rw [h]; exact im_in 2025 (by decide +kernel) rfl, mm_t248⟩)))⟩)))))
theorem mz_12_m478 : im_fM im_Ts mx_nw mm_tb mx_R12 (1, 478, 249, 1) := fun y pc len v h => Or.inr (Or.inr (Or.inr (Or.inr (Or.inr (Or.inr ⟨im_m249, rfl, mm_a249, Or.inl ⟨rfl, 478, rfl, by rw [h]; exact im_in 2029 (by decide +kernel) rfl, mm_i249, mm_s249⟩⟩)))))
theorem mz_12_m484 : im_fM im_Ts mx_nw mm_tb mx_R12 (1, 484, 247, 2) := fun y pc len v h => Or.inr (Or.inr (Or.inr (Or.inr (Or.inr (Or.inr ⟨im_m247, rfl, mm_a247, Or.inl ⟨rfl, 484, rfl, by rw [h]; exact im_in 1893 (by decide +kernel) rfl, mm_i247, mm_s247⟩⟩)))))
theorem mz_12_m487 : im_fM im_Ts mx_nw mm_tb mx_R12 (1, 487, 252, 5) := fun y pc len v h => Or.inr (Or.inr (Or.inr (Or.inr (Or.inr (Or.inr ⟨im_m252, rfl, mm_a252, Or.inl ⟨rfl, 487, rfl, by rw [h]; exact im_in 1947 (by decide +kernel) rfl, mm_i252, mm_s252⟩⟩)))))
theorem mz_12_m491 : im_fM im_Ts mx_nw mm_tb mx_R12 (1, 491, 256, 1) := fun y pc len v h => Or.inr (Or.inr (Or.inr (Or.inr (Or.inr (Or.inr ⟨im_m256, rfl, mm_a256, Or.inl ⟨rfl, 491, rfl, by rw [h]; exact im_in 1868 (by decide +kernel) rfl, mm_i256, mm_s256⟩⟩)))))
theorem mz_12_m494 : im_fM im_Ts mx_nw mm_tb mx_R12 (5, 494, 254, 1) := fun y pc len v h => Or.inr (Or.inr (Or.inr (Or.inr (Or.inr (Or.inr ⟨im_m254, rfl, mm_a254, Or.inr (Or.inr (Or.inr (Or.inl ⟨rfl, 494, rfl, by rw [h]; exact im_in 1872 (by decide +kernel) rfl, mm_t254⟩)))⟩)))))
theorem mz_12_m497 : im_fM im_Ts mx_nw mm_tb mx_R12 (1, 497, 255, 3) := fun y pc len v h => Or.inr (Or.inr (Or.inr (Or.inr (Or.inr (Or.inr ⟨im_m255, rfl, mm_a255, Or.inl ⟨rfl, 497, rfl, by rw [h]; exact im_in 1875 (by decide +kernel) rfl, mm_i255, mm_s255⟩⟩)))))
theorem mz_12_m501 : im_fM im_Ts mx_nw mm_tb mx_R12 (1, 501, 258, 3) := fun y pc len v h => Or.inr (Or.inr (Or.inr (Or.inr (Or.inr (Or.inr ⟨im_m258, rfl, mm_a258, Or.inl ⟨rfl, 501, rfl, by rw [h]; exact im_in 1995 (by decide +kernel) rfl, mm_i258, mm_s258⟩⟩)))))
theorem mz_12_m505 : im_fM im_Ts mx_nw mm_tb mx_R12 (1, 505, 259, 1) := fun y pc len v h => Or.inr (Or.inr (Or.inr (Or.inr (Or.inr (Or.inr ⟨im_m259, rfl, mm_a259, Or.inl ⟨rfl, 505, rfl, by rw [h]; exact im_in 1991 (by decide +kernel) rfl, mm_i259, mm_s259⟩⟩)))))
theorem mz_12_m508 : im_fM im_Ts mx_nw mm_tb mx_R12 (1, 508, 257, 0) := fun y pc len v h => Or.inr (Or.inr (Or.inr (Or.inr (Or.inr (Or.inr ⟨im_m257, rfl, mm_a257, Or.inl ⟨rfl, 508, rfl, by rw [h]; exact im_in 1864 (by decide +kernel) rfl, mm_i257, mm_s257⟩⟩)))))
theorem mz_12_m512 : im_fM im_Ts mx_nw mm_tb mx_R12 (1, 512, 253, 2) := fun y pc len v h => Or.inr (Or.inr (Or.inr (Or.inr (Or.inr (Or.inr ⟨im_m253, rfl, mm_a253, Or.inl ⟨rfl, 512, rfl, by rw [h]; exact im_in 1999 (by decide +kernel) rfl, mm_i253, mm_s253⟩⟩)))))
theorem mz_12_m516 : im_fM im_Ts mx_nw mm_tb mx_R12 (1, 516, 261, 1) := fun y pc len v h => Or.inr (Or.inr (Or.inr (Or.inr (Or.inr (Or.inr ⟨im_m261, rfl, mm_a261, Or.inl ⟨rfl, 516, rfl, by rw [h]; exact im_in 1979 (by decide +kernel) rfl, mm_i261, mm_s261⟩⟩)))))
theorem mz_12_m519 : im_fM im_Ts mx_nw mm_tb mx_R12 (1, 519, 262, 1) := fun y pc len v h => Or.inr (Or.inr (Or.inr (Or.inr (Or.inr (Or.inr ⟨im_m262, rfl, mm_a262, Or.inl ⟨rfl, 519, rfl, by rw [h]; exact im_in 1959 (by decide +kernel) rfl, mm_i262, mm_s262⟩⟩)))))
theorem mz_12_m522 : im_fM im_Ts mx_nw mm_tb mx_R12 (1, 522, 251, 1) := fun y pc len v h => Or.inr (Or.inr (Or.inr (Or.inr (Or.inr (Or.inr ⟨im_m251, rfl, mm_a251, Or.inl ⟨rfl, 522, rfl, by rw [h]; exact im_in 2015 (by decide +kernel) rfl, mm_i251, mm_s251⟩⟩)))))
theorem mz_12_m525 : im_fM im_Ts mx_nw mm_tb mx_R12 (5, 525, 235, 1) := fun y pc len v h => Or.inr (Or.inr (Or.inr (Or.inr (Or.inr (Or.inr ⟨im_m235, rfl, mm_a235, Or.inr (Or.inr (Or.inr (Or.inl ⟨rfl, 525, rfl, by rw [h]; exact im_in 2033 (by decide +kernel) rfl, mm_t235⟩)))⟩)))))
theorem mz_12_m529 : im_fM im_Ts mx_nw mm_tb mx_R12 (1, 529, 260, 1) := fun y pc len v h => Or.inr (Or.inr (Or.inr (Or.inr (Or.inr (Or.inr ⟨im_m260, rfl, mm_a260, Or.inl ⟨rfl, 529, rfl, by rw [h]; exact im_in 1987 (by decide +kernel) rfl, mm_i260, mm_s260⟩⟩)))))
theorem mz_12_m532 : im_fM im_Ts mx_nw mm_tb mx_R12 (1, 532, 266, 3) := fun y pc len v h => Or.inr (Or.inr (Or.inr (Or.inr (Or.inr (Or.inr ⟨im_m266, rfl, mm_a266, Or.inl ⟨rfl, 532, rfl, by rw [h]; exact im_in 2003 (by decide +kernel) rfl, mm_i266, mm_s266⟩⟩)))))
theorem mz_12_m536 : im_fM im_Ts mx_nw mm_tb mx_R12 (1, 536, 263, 1) := fun y pc len v h => Or.inr (Or.inr (Or.inr (Or.inr (Or.inr (Or.inr ⟨im_m263, rfl, mm_a263, Or.inl ⟨rfl, 536, rfl, by rw [h]; exact im_in 2007 (by decide +kernel) rfl, mm_i263, mm_s263⟩⟩)))))
theorem mz_12_m539 : im_fM im_Ts mx_nw mm_tb mx_R12 (1, 539, 264, 1) := fun y pc len v h => Or.inr (Or.inr (Or.inr (Or.inr (Or.inr (Or.inr ⟨im_m264, rfl, mm_a264, Or.inl ⟨rfl, 539, rfl, by rw [h]; exact im_in 2011 (by decide +kernel) rfl, mm_i264, mm_s264⟩⟩)))))
theorem mz_12_m542 : im_fM im_Ts mx_nw mm_tb mx_R12 (1, 542, 265, 1) := fun y pc len v h => Or.inr (Or.inr (Or.inr (Or.inr (Or.inr (Or.inr ⟨im_m265, rfl, mm_a265, Or.inl ⟨rfl, 542, rfl, by rw [h]; exact im_in 2037 (by decide +kernel) rfl, mm_i265, mm_s265⟩⟩)))))
theorem mz_12_m545 : im_fM im_Ts mx_nw mm_tb mx_R12 (1, 545, 268, 1) := fun y pc len v h => Or.inr (Or.inr (Or.inr (Or.inr (Or.inr (Or.inr ⟨im_m268, rfl, mm_a268, Or.inl ⟨rfl, 545, rfl, by rw [h]; exact im_in 1967 (by decide +kernel) rfl, mm_i268, mm_s268⟩⟩)))))
theorem mz_12_m548 : im_fM im_Ts mx_nw mm_tb mx_R12 (1, 548, 269, 1) := fun y pc len v h => Or.inr (Or.inr (Or.inr (Or.inr (Or.inr (Or.inr ⟨im_m269, rfl, mm_a269, Or.inl ⟨rfl, 548, rfl, by rw [h]; exact im_in 1971 (by decide +kernel) rfl, mm_i269, mm_s269⟩⟩)))))
theorem mz_12_m551 : im_fM im_Ts mx_nw mm_tb mx_R12 (1, 551, 270, 1) := fun y pc len v h => Or.inr (Or.inr (Or.inr (Or.inr (Or.inr (Or.inr ⟨im_m270, rfl, mm_a270, Or.inl ⟨rfl, 551, rfl, by rw [h]; exact im_in 1975 (by decide +kernel) rfl, mm_i270, mm_s270⟩⟩)))))
theorem mz_12_m554 : im_fM im_Ts mx_nw mm_tb mx_R12 (1, 554, 267, 3) := fun y pc len v h => Or.inr (Or.inr (Or.inr (Or.inr (Or.inr (Or.inr ⟨im_m267, rfl, mm_a267, Or.inl ⟨rfl, 554, rfl, by rw [h]; exact im_in 1983 (by decide +kernel) rfl, mm_i267, mm_s267⟩⟩)))))
theorem mz_12_m557 : im_fM im_Ts mx_nw mm_tb mx_R12 (1, 557, 273, 0) := fun y pc len v h => Or.inr (Or.inr (Or.inr (Or.inr (Or.inr (Or.inr ⟨im_m273, rfl, mm_a273, Or.inl ⟨rfl, 557, rfl, by rw [h]; exact im_in 1951 (by decide +kernel) rfl, mm_i273, mm_s273⟩⟩)))))
theorem mz_12_m560 : im_fM im_Ts mx_nw mm_tb mx_R12 (1, 560, 274, 0) := fun y pc len v h => Or.inr (Or.inr (Or.inr (Or.inr (Or.inr (Or.inr ⟨im_m274, rfl, mm_a274, Or.inl ⟨rfl, 560, rfl, by rw [h]; exact im_in 1955 (by decide +kernel) rfl, mm_i274, mm_s274⟩⟩)))))
theorem mz_12_m563 : im_fM im_Ts mx_nw mm_tb mx_R12 (1, 563, 271, 0) := fun y pc len v h => Or.inr (Or.inr (Or.inr (Or.inr (Or.inr (Or.inr ⟨im_m271, rfl, mm_a271, Or.inl ⟨rfl, 563, rfl, by rw [h]; exact im_in 1963 (by decide +kernel) rfl, mm_i271, mm_s271⟩⟩)))))
theorem mz_12_m566 : im_fM im_Ts mx_nw mm_tb mx_R12 (1, 566, 272, 1) := fun y pc len v h => Or.inr (Or.inr (Or.inr (Or.inr (Or.inr (Or.inr ⟨im_m272, rfl, mm_a272, Or.inl ⟨rfl, 566, rfl, by rw [h]; exact im_in 2041 (by decide +kernel) rfl, mm_i272, mm_s272⟩⟩)))))
theorem mz_12_m569 : im_fM im_Ts mx_nw mm_tb mx_R12 (1, 569, 279, 1) := fun y pc len v h => Or.inr (Or.inr (Or.inr (Or.inr (Or.inr (Or.inr ⟨im_m279, rfl, mm_a279, Or.inl ⟨rfl, 569, rfl, by rw [h]; exact im_in 2061 (by decide +kernel) rfl, mm_i279, mm_s279⟩⟩)))))
theorem mz_12_m572 : im_fM im_Ts mx_nw mm_tb mx_R12 (1, 572, 278, 1) := fun y pc len v h => Or.inr (Or.inr (Or.inr (Or.inr (Or.inr (Or.inr ⟨im_m278, rfl, mm_a278, Or.inl ⟨rfl, 572, rfl, by rw [h]; exact im_in 2065 (by decide +kernel) rfl, mm_i278, mm_s278⟩⟩)))))
theorem mz_12_m575 : im_fM im_Ts mx_nw mm_tb mx_R12 (1, 575, 280, 1) := fun y pc len v h => Or.inr (Or.inr (Or.inr (Or.inr (Or.inr (Or.inr ⟨im_m280, rfl, mm_a280, Or.inl ⟨rfl, 575, rfl, by rw [h]; exact im_in 2057 (by decide +kernel) rfl, mm_i280, mm_s280⟩⟩)))))
theorem mz_12_m578 : im_fM im_Ts mx_nw mm_tb mx_R12 (1, 578, 281, 0) := fun y pc len v h => Or.inr (Or.inr (Or.inr (Or.inr (Or.inr (Or.inr ⟨im_m281, rfl, mm_a281, Or.inl ⟨rfl, 578, rfl, by rw [h]; exact im_in 2069 (by decide +kernel) rfl, mm_i281, mm_s281⟩⟩)))))
theorem mz_12_m581 : im_fM im_Ts mx_nw mm_tb mx_R12 (1, 581, 283, 1) := fun y pc len v h => Or.inr (Or.inr (Or.inr (Or.inr (Or.inr (Or.inr ⟨im_m283, rfl, mm_a283, Or.inl ⟨rfl, 581, rfl, by rw [h]; exact im_in 2077 (by decide +kernel) rfl, mm_i283, mm_s283⟩⟩)))))
theorem mz_12_m584 : im_fM im_Ts mx_nw mm_tb mx_R12 (1, 584, 284, 1) := fun y pc len v h => Or.inr (Or.inr (Or.inr (Or.inr (Or.inr (Or.inr ⟨im_m284, rfl, mm_a284, Or.inl ⟨rfl, 584, rfl, by rw [h]; exact im_in 2081 (by decide +kernel) rfl, mm_i284, mm_s284⟩⟩)))))
theorem mz_12_m590 : im_fM im_Ts mx_nw mm_tb mx_R12 (1, 590, 286, 1) := fun y pc len v h => Or.inr (Or.inr (Or.inr (Or.inr (Or.inr (Or.inr ⟨im_m286, rfl, mm_a286, Or.inl ⟨rfl, 590, rfl, by rw [h]; exact im_in 2106 (by decide +kernel) rfl, mm_i286, mm_s286⟩⟩)))))
theorem mz_12_m596 : im_fM im_Ts mx_nw mm_tb mx_R12 (1, 596, 287, 1) := fun y pc len v h => Or.inr (Or.inr (Or.inr (Or.inr (Or.inr (Or.inr ⟨im_m287, rfl, mm_a287, Or.inl ⟨rfl, 596, rfl, by rw [h]; exact im_in 2120 (by decide +kernel) rfl, mm_i287, mm_s287⟩⟩)))))
theorem mz_12_m603 : im_fM im_Ts mx_nw mm_tb mx_R12 (1, 603, 290, 1) := fun y pc len v h => Or.inr (Or.inr (Or.inr (Or.inr (Or.inr (Or.inr ⟨im_m290, rfl, mm_a290, Or.inl ⟨rfl, 603, rfl, by rw [h]; exact im_in 2097 (by decide +kernel) rfl, mm_i290, mm_s290⟩⟩)))))
theorem mz_12_m606 : im_fM im_Ts mx_nw mm_tb mx_R12 (1, 606, 288, 1) := fun y pc len v h => Or.inr (Or.inr (Or.inr (Or.inr (Or.inr (Or.inr ⟨im_m288, rfl, mm_a288, Or.inl ⟨rfl, 606, rfl, by rw [h]; exact im_in 2124 (by decide +kernel) rfl, mm_i288, mm_s288⟩⟩)))))
theorem mz_12_m619 : im_fM im_Ts mx_nw mm_tb mx_R12 (1, 619, 292, 1) := fun y pc len v h => Or.inr (Or.inr (Or.inr (Or.inr (Or.inr (Or.inr ⟨im_m292, rfl, mm_a292, Or.inl ⟨rfl, 619, rfl, by rw [h]; exact im_in 2111 (by decide +kernel) rfl, mm_i292, mm_s292⟩⟩)))))
theorem mz_12_m622 : im_fM im_Ts mx_nw mm_tb mx_R12 (1, 622, 289, 1) := fun y pc len v h => Or.inr (Or.inr (Or.inr (Or.inr (Or.inr (Or.inr ⟨im_m289, rfl, mm_a289, Or.inl ⟨rfl, 622, rfl, by rw [h]; exact im_in 2116 (by decide +kernel) rfl, mm_i289, mm_s289⟩⟩)))))
theorem mz_12_m625 : im_fM im_Ts mx_nw mm_tb mx_R12 (1, 625, 291, 1) := fun y pc len v h => Or.inr (Or.inr (Or.inr (Or.inr (Or.inr (Or.inr ⟨im_m291, rfl, mm_a291, Or.inl ⟨rfl, 625, rfl, by rw [h]; exact im_in 2128 (by decide +kernel) rfl, mm_i291, mm_s291⟩⟩)))))
theorem mz_12_m628 : im_fM im_Ts mx_nw mm_tb mx_R12 (1, 628, 293, 1) := fun y pc len v h => Or.inr (Or.inr (Or.inr (Or.inr (Or.inr (Or.inr ⟨im_m293, rfl, mm_a293, Or.inl ⟨rfl, 628, rfl, by rw [h]; exact im_in 2101 (by decide +kernel) rfl, mm_i293, mm_s293⟩⟩)))))
theorem mz_12_m631 : im_fM im_Ts mx_nw mm_tb mx_R12 (1, 631, 295, 0) := fun y pc len v h => Or.inr (Or.inr (Or.inr (Or.inr (Or.inr (Or.inr ⟨im_m295, rfl, mm_a295, Or.inl ⟨rfl, 631, rfl, by rw [h]; exact im_in 2089 (by decide +kernel) rfl, mm_i295, mm_s295⟩⟩)))))
theorem mz_12_m634 : im_fM im_Ts mx_nw mm_tb mx_R12 (1, 634, 294, 1) := fun y pc len v h => Or.inr (Or.inr (Or.inr (Or.inr (Or.inr (Or.inr ⟨im_m294, rfl, mm_a294, Or.inl ⟨rfl, 634, rfl, by rw [h]; exact im_in 2093 (by decide +kernel) rfl, mm_i294, mm_s294⟩⟩)))))
theorem mz_12_m637 : im_fM im_Ts mx_nw mm_tb mx_R12 (1, 637, 299, 1) := fun y pc len v h => Or.inr (Or.inr (Or.inr (Or.inr (Or.inr (Or.inr ⟨im_m299, rfl, mm_a299, Or.inl ⟨rfl, 637, rfl, by rw [h]; exact im_in 2146 (by decide +kernel) rfl, mm_i299, mm_s299⟩⟩)))))
theorem mz_12_m640 : im_fM im_Ts mx_nw mm_tb mx_R12 (5, 640, 301, 1) := fun y pc len v h => Or.inr (Or.inr (Or.inr (Or.inr (Or.inr (Or.inr ⟨im_m301, rfl, mm_a301, Or.inr (Or.inr (Or.inr (Or.inl ⟨rfl, 640, rfl, by rw [h]; exact im_in 2154 (by decide +kernel) rfl, mm_t301⟩)))⟩)))))
theorem mz_12_ok : im_zo im_Ts mx_nw mx_cl mx_rA mx_nf mm_tb mx_R12 mz_12 := ⟨List.forall_mem_cons.mpr ⟨mz_12_f7, List.forall_mem_cons.mpr ⟨mz_12_f13, List.forall_mem_cons.mpr ⟨mz_12_f16, List.forall_mem_cons.mpr ⟨mz_12_f20, List.forall_mem_cons.mpr ⟨mz_12_f23, List.forall_mem_cons.mpr ⟨mz_12_f26, List.forall_mem_cons.mpr ⟨mz_12_f29, List.forall_mem_cons.mpr ⟨mz_12_f32, List.forall_mem_cons.mpr ⟨mz_12_f35, List.forall_mem_cons.mpr ⟨mz_12_f38, List.forall_mem_cons.mpr ⟨mz_12_f41, List.forall_mem_cons.mpr ⟨mz_12_f44, List.forall_mem_cons.mpr ⟨mz_12_f47, List.forall_mem_cons.mpr ⟨mz_12_f50, List.forall_mem_cons.mpr ⟨mz_12_f53, List.forall_mem_cons.mpr ⟨mz_12_f56, List.forall_mem_cons.mpr ⟨mz_12_f59, List.forall_mem_cons.mpr ⟨mz_12_f62, List.forall_mem_cons.mpr ⟨mz_12_f65, List.forall_mem_cons.mpr ⟨mz_12_f68, List.forall_mem_cons.mpr ⟨mz_12_f71, List.forall_mem_cons.mpr ⟨mz_12_f74, List.forall_mem_cons.mpr ⟨mz_12_f77, List.forall_mem_cons.mpr ⟨mz_12_f80, List.forall_mem_cons.mpr ⟨mz_12_f83, List.forall_mem_cons.mpr ⟨mz_12_f86, List.forall_mem_cons.mpr ⟨mz_12_f89, List.forall_mem_cons.mpr ⟨mz_12_f92, List.forall_mem_cons.mpr ⟨mz_12_f95, List.forall_mem_cons.mpr ⟨mz_12_f98, List.forall_mem_cons.mpr ⟨mz_12_f101, List.forall_mem_cons.mpr ⟨mz_12_f104, List.forall_mem_cons.mpr ⟨mz_12_f107, List.forall_mem_cons.mpr ⟨mz_12_f110, List.forall_mem_cons.mpr ⟨mz_12_f113, List.forall_mem_cons.mpr ⟨mz_12_f116, List.forall_mem_cons.mpr ⟨mz_12_f120, List.forall_mem_cons.mpr ⟨mz_12_f123, List.forall_mem_cons.mpr ⟨mz_12_f126, List.forall_mem_cons.mpr ⟨mz_12_f129, List.forall_mem_cons.mpr ⟨mz_12_f132, List.forall_mem_cons.mpr ⟨mz_12_f135, List.forall_mem_cons.mpr ⟨mz_12_f138, List.forall_mem_cons.mpr ⟨mz_12_f141, List.forall_mem_cons.mpr ⟨mz_12_f149, List.forall_mem_cons.mpr ⟨mz_12_f153, List.forall_mem_cons.mpr ⟨mz_12_f156, List.forall_mem_cons.mpr ⟨mz_12_f174, List.forall_mem_cons.mpr ⟨mz_12_f181, List.forall_mem_cons.mpr ⟨mz_12_f195, List.forall_mem_cons.mpr ⟨mz_12_f198, List.forall_mem_cons.mpr ⟨mz_12_f201, List.forall_mem_cons.mpr ⟨mz_12_f215, List.forall_mem_cons.mpr ⟨mz_12_f263, List.forall_mem_cons.mpr ⟨mz_12_f266, List.forall_mem_cons.mpr ⟨mz_12_f318, List.forall_mem_cons.mpr ⟨mz_12_f352, List.forall_mem_cons.mpr ⟨mz_12_f355, List.forall_mem_cons.mpr ⟨mz_12_f358, List.forall_mem_cons.mpr ⟨mz_12_f361, List.forall_mem_cons.mpr ⟨mz_12_f364, List.forall_mem_cons.mpr ⟨mz_12_f367, List.forall_mem_cons.mpr ⟨mz_12_f370, List.forall_mem_cons.mpr ⟨mz_12_f373, List.forall_mem_cons.mpr ⟨mz_12_f376, List.forall_mem_cons.mpr ⟨mz_12_f379, List.forall_mem_cons.mpr ⟨mz_12_f382, List.forall_mem_cons.mpr ⟨mz_12_f385, List.forall_mem_cons.mpr ⟨mz_12_f418, List.forall_mem_cons.mpr ⟨mz_12_f449, List.forall_mem_cons.mpr ⟨mz_12_f481, List.forall_mem_cons.mpr ⟨mz_12_f587, List.forall_mem_cons.mpr ⟨mz_12_f593, List.forall_mem_cons.mpr ⟨mz_12_f600, fun _ h => absurd h List.not_mem_nil⟩⟩⟩⟩⟩⟩⟩⟩⟩⟩⟩⟩⟩⟩⟩⟩⟩⟩⟩⟩⟩⟩⟩⟩⟩⟩⟩⟩⟩⟩⟩⟩⟩⟩⟩⟩⟩⟩⟩⟩⟩⟩⟩⟩⟩⟩⟩⟩⟩⟩⟩⟩⟩⟩⟩⟩⟩⟩⟩⟩⟩⟩⟩⟩⟩⟩⟩⟩⟩⟩⟩⟩⟩⟩, fun _ h => absurd h List.not_mem_nil, fun _ h => absurd h List.not_mem_nil, List.forall_mem_cons.mpr ⟨mz_12_i119, fun _ h => absurd h List.not_mem_nil⟩, List.forall_mem_cons.mpr ⟨mz_12_l147, List.forall_mem_cons.mpr ⟨mz_12_l177, List.forall_mem_cons.mpr ⟨mz_12_l179, List.forall_mem_cons.mpr ⟨mz_12_l241, List.forall_mem_cons.mpr ⟨mz_12_l388, List.forall_mem_cons.mpr ⟨mz_12_l390, List.forall_mem_cons.mpr ⟨mz_12_l392, List.forall_mem_cons.mpr ⟨mz_12_l394, List.forall_mem_cons.mpr ⟨mz_12_l396, List.forall_mem_cons.mpr ⟨mz_12_l416, List.forall_mem_cons.mpr ⟨mz_12_l452, List.forall_mem_cons.mpr ⟨mz_12_l463, List.forall_mem_cons.mpr ⟨mz_12_l468, List.forall_mem_cons.mpr ⟨mz_12_l470, List.forall_mem_cons.mpr ⟨mz_12_l476, List.forall_mem_cons.mpr ⟨mz_12_l609, List.forall_mem_cons.mpr ⟨mz_12_l611, List.forall_mem_cons.mpr ⟨mz_12_l613, List.forall_mem_cons.mpr ⟨mz_12_l615, List.forall_mem_cons.mpr ⟨mz_12_l617, fun _ h => absurd h List.not_mem_nil⟩⟩⟩⟩⟩⟩⟩⟩⟩⟩⟩⟩⟩⟩⟩⟩⟩⟩⟩⟩, fun _ h => absurd h List.not_mem_nil, List.forall_mem_cons.mpr ⟨mz_12_m1, List.forall_mem_cons.mpr ⟨mz_12_m144, List.forall_mem_cons.mpr ⟨mz_12_m160, List.forall_mem_cons.mpr ⟨mz_12_m164, List.forall_mem_cons.mpr ⟨mz_12_m168, List.forall_mem_cons.mpr ⟨mz_12_m171, List.forall_mem_cons.mpr ⟨mz_12_m184, List.forall_mem_cons.mpr ⟨mz_12_m188, List.forall_mem_cons.mpr ⟨mz_12_m191, List.forall_mem_cons.mpr ⟨mz_12_m204, List.forall_mem_cons.mpr ⟨mz_12_m207, List.forall_mem_cons.mpr ⟨mz_12_m211, List.forall_mem_cons.mpr ⟨mz_12_m218, List.forall_mem_cons.mpr ⟨mz_12_m222, List.forall_mem_cons.mpr ⟨mz_12_m225, List.forall_mem_cons.mpr ⟨mz_12_m228, List.forall_mem_cons.mpr ⟨mz_12_m231, List.forall_mem_cons.mpr ⟨mz_12_m235, List.forall_mem_cons.mpr ⟨mz_12_m238, List.forall_mem_cons.mpr ⟨mz_12_m243, List.forall_mem_cons.mpr ⟨mz_12_m247, List.forall_mem_cons.mpr ⟨mz_12_m251, List.forall_mem_cons.mpr ⟨mz_12_m254, List.forall_mem_cons.mpr ⟨mz_12_m257, List.forall_mem_cons.mpr ⟨mz_12_m260, List.forall_mem_cons.mpr ⟨mz_12_m269, List.forall_mem_cons.mpr ⟨mz_12_m272, List.forall_mem_cons.mpr ⟨mz_12_m275, List.forall_mem_cons.mpr ⟨mz_12_m279, List.forall_mem_cons.mpr ⟨mz_12_m282, List.forall_mem_cons.mpr ⟨mz_12_m285, List.forall_mem_cons.mpr ⟨mz_12_m289, List.forall_mem_cons.mpr ⟨mz_12_m292, List.forall_mem_cons.mpr ⟨mz_12_m296, List.forall_mem_cons.mpr ⟨mz_12_m299, List.forall_mem_cons.mpr ⟨mz_12_m302, List.forall_mem_cons.mpr ⟨mz_12_m305, List.forall_mem_cons.mpr ⟨mz_12_m309, List.forall_mem_cons.mpr ⟨mz_12_m312, List.forall_mem_cons.mpr ⟨mz_12_m315, List.forall_mem_cons.mpr ⟨mz_12_m321, List.forall_mem_cons.mpr ⟨mz_12_m324, List.forall_mem_cons.mpr ⟨mz_12_m327, List.forall_mem_cons.mpr ⟨mz_12_m330, List.forall_mem_cons.mpr ⟨mz_12_m333, List.forall_mem_cons.mpr ⟨mz_12_m337, List.forall_mem_cons.mpr ⟨mz_12_m340, List.forall_mem_cons.mpr ⟨mz_12_m343, List.forall_mem_cons.mpr ⟨mz_12_m346, List.forall_mem_cons.mpr ⟨mz_12_m349, List.forall_mem_cons.mpr ⟨mz_12_m398, List.forall_mem_cons.mpr ⟨mz_12_m402, List.forall_mem_cons.mpr ⟨mz_12_m405, List.forall_mem_cons.mpr ⟨mz_12_m409, List.forall_mem_cons.mpr ⟨mz_12_m413, List.forall_mem_cons.mpr ⟨mz_12_m421, List.forall_mem_cons.mpr ⟨mz_12_m424, List.forall_mem_cons.mpr ⟨mz_12_m427, List.forall_mem_cons.mpr ⟨mz_12_m431, List.forall_mem_cons.mpr ⟨mz_12_m434, List.forall_mem_cons.mpr ⟨mz_12_m438, List.forall_mem_cons.mpr ⟨mz_12_m442, List.forall_mem_cons.mpr ⟨mz_12_m446, List.forall_mem_cons.mpr ⟨mz_12_m454, List.forall_mem_cons.mpr ⟨mz_12_m457, List.forall_mem_cons.mpr ⟨mz_12_m460, List.forall_mem_cons.mpr ⟨mz_12_m465, List.forall_mem_cons.mpr ⟨mz_12_m472, List.forall_mem_cons.mpr ⟨mz_12_m478, List.forall_mem_cons.mpr ⟨mz_12_m484, List.forall_mem_cons.mpr ⟨mz_12_m487, List.forall_mem_cons.mpr ⟨mz_12_m491, List.forall_mem_cons.mpr ⟨mz_12_m494, List.forall_mem_cons.mpr ⟨mz_12_m497, List.forall_mem_cons.mpr ⟨mz_12_m501, List.forall_mem_cons.mpr ⟨mz_12_m505, List.forall_mem_cons.mpr ⟨mz_12_m508, List.forall_mem_cons.mpr ⟨mz_12_m512, List.forall_mem_cons.mpr ⟨mz_12_m516, List.forall_mem_cons.mpr ⟨mz_12_m519, List.forall_mem_cons.mpr ⟨mz_12_m522, List.forall_mem_cons.mpr ⟨mz_12_m525, List.forall_mem_cons.mpr ⟨mz_12_m529, List.forall_mem_cons.mpr ⟨mz_12_m532, List.forall_mem_cons.mpr ⟨mz_12_m536, List.forall_mem_cons.mpr ⟨mz_12_m539, List.forall_mem_cons.mpr ⟨mz_12_m542, List.forall_mem_cons.mpr ⟨mz_12_m545, List.forall_mem_cons.mpr ⟨mz_12_m548, List.forall_mem_cons.mpr ⟨mz_12_m551, List.forall_mem_cons.mpr ⟨mz_12_m554, List.forall_mem_cons.mpr ⟨mz_12_m557, List.forall_mem_cons.mpr ⟨mz_12_m560, List.forall_mem_cons.mpr ⟨mz_12_m563, List.forall_mem_cons.mpr ⟨mz_12_m566, List.forall_mem_cons.mpr ⟨mz_12_m569, List.forall_mem_cons.mpr ⟨mz_12_m572, List.forall_mem_cons.mpr ⟨mz_12_m575, List.forall_mem_cons.mpr ⟨mz_12_m578, List.forall_mem_cons.mpr ⟨mz_12_m581, List.forall_mem_cons.mpr ⟨mz_12_m584, List.forall_mem_cons.mpr ⟨mz_12_m590, List.forall_mem_cons.mpr ⟨mz_12_m596, List.forall_mem_cons.mpr ⟨mz_12_m603, List.forall_mem_cons.mpr ⟨mz_12_m606, List.forall_mem_cons.mpr ⟨mz_12_m619, List.forall_mem_cons.mpr ⟨mz_12_m622, List.forall_mem_cons.mpr ⟨mz_12_m625, List.forall_mem_cons.mpr ⟨mz_12_m628, List.forall_mem_cons.mpr ⟨mz_12_m631, List.forall_mem_cons.mpr ⟨mz_12_m634, List.forall_mem_cons.mpr ⟨mz_12_m637, List.forall_mem_cons.mpr ⟨mz_12_m640, fun _ h => absurd h List.not_mem_nil⟩⟩⟩⟩⟩⟩⟩⟩⟩⟩⟩⟩⟩⟩⟩⟩⟩⟩⟩⟩⟩⟩⟩⟩⟩⟩⟩⟩⟩⟩⟩⟩⟩⟩⟩⟩⟩⟩⟩⟩⟩⟩⟩⟩⟩⟩⟩⟩⟩⟩⟩⟩⟩⟩⟩⟩⟩⟩⟩⟩⟩⟩⟩⟩⟩⟩⟩⟩⟩⟩⟩⟩⟩⟩⟩⟩⟩⟩⟩⟩⟩⟩⟩⟩⟩⟩⟩⟩⟩⟩⟩⟩⟩⟩⟩⟩⟩⟩⟩⟩⟩⟩⟩⟩⟩⟩⟩⟩⟩⟩⟩⟩⟩⟩
def mz_13 : im_Z := ([], [], [], [], [], [(317, 100), (320, 101)], [(5, 13, 304, 3), (8, 150, 0, 0), (10, 304, 0, 0), (9, 316, 100, 0), (9, 319, 101, 0)])
theorem mz_13_c317 : im_fC im_Ts mx_R13 (317, 100) := Or.inl ⟨rfl, im_in 305 (by decide +kernel) rfl⟩
theorem mz_13_c320 : im_fC im_Ts mx_R13 (320, 101) := Or.inr ⟨rfl, im_in 319 (by decide +kernel) rfl⟩
theorem mz_13_m13 : im_fM im_Ts mx_nw mm_tb mx_R13 (5, 13, 304, 3) := fun y pc len v h => Or.inr (Or.inr (Or.inr (Or.inr (Or.inr (Or.inr ⟨im_m304, rfl, mm_a304, Or.inr (Or.inr (Or.inr (Or.inl ⟨rfl, 13, rfl, by rw [h]; exact im_in 220 (by decide +kernel) rfl, mm_t304⟩)))⟩)))))
theorem mz_13_m150 : im_fM im_Ts mx_nw mm_tb mx_R13 (8, 150, 0, 0) := fun y pc len v h => Or.inr (Or.inl ⟨rfl, 150, rfl, by rw [h]; exact im_in 309 (by decide +kernel) rfl⟩)
theorem mz_13_m304 : im_fM im_Ts mx_nw mm_tb mx_R13 (10, 304, 0, 0) := fun y pc len v h => Or.inr (Or.inr (Or.inr (Or.inl ⟨rfl, 304, rfl, by rw [h]; exact im_in 306 (by decide +kernel) rfl, im_in 307 (by decide +kernel) rfl, im_in 308 (by decide +kernel) rfl, im_in 161 (by decide +kernel) rfl⟩)))
theorem mz_13_m316 : im_fM im_Ts mx_nw mm_tb mx_R13 (9, 316, 100, 0) := fun y pc len v h => Or.inr (Or.inr (Or.inl ⟨rfl, 316, "[I", rfl, Or.inl ⟨rfl, rfl⟩, by rw [h]; exact im_in 299 (by decide +kernel) rfl, im_in 300 (by decide +kernel) rfl, im_in 303 (by decide +kernel) rfl, List.mem_of_getElem? (i := 16) rfl⟩))
theorem mz_13_m319 : im_fM im_Ts mx_nw mm_tb mx_R13 (9, 319, 101, 0) := fun y pc len v h => Or.inr (Or.inr (Or.inl ⟨rfl, 319, "[J", rfl, Or.inr ⟨rfl, rfl⟩, by rw [h]; exact im_in 315 (by decide +kernel) rfl, im_in 316 (by decide +kernel) rfl, im_in 317 (by decide +kernel) rfl, List.mem_of_getElem? (i := 17) rfl⟩))
theorem mz_13_ok : im_zo im_Ts mx_nw mx_cl mx_rA mx_nf mm_tb mx_R13 mz_13 := ⟨fun _ h => absurd h List.not_mem_nil, fun _ h => absurd h List.not_mem_nil, fun _ h => absurd h List.not_mem_nil, fun _ h => absurd h List.not_mem_nil, fun _ h => absurd h List.not_mem_nil, List.forall_mem_cons.mpr ⟨mz_13_c317, List.forall_mem_cons.mpr ⟨mz_13_c320, fun _ h => absurd h List.not_mem_nil⟩⟩, List.forall_mem_cons.mpr ⟨mz_13_m13, List.forall_mem_cons.mpr ⟨mz_13_m150, List.forall_mem_cons.mpr ⟨mz_13_m304, List.forall_mem_cons.mpr ⟨mz_13_m316, List.forall_mem_cons.mpr ⟨mz_13_m319, fun _ h => absurd h List.not_mem_nil⟩⟩⟩⟩⟩⟩
def mz_14 : im_Z := ([], [], [], [(265, 1431655765), (266, 858993459), (267, 252645135)], [], [], [])
theorem mz_14_i265 : im_fI im_Ts mx_R14 (265, 1431655765) := im_in 323 (by decide +kernel) rfl
theorem mz_14_i266 : im_fI im_Ts mx_R14 (266, 858993459) := im_in 324 (by decide +kernel) rfl
theorem mz_14_i267 : im_fI im_Ts mx_R14 (267, 252645135) := im_in 325 (by decide +kernel) rfl
theorem mz_14_ok : im_zo im_Ts mx_nw mx_cl mx_rA mx_nf mm_tb mx_R14 mz_14 := ⟨fun _ h => absurd h List.not_mem_nil, fun _ h => absurd h List.not_mem_nil, fun _ h => absurd h List.not_mem_nil, List.forall_mem_cons.mpr ⟨mz_14_i265, List.forall_mem_cons.mpr ⟨mz_14_i266, List.forall_mem_cons.mpr ⟨mz_14_i267, fun _ h => absurd h List.not_mem_nil⟩⟩⟩, fun _ h => absurd h List.not_mem_nil, fun _ h => absurd h List.not_mem_nil, fun _ h => absurd h List.not_mem_nil⟩
def mz_15 : im_Z := ([], [(7, 0), (10, 12)], [], [], [], [], [(3, 9, 0, 0), (3, 12, 169, 0), (1, 13, 1, 1), (1, 17, 200, 1), (1, 18, 2, 0), (1, 22, 201, 0), (1, 23, 3, 1), (1, 26, 202, 1), (1, 27, 4, 0), (1, 30, 207, 0), (1, 31, 5, 1), (1, 34, 208, 1), (1, 35, 6, 2), (1, 39, 209, 2), (1, 40, 7, 0), (1, 43, 210, 0), (1, 44, 8, 1), (1, 47, 219, 1), (1, 48, 9, 2), (1, 51, 223, 2), (1, 52, 10, 2), (1, 55, 296, 2), (1, 56, 11, 1), (1, 59, 225, 1), (1, 60, 12, 2), (1, 63, 228, 2), (1, 64, 13, 0), (1, 67, 276, 0), (1, 68, 14, 1), (1, 71, 275, 1), (1, 72, 15, 0), (1, 75, 277, 0), (1, 76, 16, 1), (1, 79, 282, 1), (1, 80, 17, 2), (1, 83, 285, 2), (1, 84, 18, 2), (1, 87, 297, 2), (1, 88, 19, 1), (1, 91, 298, 1), (1, 92, 20, 2), (1, 95, 300, 2), (1, 96, 21, 2), (1, 99, 302, 2)])
theorem mz_15_n7 : im_fN im_Ts mx_cl mx_nf mx_R15 (7, 0) := ⟨(mx_R0, mx_T0, 7), rfl, by decide, im_in 173 (by decide +kernel) rfl, rfl⟩
theorem mz_15_n10 : im_fN im_Ts mx_cl mx_nf mx_R15 (10, 12) := ⟨(mx_R12, mx_T12, 74), rfl, by decide, im_in 1391 (by decide +kernel) rfl, rfl⟩
theorem mz_15_m9 : im_fM im_Ts mx_nw mm_tb mx_R15 (3, 9, 0, 0) := fun y pc len v h => Or.inr (Or.inr (Or.inr (Or.inr (Or.inr (Or.inr ⟨im_m0, rfl, mm_a0, Or.inr (Or.inl ⟨rfl, 9, rfl, by rw [h]; exact im_in 175 (by decide +kernel) rfl, mm_i0, rfl, rfl⟩)⟩)))))
theorem mz_15_m12 : im_fM im_Ts mx_nw mm_tb mx_R15 (3, 12, 169, 0) := fun y pc len v h => Or.inr (Or.inr (Or.inr (Or.inr (Or.inr (Or.inr ⟨im_m169, rfl, mm_a169, Or.inr (Or.inl ⟨rfl, 12, rfl, by rw [h]; exact im_in 1393 (by decide +kernel) rfl, mm_i169, rfl, rfl⟩)⟩)))))
theorem mz_15_m13 : im_fM im_Ts mx_nw mm_tb mx_R15 (1, 13, 1, 1) := fun y pc len v h => Or.inr (Or.inr (Or.inr (Or.inr (Or.inr (Or.inr ⟨im_m1, rfl, mm_a1, Or.inl ⟨rfl, 13, rfl, by rw [h]; exact im_in 676 (by decide +kernel) rfl, mm_i1, mm_s1⟩⟩)))))
theorem mz_15_m17 : im_fM im_Ts mx_nw mm_tb mx_R15 (1, 17, 200, 1) := fun y pc len v h => Or.inr (Or.inr (Or.inr (Or.inr (Or.inr (Or.inr ⟨im_m200, rfl, mm_a200, Or.inl ⟨rfl, 17, rfl, by rw [h]; exact im_in 1626 (by decide +kernel) rfl, mm_i200, mm_s200⟩⟩)))))
theorem mz_15_m18 : im_fM im_Ts mx_nw mm_tb mx_R15 (1, 18, 2, 0) := fun y pc len v h => Or.inr (Or.inr (Or.inr (Or.inr (Or.inr (Or.inr ⟨im_m2, rfl, mm_a2, Or.inl ⟨rfl, 18, rfl, by rw [h]; exact im_in 684 (by decide +kernel) rfl, mm_i2, mm_s2⟩⟩)))))
theorem mz_15_m22 : im_fM im_Ts mx_nw mm_tb mx_R15 (1, 22, 201, 0) := fun y pc len v h => Or.inr (Or.inr (Or.inr (Or.inr (Or.inr (Or.inr ⟨im_m201, rfl, mm_a201, Or.inl ⟨rfl, 22, rfl, by rw [h]; exact im_in 1633 (by decide +kernel) rfl, mm_i201, mm_s201⟩⟩)))))
theorem mz_15_m23 : im_fM im_Ts mx_nw mm_tb mx_R15 (1, 23, 3, 1) := fun y pc len v h => Or.inr (Or.inr (Or.inr (Or.inr (Or.inr (Or.inr ⟨im_m3, rfl, mm_a3, Or.inl ⟨rfl, 23, rfl, by rw [h]; exact im_in 688 (by decide +kernel) rfl, mm_i3, mm_s3⟩⟩)))))
theorem mz_15_m26 : im_fM im_Ts mx_nw mm_tb mx_R15 (1, 26, 202, 1) := fun y pc len v h => Or.inr (Or.inr (Or.inr (Or.inr (Or.inr (Or.inr ⟨im_m202, rfl, mm_a202, Or.inl ⟨rfl, 26, rfl, by rw [h]; exact im_in 1637 (by decide +kernel) rfl, mm_i202, mm_s202⟩⟩)))))
theorem mz_15_m27 : im_fM im_Ts mx_nw mm_tb mx_R15 (1, 27, 4, 0) := fun y pc len v h => Or.inr (Or.inr (Or.inr (Or.inr (Or.inr (Or.inr ⟨im_m4, rfl, mm_a4, Or.inl ⟨rfl, 27, rfl, by rw [h]; exact im_in 806 (by decide +kernel) rfl, mm_i4, mm_s4⟩⟩)))))
theorem mz_15_m30 : im_fM im_Ts mx_nw mm_tb mx_R15 (1, 30, 207, 0) := fun y pc len v h => Or.inr (Or.inr (Or.inr (Or.inr (Or.inr (Or.inr ⟨im_m207, rfl, mm_a207, Or.inl ⟨rfl, 30, rfl, by rw [h]; exact im_in 1756 (by decide +kernel) rfl, mm_i207, mm_s207⟩⟩)))))
theorem mz_15_m31 : im_fM im_Ts mx_nw mm_tb mx_R15 (1, 31, 5, 1) := fun y pc len v h => Or.inr (Or.inr (Or.inr (Or.inr (Or.inr (Or.inr ⟨im_m5, rfl, mm_a5, Or.inl ⟨rfl, 31, rfl, by rw [h]; exact im_in 846 (by decide +kernel) rfl, mm_i5, mm_s5⟩⟩)))))
theorem mz_15_m34 : im_fM im_Ts mx_nw mm_tb mx_R15 (1, 34, 208, 1) := fun y pc len v h => Or.inr (Or.inr (Or.inr (Or.inr (Or.inr (Or.inr ⟨im_m208, rfl, mm_a208, Or.inl ⟨rfl, 34, rfl, by rw [h]; exact im_in 1768 (by decide +kernel) rfl, mm_i208, mm_s208⟩⟩)))))
theorem mz_15_m35 : im_fM im_Ts mx_nw mm_tb mx_R15 (1, 35, 6, 2) := fun y pc len v h => Or.inr (Or.inr (Or.inr (Or.inr (Or.inr (Or.inr ⟨im_m6, rfl, mm_a6, Or.inl ⟨rfl, 35, rfl, by rw [h]; exact im_in 859 (by decide +kernel) rfl, mm_i6, mm_s6⟩⟩)))))
theorem mz_15_m39 : im_fM im_Ts mx_nw mm_tb mx_R15 (1, 39, 209, 2) := fun y pc len v h => Or.inr (Or.inr (Or.inr (Or.inr (Or.inr (Or.inr ⟨im_m209, rfl, mm_a209, Or.inl ⟨rfl, 39, rfl, by rw [h]; exact im_in 1776 (by decide +kernel) rfl, mm_i209, mm_s209⟩⟩)))))
theorem mz_15_m40 : im_fM im_Ts mx_nw mm_tb mx_R15 (1, 40, 7, 0) := fun y pc len v h => Or.inr (Or.inr (Or.inr (Or.inr (Or.inr (Or.inr ⟨im_m7, rfl, mm_a7, Or.inl ⟨rfl, 40, rfl, by rw [h]; exact im_in 864 (by decide +kernel) rfl, mm_i7, mm_s7⟩⟩)))))
theorem mz_15_m43 : im_fM im_Ts mx_nw mm_tb mx_R15 (1, 43, 210, 0) := fun y pc len v h => Or.inr (Or.inr (Or.inr (Or.inr (Or.inr (Or.inr ⟨im_m210, rfl, mm_a210, Or.inl ⟨rfl, 43, rfl, by rw [h]; exact im_in 1780 (by decide +kernel) rfl, mm_i210, mm_s210⟩⟩)))))
theorem mz_15_m44 : im_fM im_Ts mx_nw mm_tb mx_R15 (1, 44, 8, 1) := fun y pc len v h => Or.inr (Or.inr (Or.inr (Or.inr (Or.inr (Or.inr ⟨im_m8, rfl, mm_a8, Or.inl ⟨rfl, 44, rfl, by rw [h]; exact im_in 868 (by decide +kernel) rfl, mm_i8, mm_s8⟩⟩)))))
theorem mz_15_m47 : im_fM im_Ts mx_nw mm_tb mx_R15 (1, 47, 219, 1) := fun y pc len v h => Or.inr (Or.inr (Or.inr (Or.inr (Or.inr (Or.inr ⟨im_m219, rfl, mm_a219, Or.inl ⟨rfl, 47, rfl, by rw [h]; exact im_in 1784 (by decide +kernel) rfl, mm_i219, mm_s219⟩⟩)))))
theorem mz_15_m48 : im_fM im_Ts mx_nw mm_tb mx_R15 (1, 48, 9, 2) := fun y pc len v h => Or.inr (Or.inr (Or.inr (Or.inr (Or.inr (Or.inr ⟨im_m9, rfl, mm_a9, Or.inl ⟨rfl, 48, rfl, by rw [h]; exact im_in 900 (by decide +kernel) rfl, mm_i9, mm_s9⟩⟩)))))
theorem mz_15_m51 : im_fM im_Ts mx_nw mm_tb mx_R15 (1, 51, 223, 2) := fun y pc len v h => Or.inr (Or.inr (Or.inr (Or.inr (Or.inr (Or.inr ⟨im_m223, rfl, mm_a223, Or.inl ⟨rfl, 51, rfl, by rw [h]; exact im_in 1824 (by decide +kernel) rfl, mm_i223, mm_s223⟩⟩)))))
theorem mz_15_m52 : im_fM im_Ts mx_nw mm_tb mx_R15 (1, 52, 10, 2) := fun y pc len v h => Or.inr (Or.inr (Or.inr (Or.inr (Or.inr (Or.inr ⟨im_m10, rfl, mm_a10, Or.inl ⟨rfl, 52, rfl, by rw [h]; exact im_in 925 (by decide +kernel) rfl, mm_i10, mm_s10⟩⟩)))))
theorem mz_15_m55 : im_fM im_Ts mx_nw mm_tb mx_R15 (1, 55, 296, 2) := fun y pc len v h => Or.inr (Or.inr (Or.inr (Or.inr (Or.inr (Or.inr ⟨im_m296, rfl, mm_a296, Or.inl ⟨rfl, 55, rfl, by rw [h]; exact im_in 2085 (by decide +kernel) rfl, mm_i296, mm_s296⟩⟩)))))
theorem mz_15_m56 : im_fM im_Ts mx_nw mm_tb mx_R15 (1, 56, 11, 1) := fun y pc len v h => Or.inr (Or.inr (Or.inr (Or.inr (Or.inr (Or.inr ⟨im_m11, rfl, mm_a11, Or.inl ⟨rfl, 56, rfl, by rw [h]; exact im_in 1018 (by decide +kernel) rfl, mm_i11, mm_s11⟩⟩)))))
theorem mz_15_m59 : im_fM im_Ts mx_nw mm_tb mx_R15 (1, 59, 225, 1) := fun y pc len v h => Or.inr (Or.inr (Or.inr (Or.inr (Or.inr (Or.inr ⟨im_m225, rfl, mm_a225, Or.inl ⟨rfl, 59, rfl, by rw [h]; exact im_in 1840 (by decide +kernel) rfl, mm_i225, mm_s225⟩⟩)))))
theorem mz_15_m60 : im_fM im_Ts mx_nw mm_tb mx_R15 (1, 60, 12, 2) := fun y pc len v h => Or.inr (Or.inr (Or.inr (Or.inr (Or.inr (Or.inr ⟨im_m12, rfl, mm_a12, Or.inl ⟨rfl, 60, rfl, by rw [h]; exact im_in 1039 (by decide +kernel) rfl, mm_i12, mm_s12⟩⟩)))))
theorem mz_15_m63 : im_fM im_Ts mx_nw mm_tb mx_R15 (1, 63, 228, 2) := fun y pc len v h => Or.inr (Or.inr (Or.inr (Or.inr (Or.inr (Or.inr ⟨im_m228, rfl, mm_a228, Or.inl ⟨rfl, 63, rfl, by rw [h]; exact im_in 1848 (by decide +kernel) rfl, mm_i228, mm_s228⟩⟩)))))
theorem mz_15_m64 : im_fM im_Ts mx_nw mm_tb mx_R15 (1, 64, 13, 0) := fun y pc len v h => Or.inr (Or.inr (Or.inr (Or.inr (Or.inr (Or.inr ⟨im_m13, rfl, mm_a13, Or.inl ⟨rfl, 64, rfl, by rw [h]; exact im_in 1051 (by decide +kernel) rfl, mm_i13, mm_s13⟩⟩)))))
theorem mz_15_m67 : im_fM im_Ts mx_nw mm_tb mx_R15 (1, 67, 276, 0) := fun y pc len v h => Or.inr (Or.inr (Or.inr (Or.inr (Or.inr (Or.inr ⟨im_m276, rfl, mm_a276, Or.inl ⟨rfl, 67, rfl, by rw [h]; exact im_in 2045 (by decide +kernel) rfl, mm_i276, mm_s276⟩⟩)))))
theorem mz_15_m68 : im_fM im_Ts mx_nw mm_tb mx_R15 (1, 68, 14, 1) := fun y pc len v h => Or.inr (Or.inr (Or.inr (Or.inr (Or.inr (Or.inr ⟨im_m14, rfl, mm_a14, Or.inl ⟨rfl, 68, rfl, by rw [h]; exact im_in 1092 (by decide +kernel) rfl, mm_i14, mm_s14⟩⟩)))))
theorem mz_15_m71 : im_fM im_Ts mx_nw mm_tb mx_R15 (1, 71, 275, 1) := fun y pc len v h => Or.inr (Or.inr (Or.inr (Or.inr (Or.inr (Or.inr ⟨im_m275, rfl, mm_a275, Or.inl ⟨rfl, 71, rfl, by rw [h]; exact im_in 1860 (by decide +kernel) rfl, mm_i275, mm_s275⟩⟩)))))
theorem mz_15_m72 : im_fM im_Ts mx_nw mm_tb mx_R15 (1, 72, 15, 0) := fun y pc len v h => Or.inr (Or.inr (Or.inr (Or.inr (Or.inr (Or.inr ⟨im_m15, rfl, mm_a15, Or.inl ⟨rfl, 72, rfl, by rw [h]; exact im_in 1313 (by decide +kernel) rfl, mm_i15, mm_s15⟩⟩)))))
theorem mz_15_m75 : im_fM im_Ts mx_nw mm_tb mx_R15 (1, 75, 277, 0) := fun y pc len v h => Or.inr (Or.inr (Or.inr (Or.inr (Or.inr (Or.inr ⟨im_m277, rfl, mm_a277, Or.inl ⟨rfl, 75, rfl, by rw [h]; exact im_in 2049 (by decide +kernel) rfl, mm_i277, mm_s277⟩⟩)))))
theorem mz_15_m76 : im_fM im_Ts mx_nw mm_tb mx_R15 (1, 76, 16, 1) := fun y pc len v h => Or.inr (Or.inr (Or.inr (Or.inr (Or.inr (Or.inr ⟨im_m16, rfl, mm_a16, Or.inl ⟨rfl, 76, rfl, by rw [h]; exact im_in 1317 (by decide +kernel) rfl, mm_i16, mm_s16⟩⟩)))))
theorem mz_15_m79 : im_fM im_Ts mx_nw mm_tb mx_R15 (1, 79, 282, 1) := fun y pc len v h => Or.inr (Or.inr (Or.inr (Or.inr (Or.inr (Or.inr ⟨im_m282, rfl, mm_a282, Or.inl ⟨rfl, 79, rfl, by rw [h]; exact im_in 2053 (by decide +kernel) rfl, mm_i282, mm_s282⟩⟩)))))
theorem mz_15_m80 : im_fM im_Ts mx_nw mm_tb mx_R15 (1, 80, 17, 2) := fun y pc len v h => Or.inr (Or.inr (Or.inr (Or.inr (Or.inr (Or.inr ⟨im_m17, rfl, mm_a17, Or.inl ⟨rfl, 80, rfl, by rw [h]; exact im_in 1345 (by decide +kernel) rfl, mm_i17, mm_s17⟩⟩)))))
theorem mz_15_m83 : im_fM im_Ts mx_nw mm_tb mx_R15 (1, 83, 285, 2) := fun y pc len v h => Or.inr (Or.inr (Or.inr (Or.inr (Or.inr (Or.inr ⟨im_m285, rfl, mm_a285, Or.inl ⟨rfl, 83, rfl, by rw [h]; exact im_in 2073 (by decide +kernel) rfl, mm_i285, mm_s285⟩⟩)))))
theorem mz_15_m84 : im_fM im_Ts mx_nw mm_tb mx_R15 (1, 84, 18, 2) := fun y pc len v h => Or.inr (Or.inr (Or.inr (Or.inr (Or.inr (Or.inr ⟨im_m18, rfl, mm_a18, Or.inl ⟨rfl, 84, rfl, by rw [h]; exact im_in 1360 (by decide +kernel) rfl, mm_i18, mm_s18⟩⟩)))))
theorem mz_15_m87 : im_fM im_Ts mx_nw mm_tb mx_R15 (1, 87, 297, 2) := fun y pc len v h => Or.inr (Or.inr (Or.inr (Or.inr (Or.inr (Or.inr ⟨im_m297, rfl, mm_a297, Or.inl ⟨rfl, 87, rfl, by rw [h]; exact im_in 2134 (by decide +kernel) rfl, mm_i297, mm_s297⟩⟩)))))
theorem mz_15_m88 : im_fM im_Ts mx_nw mm_tb mx_R15 (1, 88, 19, 1) := fun y pc len v h => Or.inr (Or.inr (Or.inr (Or.inr (Or.inr (Or.inr ⟨im_m19, rfl, mm_a19, Or.inl ⟨rfl, 88, rfl, by rw [h]; exact im_in 1365 (by decide +kernel) rfl, mm_i19, mm_s19⟩⟩)))))
theorem mz_15_m91 : im_fM im_Ts mx_nw mm_tb mx_R15 (1, 91, 298, 1) := fun y pc len v h => Or.inr (Or.inr (Or.inr (Or.inr (Or.inr (Or.inr ⟨im_m298, rfl, mm_a298, Or.inl ⟨rfl, 91, rfl, by rw [h]; exact im_in 2138 (by decide +kernel) rfl, mm_i298, mm_s298⟩⟩)))))
theorem mz_15_m92 : im_fM im_Ts mx_nw mm_tb mx_R15 (1, 92, 20, 2) := fun y pc len v h => Or.inr (Or.inr (Or.inr (Or.inr (Or.inr (Or.inr ⟨im_m20, rfl, mm_a20, Or.inl ⟨rfl, 92, rfl, by rw [h]; exact im_in 1370 (by decide +kernel) rfl, mm_i20, mm_s20⟩⟩)))))
theorem mz_15_m95 : im_fM im_Ts mx_nw mm_tb mx_R15 (1, 95, 300, 2) := fun y pc len v h => Or.inr (Or.inr (Or.inr (Or.inr (Or.inr (Or.inr ⟨im_m300, rfl, mm_a300, Or.inl ⟨rfl, 95, rfl, by rw [h]; exact im_in 2142 (by decide +kernel) rfl, mm_i300, mm_s300⟩⟩)))))
theorem mz_15_m96 : im_fM im_Ts mx_nw mm_tb mx_R15 (1, 96, 21, 2) := fun y pc len v h => Or.inr (Or.inr (Or.inr (Or.inr (Or.inr (Or.inr ⟨im_m21, rfl, mm_a21, Or.inl ⟨rfl, 96, rfl, by rw [h]; exact im_in 1384 (by decide +kernel) rfl, mm_i21, mm_s21⟩⟩)))))
theorem mz_15_m99 : im_fM im_Ts mx_nw mm_tb mx_R15 (1, 99, 302, 2) := fun y pc len v h => Or.inr (Or.inr (Or.inr (Or.inr (Or.inr (Or.inr ⟨im_m302, rfl, mm_a302, Or.inl ⟨rfl, 99, rfl, by rw [h]; exact im_in 2150 (by decide +kernel) rfl, mm_i302, mm_s302⟩⟩)))))
theorem mz_15_ok : im_zo im_Ts mx_nw mx_cl mx_rA mx_nf mm_tb mx_R15 mz_15 := ⟨fun _ h => absurd h List.not_mem_nil, List.forall_mem_cons.mpr ⟨mz_15_n7, List.forall_mem_cons.mpr ⟨mz_15_n10, fun _ h => absurd h List.not_mem_nil⟩⟩, fun _ h => absurd h List.not_mem_nil, fun _ h => absurd h List.not_mem_nil, fun _ h => absurd h List.not_mem_nil, fun _ h => absurd h List.not_mem_nil, List.forall_mem_cons.mpr ⟨mz_15_m9, List.forall_mem_cons.mpr ⟨mz_15_m12, List.forall_mem_cons.mpr ⟨mz_15_m13, List.forall_mem_cons.mpr ⟨mz_15_m17, List.forall_mem_cons.mpr ⟨mz_15_m18, List.forall_mem_cons.mpr ⟨mz_15_m22, List.forall_mem_cons.mpr ⟨mz_15_m23, List.forall_mem_cons.mpr ⟨mz_15_m26, List.forall_mem_cons.mpr ⟨mz_15_m27, List.forall_mem_cons.mpr ⟨mz_15_m30, List.forall_mem_cons.mpr ⟨mz_15_m31, List.forall_mem_cons.mpr ⟨mz_15_m34, List.forall_mem_cons.mpr ⟨mz_15_m35, List.forall_mem_cons.mpr ⟨mz_15_m39, List.forall_mem_cons.mpr ⟨mz_15_m40, List.forall_mem_cons.mpr ⟨mz_15_m43, List.forall_mem_cons.mpr ⟨mz_15_m44, List.forall_mem_cons.mpr ⟨mz_15_m47, List.forall_mem_cons.mpr ⟨mz_15_m48, List.forall_mem_cons.mpr ⟨mz_15_m51, List.forall_mem_cons.mpr ⟨mz_15_m52, List.forall_mem_cons.mpr ⟨mz_15_m55, List.forall_mem_cons.mpr ⟨mz_15_m56, List.forall_mem_cons.mpr ⟨mz_15_m59, List.forall_mem_cons.mpr ⟨mz_15_m60, List.forall_mem_cons.mpr ⟨mz_15_m63, List.forall_mem_cons.mpr ⟨mz_15_m64, List.forall_mem_cons.mpr ⟨mz_15_m67, List.forall_mem_cons.mpr ⟨mz_15_m68, List.forall_mem_cons.mpr ⟨mz_15_m71, List.forall_mem_cons.mpr ⟨mz_15_m72, List.forall_mem_cons.mpr ⟨mz_15_m75, List.forall_mem_cons.mpr ⟨mz_15_m76, List.forall_mem_cons.mpr ⟨mz_15_m79, List.forall_mem_cons.mpr ⟨mz_15_m80, List.forall_mem_cons.mpr ⟨mz_15_m83, List.forall_mem_cons.mpr ⟨mz_15_m84, List.forall_mem_cons.mpr ⟨mz_15_m87, List.forall_mem_cons.mpr ⟨mz_15_m88, List.forall_mem_cons.mpr ⟨mz_15_m91, List.forall_mem_cons.mpr ⟨mz_15_m92, List.forall_mem_cons.mpr ⟨mz_15_m95, List.forall_mem_cons.mpr ⟨mz_15_m96, List.forall_mem_cons.mpr ⟨mz_15_m99, fun _ h => absurd h List.not_mem_nil⟩⟩⟩⟩⟩⟩⟩⟩⟩⟩⟩⟩⟩⟩⟩⟩⟩⟩⟩⟩⟩⟩⟩⟩⟩⟩⟩⟩⟩⟩⟩⟩⟩⟩⟩⟩⟩⟩⟩⟩⟩⟩⟩⟩⟩
