/-! WRITING: NUMBERS AND NAMES -/
theorem pw_pos {b : Nat} (hb : 0 < b) (k : Nat) : 0 < b ^ k := Nat.pow_pos hb
/-- a unit becomes the next lower one -/
theorem un_dn {b k : Nat} (hb : 0 < b) : ((b ^ (k + 1) : Nat) : Int) / (b : Int) = ((b ^ k : Nat) : Int) := by
  rw [← Int.natCast_ediv, Nat.pow_succ, Nat.mul_div_cancel _ hb]
section WNU
variable {m m' : hy_m} {Q : Int → hy_m → Prop} {o : List Int}
/-- putNumber: the signs -/
theorem sp_287_50 {n k : Nat} (h : mOu m o) (hq : ∀ m', wFm m m' → mOu m' (tkp o (dgB 10 48 k n)) → Q 0 m') : wq_287_50 (n : Int) ((10 ^ k : Nat) : Int) m Q := by
  unfold wq_287_50
  refine wL1_rule (Nat.lt_wfRel.wf) (fun x5 m' => wFm m m' ∧ ((x5 = 0 ∧ mOu m' (tkp o (dgB 10 48 k n))) ∨ ∃ (j : Nat) (o' : List Int), x5 = ((10 ^ j : Nat) : Int) ∧ mOu m' o' ∧ tkp o' (dgB 10 48 j n) = tkp o (dgB 10 48 k n))) (fun x5 _ => x5.toNat) ?_ ⟨wFm.rfl', Or.inr ⟨k, o, rfl, h, rfl⟩⟩
  rintro P x5 m1 ⟨hf, hx⟩ hP
  unfold wf_287_50
  rcases hx with ⟨rfl, ho⟩ | ⟨j, o', rfl, ho, he⟩
  · exact ⟨fun _ => hq m1 hf ho, fun q => absurd q (by decide)⟩
  · have hp := pw_pos (b := 10) (by decide) j
    have hd : (n : Int) / ((10 ^ j : Nat) : Int) = ((n / 10 ^ j : Nat) : Int) := by rw [← Int.natCast_ediv]
    rw [hd]
    refine ⟨fun q => by omega, fun q => ⟨by omega, q, Int.natCast_nonneg _, by decide, show -2147483648 ≤ _ ∧ _ < 2147483648 by omega, sp_286 ho (fun m2 f2 o2 => ⟨by omega, by decide, hP _ _ ⟨hf.tr f2, ?_⟩ ?_⟩)⟩⟩
    · have ec : (48 : Int) + ((n / 10 ^ j : Nat) : Int) % 10 = ((48 + n / 10 ^ j % 10 : Nat) : Int) := by omega
      rw [ec] at o2
      cases j with
      | zero =>
        refine Or.inl ⟨by decide, ?_⟩
        rw [← he]
        show mOu m2 (tkp o' [((48 + n % 10 : Nat) : Int)])
        rw [Nat.pow_zero, Nat.div_one] at o2
        exact o2
      | succ j =>
        refine Or.inr ⟨j, _, un_dn (b := 10) (by decide), o2, ?_⟩
        rw [tkp_tkp, ← he]
        rfl
    · show (((10 ^ j : Nat) : Int) / 10).toNat < (((10 ^ j : Nat) : Int)).toNat
      omega
/-- putNumber -/
theorem sp_287 {v : Int} (hv : v.natAbs < 10 ^ 12) (h : mOu m o) (hq : ∀ m', wFm m m' → mOu m' (tkp o (nT v)) → Q 0 m') : wq_287 v m Q := by
  have hnK := nlB_ok (b := 10) (by decide) 12 v.natAbs (Nat.lt_trans hv (by decide))
  have inn : ∀ (n : Nat), n = v.natAbs → wq_287_16 v (n : Int) 1 m Q := by
    intro n hn
    unfold wq_287_16
    refine wL1_rule (Nat.lt_wfRel.wf) (fun x5 m' => m' = m ∧ ∃ j : Nat, x5 = ((10 ^ j : Nat) : Int) ∧ (∀ i, i < j → 10 ≤ n / 10 ^ i)) (fun x5 _ => (10 : Nat) ^ 14 - x5.toNat) ?_ ⟨rfl, 0, rfl, fun i hi => absurd hi (Nat.not_lt_zero _)⟩
    rintro P x5 m1 ⟨e1, j, rfl, hj⟩ hP
    have hp := pw_pos (b := 10) (by decide) j
    have hd : (n : Int) / ((10 ^ j : Nat) : Int) = ((n / 10 ^ j : Nat) : Int) := by rw [← Int.natCast_ediv]
    unfold wf_287_16
    rw [e1, hd]
    refine ⟨by omega, by omega, fun q => ?_, fun q => ?_⟩
    · have ej : j = nlB 10 12 v.natAbs := nK_uq ⟨by omega, hj⟩ (hn ▸ hnK)
      refine ⟨fun q2 => sp_287_50 h (fun m' f' o' => hq m' f' ?_), fun q2 => sp_286 h (fun m2 f2 o2 => sp_287_50 o2 (fun m' f' o' => hq m' (f2.tr f') ?_))⟩
      · unfold nT
        rw [if_neg (by omega), ← ej, ← hn]
        exact o'
      · unfold nT
        rw [if_pos q2, ← ej, ← hn, ← tkp_tkp]
        exact o'
    · have h10 : 10 ^ j * 10 ≤ n := by
        have q : 10 ≤ n / 10 ^ j := by omega
        have := (Nat.le_div_iff_mul_le hp).mp q
        omega
      refine ⟨show -9223372036854775808 ≤ _ ∧ _ < 9223372036854775808 by omega, hP _ _ ⟨rfl, j + 1, ?_, fun i hi => ?_⟩ ?_⟩
      · rw [Nat.pow_succ]
        omega
      · by_cases c : i = j
        · rw [c]
          omega
        · exact hj i (by omega)
      · show (10 : Nat) ^ 14 - _ < (10 : Nat) ^ 14 - _
        omega
  unfold wq_287
  refine ⟨fun q => ?_, fun q => ⟨show -9223372036854775808 ≤ _ ∧ _ < 9223372036854775808 by omega, ?_⟩⟩
  · have := inn v.natAbs rfl
    rw [show ((v.natAbs : Nat) : Int) = v by omega] at this
    exact this
  · have := inn v.natAbs rfl
    rw [show ((v.natAbs : Nat) : Int) = -v by omega] at this
    exact this
/-- putName: the signs -/
theorem sp_288_40 {n k : Nat} (h : mOu m o) (hq : ∀ m', wFm m m' → mOu m' (tkp o (dgB 128 0 k n)) → Q 0 m') : wq_288_40 (n : Int) ((128 ^ k : Nat) : Int) m Q := by
  unfold wq_288_40
  refine wL1_rule (Nat.lt_wfRel.wf) (fun x5 m' => wFm m m' ∧ ((x5 = 0 ∧ mOu m' (tkp o (dgB 128 0 k n))) ∨ ∃ (j : Nat) (o' : List Int), x5 = ((128 ^ j : Nat) : Int) ∧ mOu m' o' ∧ tkp o' (dgB 128 0 j n) = tkp o (dgB 128 0 k n))) (fun x5 _ => x5.toNat) ?_ ⟨wFm.rfl', Or.inr ⟨k, o, rfl, h, rfl⟩⟩
  rintro P x5 m1 ⟨hf, hx⟩ hP
  unfold wf_288_40
  rcases hx with ⟨rfl, ho⟩ | ⟨j, o', rfl, ho, he⟩
  · exact ⟨fun _ => hq m1 hf ho, fun q => absurd q (by decide)⟩
  · have hp := pw_pos (b := 128) (by decide) j
    have hd : (n : Int) / ((128 ^ j : Nat) : Int) = ((n / 128 ^ j : Nat) : Int) := by rw [← Int.natCast_ediv]
    rw [hd]
    refine ⟨fun q => by omega, fun q => ⟨by omega, q, Int.natCast_nonneg _, by decide, show -2147483648 ≤ _ ∧ _ < 2147483648 by omega, sp_286 ho (fun m2 f2 o2 => ⟨by omega, by decide, hP _ _ ⟨hf.tr f2, ?_⟩ ?_⟩)⟩⟩
    · have ec : ((n / 128 ^ j : Nat) : Int) % 128 = ((0 + n / 128 ^ j % 128 : Nat) : Int) := by omega
      rw [ec] at o2
      cases j with
      | zero =>
        refine Or.inl ⟨by decide, ?_⟩
        rw [← he]
        show mOu m2 (tkp o' [((0 + n % 128 : Nat) : Int)])
        rw [Nat.pow_zero, Nat.div_one] at o2
        exact o2
      | succ j =>
        refine Or.inr ⟨j, _, un_dn (b := 128) (by decide), o2, ?_⟩
        rw [tkp_tkp, ← he]
        rfl
    · show (((128 ^ j : Nat) : Int) / 128).toNat < (((128 ^ j : Nat) : Int)).toNat
      omega
/-- putName -/
theorem sp_288 {k : Int} (hk : 0 ≤ k ∧ k < 4398046511104) (h : mOu m o) (hq : ∀ m', wFm m m' → mOu m' (tkp o (nmT k)) → Q 0 m') : wq_288 k m Q := by
  unfold wq_288
  refine ⟨fun q => ?_, fun q => ?_⟩
  · have hnK := nlB_ok (b := 128) (by decide) 8 k.toNat (Nat.lt_trans (show k.toNat < 4398046511104 by omega) (by decide))
    obtain ⟨n, rfl⟩ : ∃ n : Nat, k = n := ⟨k.toNat, by omega⟩
    rw [Int.toNat_natCast] at hnK
    unfold wq_288_21
    refine wL1_rule (Nat.lt_wfRel.wf) (fun x5 m' => m' = m ∧ ∃ j : Nat, x5 = ((128 ^ j : Nat) : Int) ∧ (∀ i, i < j → 128 ≤ n / 128 ^ i)) (fun x5 _ => (2 : Nat) ^ 60 - x5.toNat) ?_ ⟨rfl, 0, rfl, fun i hi => absurd hi (Nat.not_lt_zero _)⟩
    rintro P x5 m1 ⟨e1, j, rfl, hj⟩ hP
    have hp := pw_pos (b := 128) (by decide) j
    have hd : (n : Int) / ((128 ^ j : Nat) : Int) = ((n / 128 ^ j : Nat) : Int) := by rw [← Int.natCast_ediv]
    unfold wf_288_21
    rw [e1, hd]
    refine ⟨by omega, by omega, fun q => ?_, fun q => ?_⟩
    · have ej : j = nlB 128 8 n := nK_uq ⟨by omega, hj⟩ hnK
      refine sp_288_40 h (fun m' f' o' => hq m' f' ?_)
      unfold nmT
      rw [if_neg (by assumption), Int.toNat_natCast, ← ej]
      exact o'
    · have h10 : 128 ^ j * 128 ≤ n := by
        have q : 128 ≤ n / 128 ^ j := by omega
        have := (Nat.le_div_iff_mul_le hp).mp q
        omega
      refine ⟨show -9223372036854775808 ≤ _ ∧ _ < 9223372036854775808 by omega, hP _ _ ⟨rfl, j + 1, ?_, fun i hi => ?_⟩ ?_⟩
      · rw [Nat.pow_succ]
        omega
      · by_cases c : i = j
        · rw [c]
          omega
        · exact hj i (by omega)
      · show (2 : Nat) ^ 60 - _ < (2 : Nat) ^ 60 - _
        omega
  · refine sp_286 h (fun m1 f1 o1 => sp_286 o1 (fun m2 f2 o2 => hq m2 (f1.tr f2) ?_))
    rw [tkp_tkp] at o2
    unfold nmT
    rw [if_pos q]
    exact o2
/-- addNumber: the signs -/
theorem sp_166_55 {n k : Nat} (h : cOu m o) (hq : ∀ m', wFc m m' → cOu m' (tkp o (dgB 10 48 k n)) → Q 0 m') : wq_166_55 (n : Int) ((10 ^ k : Nat) : Int) m Q := by
  unfold wq_166_55
  refine wL1_rule (Nat.lt_wfRel.wf) (fun x5 m' => wFc m m' ∧ ((x5 = 0 ∧ cOu m' (tkp o (dgB 10 48 k n))) ∨ ∃ (j : Nat) (o' : List Int), x5 = ((10 ^ j : Nat) : Int) ∧ cOu m' o' ∧ tkp o' (dgB 10 48 j n) = tkp o (dgB 10 48 k n))) (fun x5 _ => x5.toNat) ?_ ⟨wFc.rfl', Or.inr ⟨k, o, rfl, h, rfl⟩⟩
  rintro P x5 m1 ⟨hf, hx⟩ hP
  unfold wf_166_55
  rcases hx with ⟨rfl, ho⟩ | ⟨j, o', rfl, ho, he⟩
  · exact ⟨fun _ => hq m1 hf ho, fun q => absurd q (by decide)⟩
  · have hp := pw_pos (b := 10) (by decide) j
    have hd : (n : Int) / ((10 ^ j : Nat) : Int) = ((n / 10 ^ j : Nat) : Int) := by rw [← Int.natCast_ediv]
    rw [hd]
    refine ⟨fun q => by omega, fun q => ⟨by omega, q, Int.natCast_nonneg _, by decide, show -2147483648 ≤ _ ∧ _ < 2147483648 by omega, sp_168 (by omega) ho (fun m2 f2 o2 => ⟨by omega, by decide, hP _ _ ⟨hf.tr f2, ?_⟩ ?_⟩)⟩⟩
    · have ec : ((n / 10 ^ j : Nat) : Int) % 10 + (48 : Int) = ((48 + n / 10 ^ j % 10 : Nat) : Int) := by omega
      rw [ec] at o2
      cases j with
      | zero =>
        refine Or.inl ⟨by decide, ?_⟩
        rw [← he]
        show cOu m2 (tkp o' [((48 + n % 10 : Nat) : Int)])
        rw [Nat.pow_zero, Nat.div_one] at o2
        exact o2
      | succ j =>
        refine Or.inr ⟨j, _, un_dn (b := 10) (by decide), o2, ?_⟩
        rw [tkp_tkp, ← he]
        rfl
    · show (((10 ^ j : Nat) : Int) / 10).toNat < (((10 ^ j : Nat) : Int)).toNat
      omega
/-- addNumber -/
theorem sp_166 {v : Int} (hv : v.natAbs < 10 ^ 10) (h : cOu m o) (hq : ∀ m', wFc m m' → cOu m' (tkp o (nT v)) → Q 0 m') : wq_166 v m Q := by
  have hnK := nlB_ok (b := 10) (by decide) 12 v.natAbs (Nat.lt_trans hv (by decide))
  have inn : ∀ (m0 : hy_m) (o0 : List Int), cOu m0 o0 → (∀ m', wFc m0 m' → cOu m' (tkp o0 (dgB 10 48 (nlB 10 12 v.natAbs) v.natAbs)) → Q 0 m') → wq_166_23 ((v.natAbs : Nat) : Int) 1 1 m0 Q := by
    intro m0 o0 h0 hq0
    unfold wq_166_23
    refine wL2_rule (Nat.lt_wfRel.wf) (fun x5 x7 m' => m' = m0 ∧ ∃ j : Nat, x5 = ((10 ^ j : Nat) : Int) ∧ x7 = (j : Int) + 1 ∧ j ≤ 9 ∧ (∀ i, i < j → 10 ≤ v.natAbs / 10 ^ i)) (fun _ x7 _ => 30 - x7.toNat) ?_ ⟨rfl, 0, rfl, rfl, by decide, fun i hi => absurd hi (Nat.not_lt_zero _)⟩
    rintro P x5 x7 m1 ⟨e1, j, rfl, rfl, hj9, hj⟩ hP
    have hp := pw_pos (b := 10) (by decide) j
    have h9 : 10 ^ j ≤ 10 ^ 9 := Nat.pow_le_pow_right (by decide) hj9
    have fin : v.natAbs / 10 ^ j < 10 → wq_166_55 ((v.natAbs : Nat) : Int) ((10 ^ j : Nat) : Int) m0 Q := fun q => by
      have ej : j = nlB 10 12 v.natAbs := nK_uq ⟨q, hj⟩ hnK
      refine sp_166_55 h0 (fun m' f' o' => hq0 m' f' ?_)
      rw [← ej]
      exact o'
    unfold wf_166_23
    rw [e1]
    refine ⟨fun q => fin ?_, fun q => ⟨show -9223372036854775808 ≤ _ ∧ _ < 9223372036854775808 by omega, fun q2 => fin ?_, fun q2 => ⟨show -9223372036854775808 ≤ _ ∧ _ < 9223372036854775808 by omega, show -2147483648 ≤ _ ∧ _ < 2147483648 by omega, hP _ _ _ ⟨rfl, j + 1, ?_, by omega, by omega, fun i hi => ?_⟩ ?_⟩⟩⟩
    · have ej : j = 9 := by omega
      rw [ej]
      exact (Nat.div_lt_iff_lt_mul (by decide)).mpr (Nat.lt_of_lt_of_le hv (by decide))
    · exact (Nat.div_lt_iff_lt_mul hp).mpr (by omega)
    · rw [Nat.pow_succ]
      omega
    · by_cases c : i = j
      · rw [c]
        exact (Nat.le_div_iff_mul_le hp).mpr (by omega)
      · exact hj i (by omega)
    · show 30 - _ < 30 - _
      omega
  unfold wq_166
  have ea : (if 0 < v then v else -v) = ((v.natAbs : Nat) : Int) := by
    split <;> omega
  rw [ea]
  refine ⟨fun q => ⟨by omega, inn m o h (fun m' f' o' => hq m' f' ?_)⟩, fun q => sp_168 (by decide) h (fun m1 f1 o1 => ⟨by omega, inn m1 _ o1 (fun m' f' o' => hq m' (f1.tr f') ?_)⟩)⟩
  · unfold nT
    rw [if_neg (by omega)]
    exact o'
  · rw [tkp_tkp] at o'
    unfold nT
    rw [if_pos q]
    exact o'
/-- addName -/
theorem sp_167l {l : List Int} (hl : ∀ c ∈ l, 1 ≤ c ∧ c < 128) (h6 : l.length ≤ 6) (h : cOu m o) (hq : ∀ m', wFc m m' → cOu m' (tkp o l) → Q 0 m') : wq_167 (pkC l) m Q := by
  unfold wq_167 wq_167_2
  refine wL1_rule (Nat.lt_wfRel.wf) (fun x3 m' => ∃ p r, l = p ++ r ∧ x3 = pkC r ∧ wFc m m' ∧ cOu m' (tkp o p)) (fun x3 _ => x3.toNat) ?_ ⟨[], l, rfl, rfl, wFc.rfl', by rw [tkp_nil h.2.1]; exact h⟩
  rintro P x3 m1 ⟨p, r, e, rfl, hf, ho⟩ hP
  unfold wf_167_2
  have hpos : ∀ r : List Int, (∀ c ∈ r, 1 ≤ c ∧ c < 128) → 0 ≤ pkC r := by
    intro r
    induction r with
    | nil => intro _; exact Int.le_refl _
    | cons c r ih =>
      intro hc
      have := ih (fun c' h' => hc c' (List.mem_cons_of_mem _ h'))
      have := hc c (List.mem_cons_self ..)
      show 0 ≤ c + 128 * pkC r
      omega
  cases r with
  | nil =>
    rw [List.append_nil] at e
    rw [e] at hq
    exact ⟨fun _ => hq m1 hf ho, fun q => absurd q (by decide)⟩
  | cons c r =>
    have hcr : ∀ c' ∈ c :: r, 1 ≤ c' ∧ c' < 128 := fun c' h' => hl c' (by rw [e]; exact List.mem_append.mpr (Or.inr h'))
    have hc1 := hcr c (List.mem_cons_self ..)
    have hr0 := hpos r (fun c' h' => hcr c' (List.mem_cons_of_mem _ h'))
    have hbd : ∀ (r : List Int) (n : Nat), (∀ c ∈ r, 1 ≤ c ∧ c < 128) → r.length ≤ n → n ≤ 6 → pkC r < ((128 ^ n : Nat) : Int) := by
      intro r
      induction r with
      | nil =>
        intro n _ _ _
        have := pw_pos (b := 128) (by decide) n
        show (0 : Int) < _
        omega
      | cons c r ih =>
        intro n hc hn hn6
        cases n with
        | zero => rw [List.length_cons] at hn; omega
        | succ n =>
          have := ih n (fun c' h' => hc c' (List.mem_cons_of_mem _ h')) (by rw [List.length_cons] at hn; omega) (by omega)
          have := hc c (List.mem_cons_self ..)
          show c + 128 * pkC r < _
          rw [Nat.pow_succ]
          omega
    have hlr : (c :: r).length ≤ 6 := by
      rw [e, List.length_append] at h6
      omega
    have hb := hbd (c :: r) 6 hcr hlr (by decide)
    have e1 : jA (pkC (c :: r)) 127 = c := by
      have := jA_m (pkC (c :: r)) (k := 7) (by omega)
      rw [show ((2 ^ 7 - 1 : Nat) : Int) = 127 from rfl, show ((2 ^ 7 : Nat) : Int) = 128 from rfl] at this
      rw [this]
      show (c + 128 * pkC r) % 128 = c
      omega
    have e2 : jSr (pkC (c :: r)) 7 = pkC r := by
      have := jSr_n (x := pkC (c :: r)) (k := 7) (show -9223372036854775808 ≤ _ ∧ _ < 9223372036854775808 by
        have hc0 : 0 ≤ pkC (c :: r) := hpos _ hcr
        have : ((128 ^ 6 : Nat) : Int) = 4398046511104 := by decide
        omega) (by decide)
      have this : jSr (pkC (c :: r)) 7 = pkC (c :: r) / 128 := this
      rw [this]
      show (c + 128 * pkC r) / 128 = pkC r
      omega
    have hv : pkC (c :: r) = c + 128 * pkC r := rfl
    rw [e1, e2]
    refine ⟨fun q => by omega, fun q => ⟨show -2147483648 ≤ _ ∧ _ < 2147483648 by omega, sp_168 (by omega) ho (fun m2 f2 o2 => hP _ _ ⟨p ++ [c], r, by rw [e, List.append_assoc]; rfl, rfl, hf.tr f2, by rw [tkp_tkp] at o2; exact o2⟩ ?_)⟩⟩
    show (pkC r).toNat < (pkC (c :: r)).toNat
    omega
/-- the class writes a name as the model does -/
theorem sp_167 {k : Int} (hk : nmOK k) (hk2 : k ≠ 2) (h : cOu m o) (hq : ∀ m', wFc m m' → cOu m' (tkp o (nmT k)) → Q 0 m') : wq_167 (nC k) m Q := by
  rcases hk with rfl | rfl | ⟨l, l1, l2, l3, -, rfl⟩
  · have e : nC 1 = pkC [91, 93] := by decide
    rw [e]
    exact sp_167l (by decide) (by decide) h hq
  · exact absurd rfl hk2
  · rw [nC_w l1 l2 l3]
    rw [(nmT_w l1 l2 l3).1] at hq
    exact sp_167l (fun c hc => by
      have := l3 c hc
      omega) l2 h hq
end WNU
