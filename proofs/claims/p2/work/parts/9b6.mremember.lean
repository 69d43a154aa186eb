/-! THE MODEL FORGETS A QUERY AND REMEMBERS A PROGRAM -/
def cEx (z : Nat) (e : Int) : Prop := (z = 74 ∧ (e = 32 ∨ e = 33 ∨ e = 34 ∨ e = 35 ∨ e = 36 ∨ e = 37 ∨ e = 38 ∨ e = 42 ∨ e = 44 ∨ e = 51 ∨ e = 52 ∨ e = 59)) ∨ ((z = 95 ∨ z = 96) ∧ 0 ≤ e ∧ e < 20) ∨ (z = 97 ∧ 2490 ≤ e ∧ e < 2500)
def cVal (m : hy_m) : Prop := (∀ e : Int, (e = 32 ∨ e = 33 ∨ e = 34 ∨ e = 35 ∨ e = 36 ∨ e = 37 ∨ e = 38 ∨ e = 42 ∨ e = 44 ∨ e = 51 ∨ e = 59) → m 74 e = 0) ∧ m 74 52 = -9 ∧ (∀ e : Int, 0 ≤ e → e < 20 → m 95 e = 0 ∧ m 96 e = 0) ∧ ∀ e : Int, 2490 ≤ e → e < 2500 → m 97 e = -1
/-- past and current program have changed, and the query was forgotten -/
def rFr (m m' : hy_m) : Prop := (∀ (z : Nat) (e : Int), z ≠ 85 → z ≠ 86 → ¬ (z = 74 ∧ e = 13) → ¬ cEx z e → m' z e = m z e) ∧ cVal m'
def hsN (HS : List (List Nat)) (ss : List Nat) : List (List Nat) := if HS.length = 6 then HS.tail ++ [ss] else HS ++ [ss]
section MRE
variable {T : hy_T} {m m' : hy_m} {Q : Int → hy_m → Prop} {PL : List pCl} {ss : List Nat} {PH : List (List pCl)} {HS : List (List Nat)}
/-- clearMachine -/
theorem sp_229 (hq : ∀ m', (∀ (z : Nat) (e : Int), ¬ cEx z e → m' z e = m z e) → cVal m' → Q 0 m') : wq_229 m Q := by
  unfold wq_229
  generalize hmm : hy_u (hy_u (hy_u (hy_u (hy_u (hy_u (hy_u (hy_u (hy_u (hy_u (hy_u (hy_u m 74 32 0) 74 33 0) 74 34 0) 74 35 0) 74 36 0) 74 37 0) 74 38 0) 74 42 0) 74 44 0) 74 51 0) 74 52 (-9)) 74 59 0 = mm
  have f0 : ∀ (z : Nat) (e : Int), ¬ cEx z e → mm z e = m z e := fun z e hz => by
    unfold cEx at hz
    rw [← hmm]
    iterate 12 rw [hy_uf (by omega)]
  have v0 : (∀ e : Int, (e = 32 ∨ e = 33 ∨ e = 34 ∨ e = 35 ∨ e = 36 ∨ e = 37 ∨ e = 38 ∨ e = 42 ∨ e = 44 ∨ e = 51 ∨ e = 59) → mm 74 e = 0) ∧ mm 74 52 = -9 := by
    rw [← hmm]
    refine ⟨fun e he => ?_, ?_⟩
    · rcases he with rfl | rfl | rfl | rfl | rfl | rfl | rfl | rfl | rfl | rfl | rfl <;> simp [hy_u]
    · simp [hy_u]
  clear hmm
  unfold wq_229_63
  refine wL1_rule (Nat.lt_wfRel.wf) (fun x1 m' => 0 ≤ x1 ∧ x1 ≤ 20 ∧ (∀ (z : Nat) (e : Int), ¬ cEx z e → m' z e = m z e) ∧ (∀ e, m' 74 e = mm 74 e) ∧ ∀ e : Int, 0 ≤ e → e < x1 → m' 95 e = 0 ∧ m' 96 e = 0) (fun x1 _ => 30 - x1.toNat) ?_ ⟨Int.le_refl _, by decide, f0, fun _ => rfl, fun e q1 q2 => absurd q1 (by omega)⟩
  rintro P63 x1 m1 ⟨h1, h2, h3, h4, h5⟩ hP
  unfold wf_229_63
  refine ⟨fun q => ?_, fun q => ⟨h1, q, h1, q, show -2147483648 ≤ _ ∧ _ < 2147483648 by omega, hP _ _ ⟨by omega, by omega, fun z e hz => ?_, fun e => ?_, fun e q1 q2 => ?_⟩ ?_⟩⟩
  · have e20 : x1 = 20 := by omega
    subst e20
    unfold wq_229_93
    refine wL1_rule (Nat.lt_wfRel.wf) (fun x1 m' => 2490 ≤ x1 ∧ x1 ≤ 2500 ∧ (∀ (z : Nat) (e : Int), ¬ cEx z e → m' z e = m z e) ∧ (∀ (z : Nat) (e : Int), z ≠ 97 → m' z e = m1 z e) ∧ ∀ e : Int, 2490 ≤ e → e < x1 → m' 97 e = -1) (fun x1 _ => 3000 - x1.toNat) ?_ ⟨Int.le_refl _, by decide, h3, fun _ _ _ => rfl, fun e q1 q2 => absurd q1 (by omega)⟩
    rintro P93 x2 m2 ⟨k1, k2, k3, k4, k5⟩ hP2
    unfold wf_229_93
    refine ⟨fun q => hq m2 k3 ⟨fun e he => ?_, ?_, fun e q1 q2 => ?_, fun e q1 q2 => k5 e q1 (by omega)⟩, fun q => ⟨by omega, q, show -2147483648 ≤ _ ∧ _ < 2147483648 by omega, hP2 _ _ ⟨by omega, by omega, fun z e hz => ?_, fun z e hz => ?_, fun e q1 q2 => ?_⟩ ?_⟩⟩
    · rw [k4 74 e (by decide), h4]
      exact v0.1 e he
    · rw [k4 74 52 (by decide), h4]
      exact v0.2
    · rw [k4 95 e (by decide), k4 96 e (by decide)]
      exact h5 e q1 q2
    · rw [hy_uf (fun w => hz (by unfold cEx; omega))]
      exact k3 z e hz
    · rw [hy_ua hz]
      exact k4 z e hz
    · by_cases w : e = x2
      · rw [w, hy_us]
      · rw [hy_uk w]
        exact k5 e q1 (by omega)
    · show 3000 - _ < 3000 - _
      omega
  · rw [hy_uf (fun w => hz (by unfold cEx; omega)), hy_uf (fun w => hz (by unfold cEx; omega))]
    exact h3 z e hz
  · rw [hy_ua (by decide), hy_ua (by decide)]
    exact h4 e
  · by_cases w : e = x1
    · rw [w, hy_us, hy_ua (by decide), hy_us]
      exact ⟨rfl, rfl⟩
    · rw [hy_uk w, hy_uk w, hy_uk w, hy_uk w]
      exact h5 e q1 (by omega)
  · show 30 - _ < 30 - _
    omega
theorem mPz_fr (h : mPz m PL ss PH HS) (hr : mRw m m') (h85 : ∀ e, m' 85 e = m 85 e) (h86 : ∀ e, m' 86 e = m 86 e) (h13 : m' 74 13 = m 74 13) : mPz m' PL ss PH HS := by
  obtain ⟨p1, p2, p3, p4, p5, p6⟩ := h
  exact ⟨mLo_fr p1 hr (fun k _ _ => h85 _), h13.trans p2, p3, p4, p5, fun i X s h1 h2 => mLo_fr (p6 i X s h1 h2) hr (fun k _ _ => h86 _)⟩
/-- remember, when there is room -/
theorem sp_204_55 (hT : mTt T) (h : mPz m PL ss PH HS) (hl : PH.length < 6) (hq : ∀ m', mPz m' PL ss (PH ++ [PL]) (HS ++ [ss]) → rFr m m' → (∀ e, m' 85 e = m 85 e) → Q 0 m') : wq_204_55 T m Q := by
  obtain ⟨p1, p2, p3, p4, p5, p6⟩ := h
  unfold wq_204_55
  rw [p2]
  refine ⟨show -2147483648 ≤ _ ∧ _ < 2147483648 by omega, sp_203 (a := 85) (c := 86) hT.1 hT.2 (by decide) ⟨by omega, ?_⟩ (Or.inl (by decide)) (fun m1 f1 f2 => ?_)⟩
  · have : ((126 : Nat) : Int) = 126 := rfl
    omega
  have e13 : m1 74 13 = PH.length := by rw [f1 74 13 (by omega)]; exact p2
  rw [e13]
  refine ⟨show -2147483648 ≤ _ ∧ _ < 2147483648 by omega, sp_229 (fun m2 g1 g2 => hq m2 ?_ ⟨fun z e z1 z2 z3 z4 => ?_, g2⟩ (fun e => ?_))⟩
  · have fr : ∀ (z : Nat) (e : Int), z ≠ 86 → ¬ (z = 74 ∧ e = 13) → ¬ cEx z e → m2 z e = m z e := fun z e z1 z2 z3 => by
      rw [g1 z e z3, hy_uf z2]
      exact f1 z e (fun w => z1 w.1)
    have hrw : mRw m m2 := fun a e a1 a2 => fr a e (by omega) (by omega) (by unfold cEx; omega)
    have e86 : ∀ e, m2 86 e = m1 86 e := fun e => by
      rw [g1 86 e (by unfold cEx; omega), hy_ua (by decide)]
    refine ⟨mLo_fr p1 hrw (fun k _ _ => fr 85 _ (by decide) (by omega) (by unfold cEx; omega)), ?_, ?_, ?_, ?_, fun i X s h1 h2 => ?_⟩
    · rw [g1 74 13 (by unfold cEx; omega), hy_us, List.length_append]
      rfl
    · rw [List.length_append]
      exact hl
    · rw [List.length_append, List.length_append, p4]
      rfl
    · exact chP_app ⟨0, fun z hz => Or.inl hz⟩ HS p5
    · by_cases c : i < PH.length
      · rw [List.getElem?_append_left c] at h1
        rw [List.getElem?_append_left (by omega)] at h2
        refine mLo_fr (p6 i X s h1 h2) hrw (fun k k1 k2 => ?_)
        rw [e86]
        exact f1 86 _ (by omega)
      · have hi := (List.getElem?_eq_some_iff.mp h1).1
        rw [List.length_append] at hi
        have ei : i = PH.length := by
          have : [PL].length = 1 := rfl
          omega
        subst ei
        rw [List.getElem?_append_right (Nat.le_refl _), Nat.sub_self] at h1
        rw [← p4, List.getElem?_append_right (Nat.le_refl _), Nat.sub_self] at h2
        injection h1 with h1
        injection h2 with h2
        rw [← h1, ← h2]
        refine mLo_fr p1 hrw (fun k k1 k2 => ?_)
        rw [e86]
        exact f2 k k1 k2
  · rw [g1 z e z4, hy_uf z3]
    exact f1 z e (fun w => z2 w.1)
  · rw [g1 85 e (by unfold cEx; omega), hy_ua (by decide)]
    exact f1 85 e (by omega)
/-- remember -/
theorem sp_204 (hT : mTt T) (h : mPz m PL ss PH HS) (hq : ∀ m', mPz m' PL ss (phN PH PL) (hsN HS ss) → rFr m m' → (∀ e, m' 85 e = m 85 e) → Q 0 m') : wq_204 T m Q := by
  have h' := h
  obtain ⟨p1, p2, p3, p4, p5, p6⟩ := h
  unfold wq_204
  refine ⟨fun q => ?_, fun q => ?_⟩
  · have hl : PH.length ≠ 6 := fun e => q (by rw [p2, e]; rfl)
    refine sp_204_55 hT h' (by omega) (fun m1 g1 g2 g3 => hq m1 ?_ g2 g3)
    unfold phN hsN
    rw [if_neg hl, if_neg (by omega)]
    exact g1
  · have hl : PH.length = 6 := by omega
    have e126 : ((126 : Nat) : Int) = 126 := rfl
    unfold wq_204_11
    refine wL1_rule (Nat.lt_wfRel.wf) (fun x1 m' => ∃ d : Nat, x1 = (d : Int) + 1 ∧ d ≤ 5 ∧ (∀ (z : Nat) (e : Int), z ≠ 86 → m' z e = m z e) ∧ ∀ (i : Nat) (k : Int), i < 6 → 0 ≤ k → k < 21 → m' 86 (21 * (i : Int) + k) = m 86 (21 * (((if i < d then i + 1 else i) : Nat) : Int) + k)) (fun x1 _ => 30 - x1.toNat) ?_ ⟨0, rfl, by decide, fun _ _ _ => rfl, fun i k _ _ _ => by rw [if_neg (Nat.not_lt_zero _)]⟩
    rintro P x1 m1 ⟨d, rfl, hd, hf, hk⟩ hP
    unfold wf_204_11
    refine ⟨fun qq => ?_, fun qq => ⟨show -2147483648 ≤ _ ∧ _ < 2147483648 by omega, show -2147483648 ≤ _ ∧ _ < 2147483648 by omega, sp_203 (a := 86) (c := 86) hT.2 hT.2 ⟨by omega, by omega⟩ ⟨by omega, by omega⟩ (Or.inr (Or.inr (by omega))) (fun m2 f1 f2 => ⟨show -2147483648 ≤ _ ∧ _ < 2147483648 by omega, hP _ _ ⟨d + 1, by omega, by omega, fun z e hz => ?_, fun i k i1 k1 k2 => ?_⟩ ?_⟩)⟩⟩
    · have hd5 : d = 5 := by omega
      subst hd5
      rw [hf 74 13 (by decide), q]
      refine ⟨show -2147483648 ≤ _ ∧ _ < 2147483648 by omega, ?_⟩
      have hne : PH ≠ [] := fun e => by rw [e] at hl; exact absurd hl (by decide)
      have hne2 : HS ≠ [] := fun e => by rw [e] at p4; rw [← p4] at hl; exact absurd hl (by decide)
      have fr : ∀ (z : Nat) (e : Int), z ≠ 86 → ¬ (z = 74 ∧ e = 13) → hy_u m1 74 13 (6 - 1) z e = m z e := fun z e z1 z2 => by
        rw [hy_uf z2]
        exact hf z e z1
      have hrw : mRw m (hy_u m1 74 13 (6 - 1)) := fun a e a1 a2 => fr a e (by omega) (by omega)
      have hp5 : mPz (hy_u m1 74 13 (6 - 1)) PL ss PH.tail HS.tail := by
        refine ⟨mLo_fr p1 hrw (fun k _ _ => fr 85 _ (by decide) (by omega)), ?_, ?_, ?_, ?_, fun i X s h1 h2 => ?_⟩
        · rw [hy_us, List.length_tail, hl]
          rfl
        · rw [List.length_tail]
          omega
        · rw [List.length_tail, List.length_tail, p4]
        · cases HS with
          | nil => exact absurd rfl hne2
          | cons a t => exact p5.2
        · have hi := (List.getElem?_eq_some_iff.mp h1).1
          rw [List.length_tail] at hi
          rw [List.getElem?_tail] at h1 h2
          refine mLo_fr (p6 (i + 1) X s h1 h2) hrw (fun k k1 k2 => ?_)
          rw [hy_ua (by decide), hk i k (by omega) k1 k2, if_pos (by omega)]
      refine sp_204_55 hT hp5 (by rw [List.length_tail]; omega) (fun m2 g1 g2 g3 => hq m2 ?_ ⟨fun z e z1 z2 z3 z4 => ?_, g2.2⟩ (fun e => ?_))
      · unfold phN hsN
        rw [if_pos hl, if_pos (by omega)]
        exact g1
      · rw [g2.1 z e z1 z2 z3 z4]
        exact fr z e z2 z3
      · rw [g3]
        exact fr 85 e (by decide) (by omega)
    · rw [f1 z e (fun w => hz w.1)]
      exact hf z e hz
    · by_cases w : i = d
      · rw [w, if_pos (Nat.lt_succ_self d)]
        have := f2 k k1 k2
        rw [show 21 * ((d : Int) + 1 - 1) + k = 21 * (d : Int) + k by omega] at this
        rw [this]
        have := hk (d + 1) k (by omega) k1 k2
        rw [if_neg (by omega), show ((d + 1 : Nat) : Int) = (d : Int) + 1 by omega] at this
        rw [this, show ((d + 1 : Nat) : Int) = (d : Int) + 1 by omega]
      · rw [f1 86 _ (by omega), hk i k i1 k1 k2]
        by_cases v : i < d
        · rw [if_pos v, if_pos (by omega)]
        · rw [if_neg v, if_neg (by omega)]
    · show 30 - _ < 30 - _
      omega
/-- undo -/
theorem sp_210 (hT : mTt T) (h : mPz m PL ss PH HS) (h0 : PH = [] → Q (-2) m) (hq : ∀ PHi PLo HSi so m', PH = PHi ++ [PLo] → mPz m' PLo so PHi HSi → rFr m m' → Q (PHi.length : Int) m') : wq_210 T m Q := by
  obtain ⟨p1, p2, p3, p4, p5, p6⟩ := h
  have e126 : ((126 : Nat) : Int) = 126 := rfl
  unfold wq_210
  rw [p2]
  refine ⟨fun q => ⟨show -2147483648 ≤ _ ∧ _ < 2147483648 by omega, show -2147483648 ≤ _ ∧ _ < 2147483648 by omega, ?_⟩, fun q => h0 (List.eq_nil_of_length_eq_zero (by omega))⟩
  have hne : PH ≠ [] := fun e => by rw [e] at q; exact absurd rfl q
  have hne2 : HS ≠ [] := fun e => by rw [e] at p4; rw [← p4] at q; exact absurd rfl q
  obtain ⟨PHi, PLo, rfl⟩ : ∃ PHi PLo, PH = PHi ++ [PLo] := ⟨PH.dropLast, PH.getLast hne, (List.dropLast_concat_getLast hne).symm⟩
  obtain ⟨HSi, so, rfl⟩ : ∃ PHi PLo, HS = PHi ++ [PLo] := ⟨HS.dropLast, HS.getLast hne2, (List.dropLast_concat_getLast hne2).symm⟩
  have hl : (PHi ++ [PLo]).length = PHi.length + 1 := by
    rw [List.length_append]
    rfl
  have hl2 : (HSi ++ [so]).length = HSi.length + 1 := by
    rw [List.length_append]
    rfl
  rw [hl] at p2 p3 p4 q ⊢
  rw [hl2] at p4
  rw [show ((PHi.length + 1 : Nat) : Int) - 1 = (PHi.length : Int) by omega]
  have hlast := p6 PHi.length PLo so (by rw [List.getElem?_append_right (Nat.le_refl _), Nat.sub_self]; rfl) (by rw [show PHi.length = HSi.length by omega, List.getElem?_append_right (Nat.le_refl _), Nat.sub_self]; rfl)
  refine sp_203 (a := 86) (c := 85) hT.2 hT.1 ⟨by omega, by omega⟩ (by decide) (Or.inl (by decide)) (fun m1 f1 f2 => sp_229 (fun m2 g1 g2 => ?_))
  have fr : ∀ (z : Nat) (e : Int), z ≠ 85 → ¬ (z = 74 ∧ e = 13) → ¬ cEx z e → m2 z e = m z e := fun z e z1 z2 z3 => by
    rw [g1 z e z3, f1 z e (fun w => z1 w.1), hy_uf z2]
  have hrw : mRw m m2 := fun a e a1 a2 => fr a e (by omega) (by omega) (by unfold cEx; omega)
  have e13 : m2 74 13 = PHi.length := by
    rw [g1 74 13 (by unfold cEx; omega), f1 74 13 (by omega), hy_us]
  rw [e13]
  refine hq PHi PLo HSi so m2 rfl ⟨mLo_fr hlast hrw (fun k k1 k2 => ?_), e13, by omega, by omega, chP_un HSi p5, fun i X s h1 h2 => ?_⟩ ⟨fun z e z1 z2 z3 z4 => fr z e z1 z3 z4, g2⟩
  · rw [g1 85 _ (by unfold cEx; omega), f2 k k1 k2, hy_ua (by decide)]
  · have hi := (List.getElem?_eq_some_iff.mp h1).1
    refine mLo_fr (p6 i X s (by rw [List.getElem?_append_left hi]; exact h1) (by rw [List.getElem?_append_left (by omega)]; exact h2)) hrw (fun k k1 k2 => fr 86 _ (by decide) (by omega) (by unfold cEx; omega))
end MRE
