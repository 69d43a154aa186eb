/-! THE MODEL GOES BACK: backtracks -/
theorem bS_sh {x : Int} {p : Nat → Bool} {v : Nat} (h : bS x p) (hv : v < 20) : iA (iSr x (v : Int)) 1 = if p v = true then 1 else 0 := by
  obtain ⟨k, rfl, hk, ht⟩ := h
  have e1 := iSr_n (x := (k : Int)) (k := v) (show -2147483648 ≤ _ ∧ _ < 2147483648 by have : (2 : Nat) ^ 20 = 1048576 := rfl; omega) (by omega)
  have e2 := iA_m (iSr (k : Int) (v : Int)) (k := 1) (by decide)
  rw [show ((2 ^ 1 - 1 : Nat) : Int) = 1 from rfl, show ((2 ^ 1 : Nat) : Int) = 2 from rfl] at e2
  rw [e2, e1, ← ht v hv, Nat.testBit_eq_decide_div_mod_eq]
  have e3 : (k : Int) / ((2 ^ v : Nat) : Int) = ((k / 2 ^ v : Nat) : Int) := (Int.natCast_ediv k (2 ^ v)).symm
  rw [e3]
  by_cases c : k / 2 ^ v % 2 = 1
  · rw [decide_eq_true c, if_pos rfl]
    omega
  · rw [decide_eq_false c, if_neg (by decide)]
    omega
theorem sp_254 {m : hy_m} {Q : Int → hy_m → Prop} {x : Int} {p : Nat → Bool} {c : Nat} (h : bS x p) (hc : c < 20) (h1 : p c = true) (h2 : ∀ v, v < c → p v = false) (hq : Q (c : Int) m) : wq_254 x m Q := by
  unfold wq_254 wq_254_2
  refine wL1_rule (Nat.lt_wfRel.wf) (fun y m' => m' = m ∧ ∃ d : Nat, y = d ∧ d ≤ c) (fun y _ => 30 - y.toNat) ?_ ⟨rfl, 0, rfl, Nat.zero_le _⟩
  rintro P y m' ⟨rfl, d, rfl, hd⟩ hP
  unfold wf_254_2
  rw [bS_sh h (by omega)]
  refine ⟨fun q => ?_, fun q => ?_⟩
  · have : d = c := by
      by_cases e : d = c
      · exact e
      · rw [h2 d (by omega), if_neg (by decide)] at q
        exact absurd rfl q
    rw [this]
    exact hq
  · have : d ≠ c := by
      intro e
      rw [e, h1, if_pos rfl] at q
      exact absurd q (by decide)
    exact ⟨show -2147483648 ≤ _ ∧ _ < 2147483648 by omega, hP _ _ ⟨rfl, d + 1, by omega, by omega⟩ (show 30 - ((d : Int) + 1).toNat < 30 - ((d : Nat) : Int).toNat by omega)⟩
/-- the lowest of a list of candidates is taken away -/
theorem bS_hd {x : Int} {c0 : Nat} {L : List Nat} (h : bS x (fun v => decide (v ∈ c0 :: L))) (hp : (c0 :: L).Pairwise (· < ·)) (hl : ∀ v ∈ c0 :: L, v < 20) : (∀ (m : hy_m) (Q : Int → hy_m → Prop), Q (c0 : Int) m → wq_254 x m Q) ∧ bS (iA x (iX (iSl 1 (c0 : Int)) (-1))) (fun v => decide (v ∈ L)) ∧ (iA x (iX (iSl 1 (c0 : Int)) (-1)) = 0 ↔ L = []) := by
  obtain ⟨p1, p2⟩ := List.pairwise_cons.mp hp
  have h0 := hl c0 (List.mem_cons_self ..)
  have h2 : bS (iA x (iX (iSl 1 (c0 : Int)) (-1))) (fun v => decide (v ∈ L)) := by
    refine bS_c (bS_df h (bS_1 h0)) (fun v _ => ?_)
    by_cases e : v ∈ L
    · rw [decide_eq_true e, decide_eq_true (List.mem_cons_of_mem _ e), decide_eq_false (fun q => by have := p1 v e; omega)]
      rfl
    · rw [decide_eq_false e]
      by_cases e2 : v = c0
      · rw [e2, decide_eq_true (rfl : c0 = c0), Bool.not_true, Bool.and_false]
      · rw [decide_eq_false (fun q => by
          rcases List.mem_cons.mp q with q | q
          · exact e2 q
          · exact e q), Bool.false_and]
  refine ⟨fun m Q hq => sp_254 h h0 (decide_eq_true (List.mem_cons_self ..)) (fun v hv => decide_eq_false (fun q => ?_)) hq, h2, ?_⟩
  · rcases List.mem_cons.mp q with q | q
    · omega
    · have := p1 v q
      omega
  · rw [bS_z h2]
    constructor
    · intro q
      cases L with
      | nil => rfl
      | cons y L =>
        have := q y (hl y (List.mem_cons_of_mem _ (List.mem_cons_self ..)))
        rw [decide_eq_true (List.mem_cons_self ..)] at this
        cases this
    · rintro rfl v _
      exact decide_eq_false (fun q => by cases q)
theorem bS_ne {x : Int} {p : Nat → Bool} (h : bS x p) : x ≠ -9 := by
  obtain ⟨k, rfl, -⟩ := h
  omega
section MK
variable {E : qE} {ss : List Nat} {m m' : hy_m} {T : List Nat} {B B' : bM} {s s' : Nat → pE} {A : qA} {Q : Int → hy_m → Prop} {N : Nat} {c : qC} {r C' : List qC}
theorem qtry_4 {c cut : Nat} {g : pE} : qn (qtry E A c g cut).1 4 = qn A 4 + 1 := by
  unfold qtry
  split
  · rfl
  · split
    · rfl
    · dsimp only
      split <;> rfl
theorem qtry_0 {c cut : Nat} {g : pE} : qn (qtry E A c g cut).1 0 = qn A 0 := by
  unfold qtry
  split
  · rfl
  · split
    · rfl
    · dsimp only
      split <;> rfl
/-- the newest choice has fewer candidates, or is gone -/
theorem ch_se (hk : chK E (qi A) (qn A 2) (c :: r) (qi A).length (qn A 7) (qn A 8)) (hS : mSe E ss m (qrest A c (c :: r))) (hf : ∀ (a : Nat) (e : Int), ¬ (a = 106 ∧ e = (r.length : Int)) → ¬ (a = 74 ∧ e = 59) → m' a e = m a e) (hC : (C' = r ∧ m' 74 59 = (r.length : Int)) ∨ ∃ (L : List Nat) (g : pE), C' = (c.1, L, c.2.2) :: r ∧ m' 74 59 = (r.length : Int) + 1 ∧ c.1 = some g ∧ bS (m' 106 (r.length : Int)) (fun v => decide (v ∈ L)) ∧ ∀ x ∈ L, x ∈ c.2.1) : mSe E ss m' (qrest A c C') := by
  obtain ⟨hP, hN, ⟨h42, h51, hch⟩, B, T, ⟨d1, d2, d3, d4, d5, d6⟩, hR, hT⟩ := hS
  have hr : mRw m m' := fun a e q1 q2 => hf a e (by omega) (by omega)
  have hall := chK_all _ hk
  have hall2 := chK_all r hk.2.2.2.2.2.2
  have d5 : mCc E ss m ((qi A).take c.2.2.2.1.1) T B (c :: r) := d5
  have hrr : mCc E ss m' ((qi A).take c.2.2.2.1.1) T B r := by
    refine mCc_fr (N := qn A 8) hr (fun a j q1 q2 _ => hf a j (by omega) (by omega)) r (fun a p q1 q2 q3 => hf a p (by omega) (by omega)) (fun c' hc' => ⟨(hall c' (List.mem_cons_of_mem _ hc')).2.2, ⟨?_, rfl⟩, rfl, rfl, fun v _ => hf 97 v (by omega) (by omega)⟩) d5.2.2.2.2.2.2
    have q1 := (hall2 c' hc').2.1
    have q2 := d5.2.1.1
    omega
  refine ⟨mPr_rw hr (fun e => hf 85 e (by omega) (by omega)) hP, mNm_fr hN (fun e q1 q2 => hf 74 e (by omega) (by omega)) (fun e => hf 95 e (by omega) (by omega)) (fun e => hf 96 e (by omega) (by omega)), ⟨?_, ?_, ?_⟩, B, T, ⟨?_, ⟨?_, fun i hi => ?_⟩, d3, d4, ?_, ?_⟩, hR, hT⟩
  · rw [hf _ _ (by omega) (by omega)]; exact h42
  · rw [hf _ _ (by omega) (by omega)]; exact h51
  · rw [hf 74 52 (by omega) (by omega)]
    exact mCh_fr hr (fun a j q1 q2 _ => hf a j (by omega) (by omega)) _ _ hch
  · rw [mG_rw hr]
    exact mBd_fr d1 (fun a e q => hf a e (by omega) (by omega))
  · rw [hf _ _ (by omega) (by omega)]; exact d2.1
  · rw [hf _ _ (by omega) (by omega)]; exact d2.2 i hi
  · rcases hC with ⟨rfl, -⟩ | ⟨L, g, rfl, -, hg, hb, hL⟩
    · exact hrr
    · obtain ⟨⟨a1, a2, a3⟩, b, c1, d, e, f, -⟩ := d5
      have hp : ∀ a : Nat, 105 ≤ a → a ≤ 110 → a ≠ 106 → m' a (r.length : Int) = m a (r.length : Int) := fun a q1 q2 q3 => hf a _ (by omega) (by omega)
      rw [hg] at c1
      refine ⟨⟨?_, ?_, ?_⟩, b, ?_, ?_, e, ?_, hrr⟩
      · rw [hp 108 (by decide) (by decide) (by decide)]; exact a1
      · rw [hp 109 (by decide) (by decide) (by decide)]; exact a2
      · rw [hp 110 (by decide) (by decide) (by decide)]; exact a3
      · rw [hg]
        dsimp only
        rw [hp 105 (by decide) (by decide) (by decide)]
        exact ⟨hb, mFg_rw hr c1.2.1, fun x hx => c1.2.2 x (hL x hx)⟩
      · rw [hp 107 (by decide) (by decide) (by decide)]
        exact mCh_fr hr (fun a j q1 q2 _ => hf a j (by omega) (by omega)) _ _ d
      · intro v t hv
        obtain ⟨f1, f2⟩ := f v t hv
        rw [hf 97 _ (by omega) (by omega)]
        exact ⟨mTm_rw hr f1, f2⟩
  · rcases hC with ⟨rfl, h9⟩ | ⟨L, g, rfl, h9, -⟩
    · exact h9
    · rw [h9]
      rfl
/-- backtracks -/
theorem sp_257 {K0 R0 n : Nat} {A : qA} (hK : K0 + 14472000 < 4294967295) (hR : R0 + 18020 < 999999990) (hF : qFl E A) (hn : qpt (qh A) < n) (hS : mFl E ss m A) (hM : mRd m (K0 + 2411 * qn A 4) (R0 + 3 * qn A 4)) (h1 : ∀ m', sFr m m' → qn (qback E n A) 0 = qn A 0 → mSe E ss m' (qback E n A) → mRd m' (K0 + 2411 * qn (qback E n A) 4) (R0 + 3 * qn (qback E n A) 4) → Q 1 m') (h0 : ∀ m' A', sFr m m' → qback E n A = qfin A' 3 0 → mFl E ss m' A' → mRd m' (K0 + 2411 * qn A' 4) (R0 + 3 * qn A' 4) → Q 0 m') : wq_257 m Q := by
  unfold wq_257
  intro P hP
  revert A m
  induction n with
  | zero =>
    intro m A hF hn
    exact absurd hn (Nat.not_lt_zero _)
  | succ n ih =>
    intro m A hF hn hS hM h1 h0
    refine hP m ?_
    obtain ⟨hPr, hN, B, T, hD⟩ := hS
    have h59 := hD.2.2.2.2.2
    have hk := hF.1
    unfold wf_257_0
    cases he : qh A with
    | nil =>
      rw [he] at h59
      have h59 : m 74 59 = 0 := h59
      refine ⟨fun _ => h0 m A sFr.rfl' (qback_nil he) ⟨hPr, hN, B, T, hD⟩ hM, fun q => by omega⟩
    | cons c r =>
      rw [he] at h59 hk
      have h59 : m 74 59 = (r.length : Int) + 1 := h59
      have e1 : m 74 59 - 1 = (r.length : Int) := by omega
      have hlr : r.length + 1 ≤ 300 := by
        have q1 := hF.2.2.1
        have q2 := hF.2.2.2.2.1
        rw [he] at q1
        simp only [List.length_cons] at q1
        omega
      have h4 : qn A 4 ≤ 6000 := by
        have q1 := hF.2.2.2.1
        have q2 := hF.2.2.2.2.1
        omega
      have hC := hD.2.2.2.2.1
      rw [he] at hC
      have hB9 : ∀ w ∈ T, w < 2500 := fun w hw => by
        by_cases q : w < tot E (qi A)
        · exact ((hD.1 w).1 q).1
        · exact absurd ((hD.1 w).2 q) (hD.2.2.2.1 w hw)
      have hTl : T.length ≤ 2500 := by
        have := fc_T hD.2.2.1 hD.2.2.2.1 hB9
        omega
      rw [e1]
      refine ⟨fun q => by omega, fun _ => ⟨show -2147483648 ≤ _ ∧ _ < 2147483648 by omega, sp_256 (by omega) hD.2.1 hB9 hTl hC.1.1 hC.2.1.1 (fun m1 g1 g2 g3 g4 g5 g6 => ?_)⟩⟩
      have hse := back_se hF he hPr hN hD g1 g2 g3 g4 g5 g6
      have hto9 := mPr_tot hPr hF.2.1 hF.2.2.2.2.2.2
      have hT9 : ∀ w ∈ T, w < 2490 := fun w hw => by
        by_cases q : w < tot E (qi A)
        · omega
        · exact absurd ((hD.1 w).2 q) (hD.2.2.2.1 w hw)
      have hs1 : sFr m m1 := fun a e q1 q2 => g1 a e (fun ⟨z1, w, z2, z3⟩ => q1 (by
        have := hT9 w (List.mem_of_mem_drop z2)
        omega)) (by omega)
      have e106 : m1 106 (r.length : Int) = m 106 (r.length : Int) := g1 _ _ (by omega) (by omega)
      have e105 : m1 105 (r.length : Int) = m 105 (r.length : Int) := g1 _ _ (by omega) (by omega)
      have e59 : m1 74 59 = (r.length : Int) + 1 := by rw [g1 _ _ (by omega) (by omega)]; exact h59
      have hM1 : mRd m1 (K0 + 2411 * qn A 4) (R0 + 3 * qn A 4) := mRd_fr hM (g1 _ _ (by omega) (by omega)) (fun e => g1 _ _ (by omega) (by omega)) (g1 _ _ (by omega) (by omega)) (fun e => g1 _ _ (by omega) (by omega))
      have hd1 := hk.2.2.2.1
      rw [e106]
      refine ⟨by omega, by omega, fun hb => ?_, fun hb => ?_⟩
      · -- a clause is tried
        cases hc : c.1 with
        | none =>
          have := hC.2.2.1
          rw [hc] at this
          exact absurd this hb
        | some g =>
          have hcc := hC.2.2.1
          rw [hc] at hcc
          cases hl : c.2.1 with
          | nil =>
            have := hd1.mpr hl
            rw [hc] at this
            cases this
          | cons c0 L =>
            obtain ⟨hpr, hc0⟩ := qrest_pr (g := g) hF he hl
            have hls : ∀ v ∈ c0 :: L, v < 20 := fun v hv => by
              have q1 := hk.2.2.2.2.2.1 v (by rw [hl]; exact hv)
              have q2 := hF.2.2.2.2.2.1
              omega
            have hpw := hk.2.2.2.2.1
            rw [hl] at hpw
            have hb6 := hcc.1
            rw [hl] at hb6
            obtain ⟨b1, b2, b3⟩ := bS_hd hb6 hpw hls
            refine b1 _ _ ?_
            have hky : eKy E.1[c0].1 = eKy g := by
              obtain ⟨cl, q1, q2⟩ := hcc.2.2 c0 (by rw [hl]; exact List.mem_cons_self ..)
              rw [List.getElem?_eq_getElem hc0] at q1
              injection q1 with q1
              rw [q1]
              exact q2
            -- behind the change of the choice
            have go : ∀ m3 : hy_m, (∀ (a : Nat) (e : Int), ¬ (a = 106 ∧ e = (r.length : Int)) → ¬ (a = 74 ∧ e = 59) → m3 a e = m1 a e) → mSe E ss m3 (qrest A c (qmore c L r)) → wq_255 (c0 : Int) (m 105 (r.length : Int)) (r.length : Int) m3 (fun r3 m3 => (r3 = 0 → (P m3)) ∧ (r3 ≠ 0 → (Q 1 m3))) := by
              intro m3 hf3 hse3
              have hs3 : sFr m m3 := hs1.tr (fun a e q1 q2 => hf3 a e (by omega) (by omega))
              have hM3 : mRd m3 (K0 + 2411 * qn A 4) (R0 + 3 * qn A 4) := mRd_fr hM1 (hf3 _ _ (by omega) (by omega)) (fun e => hf3 _ _ (by omega) (by omega)) (hf3 _ _ (by omega) (by omega)) (fun e => hf3 _ _ (by omega) (by omega))
              have hbt := qback_try (E := E) (n := n) he hc hl
              have e4 := qtry_4 (E := E) (A := qrest A c (qmore c L r)) (c := c0) (g := g) (cut := r.length)
              have e4' : qn (qrest A c (qmore c L r)) 4 = qn A 4 := rfl
              have eK : K0 + 2411 * qn A 4 + 2411 = K0 + 2411 * qn (qtry E (qrest A c (qmore c L r)) c0 g r.length).1 4 := by rw [e4, e4']; omega
              have eR : R0 + 3 * qn A 4 + 3 = R0 + 3 * qn (qtry E (qrest A c (qmore c L r)) c0 g r.length).1 4 := by rw [e4, e4']; omega
              refine sp_255 hpr hc0 hse3 (mFg_rw (hs3.rw) hcc.2.1) hky hM3 (by omega) (by omega) (fun m4 q1 q2 q3 q4 => ⟨fun q => absurd q (by decide), fun _ => ?_⟩) (fun m4 q1 q2 q3 q4 => ⟨fun _ => ?_, fun q => absurd rfl q⟩)
              · rw [eK, eR] at q4
                rw [q3, if_pos rfl] at hbt
                refine h1 m4 (hs3.tr q1) (by rw [hbt]; exact qtry_0) ?_ ?_
                · rw [hbt]; exact q2
                · rw [hbt]; exact q4
              · rw [eK, eR] at q4
                rw [q3, if_neg (by decide)] at hbt
                refine ih (qtry_ok (g := g) hpr hc0).fl ?_ q2 q4 (fun m5 a1 a0 a2 a3 => ?_) (fun m5 A' a1 a2 a3 a4 => ?_)
                · rw [qtry_h]
                  have := qpt_more (r := r) hl
                  rw [← he] at this
                  exact Nat.lt_of_lt_of_le this (Nat.le_of_lt_succ hn)
                · rw [← hbt] at a0 a2 a3
                  exact h1 m5 ((hs3.tr q1).tr a1) (a0.trans qtry_0) a2 a3
                · rw [← hbt] at a2
                  exact h0 m5 A' ((hs3.tr q1).tr a1) a2 a3 a4
            rw [hy_us, e105, e59]
            refine ⟨by omega, by omega, by omega, by omega, fun hz => ⟨show -2147483648 ≤ _ ∧ _ < 2147483648 by omega, by omega, by omega, show -2147483648 ≤ _ ∧ _ < 2147483648 by omega, go _ (fun a e q1 q2 => by rw [hy_uf q2, hy_uf q1]) ?_⟩, fun hz => ⟨show -2147483648 ≤ _ ∧ _ < 2147483648 by omega, by omega, by omega, show -2147483648 ≤ _ ∧ _ < 2147483648 by omega, go _ (fun a e q1 q2 => by rw [hy_uf q2, hy_uf q1]) ?_⟩⟩
            · refine ch_se hk hse (fun a e q1 q2 => by rw [hy_uf q2, hy_uf q1]) (Or.inr ⟨L, g, ?_, by rw [hy_us]; omega, hc, by rw [hy_ua (by decide), hy_us]; exact b2, fun x hx => by rw [hl]; exact List.mem_cons_of_mem _ hx⟩)
              cases L with
              | nil => exact absurd (b3.mpr rfl) hz
              | cons y L => rfl
            · refine ch_se hk hse (fun a e q1 q2 => by rw [hy_uf q2, hy_uf q1]) (Or.inl ⟨?_, by rw [hy_us]; omega⟩)
              rw [b3.mp hz]
              rfl
      · -- a barrier
        have hc : c.1 = none := by
          cases hc : c.1 with
          | none => rfl
          | some g =>
            have := hC.2.2.1
            rw [hc] at this
            exact absurd hb (bS_ne this.1)
        have hbb := qback_bar (E := E) (n := n) he hc
        rw [e59]
        refine ⟨show -2147483648 ≤ _ ∧ _ < 2147483648 by omega, ?_⟩
        have hf2 : ∀ (a : Nat) (e : Int), ¬ (a = 74 ∧ e = 59) → hy_u m1 74 59 ((r.length : Int) + 1 - 1) a e = m1 a e := fun a e q => hy_uf q
        refine h1 _ (hs1.tr (fun a e q1 q2 => hf2 a e (by omega))) (by rw [hbb]; rfl) ?_ ?_
        · rw [hbb]
          exact ch_se hk hse (fun a e q1 q2 => hf2 a e q2) (Or.inl ⟨rfl, by rw [hy_us]; omega⟩)
        · rw [hbb]
          exact mRd_fr hM1 (hf2 _ _ (by omega)) (fun e => hf2 _ _ (by omega)) (hf2 _ _ (by omega)) (fun e => hf2 _ _ (by omega))
end MK
