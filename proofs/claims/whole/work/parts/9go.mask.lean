/-! THE MODEL ASKS: all of it -/
theorem qR_K {tx : List Int} {gs : List pE} {nv : Nat} (hl : tx.length ≤ 120) (hc : ∀ c ∈ tx, 32 ≤ c ∧ c ≤ 126) (h : qR tx (.inr (gs, nv))) : kOK none gs nv ∧ aMs gs ≤ 30 ∧ gs ≠ [] := by
  rcases h with ⟨w, -, h⟩ | ⟨gs', nv', p, h, e⟩
  · cases h
  · split at e
    · injection e with e
      injection e with e1 e2
      subst e1
      subst e2
      have hs := (sk_le (tx := tx) (p := 0) (Nat.zero_le _)).2
      obtain ⟨k1, k2, k3⟩ := pRun_R hl hs h
      have k4 := pRun_A hc hs h
      exact ⟨k1, by omega, k2 rfl⟩
    · cases e
/-- what ask leaves alone, behind the reader -/
def aKr (m m' : hy_m) : Prop := ∀ (a : Nat) (e : Int), ¬ ((a = 76 ∨ a = 77 ∨ a = 78) ∧ 3328 ≤ e ∧ e < 3456) → ¬ (a = 79 ∧ 9984 ≤ e ∧ e < 10368) → ¬ ((a = 80 ∨ a = 81 ∨ a = 82 ∨ a = 84) ∧ e = 26) → ¬ (a = 83 ∧ 130 ≤ e ∧ e < 135) → ¬ cEx a e → ¬ (95 ≤ a ∧ a ≤ 116 ∧ a ≠ 98 ∧ a ≤ 104 ∧ (a = 97 → e < 2490)) → m' a e = m a e
section NC
variable {m m' : hy_m} {tx : List Int} {PL : List pCl} {ss : List Nat} {PH : List (List pCl)} {HS : List (List Nat)} {Q : Int → hy_m → Prop}
theorem cpG_z (h : cpG m m') : zFr m m' (fun s => s = 26) := fun a e q1 q2 q3 q4 q5 q6 q7 q8 q9 q10 => h a e (fun z => q2 ⟨z.1, by omega⟩) (fun z => q3 ⟨z.1, by omega⟩) (fun z => q4 ⟨z.1, z.2⟩) (fun z => q5 ⟨z.1, by omega⟩)
theorem sp_276 (hTx : mTx m tx) (hPg : aPg m) (hL : mPz m PL ss PH HS) (h30 : ∀ cl ∈ PL, aM cl.1 + aMs cl.2.1 ≤ 30) (h0 : ∀ m1 (w : Nat), zFr m m1 (fun s => s = 27) → aPg m1 → qR tx (.inl w) → Q (-2) m1) (hq : ∀ gs nv m1 m', qR tx (.inr (gs, nv)) → zFr m m1 (fun s => s = 27) → aPg m1 → aKr m1 m' → mAl (PL, gs, nv) ss m' qask → (∀ e : Int, 2490 ≤ e → e < 2500 → m' 97 e = -1) → Q (gs.length : Int) m') : wq_276 m Q := by
  unfold wq_276
  refine sp_199q hTx hPg (fun r m1 z1 pg1 hres => ⟨fun q => ?_, fun q => ?_⟩)
  · obtain ⟨gs, nv, hcl, hqr⟩ : ∃ gs nv, clR m1 27 none gs nv ∧ qR tx (.inr (gs, nv)) := by
      rcases hres with ⟨gs, nv, -, a, b⟩ | ⟨w, e, -⟩
      · exact ⟨gs, nv, a, b⟩
      · omega
    obtain ⟨k1, k2, k3⟩ := qR_K hTx.2.1 hTx.2.2.2 hqr
    have hq := hq gs nv m1
    refine sp_229 (fun m2 c1 c2 => ?_)
    have hr2 : mRw m1 m2 := fun a e q1 q2 => c1 a e (by unfold cEx; omega)
    have pg2 : aPg m2 := aPg_rw pg1 hr2
    have hs25 : ∀ sl ∈ ss, sl ≤ 25 := fun sl hs => by
      obtain ⟨i, hi⟩ := List.getElem?_of_mem hs
      have hlt := (List.getElem?_eq_some_iff.mp hi).1
      have hlt2 : i < PL.length := by have := hL.1.2.2.1; omega
      exact (hL.1.2.2.2.2 i PL[i] sl (List.getElem?_eq_getElem hlt2) hi).1
    have hL1 : mLo m1 85 0 PL ss := mLo_z hL.1 z1 (Or.inl rfl) (fun sl hs => by have := hs25 sl hs; omega)
    have hL2 : mLo m2 85 0 PL ss := mLo_fr hL1 hr2 (fun k _ _ => c1 _ _ (by unfold cEx; omega))
    refine cpy_ok (clR_rw hr2 hcl) (pg2 27 (by decide) (by decide)).1 (pg2 27 (by decide) (by decide)).2 (fun m3 g1 hcl3 => ?_)
    have hL3 : mLo m3 85 0 PL ss := mLo_z hL2 (cpG_z g1) (Or.inl rfl) (fun sl hs => by have := hs25 sl hs; omega)
    have hP3 : mPr (PL, gs, nv) ss m3 := ⟨hL3, hcl3, k1, k2, h30⟩
    have v74 : ∀ e : Int, (e = 32 ∨ e = 33 ∨ e = 34 ∨ e = 35 ∨ e = 36 ∨ e = 37 ∨ e = 38 ∨ e = 42 ∨ e = 44 ∨ e = 51 ∨ e = 59) → m3 74 e = 0 := fun e he => by
      rw [g1 _ _ (by omega) (by omega) (by omega) (by omega)]
      exact c2.1 e he
    have hN3 : mNm m3 qno := by
      refine ⟨v74 34 (by omega), v74 35 (by omega), v74 36 (by omega), v74 37 (by omega), v74 38 (by omega), fun c hc => ?_⟩
      have := c2.2.2.1 (c : Int) (by omega) (by omega)
      rw [g1 95 _ (by omega) (by omega) (by omega) (by omega), g1 96 _ (by omega) (by omega) (by omega) (by omega)]
      exact ⟨this.1, this.2, Nat.zero_le _, Nat.zero_le _⟩
    refine sp_272 (E := (PL, gs, nv)) (A := qno) (st := 1) (er := 0) hP3 hN3 (fun m4 f4 e32 hS4 => ?_)
    have hS4' := hS4
    obtain ⟨s1, s2, ⟨s3, s4, s5⟩, B, T, s6, s7, s8⟩ := hS4'
    refine sp_252 (j := 0) s4 (by decide) (fun m5 b1 b2 b3 b4 b5 b6 b7 => ⟨by decide, by decide, ?_⟩)
    have f5 : ∀ (z : Nat) (e : Int), ¬ (99 ≤ z ∧ z ≤ 104 ∧ e = ((0 : Nat) : Int)) → ¬ (z = 74 ∧ (e = 51 ∨ e = 52)) → hy_u m5 74 52 ((0 : Nat) : Int) z e = m4 z e := fun z e q1 q2 => by
      rw [hy_uf (by omega)]
      exact b1 z e (by omega) (by omega)
    have e82 : m5 82 26 = (gs.length : Int) := by
      rw [b1 _ _ (by omega) (by omega), f4 _ _ (by omega) (by omega)]
      obtain ⟨c, a1, a2, a3, a4⟩ := hcl3
      exact a3
    rw [e82]
    have eA : qpush (qfin qno 1 0) ((0, 0, 0, none) : qF) [] = qask := by
      unfold qpush qtop qnum qask qfin qno
      refine Prod.ext (funext fun k => ?_) rfl
      show (if k = 8 then 0 + 1 else if k = 0 then 1 else if k = 1 then 0 else if k = 7 ∨ k = 8 then 0 else 0) = if k = 0 ∨ k = 8 then 1 else 0
      by_cases q8 : k = 8
      · rw [if_pos q8, if_pos (Or.inr q8)]
      · rw [if_neg q8]
        by_cases q0 : k = 0
        · rw [if_pos q0, if_pos (Or.inl q0)]
        · rw [if_neg q0]
          have e : (if k = 0 ∨ k = 8 then 1 else 0 : Nat) = 0 := if_neg (fun z => z.elim q0 q8)
          rw [e]
          split
          · rfl
          · split <;> rfl
    have hS5 : mSe (PL, gs, nv) ss (hy_u m5 74 52 ((0 : Nat) : Int)) qask := by
      rw [← eA]
      refine push_se (A := qfin qno 1 0) (j := 0) (m := m4) (I := 0) (tr := 0) trivial ⟨s1, s2, ⟨s3, s4, rfl, -9, by rw [hy_ua (by decide)]; exact b5, rfl⟩, B, T, s6, s7, s8⟩ f5 (by rw [hy_uk (by decide)]; exact b7) (hy_us _ _ _ _) ⟨?_, ?_, ?_⟩
      · rw [hy_ua (by decide)]; exact b3
      · rw [hy_ua (by decide)]; exact b6
      · refine ⟨?_, ?_⟩
        · rw [hy_ua (by decide)]; exact b2
        · rw [hy_ua (by decide)]; exact b4
    have f6 : ∀ (a : Nat) (e : Int), ¬ (99 ≤ a ∧ a ≤ 104) → ¬ (a = 74 ∧ (e = 32 ∨ e = 42 ∨ e = 44 ∨ e = 51 ∨ e = 52 ∨ e = 59)) → ¬ (a = 97 ∧ 0 ≤ e ∧ e < 8) → hy_u m5 74 52 ((0 : Nat) : Int) a e = m3 a e := fun a e q1 q2 q3 => by
      rw [f5 a e (by omega) (by omega)]
      exact f4 a e q2 q3
    refine hq _ hqr z1 pg1 (fun a e q1 q2 q3 q4 q5 q6 => ?_) ⟨hS5, ?_, ?_⟩ (fun e q1 q2 => ?_)
    · have q5' := q5
      unfold cEx at q5
      rw [f6 a e (by omega) (by omega) (by omega), g1 a e q1 q2 q3 q4]
      exact c1 a e q5'
    · rw [hy_uk (by decide), b1 _ _ (by omega) (by omega), e32]; rfl
    · rw [f6 _ _ (by omega) (by omega) (by omega), v74 33 (by omega)]; rfl
    · rw [f6 _ _ (by omega) (by omega) (by omega), g1 _ _ (by omega) (by omega) (by omega) (by omega)]
      exact c2.2.2.2 e q1 q2
  · rcases hres with ⟨gs, nv, e, -⟩ | ⟨w, e, hw⟩
    · exact absurd e q
    · exact h0 m1 w z1 pg1 hw
end NC
