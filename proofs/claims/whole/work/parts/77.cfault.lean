/-- a clause has a head, a query has none -/
theorem pIt_hd {tx : List Int} {qy : Bool} {hd : Option pE} {gs : List pE} {nv p' : Nat} : ∀ (n : Nat) (s : pS), (qy = true → s.2.2.1 = none) → pIt tx qy n s = some (.inr (hd, gs, nv, p')) → (hd.isNone = qy)
  | 0, _, _, h => by cases h
  | n + 1, s, hs, h => by
    obtain ⟨md, vs, hd', gs', t, nm, stk, p⟩ := s
    have hs : qy = true → hd' = none := hs
    unfold pIt at h
    have hG : ∀ r, pG tx qy vs hd' gs' t p = r → (∀ s', r = .inl s' → qy = true → s'.2.2.1 = none) ∧ (∀ R, r = .inr (.inr R) → R.1.isNone = qy) := by
      intro r hr
      subst hr
      unfold pG
      cases qy with
      | true =>
        have := hs rfl
        subst this
        rw [if_neg (by decide)]
        refine ⟨fun s' e _ => ?_, fun R e => ?_⟩
        · repeat' split at e
          all_goals first
            | cases e; rfl
            | cases e
        · repeat' split at e
          all_goals first
            | cases e; rfl
            | cases e
      | false =>
        refine ⟨fun s' e q => (by cases q), fun R e => ?_⟩
        cases hd' with
        | none =>
          rw [if_pos (by decide)] at e
          repeat' split at e
          all_goals first
            | cases e; rfl
            | cases e
        | some h' =>
          rw [if_neg (by simp)] at e
          repeat' split at e
          all_goals first
            | cases e; rfl
            | cases e
    have hT : ∀ (stk : List pF) r, pT tx vs hd' gs' stk p = r → (∀ s', r = .inl s' → qy = true → s'.2.2.1 = none) ∧ (∀ R, r = .inr (.inr R) → R.1.isNone = qy) := by
      intro stk r hr
      subst hr
      unfold pT
      refine ⟨fun s' e q => ?_, fun R e => ?_⟩
      · have := hs q
        subst this
        repeat' split at e
        all_goals first
          | cases e; rfl
          | cases e
      · repeat' split at e
        all_goals cases e
    have key : (∀ s', pSt tx qy (md, vs, hd', gs', t, nm, stk, p) = .inl s' → qy = true → s'.2.2.1 = none) ∧ (∀ R, pSt tx qy (md, vs, hd', gs', t, nm, stk, p) = .inr (.inr R) → R.1.isNone = qy) := by
      unfold pSt
      dsimp only
      by_cases m0 : md = 0
      · rw [if_pos m0]
        refine ⟨fun s' e q => ?_, fun R e => ?_⟩
        · have := hs q
          subst this
          repeat' split at e
          all_goals first
            | cases e; rfl
            | cases e
        · repeat' split at e
          all_goals cases e
      · rw [if_neg m0]
        by_cases m1 : md = 1
        · rw [if_pos m1]
          exact hT _ _ rfl
        · rw [if_neg m1]
          by_cases m2 : md = 2
          · rw [if_pos m2]
            by_cases k9 : pk1 tx p = 9
            · rw [if_pos k9]
              exact ⟨fun s' e q => by cases e; exact hs q, fun R e => by cases e⟩
            · rw [if_neg k9]
              exact hT _ _ rfl
          · rw [if_neg m2]
            by_cases h6 : nm = true ∧ pk1 tx p = 6
            · rw [if_pos h6]
              refine ⟨fun s' e q => ?_, fun R e => ?_⟩
              · split at e
                · cases e
                  exact hs q
                · cases e
              · split at e <;> cases e
            · rw [if_neg h6]
              cases stk with
              | nil => exact hG _ rfl
              | cons f r =>
                obtain ⟨f, k, as⟩ := f
                dsimp only
                refine ⟨fun s' e q => ?_, fun R e => ?_⟩
                · have := hs q
                  subst this
                  repeat' split at e
                  all_goals first
                    | cases e; rfl
                    | cases e
                · repeat' split at e
                  all_goals cases e
    cases e : pSt tx qy (md, vs, hd', gs', t, nm, stk, p) with
    | inl s' =>
      rw [e] at h
      exact pIt_hd n s' (fun q => key.1 s' e q) h
    | inr r =>
      rw [e] at h
      have h : r = .inr (hd, gs, nv, p') := by simpa using h
      subst h
      exact key.2 _ e
theorem pRun_hd {tx : List Int} {qy : Bool} {hd : Option pE} {gs : List pE} {nv p p' : Nat} (h : pRun tx qy (s00 p) (.inr (hd, gs, nv, p'))) : hd.isNone = qy := by
  obtain ⟨n, h⟩ := h
  exact pIt_hd n _ (fun _ => rfl) h
section CJ
variable {m m' : hy_m} {tx : List Int} {Q : Int → hy_m → Prop} {qy : Bool} {vs : List Int} {hd : Option pE} {gs : List pE} {u d c p : Nat} {K : List (pE × Int)} {y0 : Int} {stk : List pF} {css : List (List Int)} {t : pE} {n : Int}
/-- behind a term -/
theorem sp_76 {nm : Bool} (hT : cTx m tx) (hC : cCu m tx p) (hS : cSt m qy (3, vs, hd, gs, t, nm, stk, p)) (hq : ∀ r m', aO m m' tx qy (3, vs, hd, gs, t, nm, stk, p) p r → Q r m') : wq_76 m Q := by
  obtain ⟨i1, i2, i3, i4, i5, i6, i7, i8, i9, i10, i11, i12⟩ := pK_iff (tx := tx) (p := p)
  have htl := hT.2.1
  have hpl : p ≤ 120 := Nat.le_trans hC.1 htl
  obtain ⟨s1, s2, s3, s4⟩ := hS
  have s3 : ∀ v, oH hd v + oL gs v + oE t v + oF stk v ≤ p := fun v => by
    have := s3 v
    rw [if_pos rfl] at this
    exact this
  have hC' : cCu (hy_u m 4 17 (-9)) tx p := by
    refine ⟨hC.1, ?_, ?_, ?_, fun z => ?_, fun z => ?_⟩
    · rw [hy_ua (by decide)]; exact hC.2.1
    · rw [hy_ua (by decide)]; exact hC.2.2.1
    · rw [hy_ua (by decide)]; exact hC.2.2.2.1
    · rw [hy_ua (by decide)]; exact hC.2.2.2.2.1 z
    · rw [hy_ua (by decide)]; exact hC.2.2.2.2.2 z
  have h16 : hy_u m 4 17 (-9) 4 16 = 3 := by rw [hy_uk (by decide)]; exact s1
  unfold wq_76
  rcases s4 with ⟨a1, -⟩ | ⟨a1, -⟩ | ⟨-, hnm, h17, c, css, K, y0, n, hN, ht, hL, hc⟩ | ⟨-, hnm, c, css, K, y0, k, hte, hk, h17, hN, h6, h5, hL, hc⟩
  · omega
  · omega
  · rw [h17]
    refine ⟨fun _ => ?_, fun q => absurd rfl q⟩
    rw [hy_ui h17] at hC' h16 ⊢
    exact sp_76_42 _ hC htl s1 h17 hN ht hL hc s2 s3 (pSt_3 (fun q => by rw [hnm] at q; cases q)) hq
  · have hc8 : 8 ≤ c := hN.2.2.2.2
    rw [h17, hC.2.2.1]
    refine ⟨fun q => by omega, fun _ => ⟨fun n6 => ?_, fun k6 => ?_⟩⟩
    · have n6 : pk1 tx p ≠ 6 := fun q => n6 (i6.mpr q)
      have hN1 : cN (hy_u m 4 17 (-9)) y0 stk css (some (c : Int)) (c + 1) K := cN_up (cN_fr hN (fun a e q => if_neg (by omega)))
      refine sp_76_42 (3, vs, hd, gs, t, nm, stk, p) hC' htl h16 (hy_us _ _ _ _) hN1 (t := t) ?_ (cL_oc (cL_fr hL (fun a e q => if_neg (by omega))) (fun v => ?_)) (by omega) s2 s3 (pSt_3 (fun _ => n6)) (fun r m' hO => hq r m' (aO_tr (fun a e q => hy_uf (by omega)) (hy_uk (by decide)) (fun _ _ _ => hy_ua (by decide)) hO))
      · rw [hte]
        refine ⟨rfl, Or.inr ⟨by omega, by omega, fun q => ?_⟩, by omega, ?_, ?_, by decide, hk, Or.inr ⟨Int.le_refl 0, rfl⟩⟩
        · have := hN.2.1.2 _ q
          omega
        · rw [hy_ua (by decide)]; exact h6
        · rw [hy_ua (by decide)]; exact h5
      · rw [hte]
        show oF stk v = 0 + oF stk v
        omega
    · have k6 := i6.mp k6
      have hp := lt120 hC htl (by omega)
      have h14 : hy_u m 4 17 (-9) 4 14 = (stk.length : Int) := by rw [hy_uk (by decide)]; exact hL.2.2.1
      refine sp_80 (d := stk.length) h14 (by omega) ?_
      have hr3 := mOp_r (hy_u m 4 17 (-9)) stk.length (c : Int) 0
      have hv3 := mOp_v (hy_u m 4 17 (-9)) stk.length (c : Int) 0
      generalize mOp (hy_u m 4 17 (-9)) stk.length (c : Int) 0 = m2 at hr3 hv3
      have hr : ∀ (a : Nat) (e : Int), ¬ ((a = 12 ∨ a = 13) ∧ e = stk.length) → ¬ (a = 4 ∧ (e = 14 ∨ e = 17)) → m2 a e = m a e := fun a e q1 q2 => (hr3 a e q1 (by omega)).trans (if_neg (by omega))
      have hN1 : cN m y0 stk css (some (c : Int)) c K := hN
      have hN3 := cN_open (m' := m2) (f := (0, k, [])) hN1 (fun a e q => hr _ _ (by omega) (by omega)) (fun A => Or.inl ⟨rfl, Nat.zero_le _, hk, (c : Int), rfl, by rw [hr _ _ (by omega) (by omega)]; exact h6, by rw [hr _ _ (by omega) (by omega)]; exact h5, fun j hj => absurd hj (Nat.not_lt_zero _), (fun z hz => by cases hz), hv3.1, hv3.2.1⟩)
      refine hq _ _ (aO_due (f := (0, k, [])) (fun a e q => (hy_uf (by omega)).trans (hr _ _ (by omega) (by omega))) ((hy_uk (by decide)).trans (hr _ _ (by omega) (by omega))) (hy_us _ _ _ _) ?_ s2 (by omega) hC.1 ?_ (cN_fr hN3 (fun a e q => if_neg (by omega))) (cL_oc (cL_u hL (fun a e q => (if_neg (by omega)).trans (hr _ _ (by omega) (by omega))) ?_ ?_) (fun v => ?_)) (by omega) (fun v => ?_) rfl)
      · rw [hy_uk (by decide), hr3 _ _ (by omega) (by omega), hy_us]
      · unfold pSt
        dsimp only
        rw [if_neg (by decide), if_neg (by decide), if_neg (by decide), if_pos ⟨hnm, k6⟩, hte]
        rfl
      · rw [hy_uk (by decide), hr _ _ (by omega) (by omega)]; exact hL.2.1
      · rw [hy_uk (by decide), hv3.2.2]; omega
      · show oF stk v = 0 + oF stk v
        omega
      · have := s3 v
        rw [hte] at this
        have : oH hd v + oL gs v + 0 + oF stk v ≤ p := this
        show oH hd v + oL gs v + (0 + oF stk v) ≤ p
        omega
theorem sp_72 (s : pS) (hT : cTx m tx) (hC : cCu m tx s.2.2.2.2.2.2.2) (hS : cSt m qy s) (hq : ∀ r m', aO m m' tx qy s s.2.2.2.2.2.2.2 r → Q r m') : wq_72 m Q := by
  obtain ⟨md, vs, hd, gs, t, nm, stk, p⟩ := s
  have hC : cCu m tx p := hC
  have hq : ∀ r m', aO m m' tx qy (md, vs, hd, gs, t, nm, stk, p) p r → Q r m' := hq
  have hS' := hS
  obtain ⟨s1, s2, s3, s4⟩ := hS
  unfold wq_72
  rw [s1]
  have hmd : md = 0 ∨ md = 1 ∨ md = 2 ∨ md = 3 := by
    rcases s4 with ⟨a1, -⟩ | ⟨a1, -⟩ | ⟨a1, -⟩ | ⟨a1, -⟩ <;> omega
  rcases hmd with rfl | rfl | rfl | rfl
  · exact ⟨⟨fun _ => sp_73 hT hC hS' hq, fun q => absurd q (by decide), fun q => absurd q (by decide), fun q => absurd q (by decide), trivial⟩, fun q => absurd q (by decide)⟩
  · refine ⟨⟨fun q => absurd q (by decide), fun _ => ?_, fun q => absurd q (by decide), fun q => absurd q (by decide), trivial⟩, fun q => absurd q (by decide)⟩
    rcases s4 with ⟨a1, -⟩ | ⟨-, h17, hne, c, css, K, y0, hN, hL, hc⟩ | ⟨a1, -⟩ | ⟨a1, -⟩
    · omega
    · cases stk with
      | nil => exact absurd rfl hne
      | cons f stk =>
        cases css with
        | nil => exact hN.2.2.1.elim
        | cons cs css =>
          rw [if_neg (by decide)] at hc
          have hub : ∀ v, oH hd v + oL gs v + 0 + oF (f :: stk) v ≤ p := fun v => by
            have := s3 v
            rw [if_neg (by decide)] at this
            exact this
          have hst : pSt tx qy (1, vs, hd, gs, t, nm, f :: stk, p) = pT tx vs hd gs (f :: stk) p := by
            unfold pSt
            dsimp only
            rw [if_neg (by decide), if_pos rfl]
          have hpl : p ≤ 120 := Nat.le_trans hC.1 hT.2.1
          by_cases hp : p < 120
          · exact sp_74 (p := p) (1, vs, hd, gs, t, nm, f :: stk, p) hC hp hN hL (by omega) (by simp only [List.length_cons] at s2; omega) (fun v => by have := hub v; omega) h17 hst hq
          · obtain ⟨i1, i2, i3, i4, i5, i6, i7, i8, i9, i10, i11, i12⟩ := pK_iff (tx := tx) (p := p)
            have hk0 : pk1 tx p = 0 := by
              unfold pk1
              rw [List.drop_eq_nil_of_le (by have := hT.2.1; omega)]
              rfl
            show wq_74 m (fun r2 m2 => Q r2 m2)
            unfold wq_74
            rw [hC.2.2.1]
            refine ⟨fun q => absurd (i1.mp q) (by omega), fun _ => ⟨fun q => absurd (i2.mp q) (by omega), fun _ => ⟨fun q => absurd (i3.mp q) (by omega), fun _ => ⟨fun q => absurd (i4.mp q) (by omega), fun _ => hq _ _ (aO_bad (fun a e q => rfl) rfl (fun _ _ _ => rfl) ?_ rfl)⟩⟩⟩⟩
            show pSt tx qy (1, vs, hd, gs, t, nm, f :: stk, p) = .inr (.inl p)
            rw [hst]
            unfold pT
            rw [if_neg (by omega), if_neg (by omega), if_neg (by omega), if_neg (by omega)]
    · omega
    · omega
  · exact ⟨⟨fun q => absurd q (by decide), fun q => absurd q (by decide), fun _ => sp_75 hT hC hS' hq, fun q => absurd q (by decide), trivial⟩, fun q => absurd q (by decide)⟩
  · exact ⟨⟨fun q => absurd q (by decide), fun q => absurd q (by decide), fun q => absurd q (by decide), fun _ => sp_76 hT hC hS' hq, trivial⟩, fun q => absurd q (by decide)⟩
/-- what reading leaves alone: all but the reader, and where the text stands -/
def cFx (m m' : hy_m) : Prop := ∀ (a : Nat) (e : Int), ¬ (5 ≤ a ∧ a ≤ 13 ∨ a = 4 ∧ (e = 4 ∨ e = 5 ∨ e = 7 ∨ e = 10 ∨ 14 ≤ e ∧ e ≤ 17)) → ¬ (a = 2 ∧ (e = 2 ∨ e = 3 ∨ e = 4 ∨ e = 5)) → m' a e = m a e
theorem cFx.trans {m m' m'' : hy_m} (h : cFx m m') (h' : cFx m' m'') : cFx m m'' := fun a e q1 q2 => (h' a e q1 q2).trans (h a e q1 q2)
theorem cTx_x (hT : cTx m tx) (hf : cFx m m') : cTx m' tx := by
  refine ⟨by rw [hf 2 1 (by omega) (by omega)]; exact hT.1, hT.2.1, fun i hi => ?_, hT.2.2.2⟩
  rw [hf 3 _ (by omega) (by omega)]
  exact hT.2.2.1 i hi
theorem cCu_of {st : Nat} (hst : st ≤ tx.length) (h : cNx m m' tx st) : cCu m' tx st := by
  refine ⟨hst, h.1, h.2.1, h.2.2.1, fun hk => ?_, h.2.2.2.2.1⟩
  rw [h.2.2.2.1 hk]
  exact (tk_word hk).2.symm
theorem pSt_p : ∀ (s s' : pS), pSt tx qy s = .inl s' → s'.2.2.2.2.2.2.2 = pnx tx s.2.2.2.2.2.2.2 := by
  rintro ⟨md, vs, hd, gs, t, nm, stk, p⟩ s' h
  have hT : ∀ (vs : List Int) (hd : Option pE) (gs : List pE) (stk : List pF), pT tx vs hd gs stk p = .inl s' → s'.2.2.2.2.2.2.2 = pnx tx p := by
    intro vs hd gs stk h
    unfold pT at h
    repeat' split at h
    all_goals first
      | cases h; rfl
      | cases h
  have hB : pB tx qy vs hd gs t stk p = .inl s' → s'.2.2.2.2.2.2.2 = pnx tx p := by
    intro h
    unfold pB pG at h
    repeat' split at h
    all_goals first
      | cases h; rfl
      | cases h
  show s'.2.2.2.2.2.2.2 = pnx tx p
  by_cases h3 : md ≠ 0 ∧ md ≠ 1 ∧ md ≠ 2
  · unfold pSt at h
    dsimp only at h
    rw [if_neg h3.1, if_neg h3.2.1, if_neg h3.2.2] at h
    by_cases h6 : nm = true ∧ pk1 tx p = 6
    · rw [if_pos h6] at h
      split at h
      · cases h; rfl
      · cases h
    · rw [if_neg h6] at h
      exact hB h
  · unfold pSt at h
    dsimp only at h
    by_cases h0 : md = 0
    · rw [if_pos h0] at h
      repeat' split at h
      all_goals first
        | cases h; rfl
        | cases h
    · rw [if_neg h0] at h
      by_cases h1 : md = 1
      · rw [if_pos h1] at h
        exact hT _ _ _ _ h
      · rw [if_neg h1, if_pos (by omega)] at h
        split at h
        · cases h; rfl
        · exact hT _ _ _ _ h
theorem pSt_0 {s : pS} (h0 : pk1 tx s.2.2.2.2.2.2.2 = 0) : pSt tx qy s = .inr (.inl s.2.2.2.2.2.2.2) := by
  obtain ⟨md, vs, hd, gs, t, nm, stk, p⟩ := s
  have h0 : pk1 tx p = 0 := h0
  show pSt tx qy (md, vs, hd, gs, t, nm, stk, p) = .inr (.inl p)
  have hT : ∀ (vs : List Int) (hd : Option pE) (gs : List pE) (stk : List pF), pT tx vs hd gs stk p = .inr (.inl p) := by
    intro vs hd gs stk
    unfold pT
    rw [if_neg (by omega), if_neg (by omega), if_neg (by omega), if_neg (by omega)]
  by_cases m0 : md = 0
  · subst m0
    unfold pSt
    dsimp only
    rw [if_pos rfl, if_neg (by omega)]
  · by_cases m1 : md = 1
    · subst m1
      unfold pSt
      dsimp only
      rw [if_neg (by decide), if_pos rfl]
      exact hT _ _ _ _
    · by_cases m2 : md = 2
      · subst m2
        unfold pSt
        dsimp only
        rw [if_neg (by decide), if_neg (by decide), if_pos rfl, if_neg (by omega)]
        exact hT _ _ _ _
      · unfold pSt
        dsimp only
        rw [if_neg m0, if_neg m1, if_neg m2, if_neg (by omega)]
        cases stk with
        | nil =>
          show pG tx qy vs hd gs t p = _
          unfold pG
          simp [h0]
        | cons f r =>
          obtain ⟨f, k, as⟩ := f
          simp [h0]
theorem cSt_fr {s : pS} (h : cSt m qy s) (hf : ∀ (a : Nat) (e : Int), 4 ≤ a ∧ a ≤ 13 → m' a e = m a e) : cSt m' qy s := by
  obtain ⟨md, vs, hd, gs, t, nm, stk, p⟩ := s
  obtain ⟨s1, s2, s3, s4⟩ := h
  have hE : ∀ A : Int → Prop, cE m m' A := fun A n _ => ⟨hf _ _ (by omega), hf _ _ (by omega), fun j _ _ => hf _ _ (by omega)⟩
  refine ⟨by rw [hf _ _ (by omega)]; exact s1, s2, s3, ?_⟩
  rcases s4 with ⟨a1, h17, a2, c, K, hD, hV, h15, h14, hg4, hhg, hc⟩ | ⟨a1, h17, a2, c, css, K, y0, hN, hL, hc⟩ | ⟨a1, a2, h17, c, css, K, y0, n, hN, ht, hL, hc⟩ | ⟨a1, a2, c, css, K, y0, k, hte, hk, h17, hN, h6, h5, hL, hc⟩
  · exact Or.inl ⟨a1, by rw [hf _ _ (by omega)]; exact h17, a2, c, K, cDn_fr hD (fun a e q => hf _ _ (by omega)), ⟨by rw [hf _ _ (by omega)]; exact hV.1, hV.2.1, fun i hi => by rw [hf _ _ (by omega)]; exact hV.2.2 i hi⟩, by rw [hf _ _ (by omega)]; exact h15, by rw [hf _ _ (by omega)]; exact h14, hg4, hhg, hc⟩
  · exact Or.inr (Or.inl ⟨a1, by rw [hf _ _ (by omega)]; exact h17, a2, c, css, K, y0, cN_fr hN (fun a e q => hf _ _ (by omega)), cL_fr hL (fun a e q => hf _ _ (by omega)), hc⟩)
  · exact Or.inr (Or.inr (Or.inl ⟨a1, a2, by rw [hf _ _ (by omega)]; exact h17, c, css, K, y0, n, cN_fr hN (fun a e q => hf _ _ (by omega)), cT_up (fun z hz => hz) (hE _) ht, cL_fr hL (fun a e q => hf _ _ (by omega)), hc⟩))
  · exact Or.inr (Or.inr (Or.inr ⟨a1, a2, c, css, K, y0, k, hte, hk, by rw [hf _ _ (by omega)]; exact h17, cN_fr hN (fun a e q => hf _ _ (by omega)), by rw [hf _ _ (by omega)]; exact h6, by rw [hf _ _ (by omega)]; exact h5, cL_fr hL (fun a e q => hf _ _ (by omega)), hc⟩))
theorem cSt_5 {s : pS} (h : cSt m qy s) : (∀ i : Int, 0 ≤ i → i < 8 → m 5 i = 1) ∧ m 4 16 ≠ 4 := by
  obtain ⟨md, vs, hd, gs, t, nm, stk, p⟩ := s
  obtain ⟨s1, s2, s3, s4⟩ := h
  rw [s1]
  rcases s4 with ⟨a1, h17, a2, c, K, hD, -⟩ | ⟨a1, h17, a2, c, css, K, y0, hN, -⟩ | ⟨a1, a2, h17, c, css, K, y0, n, hN, -⟩ | ⟨a1, a2, c, css, K, y0, k, hte, hk, h17, hN, -⟩
  · exact ⟨hD.1, by omega⟩
  · exact ⟨hN.1, by omega⟩
  · exact ⟨hN.1, by omega⟩
  · exact ⟨hN.1, by omega⟩
/-- one clause or query -/
theorem sp_70 {x : Int} (hx : x = qb qy) (hT : cTx m tx) (hC : cCu m tx p) (hK : ∀ i : Int, 0 ≤ i → i < 8 → m 5 i = 1) (h1 : ∀ m' hd gs nv p' c K, cFx m m' → pRun tx qy (s00 p) (.inr (hd, gs, nv, p')) → cDn m' c K hd gs nv → c ≤ 127 → cCu m' tx p' → p < p' → Q 1 m') (h0 : ∀ (m' : hy_m) (w : Nat), cFx m m' → pRun tx qy (s00 p) (.inl w) → m' 2 3 = w → (∀ i : Int, 0 ≤ i → i < 8 → m' 5 i = 1) → Q 0 m') : wq_70 x m Q := by
  subst hx
  unfold wq_70 wq_71
  have hr : ∀ (a : Nat) (e : Int), ¬ (a = 4 ∧ (e = 4 ∨ e = 5 ∨ e = 7 ∨ e = 10 ∨ 14 ≤ e ∧ e ≤ 17)) → hy_u (hy_u (hy_u (hy_u (hy_u (hy_u (hy_u (hy_u m 4 15 (qb qy)) 4 4 8) 4 5 (-9)) 4 7 0) 4 10 0) 4 14 0) 4 17 (-9)) 4 16 0 a e = m a e := by
    intro a e q
    unfold hy_u
    rw [if_neg (by omega), if_neg (by omega), if_neg (by omega), if_neg (by omega), if_neg (by omega), if_neg (by omega), if_neg (by omega), if_neg (by omega)]
  have v16 : hy_u (hy_u (hy_u (hy_u (hy_u (hy_u (hy_u (hy_u m 4 15 (qb qy)) 4 4 8) 4 5 (-9)) 4 7 0) 4 10 0) 4 14 0) 4 17 (-9)) 4 16 0 4 16 = ((0 : Nat) : Int) := hy_us _ _ _ _
  have v17 : hy_u (hy_u (hy_u (hy_u (hy_u (hy_u (hy_u (hy_u m 4 15 (qb qy)) 4 4 8) 4 5 (-9)) 4 7 0) 4 10 0) 4 14 0) 4 17 (-9)) 4 16 0 4 17 = -9 := by rw [hy_uk (by decide), hy_us]
  have v14 : hy_u (hy_u (hy_u (hy_u (hy_u (hy_u (hy_u (hy_u m 4 15 (qb qy)) 4 4 8) 4 5 (-9)) 4 7 0) 4 10 0) 4 14 0) 4 17 (-9)) 4 16 0 4 14 = 0 := by rw [hy_uk (by decide), hy_uk (by decide), hy_us]
  have v10 : hy_u (hy_u (hy_u (hy_u (hy_u (hy_u (hy_u (hy_u m 4 15 (qb qy)) 4 4 8) 4 5 (-9)) 4 7 0) 4 10 0) 4 14 0) 4 17 (-9)) 4 16 0 4 10 = ((0 : Nat) : Int) := by rw [hy_uk (by decide), hy_uk (by decide), hy_uk (by decide), hy_us]; rfl
  have v7 : hy_u (hy_u (hy_u (hy_u (hy_u (hy_u (hy_u (hy_u m 4 15 (qb qy)) 4 4 8) 4 5 (-9)) 4 7 0) 4 10 0) 4 14 0) 4 17 (-9)) 4 16 0 4 7 = ((0 : Nat) : Int) := by rw [hy_uk (by decide), hy_uk (by decide), hy_uk (by decide), hy_uk (by decide), hy_us]; rfl
  have v5 : hy_u (hy_u (hy_u (hy_u (hy_u (hy_u (hy_u (hy_u m 4 15 (qb qy)) 4 4 8) 4 5 (-9)) 4 7 0) 4 10 0) 4 14 0) 4 17 (-9)) 4 16 0 4 5 = -9 := by rw [hy_uk (by decide), hy_uk (by decide), hy_uk (by decide), hy_uk (by decide), hy_uk (by decide), hy_us]
  have v4 : hy_u (hy_u (hy_u (hy_u (hy_u (hy_u (hy_u (hy_u m 4 15 (qb qy)) 4 4 8) 4 5 (-9)) 4 7 0) 4 10 0) 4 14 0) 4 17 (-9)) 4 16 0 4 4 = ((8 : Nat) : Int) := by rw [hy_uk (by decide), hy_uk (by decide), hy_uk (by decide), hy_uk (by decide), hy_uk (by decide), hy_uk (by decide), hy_us]; rfl
  have v15 : hy_u (hy_u (hy_u (hy_u (hy_u (hy_u (hy_u (hy_u m 4 15 (qb qy)) 4 4 8) 4 5 (-9)) 4 7 0) 4 10 0) 4 14 0) 4 17 (-9)) 4 16 0 4 15 = qb qy := by rw [hy_uk (by decide), hy_uk (by decide), hy_uk (by decide), hy_uk (by decide), hy_uk (by decide), hy_uk (by decide), hy_uk (by decide), hy_us]
  show wq_70_7 0 (hy_u (hy_u (hy_u (hy_u (hy_u (hy_u (hy_u (hy_u m 4 15 (qb qy)) 4 4 8) 4 5 (-9)) 4 7 0) 4 10 0) 4 14 0) 4 17 (-9)) 4 16 0) Q
  generalize hy_u (hy_u (hy_u (hy_u (hy_u (hy_u (hy_u (hy_u m 4 15 (qb qy)) 4 4 8) 4 5 (-9)) 4 7 0) 4 10 0) 4 14 0) 4 17 (-9)) 4 16 0 = m0 at hr v16 v17 v14 v10 v7 v5 v4 v15
  have hx0 : cFx m m0 := fun a e q1 q2 => hr a e (by omega)
  have hS0 : cSt m0 qy (s00 p) := by
    refine ⟨v16, Nat.zero_le _, fun v => Nat.zero_le _, Or.inl ⟨rfl, v17, rfl, 8, [], ⟨fun i q1 q2 => by rw [hr _ _ (by omega)]; exact hK i q1 q2, v4, by omega, (fun q hq => by cases hq), v7, by decide, v10, by decide, (fun h e => by cases e), fun _ => v5, fun i hi => absurd hi (Nat.not_lt_zero _), fun v hv => absurd hv (Nat.not_lt_zero _), fun v _ => rfl, fun i hi => absurd hi (Nat.not_lt_zero _)⟩, ⟨v10, by decide, fun i hi => absurd hi (Nat.not_lt_zero _)⟩, v15, v14, by decide, fun _ => rfl, by omega⟩⟩
  have hC0 : cCu m0 tx p := ⟨hC.1, by rw [hr _ _ (by omega)]; exact hC.2.1, by rw [hr _ _ (by omega)]; exact hC.2.2.1, by rw [hr _ _ (by omega)]; exact hC.2.2.2.1, fun z => by rw [hr _ _ (by omega)]; exact hC.2.2.2.2.1 z, fun z => by rw [hr _ _ (by omega)]; exact hC.2.2.2.2.2 z⟩
  unfold wq_70_7
  refine wL1_rule (Nat.lt_wfRel.wf) (fun x m' => ∃ (k : Nat) (s : pS), x = k ∧ cSt m' qy s ∧ cCu m' tx s.2.2.2.2.2.2.2 ∧ cFx m m' ∧ p + k ≤ s.2.2.2.2.2.2.2 ∧ ∀ R, pRun tx qy (s00 p) R ↔ pRun tx qy s R) (fun x _ => 200 - x.toNat) ?_ ⟨0, s00 p, rfl, hS0, hC0, hx0, Nat.le_refl _, fun R => Iff.rfl⟩
  rintro P x m' ⟨k, s, rfl, hS, hCs, hf, hk, hR⟩ hP
  have hT' := cTx_x hT hf
  have hp120 : s.2.2.2.2.2.2.2 ≤ 120 := Nat.le_trans hCs.1 hT.2.1
  have h5 := (cSt_5 hS).1
  unfold wf_70_7
  refine ⟨fun q => by omega, fun _ => sp_72 s hT' hCs hS (fun r m1 hO => ?_)⟩
  obtain ⟨hf1, h15, hO⟩ := hO
  have hf1x : cFx m m1 := hf.trans (fun a e q1 q2 => hf1 a e q1)
  have hT1 := cTx_x hT hf1x
  have hnext : ∀ {Q' : Int → hy_m → Prop}, (∀ m2, cCu m2 tx (pnx tx s.2.2.2.2.2.2.2) → (∀ (a : Nat) (e : Int), ¬ (a = 2 ∧ (e = 2 ∨ e = 3 ∨ e = 4 ∨ e = 5)) → m2 a e = m1 a e) → Q' 0 m2) → wq_136 m1 Q' := by
    intro Q' hQ
    refine sp_136 hT1 (by rw [hf1 2 5 (by omega)]; exact hCs.2.2.2.1) (pnx_le hCs.1) (fun m2 hN => hQ m2 (cCu_of (pnx_ok hCs.1).1 hN) hN.2.2.2.2.2)
  rcases hO with ⟨rfl, s', hst, hS'⟩ | ⟨rfl, hst, h51⟩ | ⟨rfl, h16, hd, gs, nv, c, K, hst, hD, hc⟩
  · refine ⟨fun q => absurd q (by decide), fun _ => hnext (fun m2 hC2 hf2 => ?_)⟩
    have hS2 : cSt m2 qy s' := cSt_fr hS' (fun a e q => hf2 _ _ (by omega))
    have hpp := pSt_p _ _ hst
    have hk0 : pk1 tx s.2.2.2.2.2.2.2 ≠ 0 := by
      intro hz
      rw [pSt_0 hz] at hst
      cases hst
    have hadv := pk_pos hCs.1 hk0
    refine ⟨fun _ => ⟨show -2147483648 ≤ _ ∧ _ < 2147483648 by omega, hP _ _ ⟨k + 1, s', by omega, hS2, by rw [hpp]; exact hC2, hf1x.trans (fun a e q1 q2 => hf2 a e q2), by omega, fun R => (hR R).trans (pRun_s tx qy hst R)⟩ ?_⟩, fun q => absurd q (cSt_5 hS2).2⟩
    show 200 - _ < 200 - _
    omega
  · refine ⟨fun _ => h0 m1 s.2.2.2.2.2.2.2 hf1x ((hR _).mpr (pRun_e tx qy hst)) (by rw [hf1 2 3 (by omega)]; exact hCs.2.1) (fun i q1 q2 => by rw [h51 i q1 q2]; exact h5 i q1 q2), fun q => absurd rfl q⟩
  · have hk0 : pk1 tx s.2.2.2.2.2.2.2 ≠ 0 := by
      intro hz
      rw [pSt_0 hz] at hst
      cases hst
    have hadv := pk_pos hCs.1 hk0
    have hp2 := (pnx_ok hCs.1).1
    have htl := hT.2.1
    refine ⟨fun q => absurd q (by decide), fun _ => hnext (fun m2 hC2 hf2 => ?_)⟩
    rw [hf2 4 16 (by omega)]
    refine ⟨fun q => absurd h16 q, fun _ => h1 m2 hd gs nv _ c K (hf1x.trans (fun a e q1 q2 => hf2 a e q2)) ((hR _).mpr (pRun_e tx qy hst)) (cDn_fr hD (fun a e q => hf2 _ _ (by omega))) ?_ hC2 ?_⟩
    · omega
    · omega
/-- the fault of the text as clauses -/
theorem sp_68 {room : Nat} (hr20 : room ≤ 20) (hT : cTx m tx) (hK : ∀ i : Int, 0 ≤ i → i < 8 → m 5 i = 1) (hq : ∀ (r : Int) (m' : hy_m), cFx m m' → (∀ i : Int, 0 ≤ i → i < 8 → m' 5 i = 1) → (∃ cls, r = -9 ∧ cR tx room (sk tx 0) [] (.inr cls)) ∨ (∃ w : Nat, r = w ∧ cR tx room (sk tx 0) [] (.inl w)) → Q r m') : wq_68 (room : Int) m Q := by
  have hs := sk_le (tx := tx) (p := 0) (Nat.zero_le _)
  unfold wq_68
  refine sp_135 hT (fun m1 hN => ?_)
  have hC1 := cCu_of hs.2 hN
  have hf1 : cFx m m1 := fun a e _ q2 => hN.2.2.2.2.2 a e q2
  unfold wq_68_9
  refine wL1_rule (Nat.lt_wfRel.wf) (fun x m' => ∃ (acc : List pCl) (p : Nat), x = acc.length ∧ acc.length ≤ room ∧ cFx m m' ∧ (∀ i : Int, 0 ≤ i → i < 8 → m' 5 i = 1) ∧ cCu m' tx p ∧ ∀ R, cR tx (room - acc.length) p acc R → cR tx room (sk tx 0) [] R) (fun x _ => 30 - x.toNat) ?_ ⟨[], sk tx 0, rfl, Nat.zero_le _, hf1, fun i q1 q2 => by rw [hN.2.2.2.2.2 _ _ (by omega)]; exact hK i q1 q2, hC1, fun R hR => hR⟩
  rintro P x m' ⟨acc, p, rfl, hle, hf, hK', hC, hR⟩ hP
  obtain ⟨i1, i2, i3, i4, i5, i6, i7, i8, i9, i10, i11, i12⟩ := pK_iff (tx := tx) (p := p)
  unfold wf_68_9
  rw [hC.2.2.1, hC.2.1]
  refine ⟨fun q => by omega, fun _ => ⟨fun hk => ⟨fun he => ?_, fun hne => ?_⟩, fun hk => hq _ _ hf hK' (Or.inl ⟨acc, rfl, hR _ (cR_0 (i12.mp hk))⟩)⟩⟩
  · refine hq _ _ hf hK' (Or.inr ⟨p, rfl, hR _ ?_⟩)
    rw [show room - acc.length = 0 by omega]
    exact cR_f (fun q => hk (i12.mpr q))
  · have hk0 : pk1 tx p ≠ 0 := fun q => hk (i12.mpr q)
    refine sp_70 (qy := false) rfl (cTx_x hT hf) hC hK' (fun m2 hd gs nv p' c K g1 g2 g3 g4 g5 g6 => ⟨fun _ => ⟨show -2147483648 ≤ _ ∧ _ < 2147483648 by omega, ?_⟩, fun q => absurd q (by decide)⟩) (fun m2 w g1 g2 g3 g4 => ⟨fun q => absurd rfl q, fun _ => ?_⟩)
    · cases hd with
      | none => exact absurd (pRun_hd g2) (by decide)
      | some t =>
        refine hP _ _ ⟨acc ++ [(t, gs, nv)], p', by simp, by simp; omega, hf.trans g1, g3.1, g5, fun R hc => hR R (cR_s hk0 (by omega) g2 ?_)⟩ ?_
        · rw [show room - (acc ++ [(t, gs, nv)]).length = room - acc.length - 1 by simp; omega] at hc
          exact hc
        · show 30 - _ < 30 - _
          omega
    · rw [g3]
      exact hq _ _ (hf.trans g1) g4 (Or.inr ⟨w, rfl, hR _ (cR_w hk0 (by omega) g2)⟩)
/-- the fault of the text as a query -/
theorem sp_69 (hT : cTx m tx) (hK : ∀ i : Int, 0 ≤ i → i < 8 → m 5 i = 1) (hq : ∀ (r : Int) (m' : hy_m), cFx m m' → (∀ i : Int, 0 ≤ i → i < 8 → m' 5 i = 1) → (∃ gs nv c K, r = -9 ∧ cDn m' c K none gs nv ∧ c ≤ 127 ∧ qR tx (.inr (gs, nv))) ∨ (∃ w : Nat, r = w ∧ qR tx (.inl w)) → Q r m') : wq_69 m Q := by
  have hs := sk_le (tx := tx) (p := 0) (Nat.zero_le _)
  unfold wq_69
  refine sp_135 hT (fun m1 hN => ?_)
  have hC1 := cCu_of hs.2 hN
  have hf1 : cFx m m1 := fun a e _ q2 => hN.2.2.2.2.2 a e q2
  have hK1 : ∀ i : Int, 0 ≤ i → i < 8 → m1 5 i = 1 := fun i q1 q2 => by rw [hN.2.2.2.2.2 _ _ (by omega)]; exact hK i q1 q2
  refine sp_70 (qy := true) rfl (cTx_x hT hf1) hC1 hK1 (fun m2 hd gs nv p' c K g1 g2 g3 g4 g5 g6 => ⟨fun q => absurd q (by decide), fun _ => ?_⟩) (fun m2 w g1 g2 g3 g4 => ⟨fun _ => ?_, fun q => absurd rfl q⟩)
  · cases hd with
    | some t => exact absurd (pRun_hd g2) (by simp)
    | none =>
      obtain ⟨i1, i2, i3, i4, i5, i6, i7, i8, i9, i10, i11, i12⟩ := pK_iff (tx := tx) (p := p')
      rw [g5.2.2.1, g5.2.1]
      refine ⟨fun hn => hq _ _ (hf1.trans g1) g3.1 (Or.inr ⟨p', rfl, Or.inr ⟨gs, nv, p', g2, ?_⟩⟩), fun h0 => hq _ _ (hf1.trans g1) g3.1 (Or.inl ⟨gs, nv, c, K, rfl, g3, g4, Or.inr ⟨gs, nv, p', g2, ?_⟩⟩)⟩
      · rw [if_neg (fun q => hn (i12.mpr q))]
      · rw [if_pos (i12.mp h0)]
  · rw [g3]
    exact hq _ _ (hf1.trans g1) g4 (Or.inr ⟨w, rfl, Or.inl ⟨w, g2, rfl⟩⟩)
end CJ
