/-! CONSULT, IN THE CLASS -/
theorem cR_n {tx : List Int} {room p p' nv : Nat} {acc cls : List pCl} {t : pE} {gs : List pE} (h : cR tx room p acc (.inr cls)) (hp : pk1 tx p ≠ 0) (hr : pRun tx false (s00 p) (.inr (some t, gs, nv, p'))) : cR tx (room - 1) p' (acc ++ [(t, gs, nv)]) (.inr cls) := by
  obtain ⟨n, h⟩ := h
  cases n with
  | zero => exact h.elim
  | succ n =>
    unfold cRun at h
    rw [if_neg hp] at h
    by_cases r0 : room = 0
    · rw [if_pos r0] at h
      cases h
    · rw [if_neg r0] at h
      rcases h with ⟨w, -, h⟩ | ⟨t', gs', nv', p'', h1, h2⟩
      · cases h
      · have e := pRun_d tx false h1 hr
        injection e with e
        injection e with e1 e
        injection e with e2 e
        injection e with e3 e4
        injection e1 with e1
        subst e1
        subst e2
        subst e3
        subst e4
        exact ⟨n, h2⟩
theorem cR_e {tx : List Int} {room p : Nat} {acc cls : List pCl} (h : cR tx room p acc (.inr cls)) (hp : pk1 tx p = 0) : cls = acc := by
  have := cR_d h (cR_0 hp)
  injection this
/-- what consult leaves alone -/
def kFr (b N : Nat) (m m' : hy_m) : Prop := ∀ (z : Nat) (e : Int), z < N → ¬ (2 ≤ z ∧ z ≤ 13) → ¬ (21 ≤ z ∧ z ≤ 35) → ¬ (z = 1 ∧ e = 4) → m' z e = cFin m b 0 0 z e
def k5 (m : hy_m) : Prop := ∀ i : Int, 0 ≤ i → i < 8 → m 5 i = 1
section CCN
variable {T : hy_T} {m : hy_m} {F : Nat → Prop} {Q : sQ} {PL : List pCl} {PH : List (List pCl)} {b N U room : Nat} {tx : List Int}
set_option maxHeartbeats 4000000 in
theorem sp_4 (hN : 74 ≤ N) (hW : sWf T N) (hFN : ∀ z, F z → z < N) (hg : gOk T m F b) (hp : cPs T m F PL PH) (hr : rRef T m) (hT : cTx m tx) (hK : k5 m) (hroom : PL.length + room = 20) (h0 : ∀ m1 (w : Nat), cFx m m1 → k5 m1 → cR tx room (sk tx 0) [] (.inl w) → Q (-2) (T, N, U, m1)) (hq : ∀ cls T' N' U' m', cR tx room (sk tx 0) [] (.inr cls) → (∀ z, z < N → T'.1 z = T.1 z) → T'.2 = T.2 → sWf T' N' → N ≤ N' → N' ≤ N + 7 * cls.length → (U ≤ U' ∧ U' ≤ U + 659 * cls.length) → cPs T' m' (fun z => F z ∨ (N ≤ z ∧ z < N')) (PL ++ cls) (phN PH PL) → kFr b N m m' → rRef T' m' → cTx m' tx → k5 m' → Q (cls.length : Int) (T', N', U', m')) : wq_4 (T, N, U, m) Q := by
  have hF := hg.1
  have hl120 := hT.2.1
  unfold wq_4
  dsimp only
  rw [hp.1.2.2.2.1, show (20 : Int) - (PL.length : Int) = (room : Int) by omega]
  refine ⟨show -2147483648 ≤ _ ∧ _ < 2147483648 by omega, sp_68 (by omega) hT hK (fun r m1 f1 k1 hres => ⟨fun q => ?_, fun q => ?_⟩)⟩
  · obtain ⟨cls, hcls⟩ : ∃ cls, cR tx room (sk tx 0) [] (.inr cls) := by
      rcases hres with ⟨cls, -, h⟩ | ⟨w, e, -⟩
      · exact ⟨cls, h⟩
      · omega
    have hq := hq cls
    have hp1 : cPs T m1 F PL PH := cPs_fr hp (f1 1 4 (by omega) (by omega)) (fun z e y => f1 z e (by
      rcases y with y | y
      · have := hF z y
        omega
      · omega) (by
      rcases y with y | y
      · have := hF z y
        omega
      · omega))
    have hg1 : gOk T m1 F b := ⟨hg.1, by rw [f1 41 4 (by omega) (by omega)]; exact hg.2.1, hg.2.2⟩
    refine sp_22 hg1 hp1 (fun m2 p2 g2 => ?_)
    have fr2 : ∀ (z : Nat) (e : Int), z < 14 → z ≠ 1 → m2 z e = m1 z e := fun z e z1 z2 => by
      have hb36 := hg.2.2.2.1
      rw [g2 z e (by omega) (by omega), cFin_o (by omega) (by omega) (by omega)]
    have hT2 : cTx m2 tx := by
      have hT1 := cTx_x hT f1
      unfold cTx at hT1 ⊢
      rw [fr2 2 1 (by decide) (by decide)]
      exact ⟨hT1.1, hT1.2.1, fun i hi => by rw [fr2 3 _ (by decide) (by decide)]; exact hT1.2.2.1 i hi, hT1.2.2.2⟩
    refine sp_135 hT2 (fun m3 hN3 => ?_)
    have hs := sk_le (tx := tx) (p := 0) (Nat.zero_le _)
    have hC3 := cCu_of hs.2 hN3
    have fr3 : ∀ (z : Nat) (e : Int), z ≠ 2 → m3 z e = m2 z e := fun z e hz => hN3.2.2.2.2.2 z e (by omega)
    have hcl2 : m2 21 2 = PL.length := p2.1.2.2.2.1
    rw [hcl2]
    have kf3 : kFr b N m m3 := fun z e z1 z2 z3 z4 => by
      rw [fr3 z e (by omega), g2 z e (by omega) z4]
      exact cFin_c (f1 z e (by omega) (by omega))
    have hr3 : rRef T m3 := rRef_lo (fun _ _ q => q) (fun e he => by rw [fr3 4 e (by decide), fr2 4 e (by decide) (by decide), f1 4 e (by omega) (by omega)]) hr
    have hp3 : cPs T m3 F PL (phN PH PL) := cPs_fr p2 (fr3 1 4 (by decide)) (fun z e y => fr3 z e (by
      rcases y with y | y
      · have := hF z y
        omega
      · omega))
    have k3 : k5 m3 := fun i i1 i2 => by
      rw [fr3 5 i (by decide), fr2 5 i (by decide) (by decide)]
      exact k1 i i1 i2
    have hT3 : cTx m3 tx := by
      unfold cTx at hT2 ⊢
      rw [hN3.2.2.2.2.2 2 1 (by omega)]
      exact ⟨hT2.1, hT2.2.1, fun i hi => by rw [fr3 3 _ (by decide)]; exact hT2.2.2.1 i hi, hT2.2.2.2⟩
    clear hN3 fr3 fr2 hT2 g2 p2 hg1 hp1
    unfold wq_4_46
    refine wL1_rule (Nat.lt_wfRel.wf) (fun x2 s => ∃ (acc : List pCl) (p : Nat), x2 = ((PL.length + acc.length : Nat) : Int) ∧ acc.length ≤ room ∧ cR tx (room - acc.length) p acc (.inr cls) ∧ cCu s.2.2.2 tx p ∧ (∀ z, z < N → s.1.1 z = T.1 z) ∧ s.1.2 = T.2 ∧ sWf s.1 s.2.1 ∧ N ≤ s.2.1 ∧ s.2.1 ≤ N + 7 * acc.length ∧ (U ≤ s.2.2.1 ∧ s.2.2.1 ≤ U + 659 * acc.length) ∧ cPs s.1 s.2.2.2 (fun z => F z ∨ (N ≤ z ∧ z < s.2.1)) (PL ++ acc) (phN PH PL) ∧ kFr b N m s.2.2.2 ∧ rRef s.1 s.2.2.2 ∧ cTx s.2.2.2 tx ∧ k5 s.2.2.2) (fun x2 _ => 30 - x2.toNat) ?_ ⟨[], sk tx 0, by simp, Nat.zero_le _, hcls, hC3, fun _ _ => rfl, rfl, hW, Nat.le_refl _, Nat.le_refl _, ⟨Nat.le_refl _, Nat.le_refl _⟩, ?_, kf3, hr3, hT3, k3⟩
    · rintro P x2 ⟨T1, N1, U1, m4⟩ ⟨acc, p, rfl, hacc, hcr, hC, hTT, hT2', hW1, hN1, hN2, hU1, hP4, hkf, hr4, hT4, hk4⟩ hP
      dsimp only at *
      have hlen : (PL ++ acc).length = PL.length + acc.length := List.length_append
      have hF1 : fzn (fun z => F z ∨ (N ≤ z ∧ z < N1)) := fun z hz => by
        rcases hz with hz | hz
        · exact hF z hz
        · omega
      have cf : ∀ m5, cFx m4 m5 → cPs T1 m5 (fun z => F z ∨ (N ≤ z ∧ z < N1)) (PL ++ acc) (phN PH PL) := fun m5 f => cPs_fr hP4 (f 1 4 (by omega) (by omega)) (fun z e y => f z e (by
        rcases y with y | y
        · have := hF1 z y
          omega
        · omega) (by
        rcases y with y | y
        · have := hF1 z y
          omega
        · omega))
      have done : cls = acc → ∀ m5, cFx m4 m5 → k5 m5 → hy_r 0 ((m5 21 2) - (PL.length : Int)) ∧ Q ((m5 21 2) - (PL.length : Int)) (T1, N1, U1, m5) := fun e m5 f5 k5' => by
        subst e
        have hlen2 := hP4.1.2.2.2.2.1
        have hP5 := cf m5 f5
        rw [hP5.1.2.2.2.1, hlen, show ((PL.length + cls.length : Nat) : Int) - (PL.length : Int) = (cls.length : Int) by omega]
        refine ⟨show -2147483648 ≤ _ ∧ _ < 2147483648 by omega, hq T1 N1 U1 m5 hcls hTT hT2' hW1 hN1 hN2 hU1 hP5 (fun z e z1 z2 z3 z4 => ?_) (rRef_lo (fun _ _ q => q) (fun e he => f5 4 e (by omega) (by omega)) hr4) (cTx_x hT4 f5) k5'⟩
        rw [f5 z e (by omega) (by omega)]
        exact hkf z e z1 z2 z3 z4
      unfold wf_4_46
      dsimp only
      refine ⟨fun qx => ?_, fun qx => ?_⟩
      · refine done ?_ m4 (fun _ _ _ _ => rfl) hk4
        by_cases hk0 : pk1 tx p = 0
        · exact cR_e hcr hk0
        · rw [show room - acc.length = 0 by omega] at hcr
          exact absurd (cR_d hcr (cR_f hk0)) (fun z => by cases z)
      · refine sp_70 (qy := false) rfl hT4 hC hk4 (fun m5 hd gs nv p' c K g1 g2 g3 g4 g5 g6 => ⟨fun z => absurd z (by decide), fun _ => ?_⟩) (fun m5 w g1 g2 g3 g4 => ⟨fun _ => ?_, fun z => absurd rfl z⟩)
        · have hk0 : pk1 tx p ≠ 0 := fun z => by
            have : pRun tx false (s00 p) (.inl p) := ⟨1, by unfold pIt; rw [pSt_0 (s := s00 p) z]; rfl⟩
            have := pRun_d tx false this g2
            cases this
          cases hd with
          | none => exact absurd (pRun_hd g2) (by decide)
          | some t =>
            have hcr' := cR_n hcr hk0 g2
            have hkk := (pRun_R hl120 hC.1 g2).1
            obtain ⟨hm5, hm6⟩ : (∀ (z : Nat) (e : Int), z < 14 → hy_z m5 N1 z e = m5 z e) ∧ ∀ (z : Nat) (e : Int), z ≠ N1 → hy_z m5 N1 z e = m5 z e := ⟨fun z e hz => if_neg (by omega), fun z e hz => if_neg hz⟩
            have hTe : ∀ z x, T1.1 z = some x → (hy_e T1 N1 3 9).1 z = some x := fun z x hz => by
              have := hW1 z x hz
              rw [he_o (by omega)]
              exact hz
            refine ⟨by rw [Int.toNat_natCast]; exact he_n T1 N1 3 9, ?_⟩
            have hr6 : rRef (hy_e T1 N1 3 9) (hy_z m5 N1) := rRef_lo hTe (fun e he => by rw [hm5 4 e (by decide), g1 4 e (by omega) (by omega)]) hr4
            refine sp_39 (T := hy_e T1 N1 3 9) (N := N1 + 1) (U := U1 + 9) (m := hy_z m5 N1) (a := N1) (sWf_e hW1) (by omega) (he_n T1 N1 3 9) (by omega) hr6 (cDn_lo hm5 g3) g4 hkk (fun T7 m7 a1 a2 a3 a4 a5 => ?_)
            dsimp only
            have hT7 : ∀ z x, T1.1 z = some x → T7.1 z = some x := fun z x hz => by
              have := hW1 z x hz
              rw [a1 z (by omega)]
              exact hTe z x hz
            have m74 : ∀ (z : Nat) (e : Int), z < N1 → ¬ (2 ≤ z ∧ z ≤ 13) → m7 z e = m4 z e := fun z e z1 z2 => by
              rw [a4 z e (by omega) (by omega), hm6 z e (by omega), g1 z e (by omega) (by omega)]
            have hF2 : fzn (fun z => F z ∨ (N ≤ z ∧ z < N1 + 1 + 6)) := fun z hz => by
              rcases hz with hz | hz
              · exact hF z hz
              · omega
            have hP7 : cPs T7 m7 (fun z => F z ∨ (N ≤ z ∧ z < N1 + 1 + 6)) (PL ++ acc) (phN PH PL) := cPs_mo hP4 (fun z hz => hz.imp id (fun y => by omega)) hT7 (m74 1 4 (by omega) (by omega)) (fun z e y => by
              refine m74 z e ?_ ?_
              · rcases y with (y | y) | y
                · have := hFN z y
                  omega
                · omega
                · omega
              · rcases y with y | y
                · have := hF1 z y
                  omega
                · omega)
            have hne : ¬ (fun z => F z ∨ (N ≤ z ∧ z < N1 + 1 + 6)) 21 ∧ ¬ (fun z => F z ∨ (N ≤ z ∧ z < N1 + 1 + 6)) 22 := ⟨fun z => by have := hF2 _ z; omega, fun z => by have := hF2 _ z; omega⟩
            refine sp_55 (a := 21) (r := 22) (cl := (t, gs, nv)) hP7.1 (cCl_fr a5 (fun z hz => Or.inr (by omega)) (fun _ _ _ z => z) (fun _ _ _ => rfl)) hkk (by rw [hlen]; omega) (by decide) hne (fun m8 f8 c8 => ⟨show -2147483648 ≤ _ ∧ _ < 2147483648 by omega, hP _ _ ⟨acc ++ [(t, gs, nv)], p', ?_, ?_, ?_, ?_, ?_, ?_, a3, ?_, ?_, ?_, ?_, ?_, ?_, ?_, ?_⟩ ?_⟩)
            · rw [List.length_append]
              show _ = ((PL.length + (acc.length + 1) : Nat) : Int)
              omega
            · rw [List.length_append]
              show acc.length + 1 ≤ room
              omega
            · rw [List.length_append]
              show cR tx (room - (acc.length + 1)) p' _ _
              rw [show room - (acc.length + 1) = room - acc.length - 1 by omega]
              exact hcr'
            · exact cCu_lo (fun z e hz => by dsimp only; rw [f8 z e (by omega) (by omega), a4 z e (by omega) (by omega), hm5 z e hz]) g5
            · intro z hz
              dsimp only
              rw [a1 z (by omega), he_o (by omega)]
              exact hTT z hz
            · dsimp only
              rw [a2]
              exact hT2'
            · dsimp only
              omega
            · dsimp only
              rw [List.length_append]
              show _ ≤ N + 7 * (acc.length + 1)
              omega
            · dsimp only
              have hg5 := hkk.2.2.2.1
              rw [List.length_append, show acc.length + [(t, gs, nv)].length = acc.length + 1 from rfl]
              exact ⟨by omega, by omega⟩
            · dsimp only
              rw [← List.append_assoc]
              exact cPs_21 hF2 hP7 f8 c8
            · intro z e z1 z2 z3 z4
              dsimp only
              rw [f8 z e (by omega) (by omega), m74 z e (by omega) z2]
              exact hkf z e z1 z2 z3 z4
            · refine rRef_lo (T := hy_e T1 N1 3 9) (m := hy_z m5 N1) (fun z x hz => ?_) (fun e he => ?_) hr6
              · dsimp only
                have := sWf_e (t := 3) (n := 9) hW1 z x hz
                rw [a1 z (by omega)]
                exact hz
              · dsimp only
                rw [f8 4 e (by decide) (by omega), a4 4 e (by omega) (by omega)]
            · refine cTx_lo (m := m5) (fun z e hz => ?_) (cTx_x hT4 g1)
              dsimp only
              rw [f8 z e (by omega) (by omega), a4 z e (by omega) (by omega), hm5 z e hz]
            · intro i i1 i2
              dsimp only
              rw [f8 5 i (by decide) (by omega), a4 5 i (by omega) (by omega), hm5 5 i (by decide)]
              exact g3.1 i i1 i2
            · show 30 - _ < 30 - _
              omega
        · have hcls' : cls = acc := by
            by_cases hk0 : pk1 tx p = 0
            · exact cR_e hcr hk0
            · exact absurd (cR_d hcr (cR_w hk0 (by omega) g2)) (fun z => by cases z)
          exact done hcls' m5 g1 g4
    · rw [List.append_nil]
      exact cPs_mo hp3 (fun _ z => Or.inl z) (fun _ _ z => z) rfl (fun _ _ _ => rfl)
  · rcases hres with ⟨cls, e, -⟩ | ⟨w, e, h⟩
    · exact absurd e q
    · exact h0 m1 w f1 k1 h
end CCN
