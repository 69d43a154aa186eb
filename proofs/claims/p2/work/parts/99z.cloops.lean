/-! THE SEARCH FOR LOOPS -/
section CLO
variable {X : cX} {U : uX} {T : hy_T} {m0 m : hy_m} {B : bM} {sus : Nat → Prop} {I L x1 e : Int} {S : List Int} {k : Nat} {Q P : Int → hy_m → Prop}
/-- what is on the stack -/
theorem eTm_cs {t : pE} (h : eTm X m0 e t) : (e < 0 ∧ ∃ z w : Nat, sV X z w ∧ e = -1 - (z : Int)) ∨ (0 ≤ e ∧ cTm X m0 e t ∧ ∀ w, vIn w t → cDm X w) := by
  rcases h with h | ⟨z, w, h1, rfl, h3⟩
  · exact Or.inr h
  · exact Or.inl ⟨by omega, z, w, h1, rfl⟩
theorem sp_151_163z {x : Int} (hr : hy_r 0 (x1 + 1)) (hP : P (x1 + 1) m) : wq_151_163 P x1 x 0 0 T m Q := by
  unfold wq_151_163
  refine wL1_rule (Nat.lt_wfRel.wf) (fun x5 m' => x5 = 0 ∧ m' = m) (fun _ _ => 0) ?_ ⟨rfl, rfl⟩
  rintro P' x5 m' ⟨rfl, rfl⟩ hP'
  unfold wf_151_163
  exact ⟨fun _ => ⟨hr, hP⟩, fun q => by omega⟩
set_option maxHeartbeats 4000000 in
theorem sp_151_53 (hp : lPr X U T m0 B I L) (hI : lIv X U m0 B sus I L 0 m) (hmb : ∀ z : Int, m (ym U) z ≤ L) (hQ0 : ∀ m', lFr U m0 L m' → (∀ w, sus w → Acc (bEd B) w) → Q 0 m') (hQ1 : ∀ m', lFr U m0 L m' → (∀ v, ¬ Sol B v) → Q 1 m') : wq_151_53 0 T m Q := by
  unfold wq_151_53
  refine wL1_rule Nat.lt_wfRel.wf (fun x1 m' => lIv X U m0 B sus I L x1 m' ∧ ∀ z : Int, m' (ym U) z ≤ L) (fun x1 _ => 1000000 - x1.toNat) ?_ ⟨hI, hmb⟩
  clear hI hmb
  rintro P x1 m ⟨⟨S, k, hfx, hsk, hl, hS, hd, hin, hf, hk, h0, hx⟩, hmb⟩ hP
  have hp' := hp
  obtain ⟨hs, hw, hU, hO, hG, h4, hN, hB, ho, hI, hL, hIL⟩ := hp
  have hF : lFr U m0 L m := ⟨hfx, hmb⟩
  have fx := lFr_fx (X := X) hF
  have hUm := uW_fx hs fx hU
  have hwm := cW_fx hs fx hw
  have hcap := hw.2.2.1
  have hst : lSt X U m0 B sus I L x1 m S k := ⟨hsk, hS, hd, hin, hf, hk, h0, hx⟩
  have hPP : ∀ m', lIv X U m0 B sus I L (x1 + 1) m' → lFr U m0 L m' → P (x1 + 1) m' := fun m' g1 g2 => hP _ _ ⟨g1, g2.2⟩ (by
    show 1000000 - _ < 1000000 - _
    omega)
  unfold wf_151_53
  refine ⟨fun q => by omega, fun _ => ⟨fun q => ?_, fun q => ?_⟩⟩
  · refine hQ0 m hF (fun w hw' => ?_)
    cases S with
    | nil =>
      rcases hd.2.2.1 w hw' with g | ⟨e, g, _⟩
      · exact hd.1 w g
      · exact absurd g (List.not_mem_nil)
    | cons e S =>
      rw [hsk.1, List.length_cons] at q
      omega
  cases S with
  | nil =>
    rw [hsk.1] at q
    exact absurd q (by decide)
  | cons e S =>
    have e7 : m 47 7 = (S.length : Int) + 1 := by
      rw [hsk.1, List.length_cons]
      omega
    have hlc : (e :: S).length = S.length + 1 := List.length_cons
    have hn47 := hs.n47
    have hF' := lFr_pop (v := (S.length : Int)) hs hF
    have fx' := lFr_fx (X := X) hF'
    have hw' := cW_fx hs fx' hw
    have hU' := uW_fx hs fx' hU
    have top : (hy_u m 47 7 (S.length : Int)) (yp U) (S.length : Int) = e := by
      rw [hy_ua hn47.2.2.2.1]
      exact sK_top hsk
    rw [hUm.2.2.2.1.1, Int.toNat_natCast, e7, show (S.length : Int) + 1 - 1 = S.length by omega, top]
    refine ⟨100, 76 * xcap X, hUm.2.2.2.1.2, by decide, show -2147483648 ≤ _ ∧ _ < 2147483648 by omega, fun q3 => ?_, fun q3 => ?_⟩
    · refine ⟨show -2147483648 ≤ _ ∧ _ < 2147483648 by omega, 76 * xcap X, hUm.2.2.2.1.2, by omega, by omega, ?_⟩
      obtain ⟨t, ht⟩ := hS e (List.mem_cons_self ..)
      rcases eTm_cs ht with ⟨en, z, w, hz, rfl⟩ | ⟨e0, hct, hD⟩
      · -- a mark
        unfold wq_125
        refine ⟨fun _ => ⟨fun c => by omega, fun _ => ?_⟩, fun c => by omega⟩
        have hzl := sV_lt hw hz
        refine ⟨show -2147483648 ≤ _ ∧ _ < 2147483648 by omega, ?_⟩
        rw [show -1 - (-1 - (z : Int)) = z by omega]
        refine sp_153 hU' hzl ⟨show -2147483648 ≤ _ ∧ _ < 2147483648 by omega, ?_⟩
        rw [lFr_47 hs hF' (by decide), hL]
        exact hPP _ (lT_mark hp' hF hst (by omega) hz) (lFr_mk hs (Int.le_refl L) hF')
      · have hct' := cTm_fx hs fx' hct
        by_cases c : ∃ w : Nat, t = .var w
        · obtain ⟨w, rfl⟩ := c
          have hDw : cDm X w := hD w rfl
          obtain ⟨i, n, g1, g2, g3, g4, g5⟩ := cTm_v hct
          have hz : sV X (8 * i + n) w := ⟨i, n, g1, g4, rfl, g5⟩
          have hzl := sV_lt hw hz
          have ez : 8 * (i : Int) + (n : Int) = ((8 * i + n : Nat) : Int) := by omega
          have e9 : (hy_u m 47 7 (S.length : Int)) 47 9 = I := by rw [lFr_47 hs hF' (by decide)]; exact hI
          have e10 : (hy_u m 47 7 (S.length : Int)) 47 10 = L := by rw [lFr_47 hs hF' (by decide)]; exact hL
          have em : (hy_u m 47 7 (S.length : Int)) (ym U) ((8 * i + n : Nat) : Int) = m (ym U) ((8 * i + n : Nat) : Int) := hy_ua hn47.2.2.2.2.1
          have e8 := hU'.2.2.2.2.1
          generalize hzz : (8 * i + n : Nat) = z at *
          clear hzz
          have key : ∀ r : Int, r = (z : Int) → (r ≠ (-9) → (∃ n4 : Nat, T.1 ((hy_u m 47 7 (S.length : Int)) 47 8).toNat = some (100, n4) ∧ (0 ≤ r ∧ r < (n4 : Int) ∧ ((((hy_u m 47 7 (S.length : Int)) (((hy_u m 47 7 (S.length : Int)) 47 8).toNat) r) ≠ ((hy_u m 47 7 (S.length : Int)) 47 9) → (∃ n5 : Nat, T.1 ((hy_u m 47 7 (S.length : Int)) 47 8).toNat = some (100, n5) ∧ (0 ≤ r ∧ r < (n5 : Int) ∧ ((((hy_u m 47 7 (S.length : Int)) (((hy_u m 47 7 (S.length : Int)) 47 8).toNat) r) = ((hy_u m 47 7 (S.length : Int)) 47 10) → (hy_r 0 (x1 + 1) ∧ (P (x1 + 1) (hy_u m 47 7 (S.length : Int))))) ∧ (((hy_u m 47 7 (S.length : Int)) (((hy_u m 47 7 (S.length : Int)) 47 8).toNat) r) ≠ ((hy_u m 47 7 (S.length : Int)) 47 10) → (wq_152 r T (hy_u m 47 7 (S.length : Int)) (fun _ m6 => hy_r 0 (x1 + 1) ∧ (P (x1 + 1) m6)))))))) ∧ (((hy_u m 47 7 (S.length : Int)) (((hy_u m 47 7 (S.length : Int)) 47 8).toNat) r) = ((hy_u m 47 7 (S.length : Int)) 47 9) → (Q 1 (hy_u m 47 7 (S.length : Int)))))))) := by
            rintro r rfl _
            rw [e8.1, Int.toNat_natCast, e9, e10, em]
            refine ⟨_, e8.2, by omega, by omega, fun c1 => ⟨_, e8.2, by omega, by omega, fun c2 => ⟨show -2147483648 ≤ _ ∧ _ < 2147483648 by omega, ?_⟩, fun c2 => ?_⟩, fun c1 => ?_⟩
            · exact hPP _ (lT_left hp' hF hst (by omega) e0 hct hDw hz c2) hF'
            · exact lT_new hp' hF hst (by omega) e0 hct hDw hz c1 c2 (fun m' h1 h2 => ⟨show -2147483648 ≤ _ ∧ _ < 2147483648 by omega, hPP _ h1 h2⟩)
            · exact hQ1 _ hF' (lT_in hst e0 hct hDw hz c1)
          have e0' := e0
          rw [g2] at e0' ⊢
          refine sp_125v hw' g1 g4 ⟨fun _ => ⟨key _ ez, fun c => by omega⟩, fun c => by omega⟩
        · have hnv : ∀ w : Nat, t ≠ .var w := fun w q => c ⟨w, q⟩
          refine sp_125n hw' hct' hnv ⟨fun _ => ⟨fun c => absurd rfl c, fun _ => ?_⟩, fun c => by omega⟩
          refine sp_129 hw' hct' ?_
          rcases cTm_sh hct hnv with ⟨z, rfl⟩ | ⟨kk, b, rfl, hb, h3, _⟩
          · have hke : eKd (.num z) = 2 := rfl
            rw [hke]
            refine ⟨fun _ => sp_151_163z (show -2147483648 ≤ _ ∧ _ < 2147483648 by omega) ?_, fun c => absurd c (by decide)⟩
            exact hPP _ (lT_none hp' hF hst (by omega) e0 ht (fun w q => absurd q id)) hF'
          · by_cases c0 : eN b = 0
            · have hke : eKd (.mulL kk b) = 3 := if_pos c0
              rw [hke]
              refine ⟨fun _ => sp_151_163z (show -2147483648 ≤ _ ∧ _ < 2147483648 by omega) ?_, fun c => absurd c (by decide)⟩
              refine hPP _ (lT_none hp' hF hst (by omega) e0 ht (fun w q => ?_)) hF'
              obtain ⟨j, g1, _⟩ := vIn_ex hb q
              omega
            · have hke : eKd (.mulL kk b) = 4 := if_neg c0
              rw [hke]
              refine ⟨fun c => absurd rfl c, fun _ => sp_130 hw' hct' (fun zz _ hzz => ?_)⟩
              rw [(hzz kk b rfl).1]
              exact sp_26 h3 (lT_comp hp' hF hst (by omega) e0 hct hD hb h3 c0 hPP)
    · refine hQ1 m hF (fun v hv => ?_)
      have := no_over hw hO hG h4 hd hv (fun e' he' hn => ?_) (hf v hv)
      · omega
      · obtain ⟨t, ht⟩ := hS e' he'
        rcases eTm_cs ht with ⟨_, z, w, hz, q⟩ | ⟨q, _⟩
        · exact ⟨z, w, hz, q⟩
        · omega
end CLO
