/-! THE CLASS WRITES A TERM INTO A FULL TEXT -/
section CFU
variable {X : cX} {T : hy_T} {B : bM} {s : Nat → pE} {m m' m0 : hy_m} {Q : Int → hy_m → Prop} {o : List Int} {t : pE} {x : Int}
theorem sp_165f (ho : cOu m o) (hl : o.length = 120) (hq : ∀ m', (∀ (a : Nat) (e : Int), a ≠ 70 → a ≠ 71 → ¬ (a = 69 ∧ (e = 2 ∨ e = 4)) → m' a e = m a e) → cOu m' o → Q 0 m') : wq_165 x m Q := by
  have h4 := ho.2.2.2
  have fin : ∀ (m1 : hy_m) (j : Nat), j < 200 → (∀ (a : Nat) (e : Int), a ≠ 71 → ¬ (a = 69 ∧ e = 4) → m1 a e = m a e) → cOu m1 o → wq_165_66 (j : Int) m1 Q := fun m1 j hj f1 ho1 => by
    unfold wq_165_66
    refine sp_168 (by decide) ho1 (fun m2 f2 o2 => sp_166 (by have : (10 : Nat) ^ 10 = 10000000000 := by decide
                                                              omega) o2 (fun m3 f3 o3 => hq m3 (fun a e q1 q2 q3 => ?_) ?_))
    · rw [f3 a e q1 (by omega), f2 a e q1 (by omega), f1 a e q2 (by omega)]
    · rw [tkp_tkp, tkp_full hl] at o3
      exact o3
  have h26 : ∀ j : Nat, (j : Int) ≤ m 69 4 → wq_165_26 x (j : Int) m Q := fun j hj => by
    unfold wq_165_26
    refine ⟨fun q => fin m j (by omega) (fun _ _ _ _ => rfl) ho, fun q => ⟨fun q2 => fin m j (by omega) (fun _ _ _ _ => rfl) ho, fun q2 => ⟨by omega, by omega, show -2147483648 ≤ _ ∧ _ < 2147483648 by omega, fin _ j (by omega) (fun a e q1 q2 => by rw [hy_uf q2, hy_ua q1]) ?_⟩⟩⟩
    refine ⟨by rw [hy_uk (by decide), hy_ua (by decide)]; exact ho.1, ho.2.1, fun i c hc => by rw [hy_ua (by decide), hy_ua (by decide)]; exact ho.2.2.1 i c hc, ?_⟩
    rw [hy_us]
    omega
  unfold wq_165 wq_165_2
  refine wL1_rule (Nat.lt_wfRel.wf) (fun x3 m' => m' = m ∧ ∃ j : Nat, x3 = j ∧ (j : Int) ≤ m 69 4) (fun x3 _ => 300 - x3.toNat) ?_ ⟨rfl, 0, rfl, h4.1⟩
  rintro P x3 m1 ⟨rfl, j, rfl, hj⟩ hP
  unfold wf_165_2
  refine ⟨fun q => h26 j hj, fun q => ⟨by omega, by omega, fun q2 => h26 j hj, fun q2 => ⟨show -2147483648 ≤ _ ∧ _ < 2147483648 by omega, hP _ _ ⟨rfl, j + 1, by omega, by omega⟩ (show 300 - ((j : Int) + 1).toNat < 300 - ((j : Nat) : Int).toNat by omega)⟩⟩⟩
theorem vFf {R : Int → hy_m → Prop} (hcm : cW X T m) (hxm : cTm X m x t) (ho : cOu m o) (hl : o.length = 120) (h7 : 0 ≤ m 69 7) (hR : ∀ m', dFx m m' → cOu m' o → R 0 m') : wq_160 x T m R := by
  have out : ∀ {w : List Int} {m1 : hy_m}, wFc m m1 → cOu m1 (tkp o w) → R 0 m1 := fun f1 o1 => hR _ (wFc_x f1) (by rw [tkp_full hl] at o1; exact o1)
  unfold wq_160
  refine sp_130 hcm hxm (fun z hz1 hz2 => sp_129 hcm hxm ?_)
  by_cases cv : ∃ w : Nat, t = .var w
  · obtain ⟨w, rfl⟩ := cv
    refine ⟨⟨fun _ => sp_165f ho hl (fun m1 f1 o1 => hR m1 (fun a e q1 q2 => f1 a e (by omega) (by omega) (by omega)) o1), fun q => absurd (show (1 : Int) = 2 from q) (by decide), fun q => absurd (show (1 : Int) = 3 from q) (by decide), fun q => absurd (show (1 : Int) = 4 from q) (by decide), trivial⟩, fun q => absurd (show (1 : Int) < 1 ∨ 4 < (1 : Int) from q) (by decide)⟩
  · rcases cTm_sh hxm (fun w e => cv ⟨w, e⟩) with ⟨v, rfl⟩ | ⟨kk, b, rfl, lb, h3, hnm⟩
    · have hzv := hz1 v rfl
      have hr := cTm_num hxm
      rw [hzv]
      exact ⟨⟨fun q => absurd (show (2 : Int) = 1 from q) (by decide), fun _ => sp_166 (by have : (10 : Nat) ^ 10 = 10000000000 := by decide
                                                                                           omega) ho (fun m1 f1 o1 => out f1 o1), fun q => absurd (show (2 : Int) = 3 from q) (by decide), fun q => absurd (show (2 : Int) = 4 from q) (by decide), trivial⟩, fun q => absurd (show (2 : Int) < 1 ∨ 4 < (2 : Int) from q) (by decide)⟩
    · obtain ⟨hzk, -, -⟩ := hz2 kk b rfl
      have hnm' := (cTm_nm hxm).2.2.2.2
      rw [hzk, jSr_k hnm h3]
      by_cases c0 : eN b = 0
      · rw [show eKd (.mulL kk b) = 3 from if_pos c0]
        refine ⟨⟨fun q => absurd q (by decide), fun q => absurd q (by decide), fun _ => sp_167 hnm (fun e => ?_) ho (fun m1 f1 o1 => out f1 o1), fun q => absurd q (by decide), trivial⟩, fun q => absurd q (by decide)⟩
        have := hnm' e
        omega
      · rw [show eKd (.mulL kk b) = 4 from if_neg c0]
        have push : ∀ {w : List Int} {m1 : hy_m}, wFc m m1 → cOu m1 (tkp o w) → wq_161_30 x m1 (fun _ m6 => R 0 m6) := fun {w} {m1} f1 o1 => by
          refine sp_161_30f (fun m2 f2 => hR m2 ((wFc_x f1).tr (fun a e q1 q2 => f2 a e (by omega) (by omega) (by omega))) ?_) ?_
          · rw [tkp_full hl] at o1
            exact ⟨by rw [f2 69 2 (by decide) (by decide) (by decide)]; exact o1.1, o1.2.1, fun i c hc => by rw [f2 70 _ (by decide) (by decide) (by omega)]; exact o1.2.2.1 i c hc, by rw [f2 69 4 (by decide) (by decide) (by decide)]; exact o1.2.2.2⟩
          · rw [f1 69 7 (by decide) (by decide)]
            exact h7
        refine ⟨⟨fun q => absurd q (by decide), fun q => absurd q (by decide), fun q => absurd q (by decide), fun _ => ?_, trivial⟩, fun q => absurd q (by decide)⟩
        have h186 := kC_186 hnm h3 hnm'
        unfold wq_161
        refine ⟨fun q => ?_, fun q => sp_168 (by decide) ho (fun m1 f1 o1 => push f1 o1)⟩
        rw [jSr_k hnm h3]
        refine sp_167 hnm (fun e => q (h186.mpr e)) ho (fun m1 f1 o1 => sp_168 (by decide) o1 (fun m2 f2 o2 => ?_))
        rw [tkp_tkp] at o2
        exact push (f1.tr f2) o2
/-- addTerm, full -/
theorem sp_159f (hs : dSep X) (hO : cOr X) (hcw : cW X T m) (hB : cBd X m B) (hR0 : Res B s) (hx : cTm X m x t) (hD : ∀ w, vIn w t → cDm X w) (ho : cOu m o) (hl : o.length = 120) (h1 : ∀ m', dFx m m' → cOu m' o → Q 0 m') : wq_159 x T m Q := by
  have f0 : dFx m (hy_u m 69 7 0) := fun a e q1 q2 => hy_uf (by omega)
  have ag0 := dFx_ag hs f0
  have ho0 : cOu (hy_u m 69 7 0) o := ⟨by rw [hy_uk (by decide)]; exact ho.1, ho.2.1, fun i c hc => by rw [hy_ua (by decide)]; exact ho.2.2.1 i c hc, by rw [hy_uk (by decide)]; exact ho.2.2.2⟩
  unfold wq_159
  refine sp_124 (cW_ag ag0 hcw) hO (cBd_ag ag0 (dFx_b4 hs f0) hB) hR0 (cTm_ag ag0 hx) hD (fun y2 t2 hF hsb => ?_)
  refine vFf (cW_ag ag0 hcw) hF.1 ho0 hl (by rw [hy_us]; decide) (fun m2 f2 o2 => ?_)
  have fin : Q 0 m2 := h1 m2 (f0.tr f2) o2
  intro P hP
  apply hP
  unfold wf_159_19
  rw [o2.1]
  exact ⟨fun _ => fin, fun _ => ⟨fun _ => fin, fun _ => ⟨fun _ => fin, fun q => by omega⟩⟩⟩
end CFU
