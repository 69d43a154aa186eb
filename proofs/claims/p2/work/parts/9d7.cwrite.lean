/-! THE CLASS WRITES A TERM: it begins one -/
def vGo (X : cX) (T : hy_T) (s : Nat → pE) (m0 : hy_m) (Q : Int → hy_m → Prop) (P : Int → hy_m → Prop) (t : pE) (x : Int) : Prop := ∀ (d k : Nat) (o : List Int) (nm : List Nat) (m : hy_m) (R : Int → hy_m → Prop), (∀ r m1, P (k : Int) m1 → R r m1) → dSt X m0 m d o nm → k ≤ o.length + 1 → (∀ m' (k' : Nat), dSt X m0 m' d (tkp o (wM (sb s t) 0 nm).1) (wM (sb s t) 0 nm).2 → (∀ i : Int, i < d → m' 72 i = m 72 i ∧ m' 73 i = m 73 i) → (tkp o (wM (sb s t) 0 nm).1).length < 120 → k' ≤ (tkp o (wM (sb s t) 0 nm).1).length → P (k' : Int) m') → (∀ m', dFx m0 m' → cOu m' (tkp o (wM (sb s t) 0 nm).1) → (tkp o (wM (sb s t) 0 nm).1).length = 120 → Q 0 m') → wq_160 x T m R
theorem kC_186 {k : Int} {n : Nat} (h : nmOK k) (hn : n ≤ 3) (h2 : k = 2 → n = 2) : kC k n = 186 ↔ k = 2 := by
  refine ⟨fun e => ?_, fun e => ?_⟩
  · exact (kC_inj h (Or.inr (Or.inl rfl)) hn (by decide) (e.trans (show (186 : Int) = kC 2 2 by rw [kC_dot]; rfl))).1
  · rw [e, h2 e, kC_dot]
    rfl
theorem jSr_k {k : Int} {n : Nat} (h : nmOK k) (hn : n ≤ 3) : jSr (kC k n) 2 = nC k := by
  have hr := kC_r h hn
  have := jSr_n (x := kC k n) (k := 2) (show -9223372036854775808 ≤ _ ∧ _ < 9223372036854775808 by omega) (by decide)
  have this : jSr (kC k n) 2 = kC k n / 4 := this
  rw [this]
  unfold kC
  omega
theorem cTm_nm {X : cX} {m : hy_m} {x k : Int} {b : pE} (h : cTm X m x (.mulL k b)) : nmOK k ∧ eN b ≤ 3 ∧ isL b ∧ (k = 1 → eN b = 0) ∧ (k = 2 → eN b = 2) := by
  rcases h with ⟨j, _, _, e, _⟩ | ⟨i, n, u, hi, _, _, _, hk, e⟩
  · cases e
  · cases u with
    | mulL k' a =>
      have e : (.mulL k b : pE) = .mulL k' (sb (fun v => .var (xP X i + v)) a) := e
      injection e with e1 e2
      have hka := hk.2.2.2.2.2
      rw [e1, e2, eN_sb _ a (xV X i) hka]
      exact ⟨hk.2.1, hk.2.2.1, isL_sb _ a (xV X i) hka, hk.2.2.2.1, hk.2.2.2.2.1⟩
    | var v => cases e
    | num i => cases e
    | add _ _ => exact absurd hk.1 (by decide)
    | sub _ _ => exact hk.elim
    | neg _ => exact hk.elim
    | mulR _ _ => exact hk.elim
section CWB
variable {X : cX} {T : hy_T} {B : bM} {s : Nat → pE} {m m' m0 : hy_m} {Q : Int → hy_m → Prop} {P : Int → hy_m → Prop} {o : List Int} {nm : List Nat} {d : Nat} {t : pE} {x : Int}
/-- the text is full: it ends -/
theorem vEx {k : Int} (hP : ∀ x2 m, (∀ P' : Int → hy_m → Prop, (∀ a c, P a c → P' a c) → wf_159_19 T Q P' x2 m) → P x2 m) (ho : cOu m o) (hl : o.length = 120) (hq : Q 0 m) : P k m := by
  refine hP _ _ (fun P' _ => ?_)
  unfold wf_159_19
  rw [ho.1]
  exact ⟨fun _ => hq, fun _ => ⟨fun _ => hq, fun _ => ⟨fun _ => hq, fun q => by omega⟩⟩⟩
theorem sp_161_30f (hq1 : ∀ m', (∀ (a : Nat) (e : Int), a ≠ 72 → a ≠ 73 → ¬ (a = 69 ∧ e = 7) → m' a e = m a e) → Q 0 m') (hd : 0 ≤ m 69 7) : wq_161_30 x m Q := by
  unfold wq_161_30
  refine ⟨fun _ => hq1 m (fun _ _ _ _ _ => rfl), fun q => ⟨hd, q, hd, q, show -2147483648 ≤ _ ∧ _ < 2147483648 by omega, hq1 _ (fun a e q1 q2 q3 => by rw [hy_uf q3, hy_ua q2, hy_ua q1])⟩⟩
/-- a full text stays as it is -/
theorem vFu {R : Int → hy_m → Prop} (hs : dSep X) (hO : cOr X) (hcw : cW X T m0) (hx : cTm X m0 x t) (hS : dSt X m0 m d o nm) (hl : o.length = 120) (hR : ∀ m', dFx m0 m' → cOu m' o → R 0 m') : wq_160 x T m R := by
  have ag := dFx_ag hs hS.1
  have hcm := cW_ag ag hcw
  have hxm := cTm_ag ag hx
  have h5 := hS.2.2.2.2.1
  have out : ∀ {w : List Int} {m1 : hy_m}, wFc m m1 → cOu m1 (tkp o w) → R 0 m1 := fun f1 o1 => hR _ (hS.1.tr (wFc_x f1)) (by rw [tkp_full hl] at o1; exact o1)
  unfold wq_160
  refine sp_130 hcm hxm (fun z hz1 hz2 => sp_129 hcm hxm ?_)
  by_cases cv : ∃ w : Nat, t = .var w
  · obtain ⟨w, rfl⟩ := cv
    refine ⟨⟨fun _ => sp_165 hO hx hS.2.2.1 hS.2.2.2.1 (by omega) (fun m1 f1 o1 n1 => hR m1 (hS.1.tr (fun a e q1 q2 => f1 a e (by omega) (by omega) (by omega))) (by rw [tkp_full hl] at o1; exact o1)), fun q => absurd (show (1 : Int) = 2 from q) (by decide), fun q => absurd (show (1 : Int) = 3 from q) (by decide), fun q => absurd (show (1 : Int) = 4 from q) (by decide), trivial⟩, fun q => absurd (show (1 : Int) < 1 ∨ 4 < (1 : Int) from q) (by decide)⟩
  · rcases cTm_sh hx (fun w e => cv ⟨w, e⟩) with ⟨v, rfl⟩ | ⟨kk, b, rfl, lb, h3, hnm⟩
    · have hzv := hz1 v rfl
      have hr : hy_r 0 v := by
        rcases hx with ⟨j, _, _, e, hr⟩ | ⟨i, n, u, _, _, _, _, hk, e⟩
        · injection e with e
          rw [e]
          exact hr
        · cases u with
          | num i =>
            injection e with e
            have hk : 0 ≤ i ∧ i < 1000000 := hk
            show -2147483648 ≤ _ ∧ _ < 2147483648
            omega
          | var _ => cases e
          | mulL _ _ => cases e
          | add _ _ => cases e
          | sub _ _ => exact hk.elim
          | neg _ => exact hk.elim
          | mulR _ _ => exact hk.elim
      have hr : -2147483648 ≤ v ∧ v < 2147483648 := hr
      rw [hzv]
      exact ⟨⟨fun q => absurd (show (2 : Int) = 1 from q) (by decide), fun _ => sp_166 (by have : (10 : Nat) ^ 10 = 10000000000 := by decide
                                                                                           omega) hS.2.2.1 (fun m1 f1 o1 => out f1 o1), fun q => absurd (show (2 : Int) = 3 from q) (by decide), fun q => absurd (show (2 : Int) = 4 from q) (by decide), trivial⟩, fun q => absurd (show (2 : Int) < 1 ∨ 4 < (2 : Int) from q) (by decide)⟩
    · obtain ⟨hzk, -, -⟩ := hz2 kk b rfl
      have hnm' := (cTm_nm hx).2.2.2.2
      rw [hzk, jSr_k hnm h3]
      by_cases c0 : eN b = 0
      · rw [show eKd (.mulL kk b) = 3 from if_pos c0]
        refine ⟨⟨fun q => absurd q (by decide), fun q => absurd q (by decide), fun _ => sp_167 hnm (fun e => ?_) hS.2.2.1 (fun m1 f1 o1 => out f1 o1), fun q => absurd q (by decide), trivial⟩, fun q => absurd q (by decide)⟩
        have := hnm' e
        omega
      · rw [show eKd (.mulL kk b) = 4 from if_neg c0]
        have push : ∀ {w : List Int} {m1 : hy_m}, wFc m m1 → cOu m1 (tkp o w) → wq_161_30 x m1 (fun _ m6 => R 0 m6) := fun {w} {m1} f1 o1 => by
          refine sp_161_30f (fun m2 f2 => hR m2 ((hS.1.tr (wFc_x f1)).tr (fun a e q1 q2 => f2 a e (by omega) (by omega) (by omega))) ?_) ?_
          · rw [tkp_full hl] at o1
            exact ⟨by rw [f2 69 2 (by decide) (by decide) (by decide)]; exact o1.1, o1.2.1, fun i c hc => by rw [f2 70 _ (by decide) (by decide) (by omega)]; exact o1.2.2.1 i c hc, by rw [f2 69 4 (by decide) (by decide) (by decide)]; exact o1.2.2.2⟩
          · rw [f1 69 7 (by decide) (by decide), hS.2.1]
            omega
        refine ⟨⟨fun q => absurd q (by decide), fun q => absurd q (by decide), fun q => absurd q (by decide), fun _ => ?_, trivial⟩, fun q => absurd q (by decide)⟩
        have h186 := kC_186 hnm h3 hnm'
        unfold wq_161
        refine ⟨fun q => ?_, fun q => sp_168 (by decide) hS.2.2.1 (fun m1 f1 o1 => push f1 o1)⟩
        rw [jSr_k hnm h3]
        refine sp_167 hnm (fun e => q (h186.mpr e)) hS.2.2.1 (fun m1 f1 o1 => sp_168 (by decide) o1 (fun m2 f2 o2 => ?_))
        rw [tkp_tkp] at o2
        exact push (f1.tr f2) o2
end CWB
