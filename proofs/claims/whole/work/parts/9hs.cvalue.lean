/-! THE CLASS SHOWS THE SEARCH: variable, value, goal -/
section CVA
variable {E : qE} {l l' TI TI' TL : List Nat} {F : Nat → Prop} {T T' : hy_T} {m m' m1 m2 mo : hy_m} {Z Z' : cZ} {N N' n u n' u' k n0 u0 K J : Nat} {A A' : qA} {B B' : bM} {s s' : Nat → pE} {X : cX} {x y w : Int} {Q : Int → hy_m → Prop} {f : qF} {r : List qF} {t : pE} {o : List Int}
/-- the writer's cells -/
theorem cSe_d (hkl : ∀ c ∈ qh A, c.2.2.2.1.1 ≤ (qi A).length) (hS : cSe E F Z N T m A) (hf : dFx m m') : cSe E F Z N T m' A := by
  have hP := hS.1
  have hO := hP.2.2.2.2.1
  have low : ∀ (a : Nat) (e : Int), a < 69 ∨ 73 < a → m' a e = m a e := fun a e q => hf a e (by omega) (by omega)
  have hrow : ∀ b, b ∈ rwL Z → ∀ e, m' b e = m b e := fun b q e => low b e (by have := (hP.1.1.2 b q).2.2.2.2.1; omega)
  have hP' : cPr E F T m' Z (qi A) := by
    obtain ⟨hR, p2, p3, p4, p5, p6⟩ := hP
    have hFc : ∀ b z, F b → m' b z = m b z := fun b z hb => low b z (by have := hR.2.1 b hb; omega)
    have r1' : ∀ e, m' (z1 Z) e = m (z1 Z) e := fun e => hrow _ (by unfold rwL; simp) e
    have r2' : ∀ e, m' (z2 Z) e = m (z2 Z) e := fun e => hrow _ (by unfold rwL; simp) e
    have r41 : ∀ e, m' 41 e = m 41 e := fun e => low _ _ (by omega)
    have r47 : ∀ e, m' 47 e = m 47 e := fun e => low _ _ (by omega)
    have r53 : ∀ e, m' 53 e = m 53 e := fun e => low _ _ (by omega)
    refine ⟨?_, cPo_fr p2 (fun _ q => q) (fun _ _ q => q) (fun b e q => ?_), p3, wIs_fr p4 (fun _ _ q => q) hFc (fun z _ _ _ => r1' z) (fun z _ _ _ => r2' z), cOb_m p5 (fun e => low _ _ (by omega)) (fun e => low _ _ (by omega)), cGd_fr p6 (fun _ _ q => q) r1' (r41 _)⟩
    · obtain ⟨r1, r2, r3, r4, r5, r6, r7, r8, r9, r10, r11⟩ := hR
      refine ⟨r1, r2, r3, ⟨by rw [r41]; exact r4.1, r4.2⟩, ⟨by rw [r41]; exact r5.1, r5.2⟩, ⟨by rw [r41]; exact r6.1, r6.2⟩, ?_, ?_, ⟨fun z q1 q2 => ?_, fun z => ?_, by rw [r47]; exact r9.2.2⟩, fun z => ?_, by rw [r53]; exact r11⟩
      · rw [r47, r47, r47, r47, r47, r41]; exact r7
      · rw [r53, r53, r53, r53]; exact r8
      · rw [hrow _ (by unfold rwL; simp)]; exact r9.1 z q1 q2
      · rw [hrow _ (by unfold rwL; simp), r47]; exact r9.2.1 z
      · rw [hrow _ (by unfold rwL; simp), r53]; exact r10 z
    · rcases q with q | q | q
      · exact hFc b e q
      · exact low b e (by omega)
      · exact low b e (by omega)
  exact cSe_g hS hkl hP' (Nat.le_refl _) (fun e _ => low _ _ (by omega)) (fun e _ => low _ _ (by omega)) (fun j _ => low _ _ (by omega)) (fun e => hrow _ (by unfold rwL; simp) e) (fun e => hrow _ (by unfold rwL; simp) e) (fun j c' q z => low _ _ (by have := (hO.1.2.1 j c' q).2.2.1; omega)) (fun j c' q z => low _ _ (by have := (hO.2.2.1 j c' q).2.2.1; omega)) (fun b z hb => low b z (by have := hP.1.2.1 b hb; omega)) rfl rfl rfl (cNm_fr (A := A) hS.2.1 (fun e _ _ => low _ _ (by omega)) (fun e => low _ _ (by omega)) (fun e => low _ _ (by omega)))
/-- hasVariable -/
theorem sp_107 (hP : cPr E F T m Z (qi A)) (h10 : m 36 10 = (qn A 0 : Nat)) (h1 : qn A 0 ≠ 0 → 0 ≤ x → x < (E.2.2 : Int) → Q 1 m) (h0 : ¬ (qn A 0 ≠ 0 ∧ 0 ≤ x ∧ x < (E.2.2 : Int)) → Q 0 m) : wq_107 x T m Q := by
  have hU := zX_uPr hP 0
  obtain ⟨hd, a, cc, k0, k1', k2', k4, nv, i1, i2, i3, i4, i5, i6, i7, i8, i9, i10, i11, i12, -⟩ := ins_at hP 0 (i := 0) (Or.inl rfl) (by omega)
  have hnv := (i12 rfl).2.1
  unfold wq_107
  rw [h10]
  refine ⟨fun q => h0 (by omega), fun q => ⟨fun q2 => h0 (by omega), fun q2 => sp_127 (i := 0) hU.2.1 i1 ?_⟩⟩
  rw [i2, Int.toNat_natCast, i6, hnv]
  exact ⟨i4.1.1, fun q3 => h0 (by omega), fun q3 => h1 (by omega) q2 q3⟩
/-- a variable of the query -/
theorem var_tm (hP : cPr E F T m Z (qi A)) (N : Nat) {v : Nat} (hv : v < E.2.2) : cTm (zX Z (qi A).length N) m (v : Int) (.var v) ∧ ∀ z, vIn z (.var v : pE) → z < tot E (qi A) := by
  have hU := zX_uPr hP N
  obtain ⟨hd, a, cc, k0, k1', k2', k4, nv, i1, i2, i3, i4, i5, i6, i7, i8, i9, i10, i11, i12, -⟩ := ins_at hP N (i := 0) (Or.inl rfl) (by omega)
  have hnv := (i12 rfl).2.1
  have hpl : plc E (qi A) 0 = 0 := rfl
  have h := hU.2.2.2.2.2.2.2.2.1 0 v i1 (by rw [i7, hnv]; exact hv)
  rw [i8, hpl, Nat.zero_add, show 128 * ((0 : Nat) : Int) + (v : Int) = (v : Int) by omega] at h
  refine ⟨h, fun z hz => ?_⟩
  have hz : (v : Nat) = z := hz
  rw [← hz]
  unfold tot
  omega
theorem fnd_kd {t' : pE} (hx : cTm X m y t') (h : (∃ w : Nat, t' = .var w ∧ s w = .var w) ∨ ∀ w : Nat, t' ≠ .var w) : eKd (sb s t') = eKd t' := by
  rcases h with ⟨w, rfl, e⟩ | q
  · have e : sb s (.var w) = .var w := e
    rw [e]
  · rcases cTm_sh hx q with ⟨i, rfl⟩ | ⟨k, b, rfl, lb, -, -⟩
    · rfl
    · show (if eN (sb s b) = 0 then (3 : Int) else 4) = if eN b = 0 then 3 else 4
      rw [(isL_sbL s b lb).2]
/-- variable -/
theorem sp_17 (hO : qOK E A) (hA : cAl E F K Z T m A) (h0 : ¬ (qn A 0 ≠ 0 ∧ 0 ≤ x ∧ x < (E.2.2 : Int)) → Q (-1) m) (hq : ∀ (v : Nat) (r : Int), x = v → v < E.2.2 → qn A 0 ≠ 0 → vaI (qs A) v w r → Q r m) : wq_17 x w T m Q := by
  obtain ⟨hS, hCt⟩ := hA
  have hP := hS.1
  have hU := zX_uPr hP (qn A 2 + 1)
  unfold wq_17
  refine sp_107 hP hCt.1.1 (fun a1 a2 a3 => ⟨fun q => absurd q (by decide), fun _ => ?_⟩) (fun q => ⟨fun _ => h0 q, fun z => absurd rfl z⟩)
  obtain ⟨v, rfl⟩ : ∃ v : Nat, x = v := ⟨x.toNat, by omega⟩
  have hv : v < E.2.2 := by omega
  have hq := fun r => hq v r rfl hv a1
  obtain ⟨v1, v2⟩ := var_tm hP (qn A 2 + 1) hv
  refine ⟨fun q => hq _ (Or.inr (Or.inr (Or.inr (Or.inr ⟨Or.inl q, rfl⟩)))), fun q1 => ⟨fun q2 => ?_, fun q2 => hq _ (Or.inr (Or.inr (Or.inr (Or.inr ⟨Or.inr q2, rfl⟩))))⟩⟩
  refine sp_fnd hS v1 v2 (fun y t' ht' hv' e1 e2 hfd => sp_129 hU.2.1 ht' ?_)
  have e1 : qs A v = sb (qs A) t' := e1
  have hkd : eKd (qs A v) = eKd t' := by rw [e1]; exact fnd_kd ht' hfd
  refine ⟨⟨fun e => ⟨fun q => hq _ (Or.inl ⟨by omega, ?_⟩), fun q => hq _ (Or.inl ⟨by omega, ?_⟩)⟩, fun e => hq _ (Or.inr (Or.inl ⟨by omega, hkd.symm⟩)), fun e => ⟨fun q => hq _ (Or.inr (Or.inr (Or.inl ⟨by omega, Or.inr ⟨by rw [hkd]; exact q, rfl⟩⟩))), fun q => sp_130 hU.2.1 ht' (fun z hz _ => ?_)⟩, trivial⟩, fun e => ⟨fun q => hq _ (Or.inr (Or.inr (Or.inr (Or.inl ⟨by omega, Or.inr ⟨by rw [hkd]; exact q, rfl⟩⟩)))), fun q => ?_⟩⟩
  · rw [hkd, if_neg q]
  · rw [hkd, if_pos q]
  · have hnum : ∃ i, t' = .num i := by
      by_cases cv : ∃ w : Nat, t' = .var w
      · obtain ⟨w, rfl⟩ := cv
        exact absurd q (show ¬ (1 : Int) = 2 by decide)
      · rcases cTm_sh ht' (fun w e => cv ⟨w, e⟩) with ⟨i, rfl⟩ | ⟨kk, b, rfl, -⟩
        · exact ⟨i, rfl⟩
        · have q : (if eN b = 0 then (3 : Int) else 4) = 2 := q
          split at q <;> exact absurd q (by decide)
    obtain ⟨i, rfl⟩ := hnum
    rw [hz i rfl]
    have := cTm_num ht'
    exact ⟨show -2147483648 ≤ _ ∧ _ < 2147483648 by omega, hq _ (Or.inr (Or.inr (Or.inl ⟨by omega, Or.inl ⟨i, e1, rfl⟩⟩)))⟩
  · have hvar : ∃ w : Nat, t' = .var w ∧ qs A w = .var w := by
      rcases hfd with h | h
      · exact h
      · rcases cTm_sh ht' h with ⟨i, rfl⟩ | ⟨kk, b, rfl, -⟩
        · exact absurd q (show ¬ (2 : Int) = 1 by decide)
        · have q : (if eN b = 0 then (3 : Int) else 4) = 1 := q
          split at q <;> exact absurd q (by decide)
    obtain ⟨w', rfl, hw⟩ := hvar
    have e1 : qs A v = .var w' := e1.trans hw
    have h8 : E.2.2 ≤ 8 := by
      obtain ⟨hd, a, cc, k0, k1', k2', k4, nv, i1, i2, i3, i4, i5, i6, i7, i8, i9, i10, i11, i12, -⟩ := ins_at hP 0 (i := 0) (Or.inl rfl) (by omega)
      rw [← (i12 rfl).2.1]
      exact i5.1
    unfold wq_108 wq_108_2
    refine wL1_rule (Nat.lt_wfRel.wf) (fun x2 m' => m' = m ∧ ∃ d : Nat, x2 = d ∧ d ≤ v ∧ ∀ u, u < d → qs A u ≠ .var w') (fun x2 _ => 20 - x2.toNat) ?_ ⟨rfl, 0, rfl, Nat.zero_le _, fun u hu => absurd hu (Nat.not_lt_zero _)⟩
    rintro P x2 m1 ⟨rfl, d, rfl, hd, hno⟩ hPP
    unfold wf_108_2
    obtain ⟨d1, d2⟩ := var_tm hP (qn A 2 + 1) (show d < E.2.2 by omega)
    refine ⟨fun z => by omega, fun _ => sp_fnd hS d1 d2 (fun y2 t2 ht2 hv2 b1 b2 hfd2 => ?_)⟩
    have b1 : qs A d = sb (qs A) t2 := b1
    have same : qs A d = .var w' ↔ y2 = y := by
      constructor
      · intro hd'
        have ht2v : t2 = .var w' := by
          rcases hfd2 with ⟨u, rfl, hu⟩ | hnv
          · have : qs A d = .var u := b1.trans hu
            rw [hd'] at this
            injection this with this
            rw [this]
          · rcases cTm_sh ht2 hnv with ⟨i, rfl⟩ | ⟨kk, b, rfl, -⟩
            · rw [hd'] at b1
              cases b1
            · rw [hd'] at b1
              cases b1
        rw [ht2v] at ht2
        exact ref_uq hU.2.2.2.1 ht2 ht'
      · intro hy
        rw [hy] at ht2
        rw [cTm_uq ht2 ht'] at b1
        exact b1.trans hw
    refine ⟨fun hne => ⟨show -2147483648 ≤ _ ∧ _ < 2147483648 by omega, ?_⟩, fun heq => hq _ (Or.inr (Or.inr (Or.inr (Or.inl ⟨by omega, Or.inl ⟨w', e1, d, rfl, same.mpr heq, hno⟩⟩))))⟩
    have hnd : qs A d ≠ .var w' := fun z => hne (same.mp z)
    have hdv : d ≠ v := fun z => hnd (by rw [z]; exact e1)
    refine hPP _ _ ⟨rfl, d + 1, by omega, by omega, fun u hu => ?_⟩ (show 20 - ((d : Int) + 1).toNat < 20 - ((d : Nat) : Int).toNat by omega)
    by_cases c : u = d
    · rw [c]; exact hnd
    · exact hno u (by omega)
/-- at -/
theorem sp_157 (ho : cOu m o) (hx : 0 ≤ x) (hq : Q (tsA o x) m) : wq_157 x m Q := by
  obtain ⟨h1, h2, h3, -⟩ := ho
  unfold tsA at hq
  unfold wq_157
  rw [h1]
  refine ⟨fun q => by omega, fun _ => ⟨fun q => ?_, fun q => ⟨hx, by omega, ?_⟩⟩⟩
  · rw [List.getD_eq_getElem?_getD, List.getElem?_eq_none (by omega)] at hq
    exact hq
  · have hlt : x.toNat < o.length := by omega
    have := h3 x.toNat _ (List.getElem?_eq_getElem hlt)
    rw [Int.toNat_of_nonneg hx] at this
    rw [this]
    rw [List.getD_eq_getElem?_getD, List.getElem?_eq_getElem hlt] at hq
    exact hq
/-- a term is written -/
theorem sp_wr (hP : cPr E F T m Z (qi A)) (hD : cDy E Z N m A B TI) (hRes : Res B (qs A)) {m1 : hy_m} (f1 : dFx m m1) (ho : cOu m1 []) (hn : m1 69 4 = 0) (hx : cTm (zX Z (qi A).length N) m x t) (hv : ∀ w, vIn w t → w < tot E (qi A)) (hk : 0 ≤ y) (hq : ∀ m', dFx m m' → Q (tsA (tkp [] (wM (sb (qs A) t) 0 []).1) y) m') : wq_159 x T m1 (fun _ m3 => wq_157 y m3 (fun r4 m4 => Q r4 m4)) := by
  have hU := zX_uPr hP N
  have hA := zX_all hP (qi A).length N (Nat.le_refl _)
  obtain ⟨s1, s2, s3⟩ := cRo_sep (b4 := 0) (N := N) hP.1 hA
  have ag := dFx_ag s3 f1
  refine sp_159 (o := []) (nm := []) s3 hU.2.2.2.1 (cW_ag ag hU.2.1) (cBd_ag ag (dFx_b4 s3 f1) hD.1) hRes (cTm_ag ag hx) (fun z hz => (zX_dm hP N z).mpr (hv z hz)) ho ⟨hn, List.nodup_nil, fun i v hi => by cases hi⟩ (Nat.zero_le _) (fun m2 f2 o2 _ => sp_157 o2 hk (hq m2 (f1.tr f2)))
theorem sp_156 (hq : ∀ m', dFx m m' → cOu m' [] → m' 69 4 = 0 → Q 0 m') : wq_156 m Q := by
  unfold wq_156
  have v4 : hy_u (hy_u m 69 2 0) 69 4 0 69 4 = 0 := hy_us _ _ _ _
  refine hq _ (fun a e q1 q2 => by rw [hy_uf (by omega), hy_uf (by omega)]) ⟨by rw [hy_uk (by decide), hy_us]; rfl, Nat.zero_le _, (fun i c hc => by cases hc), by rw [v4]; decide, by rw [v4]; decide⟩ v4
/-- value -/
theorem sp_18 (hO : qOK E A) (hA : cAl E F K Z T m A) (h0 : ¬ (qn A 0 ≠ 0 ∧ 0 ≤ x ∧ x < (E.2.2 : Int) ∧ 0 ≤ y) → Q (-1) m) (hq : ∀ (v : Nat) m', x = v → v < E.2.2 → qn A 0 ≠ 0 → 0 ≤ y → dFx m m' → Q (tsA (tkp [] (wM (qs A v) 0 []).1) y) m') : wq_18 x y T m Q := by
  obtain ⟨hS, hCt⟩ := hA
  have hP := hS.1
  obtain ⟨B, TI, hD, hRes, hTI⟩ := hS.2.2.2
  unfold wq_18
  refine sp_107 hP hCt.1.1 (fun a1 a2 a3 => ⟨fun q => absurd q (by decide), fun _ => ⟨fun hk => ?_, fun q => h0 (by omega)⟩⟩) (fun q => ⟨fun _ => h0 (by omega), fun z => absurd rfl z⟩)
  obtain ⟨v, rfl⟩ : ∃ v : Nat, x = v := ⟨x.toNat, by omega⟩
  have hv : v < E.2.2 := by omega
  obtain ⟨v1, v2⟩ := var_tm hP (qn A 2 + 1) hv
  exact sp_156 (fun m1 f1 o1 n1 => sp_wr hP hD hRes f1 o1 n1 v1 v2 hk (fun m2 f2 => hq v m2 rfl hv a1 hk f2))
/-- goal -/
theorem sp_19 (hO : qOK E A) (hS : cSe E F Z N T m A) (hend : ∀ f r, qp A = f :: r → qend f = false) (h0 : x < 0 → Q (-1) m) (h9 : 0 ≤ x → qp A = [] → Q (-9) m) (hq : ∀ f r m', 0 ≤ x → qp A = f :: r → dFx m m' → Q (tsA (tkp [] (wM (sb (qs A) (qgoal E A f)) 0 []).1) x) m') : wq_19 x T m Q := by
  have hP := hS.1
  have hkl : ∀ c ∈ qh A, c.2.2.2.1.1 ≤ (qi A).length := fun c hc => (chK_all _ hO.1 c hc).1
  obtain ⟨s3, s5, s8, sch⟩ := hS.2.2.1
  unfold wq_19
  refine ⟨fun hx => ?_, h0⟩
  cases he : qp A with
  | nil =>
    rw [he] at sch
    exact ⟨fun _ => h9 hx he, fun q => absurd sch q⟩
  | cons f r =>
    rw [he] at sch
    obtain ⟨j, c, c1, c2, c3, c4, c5, c6⟩ := sch
    have ht := hP.2.2.2.2.1.1.2.1 j c c1
    have hkO := hO.2.1
    rw [he] at hkO
    rw [c3]
    refine ⟨fun q => by have := ht.2.2.1; omega, fun _ => sp_156 (fun m1 f1 o1 n1 => ?_)⟩
    have hS1 := cSe_d hkl hS f1
    have hP1 := hS1.1
    obtain ⟨B, TI, hD, hRes, hTI⟩ := hS1.2.2.2
    have hA := zX_all hP (qi A).length N (Nat.le_refl _)
    obtain ⟨g1, g2, g3⟩ := cRo_sep (b4 := 0) (N := N) hP.1 hA
    have hTE : tE (zX Z (qi A).length N) m (zX Z (qi A).length N) m1 := fun x t h => cTm_ag (dFx_ag g3 f1) h
    have c4' : cF1 (zX Z (qi A).length N) m1 (tot E (qi A)) (qs A) f c := cF1_mo hTE (Nat.le_refl _) (fun _ q => q) (fun z => f1 c z (by have := ht.2.2.1; omega) (by have := ht.2.2.1; omega)) c4
    refine sp_91 hP1 hkO.1 (hend f r he) ht.2.1 c4' (fun y t t1 t2 t3 t4 => ?_)
    have e : sb (qs A) t = sb (qs A) (qgoal E A f) := t4 _ ((SolS_B hRes _).mp hRes.sol)
    refine sp_wr hP1 hD hRes (fun _ _ _ _ => rfl) o1 n1 t1 t2 hx (fun m2 f2 => ?_)
    rw [e]
    exact hq f r m2 hx he (f1.tr f2)
end CVA
