/-! WHAT THE MODEL TELLS OF ITS PROGRAM: missing, single variables, overlaps -/
def qFr (m m' : hy_m) : Prop := ∀ (a : Nat) (e : Int), a ≠ 92 → ¬ (a = 74 ∧ e = 29) → m' a e = m a e
def uSt (m : hy_m) (PL : List pCl) (d g : Nat) : Prop := ∃ ML, mMs m ML ∧ ML.length = dsM (noB PL) [] (calB PL d g) ∧ (∀ x, x ∈ ML ↔ noB PL x = true ∧ x ∈ calB PL d g) ∧ ML.length ≤ 5 * d + g
theorem noB_0 {PL : List pCl} : noB PL 0 = false := by
  unfold noB
  rw [decide_eq_false (show ¬ (0 : Int) ≠ 0 from fun q => q rfl), Bool.false_and]
def sm (f : Nat → Nat) : Nat → Nat
  | 0 => 0
  | n + 1 => sm f n + f n
theorem sm_c {f g : Nat → Nat} : ∀ n, (∀ i, i < n → f i = g i) → sm f n = sm g n
  | 0, _ => rfl
  | n + 1, h => by
    show sm f n + f n = sm g n + g n
    rw [sm_c n (fun i hi => h i (by omega)), h n (Nat.lt_succ_self n)]
theorem sm_add (f g : Nat → Nat) : ∀ n, sm (fun i => f i + g i) n = sm f n + sm g n
  | 0 => rfl
  | n + 1 => by
    show sm (fun i => f i + g i) n + (f n + g n) = (sm f n + f n) + (sm g n + g n)
    rw [sm_add f g n]
    omega
theorem sm_B (p : Nat → Bool) : ∀ n, sm (fun i => if p i = true then 1 else 0) n = cntB p n
  | 0 => rfl
  | n + 1 => by
    show sm _ n + _ = cntB p n + _
    rw [sm_B p n]
/-- pairs, counted in two ways -/
theorem sm_dbl (p : Nat → Nat → Bool) : ∀ n, sm (fun i => cntB (fun j => decide (i < j) && p i j) n) n = sm (fun j => cntB (fun i => p i j) j) n
  | 0 => rfl
  | n + 1 => by
    show sm (fun i => cntB (fun j => decide (i < j) && p i j) n + (if (decide (i < n) && p i n) = true then 1 else 0)) n + cntB (fun j => decide (n < j) && p n j) (n + 1) = sm (fun j => cntB (fun i => p i j) j) n + cntB (fun i => p i n) n
    have e1 : sm (fun i => if (decide (i < n) && p i n) = true then 1 else 0) n = cntB (fun i => p i n) n := by
      rw [← sm_B (fun i => p i n) n]
      exact sm_c n (fun i hi => by rw [decide_eq_true hi, Bool.true_and])
    rw [sm_add, sm_dbl p n, e1, (cntB_z (n + 1)).mpr (fun v hv => by rw [decide_eq_false (show ¬ n < v by omega), Bool.false_and])]
    rfl
/-- both are of predicate x, and their first arguments don't exclude each other -/
def prB (PL : List pCl) (x : Int) (i j : Nat) : Bool := match PL[i]?, PL[j]? with
  | some a, some b => decide (eKy a.1 = x) && decide (eKy b.1 = x) && cm (fk a.1) (fy a.1) (fk b.1) (fy b.1)
  | _, _ => false
theorem cm_sy (k z k' z' : Int) : cm k z k' z' = cm k' z' k z := by
  unfold cm
  rw [Bool.or_comm (decide (k ≤ 1)), show decide (k = k') = decide (k' = k) by rw [Bool.eq_iff_iff, decide_eq_true_eq, decide_eq_true_eq]; exact eq_comm, show decide (z = z') = decide (z' = z) by rw [Bool.eq_iff_iff, decide_eq_true_eq, decide_eq_true_eq]; exact eq_comm]
theorem ovS_sm (PL : List pCl) (x : Int) : ∀ n, n ≤ 20 → ovS PL x n = sm (fun j => cntB (fun i => prB PL x i j) j) n
  | 0, _ => rfl
  | n + 1, hn => by
    show ovS PL x n + _ = sm _ n + cntB (fun i => prB PL x i n) n
    rw [ovS_sm PL x n (by omega)]
    congr 1
    cases e : PL[n]? with
    | none =>
      rw [(cntB_z n).mpr (fun v hv => ?_)]
      unfold prB
      rw [e]
      cases PL[v]? <;> rfl
    | some cl =>
      dsimp only
      by_cases hx : eKy cl.1 = x
      · rw [if_pos hx, cntB_hi (d := n) 20 (by omega) (fun v hv => by rw [decide_eq_false (show ¬ v < n by omega), Bool.and_false])]
        refine cntB_c n (fun v hv => ?_)
        rw [decide_eq_true hv, Bool.and_true]
        unfold prB cdB
        rw [e]
        cases PL[v]? with
        | none => rfl
        | some c2 =>
          dsimp only
          rw [decide_eq_true hx, Bool.and_true, cm_sy]
      · rw [if_neg hx, (cntB_z n).mpr (fun v hv => ?_)]
        unfold prB
        rw [e]
        cases PL[v]? with
        | none => rfl
        | some c2 =>
          dsimp only
          rw [decide_eq_false hx, Bool.and_false, Bool.false_and]
section MTM
variable {m m' : hy_m} {Q : Int → hy_m → Prop} {PL : List pCl} {ss : List Nat} {t t' : pE} {n n' : Int} {nv s i : Nat}
theorem qFr.rw' (h : qFr m m') : mRw m m' := fun a e q1 q2 => h a e (by omega) (by omega)
theorem qFr.p85 (h : qFr m m') (e : Int) : m' 85 e = m 85 e := h 85 e (by decide) (by omega)
theorem qFr.tr {m'' : hy_m} (h : qFr m m') (h' : qFr m' m'') : qFr m m'' := fun a e q1 q2 => (h' a e q1 q2).trans (h a e q1 q2)
theorem eCa_c (h : eK nv t false) (hc : eCa t = true) : cbl t := by
  cases t with
  | mulL k a => exact ⟨k, a, rfl, h.2.1, h.2.2.1⟩
  | var _ => cases hc
  | num _ => cases hc
  | add _ _ => cases hc
  | sub _ _ => cases hc
  | neg _ => cases hc
  | mulR _ _ => cases hc
theorem gOK_eC {g : pE} (h : gOK nv g) : eCa g = true := by
  obtain ⟨-, k, a, rfl, hw⟩ := h
  have := wOK_ne hw
  show (decide (k ≠ 1) && decide (k ≠ 2)) = true
  rw [decide_eq_true this.1, decide_eq_true this.2]
  rfl
/-- one goal -/
theorem uSt_s {d g : Nat} {y : Int} {ML : List Int} (hl : d < PL.length) (hy : (cals PL[d])[g]? = some y) (M1 : mMs m ML) (M2 : ML.length = dsM (noB PL) [] (calB PL d g)) (M3 : ∀ x, x ∈ ML ↔ noB PL x = true ∧ x ∈ calB PL d g) (M4 : ML.length ≤ 5 * d + g) {ML' : List Int} (h : mMs m' ML') (e : ML' = if noB PL y = true ∧ y ∉ ML then ML ++ [y] else ML) : uSt m' PL d (g + 1) := by
  have hs := calB_s hl hy
  have hst : dsM (noB PL) [] (calB PL d (g + 1)) = dsM (noB PL) [] (calB PL d g) + (if noB PL y = true ∧ y ∉ calB PL d g then 1 else 0) := by
    rw [hs, dsM_app]
    rfl
  have iff : (noB PL y = true ∧ y ∉ ML) ↔ (noB PL y = true ∧ y ∉ calB PL d g) := ⟨fun z => ⟨z.1, fun q => z.2 ((M3 y).mpr ⟨z.1, q⟩)⟩, fun z => ⟨z.1, fun q => z.2 ((M3 y).mp q).2⟩⟩
  by_cases c : noB PL y = true ∧ y ∉ ML
  · rw [if_pos c] at e
    subst e
    refine ⟨_, h, ?_, fun x => ?_, ?_⟩
    · rw [hst, if_pos (iff.mp c), List.length_append, M2]
      rfl
    · rw [hs, List.mem_append, List.mem_append, M3 x, List.mem_singleton]
      refine ⟨fun z => ?_, fun z => ?_⟩
      · rcases z with z | z
        · exact ⟨z.1, Or.inl z.2⟩
        · exact ⟨z ▸ c.1, Or.inr z⟩
      · rcases z.2 with w | w
        · exact Or.inl ⟨z.1, w⟩
        · exact Or.inr w
    · rw [List.length_append]
      show ML.length + 1 ≤ _
      omega
  · rw [if_neg c] at e
    subst e
    refine ⟨_, h, ?_, fun x => ?_, by omega⟩
    · rw [hst, if_neg (fun z => c (iff.mpr z)), M2]
      rfl
    · rw [hs, List.mem_append, M3 x, List.mem_singleton]
      refine ⟨fun z => ⟨z.1, Or.inl z.2⟩, fun z => ⟨z.1, ?_⟩⟩
      rcases z.2 with w | w
      · exact w
      · subst w
        refine Decidable.byContradiction fun q => c ⟨z.1, fun r => q ((M3 x).mp r).2⟩
/-- undefinedMany -/
theorem sp_218 (hp : mPo m PL ss) (hq : ∀ m', qFr m m' → Q ((dsM (noB PL) [] (calB PL PL.length 0) : Nat) : Int) m') : wq_218 m Q := by
  have h20 := hp.2.1
  unfold wq_218 wq_218_7
  refine wL1_rule (Nat.lt_wfRel.wf) (fun x1 m' => ∃ d : Nat, x1 = d ∧ d ≤ PL.length ∧ qFr m m' ∧ uSt m' PL d 0) (fun x1 _ => 30 - x1.toNat) ?_ ⟨0, rfl, Nat.zero_le _, fun a e q1 q2 => hy_uf q2, [], ⟨by rw [hy_us]; rfl, fun i x hx => absurd hx (by simp)⟩, by rw [calB_0]; rfl, fun x => by rw [calB_0]; simp, Nat.zero_le _⟩
  rintro P7 x1 m1 ⟨d, rfl, hd, hF1, hU1⟩ hP7
  have hp1 := mPo_rw hF1.rw' hF1.p85 hp
  unfold wf_218_7
  rw [hp1.1]
  refine ⟨by decide, by decide, fun q => ?_, fun q => ?_⟩
  · obtain ⟨ML, M1, M2, M3, M4⟩ := hU1
    rw [M1.1, M2, show d = PL.length by omega]
    exact hq m1 hF1
  have hl : d < PL.length := by omega
  obtain ⟨s, -, s1, s2, s3, s4, s5⟩ := mPo_i hp hl
  obtain ⟨g1, g2, g3, g4⟩ := clR_g s3 (by omega)
  have h5 := s4.2.2.2.1
  have hcl : (cals PL[d]).length = PL[d].2.1.length := List.length_map ..
  refine sp_206 (s := s) (by omega) (by rw [hF1 _ _ (by decide) (by omega)]; exact s2) ?_
  unfold wq_218_25
  refine wL1_rule (Nat.lt_wfRel.wf) (fun x3 m' => ∃ g : Nat, x3 = g ∧ g ≤ PL[d].2.1.length ∧ qFr m m' ∧ uSt m' PL d g) (fun x3 _ => 30 - x3.toNat) ?_ ⟨0, rfl, Nat.zero_le _, hF1, hU1⟩
  rintro P25 x3 m2 ⟨g, rfl, hg, hF2, hU2⟩ hP25
  unfold wf_218_25
  rw [hF2 82 _ (by decide) (by omega), hF2 83 _ (by decide) (by omega), g1]
  refine ⟨by omega, by omega, fun q2 => ⟨show -2147483648 ≤ _ ∧ _ < 2147483648 by omega, hP7 _ _ ⟨d + 1, by omega, by omega, hF2, ?_⟩ ?_⟩, fun q2 => ⟨by omega, by omega, ?_⟩⟩
  · obtain ⟨ML, M1, M2, M3, M4⟩ := hU2
    rw [show g = (cals PL[d]).length by omega, calB_n hl] at M2 M3
    exact ⟨ML, M1, M2, M3, by omega⟩
  · show 30 - _ < 30 - _
    omega
  have hgl : g < PL[d].2.1.length := by omega
  have hgn := g3 g hgl
  have hgo := s4.2.2.1 _ (List.getElem_mem hgl)
  have hy : (cals PL[d])[g]? = some (cal PL[d].2.1[g] false) := by
    show (PL[d].2.1.map (fun g => cal g false))[g]? = _
    rw [List.getElem?_map, List.getElem?_eq_getElem hgl]
    rfl
  generalize PL[d].2.1[g] = t0 at hgn hgo hy
  obtain ⟨ML, M1, M2, M3, M4⟩ := hU2
  unfold wq_218_47
  refine wL1_g (fun k x4 m' => qFr m m' ∧ ((x4 = -9 ∧ uSt m' PL d (g + 1)) ∨ (∃ t', mMs m' ML ∧ mN m t' x4 ∧ eK PL[d].2.2 t' false ∧ eCa t' = true ∧ cal t' false = cal t0 false ∧ k = eM t' + 1))) ?_ ⟨hF2, Or.inr ⟨t0, M1, hgn, hgo.1, gOK_eC hgo, rfl, rfl⟩⟩
  rintro P47 k x4 m3 ⟨hF3, hx⟩ hP47
  unfold wf_218_47
  rcases hx with ⟨rfl, hU⟩ | ⟨t', M1', hn, hk, hca, hcal, hkk⟩
  · refine ⟨fun _ => ⟨show -2147483648 ≤ _ ∧ _ < 2147483648 by omega, hP25 _ _ ⟨g + 1, by omega, by omega, hF3, hU⟩ ?_⟩, fun q => absurd rfl q⟩
    show 30 - _ < 30 - _
    omega
  · have r := mN_r hn
    refine ⟨fun q => by omega, fun _ => ?_⟩
    have hp3 := mPo_rw hF3.rw' hF3.p85 hp
    refine sp_217 hp3 (mN_rw hF3.rw' hn) (eCa_c hk hca) M1' (by omega) (fun m4 ML' hF4 M1'' eML => ?_)
    have hF5 : qFr m m4 := hF3.tr hF4
    refine sp_216 (mN_rw hF5.rw' hn) hk (eCa_c hk hca) (fun he => ?_) (fun x r' hus hx hkx hcx hlt hcc => ?_)
    · refine hP47 0 _ _ ⟨hF5, Or.inl ⟨rfl, uSt_s hl hy M1' M2 M3 M4 M1'' ?_⟩⟩ (by omega)
      rw [eML, ← hcal, he]
      by_cases hu : usr t' = true
      · rw [if_pos hu]
        by_cases z : noB PL (eKy t') = true ∧ eKy t' ∉ ML
        · rw [if_pos ⟨hu, z⟩, if_pos z]
        · rw [if_neg (fun w => z w.2), if_neg z]
      · rw [if_neg hu, if_neg (fun w => hu w.1), if_neg (fun w => by rw [noB_0] at w; cases w.1)]
    · refine hP47 (eM x + 1) _ _ ⟨hF5, Or.inr ⟨x, ?_, mN_rw hF5.rw'.sy hx, hkx, hcx, hcc.symm.trans hcal, rfl⟩⟩ (by omega)
      rw [if_neg (fun w => by rw [hus] at w; cases w.1)] at eML
      rw [← eML]
      exact M1''
/-- occurrences -/
theorem sp_220 {c v : Nat} (h80 : m 80 (s : Int) = c) (hs : s ≤ 27) (hc : c ≤ 120) (hq : Q ((vC m s c v : Nat) : Int) m) : wq_220 (s : Int) (v : Int) m Q := by
  unfold wq_220 wq_220_5
  refine wL2_rule (Nat.lt_wfRel.wf) (fun x3 x4 m' => m' = m ∧ ∃ d : Nat, x4 = d ∧ d ≤ c ∧ x3 = vC m s d v ∧ x3 ≤ d) (fun _ x4 _ => 200 - x4.toNat) ?_ ⟨rfl, 0, rfl, Nat.zero_le _, rfl, Int.le_refl _⟩
  rintro P x3 x4 m' ⟨e1, d, rfl, hd, rfl, hb⟩ hP
  have st : vC m s (d + 1) v = vC m s d v + (if m 76 (128 * (s : Int) + (d : Int)) = 1 ∧ m 77 (128 * (s : Int) + (d : Int)) = (v : Int) then 1 else 0) := rfl
  unfold wf_220_5
  rw [e1, h80]
  refine ⟨by omega, by omega, fun q => ?_, fun q => ⟨by omega, by omega, fun q2 => ⟨show -2147483648 ≤ _ ∧ _ < 2147483648 by omega, show -2147483648 ≤ _ ∧ _ < 2147483648 by omega, hP _ _ _ ⟨rfl, d + 1, by omega, by omega, ?_, by omega⟩ ?_⟩, fun q2 => ⟨by omega, by omega, fun q3 => ⟨show -2147483648 ≤ _ ∧ _ < 2147483648 by omega, show -2147483648 ≤ _ ∧ _ < 2147483648 by omega, hP _ _ _ ⟨rfl, d + 1, by omega, by omega, ?_, by omega⟩ ?_⟩, fun q3 => ⟨show -2147483648 ≤ _ ∧ _ < 2147483648 by omega, show -2147483648 ≤ _ ∧ _ < 2147483648 by omega, hP _ _ _ ⟨rfl, d + 1, by omega, by omega, ?_, by omega⟩ ?_⟩⟩⟩⟩
  · rw [show d = c by omega]
    exact hq
  · rw [st, if_neg (fun z => q2 z.1)]
    omega
  · show 200 - _ < 200 - _
    omega
  · rw [st, if_neg (fun z => q3 z.2)]
    omega
  · show 200 - _ < 200 - _
    omega
  · rw [st, if_pos ⟨q2, q3⟩]
    omega
  · show 200 - _ < 200 - _
    omega
/-- singles -/
theorem sp_221 {hd : Option pE} {gs : List pE} (h : clR m s hd gs nv) (hs : s ≤ 27) (hq : Q ((cnt1 (fun v => oH hd v + oL gs v) nv : Nat) : Int) m) : wq_221 (s : Int) m Q := by
  obtain ⟨c, h1, h2, h3, h4, h5, h6, h7, h8, h9⟩ := h
  unfold wq_221 wq_221_4
  refine wL2_rule (Nat.lt_wfRel.wf) (fun x2 x3 m' => m' = m ∧ ∃ d : Nat, x3 = d ∧ d ≤ nv ∧ x2 = cnt1 (fun v => oH hd v + oL gs v) d ∧ x2 ≤ d) (fun _ x3 _ => 30 - x3.toNat) ?_ ⟨rfl, 0, rfl, Nat.zero_le _, rfl, Int.le_refl _⟩
  rintro P x2 x3 m' ⟨e1, d, rfl, hd', rfl, hb⟩ hP
  have st : cnt1 (fun v => oH hd v + oL gs v) (d + 1) = cnt1 (fun v => oH hd v + oL gs v) d + (if oH hd d + oL gs d = 1 then 1 else 0) := rfl
  unfold wf_221_4
  rw [e1, h5]
  refine ⟨by omega, by omega, fun q => ?_, fun q => sp_220 h2 hs h1 ?_⟩
  · rw [show d = nv by omega]
    exact hq
  · rw [h9 d]
    refine ⟨fun q2 => ⟨show -2147483648 ≤ _ ∧ _ < 2147483648 by omega, show -2147483648 ≤ _ ∧ _ < 2147483648 by omega, hP _ _ _ ⟨rfl, d + 1, by omega, by omega, ?_, by omega⟩ ?_⟩, fun q2 => ⟨show -2147483648 ≤ _ ∧ _ < 2147483648 by omega, show -2147483648 ≤ _ ∧ _ < 2147483648 by omega, hP _ _ _ ⟨rfl, d + 1, by omega, by omega, ?_, by omega⟩ ?_⟩⟩
    · rw [st, if_neg (by omega)]
      omega
    · show 30 - _ < 30 - _
      omega
    · rw [st, if_pos (by omega)]
      omega
    · show 30 - _ < 30 - _
      omega
/-- endsWithItself -/
theorem sp_222 {h : pE} {gs : List pE} (hc : clR m s (some h) gs nv) (hk : kOK (some h) gs nv) (hs : s ≤ 27) (hq : Q (if ewB h gs = true then 1 else 0) m) : wq_222 (s : Int) m Q := by
  obtain ⟨g1, g2, g3, g4⟩ := clR_g hc hs
  have h5 := hk.2.2.2.1
  unfold wq_222
  rw [g1]
  refine ⟨by omega, by omega, fun q => ⟨by omega, by omega, by omega, by omega, by omega, by omega, ?_⟩, fun q => ?_⟩
  · have hl : gs.length - 1 < gs.length := by omega
    have hg := g3 (gs.length - 1) hl
    rw [show 5 * (s : Int) + ((gs.length - 1 : Nat) : Int) = 5 * (s : Int) + (gs.length : Int) - 1 by omega] at hg
    have he : ewB h gs = decide (eKy gs[gs.length - 1] = eKy h) := by
      unfold ewB
      rw [List.getLast?_eq_getElem?, List.getElem?_eq_getElem hl]
    refine sp_211 (g4 h rfl) hg (kOK_cb hk) (gOK_cb (hk.2.2.1 _ (List.getElem_mem hl))) ?_
    by_cases e : eKy h = eKy gs[gs.length - 1]
    · rw [if_pos e]
      rw [he, decide_eq_true e.symm] at hq
      exact ⟨fun q => absurd q (by decide), fun _ => hq⟩
    · rw [if_neg e]
      rw [he, decide_eq_false (fun z => e z.symm)] at hq
      exact ⟨fun _ => hq, fun q => absurd rfl q⟩
  · have e : gs = [] := List.eq_nil_of_length_eq_zero (by omega)
    rw [e] at hq
    exact hq
/-- canBoth -/
theorem sp_224 {nv' : Nat} (h : mN m t n) (h' : mN m t' n') (hk : eK nv t false) (hk' : eK nv' t' false) (hq : Q (if cm (eKd t) (eKy t) (eKd t') (eKy t') = true then 1 else 0) m) : wq_224 n n' m Q := by
  have r := mN_r h
  have r' := mN_r h'
  have e6 := rP_kd h
  have e6' := rP_kd h'
  have k1 : ∀ {t : pE} {nv : Nat}, eK nv t false → 1 ≤ eKd t ∧ (eKd t = 1 → ∃ v : Nat, t = .var v) := by
    intro t nv hk
    cases t with
    | var v => exact ⟨show (1 : Int) ≤ 1 by decide, fun _ => ⟨v, rfl⟩⟩
    | num v => exact ⟨show (1 : Int) ≤ 2 by decide, fun q => absurd (show (2 : Int) = 1 from q) (by decide)⟩
    | mulL k a =>
      by_cases c : eN a = 0
      · rw [show eKd (.mulL k a) = 3 from if_pos c]
        exact ⟨by decide, fun q => absurd q (by decide)⟩
      · rw [show eKd (.mulL k a) = 4 from if_neg c]
        exact ⟨by decide, fun q => absurd q (by decide)⟩
    | add _ _ => exact absurd hk.1 (by decide)
    | sub _ _ => exact hk.elim
    | neg _ => exact hk.elim
    | mulR _ _ => exact hk.elim
  have w : ∀ {t : pE} {n : Int} {nv : Nat}, mN m t n → eK nv t false → eKd t ≠ 1 → (∃ v, t = .num v ∧ m 77 n = v ∧ m 78 n = 0) ∨ (∃ k a, t = .mulL k a ∧ m 77 n = k ∧ m 78 n = (eN a : Nat) ∧ nmOK k ∧ eN a ≤ 3) := by
    intro t n nv h hk hn
    cases t with
    | var v => exact absurd rfl hn
    | num v =>
      rcases h with h | h
      · exact Or.inl ⟨v, rfl, h.2.2.2.1, h.2.2.2.2⟩
      · exact absurd h.1 (by decide)
    | mulL k a => exact Or.inr ⟨k, a, rfl, h.2.2.1, h.2.2.2.1, hk.2.1, hk.2.2.1⟩
    | add _ _ => exact absurd hk.1 (by decide)
    | sub _ _ => exact hk.elim
    | neg _ => exact hk.elim
    | mulR _ _ => exact hk.elim
  have z1 := k1 hk
  have z1' := k1 hk'
  unfold wq_224
  unfold cm at hq
  rw [e6, e6']
  refine ⟨r.1, r.2, fun q => ?_, fun q => ⟨r'.1, r'.2, fun q' => ⟨r.1, r.2, r'.1, r'.2, fun q2 => ?_, fun q2 => ⟨r.1, r.2, r'.1, r'.2, ?_⟩⟩, fun q' => ?_⟩⟩
  · rw [decide_eq_true (show eKd t ≤ 1 by omega), Bool.true_or, Bool.true_or] at hq
    exact hq
  · rw [decide_eq_false (show ¬ eKd t ≤ 1 by omega), decide_eq_false (show ¬ eKd t' ≤ 1 by omega), decide_eq_false q2] at hq
    exact hq
  · rw [decide_eq_false (show ¬ eKd t ≤ 1 by omega), decide_eq_false (show ¬ eKd t' ≤ 1 by omega), decide_eq_true q2] at hq
    have hq : Q (if decide (eKy t = eKy t') = true then 1 else 0) m := hq
    have yes : eKy t = eKy t' → Q 1 m := fun z => by
      rw [decide_eq_true z] at hq
      exact hq
    have nay : eKy t ≠ eKy t' → Q 0 m := fun z => by
      rw [decide_eq_false z] at hq
      exact hq
    rcases w h hk q with ⟨v, rfl, w1, w2⟩ | ⟨k, a, rfl, w1, w2, w3, w4⟩
    · rcases w h' hk' q' with ⟨v', rfl, w1', w2'⟩ | ⟨k', a', rfl, w1', w2', w3', w4'⟩
      · rw [w1, w1', w2, w2']
        exact ⟨fun z => nay z, fun z => ⟨r.1, r.2, r'.1, r'.2, fun y => absurd rfl y, fun _ => yes z⟩⟩
      · exfalso
        by_cases c : eN a' = 0
        · rw [show eKd (.mulL k' a') = 3 from if_pos c] at q2
          exact absurd (show (2 : Int) = 3 from q2) (by decide)
        · rw [show eKd (.mulL k' a') = 4 from if_neg c] at q2
          exact absurd (show (2 : Int) = 4 from q2) (by decide)
    · rcases w h' hk' q' with ⟨v', rfl, w1', w2'⟩ | ⟨k', a', rfl, w1', w2', w3', w4'⟩
      · exfalso
        by_cases c : eN a = 0
        · rw [show eKd (.mulL k a) = 3 from if_pos c] at q2
          exact absurd (show (3 : Int) = 2 from q2) (by decide)
        · rw [show eKd (.mulL k a) = 4 from if_neg c] at q2
          exact absurd (show (4 : Int) = 2 from q2) (by decide)
      · rw [w1, w1', w2, w2']
        refine ⟨fun z => nay (fun y => z (kC_inj w3 w3' w4 w4' y).1), fun z => ⟨r.1, r.2, r'.1, r'.2, fun x => nay (fun y => x ?_), fun x => yes ?_⟩⟩
        · rw [(kC_inj w3 w3' w4 w4' y).2]
        · show kC k (eN a) = kC k' (eN a')
          rw [z, show eN a = eN a' by omega]
  · rw [decide_eq_true (show eKd t' ≤ 1 by omega), Bool.or_true, Bool.true_or] at hq
    exact hq
end MTM
