/-! WHAT THE MODEL TELLS OF ITS PROGRAM -/
/-- the rows of clauses are the same -/
def mRw (m m' : hy_m) : Prop := ∀ (a : Nat) (e : Int), 76 ≤ a → a ≤ 84 → m' a e = m a e
/-- predicates without clauses: their nodes -/
def mMs (m : hy_m) (ML : List Int) : Prop := m 74 29 = ML.length ∧ ∀ (i : Nat) (x : Int), ML[i]? = some x → ∃ t, mN m t (m 92 (i : Int)) ∧ cbl t ∧ eKy t = x
section MTL
variable {m m' : hy_m} {Q : Int → hy_m → Prop} {PL : List pCl} {ss : List Nat} {t t' : pE} {n n' : Int} {nv s i : Nat}
theorem mRw.rfl' : mRw m m := fun _ _ _ _ => rfl
theorem mRw.tr {m'' : hy_m} (h : mRw m m') (h' : mRw m' m'') : mRw m m'' := fun a e q1 q2 => (h' a e q1 q2).trans (h a e q1 q2)
theorem mRw.sy (h : mRw m m') : mRw m' m := fun a e q1 q2 => (h a e q1 q2).symm
theorem rP_rw {A : Int → Prop} (h : mRw m m') : ∀ (t : pE) (j n : Int), rP m A t j n → rP m' A t j n
  | .var v, j, n, hr => ⟨hr.1, hr.2.1, by rw [h _ _ (by decide) (by decide)]; exact hr.2.2.1, by rw [h _ _ (by decide) (by decide)]; exact hr.2.2.2.1, by rw [h _ _ (by decide) (by decide)]; exact hr.2.2.2.2⟩
  | .num i, j, n, hr => by
    rcases hr with hr | hr
    · exact Or.inl ⟨hr.1, hr.2.1, by rw [h _ _ (by decide) (by decide)]; exact hr.2.2.1, by rw [h _ _ (by decide) (by decide)]; exact hr.2.2.2.1, by rw [h _ _ (by decide) (by decide)]; exact hr.2.2.2.2⟩
    · exact Or.inr hr
  | .mulL k a, j, n, hr => ⟨hr.1, hr.2.1, by rw [h _ _ (by decide) (by decide)]; exact hr.2.2.1, by rw [h _ _ (by decide) (by decide)]; exact hr.2.2.2.1, by rw [h _ _ (by decide) (by decide)]; exact hr.2.2.2.2.1, hr.2.2.2.2.2.1, rP_rw h a 0 n hr.2.2.2.2.2.2⟩
  | .add a r, j, n, hr => ⟨hr.1, hr.2.1, by rw [h _ _ (by decide) (by decide)]; exact rP_rw h a _ _ hr.2.2.1, rP_rw h r _ _ hr.2.2.2⟩
  | .sub _ _, _, _, hr => hr.elim
  | .neg _, _, _, hr => hr.elim
  | .mulR _ _, _, _, hr => hr.elim
theorem mN_rw (h : mRw m m') (hn : mN m t n) : mN m' t n := rP_rw h t _ _ hn
theorem clR_rw {hd : Option pE} {gs : List pE} (h : mRw m m') (hc : clR m s hd gs nv) : clR m' s hd gs nv := by
  obtain ⟨c, h1, h2, h3, h4, h5, h6, h7, h8, h9⟩ := hc
  refine ⟨c, h1, by rw [h _ _ (by decide) (by decide)]; exact h2, by rw [h _ _ (by decide) (by decide)]; exact h3, h4, by rw [h _ _ (by decide) (by decide)]; exact h5, h6, fun i hi => ?_, fun x hx => ?_, fun v => ?_⟩
  · rw [h _ _ (by decide) (by decide)]
    exact rP_rw h _ _ _ (h7 i hi)
  · rw [h _ _ (by decide) (by decide)]
    exact rP_rw h _ _ _ (h8 x hx)
  · rw [vC_eq c (fun n _ _ => ⟨by rw [h _ _ (by decide) (by decide)], h _ _ (by decide) (by decide)⟩) v]
    exact h9 v
theorem mPo_rw (h : mRw m m') (h85 : ∀ e, m' 85 e = m 85 e) (hp : mPo m PL ss) : mPo m' PL ss := by
  obtain ⟨p1, p2, p3, p4, p5⟩ := hp
  refine ⟨by rw [h85]; exact p1, p2, p3, p4, fun i cl s h1 h2 => ?_⟩
  obtain ⟨s1, s2, s3, s4, s5⟩ := p5 i cl s h1 h2
  exact ⟨s1, by rw [h85]; exact s2, clR_rw h s3, s4, s5⟩
/-- notesMissing -/
theorem sp_217 {ML : List Int} (hp : mPo m PL ss) (h : mN m t n) (c : cbl t) (hM : mMs m ML) (hl : ML.length < 1000) (hq : ∀ m' ML', (∀ (a : Nat) (e : Int), a ≠ 92 → ¬ (a = 74 ∧ e = 29) → m' a e = m a e) → mMs m' ML' → ML' = (if usr t = true ∧ noB PL (eKy t) = true ∧ eKy t ∉ ML then ML ++ [eKy t] else ML) → Q 0 m') : wq_217 n m Q := by
  have r := mN_r h
  have c' := c
  obtain ⟨k, a, rfl, n1, n2⟩ := c
  have e7 : m 77 n = k := h.2.2.1
  have e8 : m 78 n = (eN a : Nat) := h.2.2.2.1
  have hpos := (kC_r n1 n2).1
  obtain ⟨M1, M2⟩ := hM
  have no : ∀ x3 : Int, 0 ≤ x3 → (usr (.mulL k a) = true ∧ noB PL (eKy (.mulL k a)) = true ∧ eKy (.mulL k a) ∉ ML → False) → wq_217_36 n 0 x3 m Q := by
    intro x3 h3 hno
    have hQ : wq_217_74 n 0 m Q := ⟨fun _ => hq m ML (fun _ _ _ _ => rfl) ⟨M1, M2⟩ (by rw [if_neg hno]), fun q => absurd rfl q⟩
    unfold wq_217_36
    refine wL2_rule (Nat.lt_wfRel.wf) (fun x2 x3 m' => m' = m ∧ x2 = 0) (fun _ _ _ => 0) ?_ ⟨rfl, rfl⟩
    rintro P x2 x3 m' ⟨e1, rfl⟩ hP
    unfold wf_217_36
    rw [e1]
    exact ⟨fun _ => hQ, fun _ => ⟨fun _ => hQ, fun q => absurd rfl q⟩⟩
  unfold wq_217
  rw [e7, e8]
  have hus : usr (.mulL k a) = decide (bI k (eN a) = 0) := rfl
  refine ⟨r.1, r.2, r.1, r.2, sp_184 (fun hb => ⟨fun _ => no 0 (by decide) (fun z => ?_), fun q => absurd q (by decide)⟩) (fun hb => ⟨fun q => absurd rfl q, fun _ => sp_212 hp h c' (fun y hy => ⟨fun q => no 0 (by decide) (fun z => ?_), fun q => ?_⟩)⟩)⟩
  · have := (bI_b k (eN a)).mp hb
    rw [hus, decide_eq_true_eq] at z
    exact this z.1
  · have z := z.2.1
    unfold noB at z
    rw [Bool.and_eq_true, decide_eq_true_eq, decide_eq_true_eq] at z
    have hz := (cntB_z 20).mp z.2
    rcases hy with hy | ⟨c, q0, q1, q2, q3⟩
    · exact q hy.1
    · rw [hz c q0] at q2
      cases q2
  · have hno : noB PL (eKy (.mulL k a)) = true := by
      unfold noB
      rw [Bool.and_eq_true, decide_eq_true_eq, decide_eq_true_eq]
      refine ⟨show kC k (eN a) ≠ 0 by omega, (cntB_z 20).mpr ?_⟩
      rcases hy with hy | ⟨c, q0, q1, q2, q3⟩
      · exact hy.2
      · omega
    have hu1 : usr (.mulL k a) = true := by
      rw [hus]
      refine decide_eq_true (Decidable.byContradiction fun z => ?_)
      rw [(bI_b k (eN a)).mpr z] at hb
      cases hb
    unfold wq_217_36
    refine wL2_rule (Nat.lt_wfRel.wf) (fun x2 x3 m' => m' = m ∧ ∃ d : Nat, x3 = d ∧ d ≤ ML.length ∧ ((x2 = 0 ∧ eKy (.mulL k a) ∈ ML) ∨ (x2 = 1 ∧ eKy (.mulL k a) ∉ ML.take d))) (fun _ x3 _ => 2000 - x3.toNat) ?_ ⟨rfl, 0, rfl, Nat.zero_le _, Or.inr ⟨rfl, by simp⟩⟩
    rintro P x2 x3 m' ⟨e1, d, rfl, hd, hx⟩ hP
    have hQ : eKy (.mulL k a) ∈ ML → wq_217_74 n 0 m Q := fun hin => ⟨fun _ => hq m ML (fun _ _ _ _ => rfl) ⟨M1, M2⟩ (by rw [if_neg (fun z => z.2.2 hin)]), fun q => absurd rfl q⟩
    unfold wf_217_36
    rw [e1, M1]
    rcases hx with ⟨rfl, hin⟩ | ⟨rfl, hnin⟩
    · exact ⟨fun _ => hQ hin, fun _ => ⟨fun _ => hQ hin, fun q => absurd rfl q⟩⟩
    · refine ⟨fun q => ?_, fun q => ⟨fun q => absurd q (by decide), fun _ => ?_⟩⟩
      · have hnin : eKy (.mulL k a) ∉ ML := by
          rw [List.take_of_length_le (by omega)] at hnin
          exact hnin
        unfold wq_217_74
        rw [M1]
        refine ⟨fun q => absurd q (by decide), fun _ => ⟨by omega, by omega, show -2147483648 ≤ _ ∧ _ < 2147483648 by omega, hq _ (ML ++ [eKy (.mulL k a)]) (fun a e q1 q2 => ?_) ?_ (by rw [if_pos ⟨hu1, hno, hnin⟩])⟩⟩
        · rw [hy_uf q2, hy_ua q1]
        · have rw1 : mRw m (hy_u (hy_u m 92 (ML.length : Int) n) 74 29 ((ML.length : Int) + 1)) := fun a e q1 q2 => by
            rw [hy_ua (by omega), hy_ua (by omega)]
          refine ⟨?_, fun i x hx => ?_⟩
          · rw [hy_us, List.length_append]
            rfl
          · rw [hy_ua (by decide)]
            by_cases ci : i < ML.length
            · rw [List.getElem?_append_left ci] at hx
              rw [hy_uk (by omega)]
              obtain ⟨t, g1, g2, g3⟩ := M2 i x hx
              exact ⟨t, mN_rw rw1 g1, g2, g3⟩
            · have hil := (List.getElem?_eq_some_iff.mp hx).1
              rw [List.length_append] at hil
              have ei : i = ML.length := by
                have : [eKy (.mulL k a)].length = 1 := rfl
                omega
              subst ei
              rw [List.getElem?_append_right (Nat.le_refl _), Nat.sub_self] at hx
              injection hx with hx
              rw [hy_us]
              exact ⟨_, mN_rw rw1 h, c', hx⟩
      · have hdl : d < ML.length := by omega
        obtain ⟨t2, g1, g2, g3⟩ := M2 d _ (List.getElem?_eq_getElem hdl)
        refine ⟨by omega, by omega, sp_211 h g1 c' g2 ?_⟩
        rw [g3]
        by_cases e : eKy (.mulL k a) = ML[d]
        · rw [if_pos e]
          refine ⟨fun _ => ⟨show -2147483648 ≤ _ ∧ _ < 2147483648 by omega, hP _ _ _ ⟨rfl, d + 1, by omega, by omega, Or.inl ⟨rfl, by rw [e]; exact List.getElem_mem hdl⟩⟩ ?_⟩, fun q => absurd q (by decide)⟩
          show 2000 - _ < 2000 - _
          omega
        · rw [if_neg e]
          refine ⟨fun q => absurd rfl q, fun _ => ⟨show -2147483648 ≤ _ ∧ _ < 2147483648 by omega, hP _ _ _ ⟨rfl, d + 1, by omega, by omega, Or.inr ⟨rfl, ?_⟩⟩ ?_⟩⟩
          · rw [List.take_add_one, List.getElem?_eq_getElem hdl]
            intro z
            rcases List.mem_append.mp z with z | z
            · exact hnin z
            · exact e (by simpa using z)
          · show 2000 - _ < 2000 - _
            omega
end MTL
