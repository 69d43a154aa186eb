/-! BOTH SIDES TOGETHER: the class's calls -/
theorem hd_app {tx : List Int} {a : Int} {i : Nat} (hi : i < tx.length) : hd ((tx ++ [a]).drop i) = hd (tx.drop i) := by
  rw [List.drop_append_of_le_length (by omega), List.drop_eq_getElem_cons hi]
  rfl
theorem hd_end {tx : List Int} {a : Int} : hd ((tx ++ [a]).drop tx.length) = a := by
  rw [List.drop_left]
  rfl
section JD
variable {A A' : jst} {E : qE} {B : qA} {F F' : Nat → Prop} {T T' : hy_T} {m m' m1 : hy_m} {Z Z' : cZ} {N n n' u u' n0 u0 K k : Nat} {a b x : Int} {PL PL' : List pCl} {PH PH' : List (List pCl)} {tx : List Int}
/-- write -/
theorem jc_0 (hV : jV k A) (h : jC k A T n u m) : wq_1 a m (fun x m' => ∃ A', jx0 a A x A' ∧ jC (k + 1) A' T n u m' ∧ jG m m') := by
  obtain ⟨t1, t2, t3, t4⟩ := h.1
  have hs : jC (k + 1) A T n u m ∧ jG m m := ⟨jC_s hV h, fun _ _ _ _ => rfl⟩
  unfold wq_1
  refine ⟨fun q => ⟨A, Or.inl ⟨by omega, rfl, rfl⟩, hs⟩, fun q => ⟨fun q2 => ⟨fun q3 => ?_, fun q3 => ⟨A, Or.inr ⟨⟨q, q2⟩, Or.inl ⟨by omega, rfl, rfl⟩⟩, hs⟩⟩, fun q2 => ⟨A, Or.inl ⟨by omega, rfl, rfl⟩, hs⟩⟩⟩
  unfold wq_134
  refine ⟨fun q4 => by omega, fun _ => ⟨show 0 ≤ a ∧ a < 65536 by omega, by omega, q3, show -2147483648 ≤ _ ∧ _ < 2147483648 by omega, ?_⟩⟩
  rw [t1] at q3 ⊢
  have v1 : hy_u (hy_u m 3 (A.1.length : Int) a) 2 1 ((A.1.length : Int) + 1) 2 1 = (A.1.length : Int) + 1 := hy_us _ _ _ _
  have v2 : ∀ (z : Nat) (e : Int), z ≠ 3 → ¬ (z = 2 ∧ e = 1) → hy_u (hy_u m 3 (A.1.length : Int) a) 2 1 ((A.1.length : Int) + 1) z e = m z e := fun z e z1 z2 => by
    rw [show hy_u (hy_u m 3 (A.1.length : Int) a) 2 1 ((A.1.length : Int) + 1) z e = hy_u m 3 (A.1.length : Int) a z e from if_neg z2, hy_ua z1]
  have v3 : ∀ e : Int, hy_u (hy_u m 3 (A.1.length : Int) a) 2 1 ((A.1.length : Int) + 1) 3 e = if e = (A.1.length : Int) then a else m 3 e := fun e => by
    rw [hy_ua (by decide)]
    by_cases c : e = (A.1.length : Int)
    · rw [if_pos c, c, hy_us]
    · rw [if_neg c, hy_uk c]
  generalize hy_u (hy_u m 3 (A.1.length : Int) a) 2 1 ((A.1.length : Int) + 1) = M at v1 v2 v3
  have hlen : (A.1 ++ [a]).length = A.1.length + 1 := by rw [List.length_append]; rfl
  refine ⟨(A.1 ++ [a], A.2), Or.inr ⟨⟨q, q2⟩, Or.inr ⟨by omega, v1, rfl⟩⟩, jC_lo hV h (fun z e z1 _ _ => v2 z e (by omega) (by omega)) (v2 _ _ (by omega) (by omega)) ⟨by rw [v1, hlen]; omega, by omega, fun i hi => ?_, fun c hc => ?_⟩ (fun i i1 i2 => by rw [v2 _ _ (by omega) (by omega)]; exact h.2.1 i i1 i2) (fun e _ => v2 _ _ (by omega) (by omega)), fun z e z1 z2 => v2 z e (by omega) (by omega)⟩
  · rw [v3]
    by_cases c : i = A.1.length
    · rw [c, if_pos rfl, hd_end]
    · rw [if_neg (by omega), hd_app (by omega)]
      exact t3 i (by omega)
  · rcases List.mem_append.mp hc with z | z
    · exact t4 c z
    · rw [List.mem_singleton.mp z]
      exact ⟨q, q2⟩
/-- wipe -/
theorem jc_1 (hV : jV k A) (h : jC k A T n u m) : wq_2 m (fun x m' => ∃ A', jx1 A x A' ∧ jC (k + 1) A' T n u m' ∧ jG m m') := by
  unfold wq_2
  have v2 : ∀ (z : Nat) (e : Int), ¬ (z = 2 ∧ e = 1) → hy_u m 2 1 0 z e = m z e := fun z e z2 => if_neg z2
  exact ⟨([], A.2), ⟨h.1.1, rfl⟩, jC_lo hV h (fun z e z1 _ _ => v2 z e (by omega)) (v2 _ _ (by omega)) ⟨hy_us _ _ _ _, Nat.zero_le _, fun i hi => absurd hi (Nat.not_lt_zero i), fun c hc => by cases hc⟩ (fun i i1 i2 => by rw [v2 _ _ (by omega)]; exact h.2.1 i i1 i2) (fun e _ => v2 _ _ (by omega)), fun z e z1 z2 => v2 z e (by omega)⟩
theorem jC_pl (h : jC k A T n u m) : A.2.1.length ≤ 20 ∧ m 21 2 = A.2.1.length ∧ A.2.2.1.length ≤ 6 := by
  obtain ⟨-, -, -, -, F, Z, n0, u0, K, M, d1, -⟩ := h
  exact ⟨d1.1.2.2.2.2.1, d1.1.2.2.2.1, d1.2.2.1⟩
/-- fault -/
theorem jc_2 (hV : jV k A) (h : jC k A T n u m) : wq_3 a m (fun x m' => ∃ A', jx2 a A x A' ∧ jC (k + 1) A' T n u m' ∧ jG m m') := by
  obtain ⟨l1, l2, -⟩ := jC_pl h
  unfold wq_3
  refine ⟨fun q => ⟨fun q2 => ⟨A, ⟨rfl, Or.inl ⟨q, q2, rfl⟩⟩, jC_s hV h, fun _ _ _ _ => rfl⟩, fun q2 => sp_69 h.1 h.2.1 (fun r m' f1 k1 hres => ⟨A, ⟨rfl, Or.inr (Or.inr ⟨q2, ?_⟩)⟩, jC_x hV h f1 k1, fun z e z1 z2 => f1 z e (by omega) (by omega)⟩)⟩, fun q => ?_⟩
  · rcases hres with ⟨gs, nv, -, -, rfl, -, -, hr⟩ | ⟨w, rfl, hr⟩
    · exact ⟨_, hr, rfl⟩
    · exact ⟨_, hr, rfl⟩
  · rw [l2, show (20 : Int) - (A.2.1.length : Int) = ((20 - A.2.1.length : Nat) : Int) by omega]
    refine ⟨show -2147483648 ≤ _ ∧ _ < 2147483648 by omega, sp_68 (by omega) h.1 h.2.1 (fun r m' f1 k1 hres => ⟨A, ⟨rfl, Or.inr (Or.inl ⟨q, ?_⟩)⟩, jC_x hV h f1 k1, fun z e z1 z2 => f1 z e (by omega) (by omega)⟩)⟩
    rcases hres with ⟨cls, rfl, hr⟩ | ⟨w, rfl, hr⟩
    · exact ⟨_, hr, rfl⟩
    · exact ⟨_, hr, rfl⟩
/-- consult -/
theorem jc_3 (hV : jV k A) (h : jC k A T n u m) : wq_4 (T, n, u, m) (fun x s' => ∃ A', jx3 A x A' ∧ jC (k + 1) A' s'.1 s'.2.1 s'.2.2.1 s'.2.2.2 ∧ jG m s'.2.2.2 ∧ ∀ b y, T.1 b = some y → s'.1.1 b = some y) := by
  obtain ⟨l1, l2, l3⟩ := jC_pl h
  obtain ⟨F, Z, n0, u0, M, hB, hP, hOk, hM, hFn, hg, hFm⟩ := jC_B hV h
  refine sp_4 (b := z4 Z) (room := 20 - A.2.1.length) hOk.2.2.1 hOk.2.1 hFn hg hP h.2.2.1 h.1 h.2.1 (by omega) (fun m1 w f k1 hw => ⟨A, Or.inl ⟨w, hw, rfl, rfl⟩, jC_x hV h f k1, fun z e z1 z2 => f z e (by omega) (by omega), fun _ _ q => q⟩) (fun cls T' N' U' m' hcr e1 e2 e3 e4 e5 e6 e7 e8 e9 e10 e11 => ⟨_, Or.inr ⟨cls, hcr, rfl, rfl⟩, ?_⟩)
  have hl := phN_len (PL := A.2.1) l3
  have hj := jC_p (d := cls.length) h hB hOk hM e1 e3 ⟨e4, e5⟩ e6 e7 (fun z q => q.imp id (fun y => y.1)) (fun z q => Or.inl q) hFm e8 e10 e11 e9 (by rw [List.length_append]; omega)
  exact ⟨hj.1, hj.2, fun b y q => by
    show T'.1 b = some y
    rw [e1 b (hOk.2.1 b y q)]
    exact q⟩
/-- retract -/
theorem jc_4 (hV : jV k A) (h : jC k A T n u m) : wq_5 a T m (fun x m' => ∃ A', jx4 a A x A' ∧ jC (k + 1) A' T n u m' ∧ jG m m') := by
  obtain ⟨l1, l2, l3⟩ := jC_pl h
  obtain ⟨F, Z, n0, u0, M, hB, hP, hOk, hM, hFn, hg, hFm⟩ := jC_B hV h
  refine sp_5 hg hP (fun q => ⟨A, Or.inl ⟨q, rfl, rfl⟩, jC_s hV h, fun _ _ _ _ => rfl⟩) (fun c m' e1 e2 e3 e4 => ⟨_, Or.inr ⟨c, e1, e2, rfl, rfl⟩, ?_⟩)
  have hl := phN_len (PL := A.2.1) l3
  exact jC_g h hB hOk hM e3 hFm e4 (by rw [List.length_eraseIdx_of_lt e2]; omega)
/-- move -/
theorem jc_5 (hV : jV k A) (h : jC k A T n u m) : wq_6 a b T m (fun x m' => ∃ A', jx5 a b A x A' ∧ jC (k + 1) A' T n u m' ∧ jG m m') := by
  obtain ⟨l1, l2, l3⟩ := jC_pl h
  obtain ⟨F, Z, n0, u0, M, hB, hP, hOk, hM, hFn, hg, hFm⟩ := jC_B hV h
  refine sp_6 hg hP (fun q => ⟨A, Or.inl ⟨q, rfl, rfl⟩, jC_s hV h, fun _ _ _ _ => rfl⟩) (fun c t PL' m' e1 e2 e3 e4 e5 e6 e7 => ⟨_, Or.inr ⟨c, t, PL', e1, e2, e3, e4, e5, rfl, rfl⟩, ?_⟩)
  have hl := phN_len (PL := A.2.1) l3
  exact jC_g h hB hOk hM e6 hFm e7 (by rw [e5.1]; omega)
/-- undo -/
theorem jc_6 (hV : jV k A) (h : jC k A T n u m) : wq_7 T m (fun x m' => ∃ A', jx6 A x A' ∧ jC (k + 1) A' T n u m' ∧ jG m m') := by
  obtain ⟨l1, l2, l3⟩ := jC_pl h
  obtain ⟨F, Z, n0, u0, M, hB, hP, hOk, hM, hFn, hg, hFm⟩ := jC_B hV h
  refine sp_7 hg hP (fun q => ⟨A, Or.inl ⟨q, rfl, rfl⟩, jC_s hV h, fun _ _ _ _ => rfl⟩) (fun PHi PLo m' e1 e2 e3 => ⟨_, Or.inr ⟨PHi, PLo, e1, rfl, rfl⟩, ?_⟩)
  exact jC_g h hB hOk hM e2 hFm e3 (by rw [e1, List.length_append, show [PLo].length = 1 from rfl]; omega)
/-- told -/
theorem jc_7 (hV : jV k A) (h : jC k A T n u m) : wq_8 a T m (fun x m' => ∃ A', jx7 a A x A' ∧ jC (k + 1) A' T n u m' ∧ jG m m') := by
  obtain ⟨F, Z, n0, u0, M, hB, hP, hOk, hM, hFn, hg, hFm⟩ := jC_B hV h
  exact sp_8 hP h.1 ⟨A, ⟨rfl, rfl⟩, jC_s hV h, fun _ _ _ _ => rfl⟩
theorem jC_st (hV : jV k A) (h : jC k A T n u m) : (A.2.2.2 = none → m 36 10 = 0) ∧ ∀ q : qE × qA, A.2.2.2 = some q → m 36 10 = (qn q.2 0 : Nat) ∧ 1 ≤ qn q.2 0 ∧ qOK q.1 q.2 ∧ cNm m q.2 := by
  obtain ⟨-, -, -, -, F, Z, n0, u0, K, M, d1, d2, d3, d4, dF, d5⟩ := h
  refine ⟨fun e => (d5.1 e).2.1, fun q e => ?_⟩
  obtain ⟨g1, g2, g3, g4⟩ := hV.2.2 q.1 q.2 e
  have hA := d5.2 q e
  exact ⟨hA.2.1.1, g2.2.2.1.1, g2.1, hA.1.2.1⟩
/-- clause -/
theorem jc_8 (hV : jV k A) (h : jC k A T n u m) : wq_9 a b T m (fun x m' => ∃ A', jx8 a b A x A' ∧ jC (k + 1) A' T n u m' ∧ jG m m') := by
  obtain ⟨l1, l2, l3⟩ := jC_pl h
  obtain ⟨F, Z, n0, u0, M, hB, hP, hOk, hM, hFn, hg, hFm⟩ := jC_B hV h
  obtain ⟨s1, s2⟩ := jC_st hV h
  refine sp_9 hP.1 (fun q => ⟨A, ⟨rfl, Or.inl ⟨q, rfl⟩⟩, jC_s hV h, fun _ _ _ _ => rfl⟩) (fun c cl r e1 e2 e3 => ⟨A, ⟨rfl, Or.inr ⟨c, cl, e1, e2, ?_⟩⟩, jC_s hV h, fun _ _ _ _ => rfl⟩)
  have hc := (List.getElem?_eq_some_iff.mp e2).1
  have t1 : (if m 36 10 = 0 then 0 else m 39 a) = jT A c ∧ (if m 36 10 = 0 then 0 else m 40 a) = jU A c := by
    unfold jT jU
    cases e : A.2.2.2 with
    | none => exact ⟨if_pos (s1 e), if_pos (s1 e)⟩
    | some q =>
      obtain ⟨g1, g2, g3, g4⟩ := s2 q e
      have := g4.2.2.2.2.2 c (by omega)
      rw [if_neg (by omega), if_neg (by omega), e1]
      exact ⟨this.1, this.2.1⟩
  rw [t1.1, t1.2] at e3
  exact e3
theorem cB0_l (h : cB0 F K T m Z) (hl : cLs Z T m m') : cB0 F K T m' Z := by
  obtain ⟨hR, hO, hG, h47, h53⟩ := h
  obtain ⟨hf, a, ha, hTa⟩ := hl
  obtain ⟨ne1, ne2, ne3, ne4, ne5, ne6, ne7, ne8, ne9, ne10, ne11, ne12, ne13, ne14⟩ := cRo_ne hR
  obtain ⟨zz1, zz2, zz3, zz4, zz5, zz6, zz7⟩ := cRo_z hR
  have b1 := (hR.1.2 (z1 Z) (by unfold rwL; simp)).2.2.2.2.1
  have low : ∀ (b : Nat) (e : Int), b < 42 → m' b e = m b e := fun b e q => hf b e (by omega) (by omega) (by omega) (by omega) (by omega)
  refine ⟨cRo_d hR hf, cOb_m hO (fun e => low _ _ (by omega)) (fun e => low _ _ (by omega)), ⟨hG.1, fun i i1 i2 => ?_, hG.2.2⟩, ?_, ?_⟩
  · by_cases c : i = 1
    · rw [c]
      exact ⟨a, 9, ha, hTa⟩
    · obtain ⟨a', nv, g1, g2⟩ := hG.2.1 i i1 i2
      exact ⟨a', nv, by rw [hf _ _ (fun z => c z.2) (fun z => ne1 z.1) (fun z => ne2 z.1) (by omega) (by omega)]; exact g1, g2⟩
  · rw [hf 47 _ (by omega) (by omega) (fun z => ne9 z.1.symm) (by omega) (by omega)]; exact h47
  · rw [hf 53 _ (fun z => ne13 z.1.symm) (fun z => ne14 z.1.symm) (fun z => ne10 z.1.symm) (by omega) (by omega)]; exact h53
/-- listing -/
theorem jc_9 (hV : jV k A) (h : jC k A T n u m) : wq_10 a b T m (fun x m' => ∃ A', jx9 a b A x A' ∧ jC (k + 1) A' T n u m' ∧ jG m m') := by
  have hs : jC (k + 1) A T n u m ∧ jG m m := ⟨jC_s hV h, fun _ _ _ _ => rfl⟩
  have hcT := h.1
  have hk5 := h.2.1
  have hrr := h.2.2.1
  obtain ⟨-, -, -, c4, F, Z, n0, u0, K, M, d1, d2, d3, d4, dF, d5⟩ := h
  have hR : cRo F T m Z := by
    cases e : A.2.2.2 with
    | none => exact (d5.1 e).1.1
    | some q => exact (d5.2 q e).1.1.1
  refine sp_10 hR d1.1 hV.1 (fun q => ⟨A, ⟨rfl, Or.inl ⟨q, rfl⟩⟩, hs⟩) (fun c cl m' e1 e2 e3 hl => ⟨A, ⟨rfl, Or.inr ⟨c, cl, e1, e2, e3, rfl⟩⟩, ?_⟩)
  obtain ⟨ne1, ne2, ne3, ne4, ne5, ne6, ne7, ne8, ne9, ne10, ne11, ne12, ne13, ne14⟩ := cRo_ne hR
  obtain ⟨zz1, zz2, zz3, zz4, zz5, zz6, zz7⟩ := cRo_z hR
  have hf := hl.1
  have lo : ∀ (b : Nat) (e : Int), b < 42 → m' b e = m b e := fun b e q => hf b e (by omega) (by omega) (by omega) (by omega) (by omega)
  have m47 : ∀ e, m' 47 e = m 47 e := fun e => hf 47 _ (by omega) (by omega) (fun z => ne9 z.1.symm) (by omega) (by omega)
  have m53 : ∀ e, m' 53 e = m 53 e := fun e => hf 53 _ (fun z => ne13 z.1.symm) (fun z => ne14 z.1.symm) (fun z => ne10 z.1.symm) (by omega) (by omega)
  have hFc : ∀ (z : Nat) (e : Int), F z → m' z e = m z e := fun z e hz => hf z e (fun q => (hR.1.2 (z1 Z) (by unfold rwL; simp)).2.2.2.2.2 (q.1 ▸ hz)) (fun q => (hR.1.2 (z2 Z) (by unfold rwL; simp)).2.2.2.2.2 (q.1 ▸ hz)) (fun q => (hR.1.2 (z4 Z) (by unfold rwL; simp)).2.2.2.2.2 (q.1 ▸ hz)) (by have := hR.2.1 z hz; omega) (by have := hR.2.1 z hz; omega)
  refine ⟨⟨cTx_lo (fun z e q => lo z e (by omega)) hcT, fun i i1 i2 => by rw [lo _ _ (by omega)]; exact hk5 i i1 i2, rRef_lo (fun _ _ q => q) (fun e _ => lo _ _ (by omega)) hrr, c4, F, Z, n0, u0, K, M, cPs_fr d1 (lo _ _ (by omega)) (fun z e q => ?_), d2, ⟨d3.1, d3.2.1, by omega⟩, by omega, dF, fun q => ?_, fun q hq => ?_⟩, fun z e z1 z2 => hFc z e (dF z z1 z2)⟩
  · rcases q with q | q
    · exact hFc z e q
    · exact lo z e (by omega)
  · obtain ⟨i1, i2, i3, i4⟩ := d5.1 q
    exact ⟨cB0_l i1 hl, by rw [lo _ _ (by omega)]; exact i2, by rw [lo _ _ (by omega)]; exact i3, by rw [lo _ _ (by omega)]; exact i4⟩
  · have hA := d5.2 q hq
    have hO := (hV.2.2 q.1 q.2 hq).2.1.1
    exact cAl_f hO hA (cSe_l (fun c hc => (chK_all _ hO.1 c hc).1) hA.1 hl) (fun e => ⟨lo _ _ (by omega), m47 e, m53 e⟩)
/-- overlaps -/
theorem jc_10 (hV : jV k A) (h : jC k A T n u m) : wq_11 a T m (fun x m' => ∃ A', jx10 a A x A' ∧ jC (k + 1) A' T n u m' ∧ jG m m') := by
  obtain ⟨F, Z, n0, u0, M, hB, hP, hOk, hM, hFn, hg, hFm⟩ := jC_B hV h
  have hs : jC (k + 1) A T n u m ∧ jG m m := ⟨jC_s hV h, fun _ _ _ _ => rfl⟩
  unfold wq_11
  refine sp_52 (a := 21) hP.1 (fun q1 q2 => ⟨fun q => absurd q (by decide), fun _ => ?_⟩) (fun q => ⟨fun _ => ⟨A, ⟨rfl, Or.inl ⟨q, rfl⟩⟩, hs⟩, fun z => absurd rfl z⟩)
  obtain ⟨i, rfl⟩ : ∃ i : Nat, a = i := ⟨a.toNat, by omega⟩
  have hi : i < A.2.1.length := by omega
  exact sp_64 (a := 21) hP.1 (List.getElem?_eq_getElem hi) ⟨A, ⟨rfl, Or.inr ⟨i, _, rfl, List.getElem?_eq_getElem hi, rfl⟩⟩, hs⟩
/-- reaches -/
theorem jc_11 (hV : jV k A) (h : jC k A T n u m) : wq_12 a b T m (fun x m' => ∃ A', jx11 a b A x A' ∧ jC (k + 1) A' T n u m' ∧ jG m m') := by
  obtain ⟨F, Z, n0, u0, M, hB, hP, hOk, hM, hFn, hg, hFm⟩ := jC_B hV h
  have hs : jC (k + 1) A T n u m ∧ jG m m := ⟨jC_s hV h, fun _ _ _ _ => rfl⟩
  unfold wq_12
  refine sp_52 (a := 21) hP.1 (fun q1 q2 => ⟨fun q => absurd q (by decide), fun _ => sp_52 (a := 21) hP.1 (fun q3 q4 => ⟨fun q => absurd q (by decide), fun _ => ?_⟩) (fun q => ⟨fun _ => ⟨A, ⟨rfl, Or.inl ⟨fun z => q z.2, rfl⟩⟩, hs⟩, fun z => absurd rfl z⟩)⟩) (fun q => ⟨fun _ => ⟨A, ⟨rfl, Or.inl ⟨fun z => q z.1, rfl⟩⟩, hs⟩, fun z => absurd rfl z⟩)
  obtain ⟨i, rfl⟩ : ∃ i : Nat, a = i := ⟨a.toNat, by omega⟩
  obtain ⟨d, rfl⟩ : ∃ i : Nat, b = i := ⟨b.toNat, by omega⟩
  have hi : i < A.2.1.length := by omega
  have hd : d < A.2.1.length := by omega
  exact sp_65 (a := 21) hP.1 (List.getElem?_eq_getElem hi) hd (fun y hy => ⟨A, ⟨rfl, Or.inr ⟨i, d, _, rfl, rfl, List.getElem?_eq_getElem hi, hd, hy⟩⟩, hs⟩)
/-- ask -/
theorem jc_12 (hV : jV k A) (h : jC k A T n u m) : wq_13 (T, n, u, m) (fun x s' => ∃ A', jx12 A x A' ∧ jC (k + 1) A' s'.1 s'.2.1 s'.2.2.1 s'.2.2.2 ∧ jG m s'.2.2.2 ∧ ∀ b y, T.1 b = some y → s'.1.1 b = some y) := by
  obtain ⟨F, Z, n0, u0, M, hB, hP, hOk, hM, hFn, hg, hFm⟩ := jC_B hV h
  refine sp_13 hB hP hV.1 h.1 h.2.1 h.2.2.1 h.2.2.2.1 hOk (fun m1 w f k1 hw => ⟨A, Or.inl ⟨w, hw, rfl, rfl⟩, jC_x hV h f k1, fun z e z1 z2 => f z e (by omega) (by omega), fun _ _ q => q⟩) (fun gs nv F' Z' T' n' u' m' u0' e1 e2 e3 e4 e5 eF e6 e7 e8 e9 e10 => ⟨(A.1, A.2.1, A.2.2.1, some ((A.2.1, gs, nv), qask)), Or.inr ⟨gs, nv, e1, rfl, rfl⟩, ?_⟩)
  have b1 : n0 + 7 ≤ 119 + 7 * (M + 1) := by omega
  have b2 : u0' ≤ 170454 + 659 * (M + 1) := Nat.le_trans e4 (by
    rw [Nat.mul_succ, ← Nat.add_assoc]
    exact Nat.add_le_add_right hM.2.1 659)
  refine ⟨⟨e9, e8, e10, ⟨e2 _ _ h.2.2.2.1.1, e2 _ _ h.2.2.2.1.2⟩, F', Z', n0 + 7, u0', 12600 * (k + 1), M + 1, e6, e3, ⟨b1, b2, ?_⟩, Nat.le_refl _, fun z z1 z2 => (eF z (hFm z z1 z2)).1, fun q => ?_, fun q hq => ?_⟩, fun z e z1 z2 => (eF z (hFm z z1 z2)).2 e, e2⟩
  · show M + 1 + 10 * A.2.2.1.length ≤ 12 * (k + 1) + A.2.1.length
    omega
  · have q : some ((A.2.1, gs, nv), qask) = none := q
    cases q
  · have hq : some ((A.2.1, gs, nv), qask) = some q := hq
    cases hq
    exact e7
/-- run -/
theorem jc_13 (hk : k ≤ 600) (hV : jV k A) (h : jC k A T n u m) : wq_14 a (T, n, u, m) (fun x s' => ∃ A', jx13 a A x A' ∧ jC (k + 1) A' s'.1 s'.2.1 s'.2.2.1 s'.2.2.2 ∧ jG m s'.2.2.2 ∧ ∀ b y, T.1 b = some y → s'.1.1 b = some y) := by
  have hs : jC (k + 1) A T n u m ∧ jG m m ∧ ∀ b y, T.1 b = some y → T.1 b = some y := ⟨jC_s hV h, fun _ _ _ _ => rfl, fun _ _ q => q⟩
  have hcT := h.1
  have hk5 := h.2.1
  have hrr := h.2.2.1
  obtain ⟨-, -, -, c4, F, Z, n0, u0, K, M, d1, d2, d3, d4, dF, d5⟩ := h
  cases e : A.2.2.2 with
  | none =>
    have h10 := (d5.1 e).2.1
    have no : ∀ q : qE × qA, A.2.2.2 = some q → qn q.2 0 ≠ 1 ∧ qn q.2 0 ≠ 2 := fun q hq => by rw [e] at hq; cases hq
    unfold wq_14
    refine ⟨fun q => ⟨A, Or.inl ⟨by omega, rfl, rfl⟩, hs⟩, fun q => ⟨fun q2 => ⟨fun z => ?_, fun _ => ⟨fun z => ?_, fun _ => ⟨A, Or.inr ⟨⟨q, q2⟩, Or.inl ⟨no, rfl, rfl⟩⟩, hs⟩⟩⟩, fun q2 => ⟨A, Or.inl ⟨by omega, rfl, rfl⟩, hs⟩⟩⟩
    · have z : m 36 10 = 1 := z
      omega
    · have z : m 36 10 = 2 := z
      omega
  | some q =>
    obtain ⟨g1, g2, g3, g4⟩ := hV.2.2 q.1 q.2 e
    refine sp_14 (K := K) (by omega) g2.1 (d5.2 q e) d2 (by omega) (fun z => ⟨A, Or.inl ⟨z, rfl, rfl⟩, hs⟩) (fun z1 z2 z3 z4 => ⟨A, Or.inr ⟨⟨z1, z2⟩, Or.inl ⟨fun q' hq' => ?_, rfl, rfl⟩⟩, hs⟩) (fun lim f1 f2 f3 f4 Z' T' n' u' m' s1 s2 s3 => ⟨_, Or.inr ⟨by omega, Or.inr ⟨q.1, q.2, lim, e, f4, f1, rfl, rfl⟩⟩, ?_⟩)
    · rw [e] at hq'
      cases hq'
      exact ⟨z3, z4⟩
    · have lo : ∀ (z : Nat) (e : Int), z < 36 → m' z e = m z e := fun z e q => s1.2 z e (Or.inl q)
      refine ⟨⟨cTx_lo (fun z e q => lo z e (by omega)) hcT, fun i i1 i2 => by dsimp only; rw [lo _ _ (by omega)]; exact hk5 i i1 i2, rRef_lo s1.1 (fun e _ => lo _ _ (by omega)) hrr, ⟨s1.1 _ _ c4.1, s1.1 _ _ c4.2⟩, F, Z', n0, u0, K, M, cPs_mo d1 (fun _ q => q) s1.1 (lo _ _ (by omega)) (fun z e y => s1.2 z e (by
        rcases y with y | y
        · exact Or.inr (Or.inr y)
        · exact Or.inl (by omega))), s2, ⟨d3.1, d3.2.1, ?_⟩, by omega, dF, fun q => ?_, fun q' hq' => ?_⟩, fun z e z1 z2 => s1.2 z e (Or.inr (Or.inr (dF z z1 z2))), s1.1⟩
      · show M + 10 * A.2.2.1.length ≤ 12 * (k + 1) + A.2.1.length
        omega
      · cases q
      · cases hq'
        exact s3
/-- stop -/
theorem jc_14 (hV : jV k A) (h : jC k A T n u m) : wq_15 T m (fun x m' => ∃ A', jx14 A x A' ∧ jC (k + 1) A' T n u m' ∧ jG m m') := by
  obtain ⟨l1, l2, l3⟩ := jC_pl h
  obtain ⟨s1, s2⟩ := jC_st hV h
  obtain ⟨F, Z, n0, u0, M, hB, hP, hOk, hM, hFn, hg, hFm⟩ := jC_B hV h
  refine sp_15 hB hOk.2.1 hOk.2.2.1 (fun q => ⟨A, Or.inl ⟨?_, rfl, rfl⟩, jC_s hV h, fun _ _ _ _ => rfl⟩) (fun m' e1 e2 e3 => ?_)
  · cases e : A.2.2.2 with
    | none => rfl
    | some q' =>
      have := (s2 q' e).1
      have := (s2 q' e).2.1
      omega
  · obtain ⟨q', e⟩ : ∃ q', A.2.2.2 = some q' := by
      cases e : A.2.2.2 with
      | none => exact absurd (s1 e) e1
      | some q' => exact ⟨q', rfl⟩
    have hz := (hB.1.1.2 (z4 Z) (by unfold rwL; simp)).1
    refine ⟨_, Or.inr ⟨q', e, (s2 q' e).1, rfl⟩, jC_g h hB hOk hM (cPs_fr hP ?_ (fun z x q => ?_)) hFm (fun z x _ _ => e2 z x) (by omega)⟩
    · rw [e2, cFin_o (by omega) (by omega) (by omega)]
    · rw [e2]
      have hz4 := (hB.1.1.2 (z4 Z) (by unfold rwL; simp)).2.2.2.2.2
      rcases q with q | q
      · have := hB.1.2.1 z q
        exact cFin_o (by omega) (by omega) (fun w => hz4 (w.1 ▸ q))
      · exact cFin_o (by omega) (by omega) (by omega)
/-- state -/
theorem jc_15 (hV : jV k A) (h : jC k A T n u m) : wq_16 a T m (fun x m' => ∃ A', jx15 a A x A' ∧ jC (k + 1) A' T n u m' ∧ jG m m') := by
  have hs : jC (k + 1) A T n u m ∧ jG m m := ⟨jC_s hV h, fun _ _ _ _ => rfl⟩
  obtain ⟨-, -, -, -, F, Z, n0, u0, K, M, d1, d2, d3, d4, dF, d5⟩ := h
  cases e : A.2.2.2 with
  | none =>
    have h10 := (d5.1 e).2.1
    unfold wq_16
    exact ⟨fun q => ⟨A, ⟨rfl, Or.inl ⟨e, (if_neg (by omega)).symm⟩⟩, hs⟩, fun q => ⟨fun q2 => ⟨fun z => absurd h10 z, fun _ => ⟨A, ⟨rfl, Or.inl ⟨e, (if_pos ⟨q, q2⟩).symm⟩⟩, hs⟩⟩, fun q2 => ⟨A, ⟨rfl, Or.inl ⟨e, (if_neg (by omega)).symm⟩⟩, hs⟩⟩⟩
  | some q =>
    obtain ⟨g1, g2, g3, g4⟩ := hV.2.2 q.1 q.2 e
    have := g2.2.2.1.1
    exact sp_16 g2.1 (d5.2 q e) (by omega) ⟨A, ⟨rfl, Or.inr ⟨q, e, rfl⟩⟩, hs⟩
/-- variable -/
theorem jc_16 (hV : jV k A) (h : jC k A T n u m) : wq_17 a b T m (fun x m' => ∃ A', jx16 a b A x A' ∧ jC (k + 1) A' T n u m' ∧ jG m m') := by
  have hs : jC (k + 1) A T n u m ∧ jG m m := ⟨jC_s hV h, fun _ _ _ _ => rfl⟩
  obtain ⟨-, -, -, -, F, Z, n0, u0, K, M, d1, d2, d3, d4, dF, d5⟩ := h
  cases e : A.2.2.2 with
  | none =>
    have h10 := (d5.1 e).2.1
    unfold wq_17 wq_107
    exact ⟨fun _ => ⟨fun _ => ⟨A, ⟨rfl, Or.inl ⟨e, rfl⟩⟩, hs⟩, fun z => absurd rfl z⟩, fun z => absurd h10 z⟩
  | some q =>
    obtain ⟨g1, g2, g3, g4⟩ := hV.2.2 q.1 q.2 e
    have := g2.2.2.1.1
    exact sp_17 g2.1 (d5.2 q e) (fun z => ⟨A, ⟨rfl, Or.inr ⟨q, e, Or.inl ⟨fun w => z ⟨by omega, w⟩, rfl⟩⟩⟩, hs⟩) (fun v r f1 f2 f3 f4 => ⟨A, ⟨rfl, Or.inr ⟨q, e, Or.inr ⟨v, f1, f2, f4⟩⟩⟩, hs⟩)
/-- value -/
theorem jc_17 (hV : jV k A) (h : jC k A T n u m) : wq_18 a b T m (fun x m' => ∃ A', jx17 a b A x A' ∧ jC (k + 1) A' T n u m' ∧ jG m m') := by
  have hs : jC (k + 1) A T n u m ∧ jG m m := ⟨jC_s hV h, fun _ _ _ _ => rfl⟩
  have hh := h
  obtain ⟨-, -, -, -, F, Z, n0, u0, K, M, d1, d2, d3, d4, dF, d5⟩ := h
  cases e : A.2.2.2 with
  | none =>
    have h10 := (d5.1 e).2.1
    unfold wq_18 wq_107
    exact ⟨fun _ => ⟨fun _ => ⟨A, ⟨rfl, Or.inl ⟨e, rfl⟩⟩, hs⟩, fun z => absurd rfl z⟩, fun z => absurd h10 z⟩
  | some q =>
    obtain ⟨g1, g2, g3, g4⟩ := hV.2.2 q.1 q.2 e
    have := g2.2.2.1.1
    exact sp_18 g2.1 (d5.2 q e) (fun z => ⟨A, ⟨rfl, Or.inr ⟨q, e, Or.inl ⟨fun w => z ⟨by omega, w⟩, rfl⟩⟩⟩, hs⟩) (fun v m' f1 f2 f3 f4 f5 => ⟨A, ⟨rfl, Or.inr ⟨q, e, Or.inr ⟨v, f1, f2, f4, rfl⟩⟩⟩, jC_d hV hh f5, fun z e z1 z2 => f5 z e (by omega) (by omega)⟩)
/-- goal -/
theorem jc_18 (hV : jV k A) (h : jC k A T n u m) : wq_19 a T m (fun x m' => ∃ A', jx18 a A x A' ∧ jC (k + 1) A' T n u m' ∧ jG m m') := by
  have hs : jC (k + 1) A T n u m ∧ jG m m := ⟨jC_s hV h, fun _ _ _ _ => rfl⟩
  have hh := h
  obtain ⟨-, -, -, -, F, Z, n0, u0, K, M, d1, d2, d3, d4, dF, d5⟩ := h
  cases e : A.2.2.2 with
  | none =>
    have h6 := (d5.1 e).2.2.1
    unfold wq_19
    exact ⟨fun q => ⟨fun _ => ⟨A, ⟨rfl, Or.inr (Or.inl ⟨q, e, rfl⟩)⟩, hs⟩, fun z => absurd h6 z⟩, fun q => ⟨A, ⟨rfl, Or.inl ⟨q, rfl⟩⟩, hs⟩⟩
  | some q =>
    obtain ⟨g1, g2, g3, g4⟩ := hV.2.2 q.1 q.2 e
    exact sp_19 g2.1 (d5.2 q e).1 g3 (fun z => ⟨A, ⟨rfl, Or.inl ⟨z, rfl⟩⟩, hs⟩) (fun z1 z2 => ⟨A, ⟨rfl, Or.inr (Or.inr ⟨z1, q, e, Or.inl ⟨z2, rfl⟩⟩)⟩, hs⟩) (fun f r m' z1 z2 z3 => ⟨A, ⟨rfl, Or.inr (Or.inr ⟨z1, q, e, Or.inr ⟨f, r, z2, rfl⟩⟩)⟩, jC_d hV hh z3, fun z e z1 z2 => z3 z e (by omega) (by omega)⟩)
/-- frame -/
theorem jc_19 (hV : jV k A) (h : jC k A T n u m) : wq_20 a b T m (fun x m' => ∃ A', jx19 a b A x A' ∧ jC (k + 1) A' T n u m' ∧ jG m m') := by
  have hs : jC (k + 1) A T n u m ∧ jG m m := ⟨jC_s hV h, fun _ _ _ _ => rfl⟩
  obtain ⟨-, -, -, -, F, Z, n0, u0, K, M, d1, d2, d3, d4, dF, d5⟩ := h
  cases e : A.2.2.2 with
  | none =>
    have h6 := (d5.1 e).2.2.1
    have no : ∃ A', jx19 a b A (-1) A' ∧ jC (k + 1) A' T n u m ∧ jG m m := ⟨A, ⟨rfl, Or.inl ⟨e, rfl⟩⟩, hs⟩
    unfold wq_20 wq_109
    rw [h6]
    have all : wq_109_15 a 0 0 T m (fun r1 m1 => (r1 = 0 → (∃ A', jx19 a b A (-1) A' ∧ jC (k + 1) A' T n u m1 ∧ jG m m1)) ∧ (r1 ≠ 0 → (((b = 0 + 0 → (wq_103 r1 T m1 (fun r2 m2 => ∃ A', jx19 a b A r2 A' ∧ jC (k + 1) A' T n u m2 ∧ jG m m2))) ∧ ((b = 0 + 1 → (wq_104 r1 T m1 (fun r3 m3 => ∃ A', jx19 a b A r3 A' ∧ jC (k + 1) A' T n u m3 ∧ jG m m3))) ∧ ((b = 0 + 2 → (T.1 (r1).toNat = some (4, 5) ∧ (wq_128 (m1 ((r1).toNat) 0) T m1 (fun r4 m4 => ∃ A', jx19 a b A r4 A' ∧ jC (k + 1) A' T n u m4 ∧ jG m m4)))) ∧ (True)))) ∧ (b < 0 ∨ 2 < b → (∃ A', jx19 a b A (-1) A' ∧ jC (k + 1) A' T n u m1 ∧ jG m m1))))) := by
      unfold wq_109_15
      intro P hPP
      refine hPP _ _ _ ?_
      unfold wf_109_15
      exact ⟨fun _ => ⟨fun _ => no, fun z => absurd rfl z⟩, fun _ => ⟨fun _ => ⟨fun _ => no, fun z => absurd rfl z⟩, fun z => absurd rfl z⟩⟩
    exact ⟨fun _ => all, fun _ => all⟩
  | some q =>
    obtain ⟨g1, g2, g3, g4⟩ := hV.2.2 q.1 q.2 e
    exact sp_20 g2.1 (d5.2 q e).1 ⟨A, ⟨rfl, Or.inr ⟨q, e, rfl⟩⟩, hs⟩
/-- choice -/
theorem jc_20 (ha : a < 2147483648) (hV : jV k A) (h : jC k A T n u m) : wq_21 a b T m (fun x m' => ∃ A', jx20 a b A x A' ∧ jC (k + 1) A' T n u m' ∧ jG m m') := by
  have hs : jC (k + 1) A T n u m ∧ jG m m := ⟨jC_s hV h, fun _ _ _ _ => rfl⟩
  obtain ⟨-, -, -, -, F, Z, n0, u0, K, M, d1, d2, d3, d4, dF, d5⟩ := h
  cases e : A.2.2.2 with
  | none =>
    have h8 := (d5.1 e).2.2.2
    have no : ∃ A', jx20 a b A (-1) A' ∧ jC (k + 1) A' T n u m ∧ jG m m := ⟨A, ⟨rfl, Or.inl ⟨e, rfl⟩⟩, hs⟩
    unfold wq_21 wq_110
    rw [h8]
    exact ⟨fun _ => ⟨fun _ => no, fun z => absurd rfl z⟩, fun q => ⟨show -2147483648 ≤ _ ∧ _ < 2147483648 by omega, fun _ => ⟨fun _ => no, fun z => absurd rfl z⟩, fun z => by omega⟩⟩
  | some q =>
    obtain ⟨g1, g2, g3, g4⟩ := hV.2.2 q.1 q.2 e
    exact sp_21 ha g2.1 (d5.2 q e).1 ⟨A, ⟨rfl, Or.inr ⟨q, e, rfl⟩⟩, hs⟩
/-- room -/
theorem jC_room (hk : k ≤ 600) (h : jC k A T n u m) : 118 < n ∧ n ≤ 600001 ∧ u ≤ 7302250 := by
  obtain ⟨l1, l2, l3⟩ := jC_pl h
  obtain ⟨-, -, -, -, F, Z, n0, u0, K, M, d1, d2, d3, d4, dF, d5⟩ := h
  have hB : cOb F T m Z ∧ cGd F T m Z := by
    cases e : A.2.2.2 with
    | none => exact ⟨(d5.1 e).1.2.1, (d5.1 e).1.2.2.1⟩
    | some q => exact ⟨(d5.2 q e).1.1.2.2.2.2.1, (d5.2 q e).1.1.2.2.2.2.2⟩
  obtain ⟨o1, o2, o3, o4, o5, o6⟩ := d2
  have f1 := hB.1.1.1
  have f2 := hB.1.2.1
  have hg : (gN (zc Z)).1 ≤ 1000 ∧ (gN (zc Z)).2 ≤ 1000000 := by
    rcases o1 with q | q | q <;> rw [q] <;> decide
  have hn : 118 < n := by
    cases w : T.1 118 with
    | none => exact absurd w (hB.2.1 118 (dF 118 (by omega) (by omega)))
    | some y => exact o2 118 y w
  unfold zN at o4
  unfold zS at o5
  exact ⟨hn, by omega, by omega⟩
end JD
