/-! THE CLASS'S SEARCH: tryClause, backtrack -/
section CX5
variable {E : qE} {l l' TI TI' TL : List Nat} {F : Nat → Prop} {T T' : hy_T} {m m' m1 m2 : hy_m} {Z Z' : cZ} {N N' n u n' u' k n0 u0 K J : Nat} {A A' : qA} {B B' : bM} {s s' : Nat → pE} {Q : sQ}
theorem wIs_len {c1 n2 cap : Nat} {WI : List cEn} (h : wIs E l T m F c1 n2 cap WI) : l.length + 2 ≤ cap ∨ l.length = 0 := by
  cases hll : l with
  | nil => exact Or.inr rfl
  | cons a r =>
    refine Or.inl ?_
    obtain ⟨g1, -, g7⟩ := h
    have hj : l.length - 1 < l.length := by rw [hll, List.length_cons]; omega
    obtain ⟨e, cl, -, -, a3, -, -, a6, -⟩ := g7 _ _ (List.getElem?_eq_getElem hj)
    have := a6.2.2.2.2.2.2
    rw [← hll]
    omega
/-- tryClause -/
theorem sp_101 {c cut : Nat} {g : pE} {x : Int} (hK : K + 13000 < 2147480000) (hp : qPr E A cut) (hc : c < E.1.length) (hS : cSe E F Z N T m A) (hg : cFg (zX Z (qi A).length N) m (tot E (qi A)) (qs A) x g) (hOk : zOk n0 u0 Z T n u) (hCt : cCt m A K 0) (h1 : ∀ Z' T' n' u' m', zSp F T m T' m' → zOk n0 u0 Z' T' n' u' → cSe E F Z' N T' m' (qtry E A c g cut).1 → cCt m' (qtry E A c g cut).1 K 0 → (qtry E A c g cut).2 = true → Q 1 (T', n', u', m')) (h0 : ∀ Z' T' n' u' m', zSp F T m T' m' → zOk n0 u0 Z' T' n' u' → cFl E F Z' N T' m' (qtry E A c g cut).1 → cCt m' (qtry E A c g cut).1 K 0 → (qtry E A c g cut).2 = false → Q 0 (T', n', u', m')) : wq_101 (c : Int) x (cut : Int) (T, n, u, m) Q := by
  have hc20 : c < 20 := by
    have := hp.2.2.2.2.2.2.2.2.2
    omega
  have hln : (qi A).length ≤ 299 := by
    have q1 := hp.2.2.2.2.1
    have q2 := hp.2.2.2.2.2.2.2.2.1
    omega
  have hT4' : qn A 4 ≤ 6000 := by
    have q1 := hp.2.2.2.2.2.2.2.1
    have q2 := hp.2.2.2.2.2.2.2.2.1
    omega
  have hP := hS.1
  have hNm := hS.2.1
  have h3 := hS.2.2.1.1
  have e14 := hNm.2.2.1
  obtain ⟨b39, -, b39', -⟩ := hNm.2.2.2.2.2 c hc20
  unfold wq_101
  dsimp only
  have hd : ∀ (a : Nat) (e : Int), ¬ (a = 36 ∧ e = 14) → ¬ (a = 39 ∧ e = (c : Int)) → hy_u (hy_u m 36 14 (m 36 14 + 1)) 39 (c : Int) (m 39 (c : Int) + 1) a e = m a e := fun a e q1 q2 => by rw [hy_uf q2, hy_uf q1]
  have v14 : hy_u (hy_u m 36 14 (m 36 14 + 1)) 39 (c : Int) (m 39 (c : Int) + 1) 36 14 = m 36 14 + 1 := by rw [hy_ua (by decide), hy_us]
  have v39 : hy_u (hy_u m 36 14 (m 36 14 + 1)) 39 (c : Int) (m 39 (c : Int) + 1) 39 (c : Int) = m 39 (c : Int) + 1 := hy_us _ _ _ _
  refine ⟨fun q => by omega, fun _ => ⟨fun _ => ⟨by rw [e14]; show -2147483648 ≤ _ ∧ _ < 2147483648; omega, by omega, by omega, by omega, by omega, by rw [b39]; show -2147483648 ≤ _ ∧ _ < 2147483648; omega, ?_⟩, fun q => by omega⟩⟩
  generalize hy_u (hy_u m 36 14 (m 36 14 + 1)) 39 (c : Int) (m 39 (c : Int) + 1) = m1 at hd v14 v39
  have hP1 : cPr E F T m1 Z (qi A) := cPr_s hP (fun b e q => hd b e (fun z => q (Or.inl z.1)) (fun z => q (Or.inr (Or.inl z.1))))
  have hFc : ∀ b z, F b → m1 b z = m b z := fun b z hb => by
    have := hP.1.2.1 b hb
    exact hd b z (by omega) (by omega)
  refine sp_53 hP1.2.1 (List.getElem?_eq_getElem hc) (fun a hcl1 hkk h22' => ?_)
  have h22 : m 22 (c : Int) = a := by rw [← hd 22 _ (by omega) (by omega)]; exact h22'
  have hcl : cCl T m F a (some E.1[c].1) E.1[c].2.1 E.1[c].2.2 := cCl_fr hcl1 (fun _ q => q) (fun _ _ _ q => q) (fun b e hb => (hFc b e hb).symm)
  have e41 : m1 41 1 = (z1 Z : Nat) := hP1.1.2.2.2.1.1
  have t41 := hP1.1.2.2.2.1.2
  have e413 : m1 41 3 = ((qi A).length : Int) + 2 := by rw [hd _ _ (by omega) (by omega)]; exact h3
  unfold wq_117
  rw [e41, Int.toNat_natCast]
  refine ⟨113, zc Z, t41, by decide, fun q => sp_101_81 hK hp hc hS hd v14 v39 (by omega) hg hOk hCt h22 hcl hkk h1 h0, fun q => ⟨113, zc Z, by show T.1 (m1 41 1).toNat = _; rw [e41, Int.toNat_natCast]; exact t41, by decide, ?_⟩⟩
  have hz := hOk.1
  have hzz : (zc Z = 20 ∧ (if ((zc Z : Int) * 4) < 302 then ((zc Z : Int) * 4) else 302) = ((80 : Nat) : Int)) ∨ (zc Z = 80 ∧ (if ((zc Z : Int) * 4) < 302 then ((zc Z : Int) * 4) else 302) = ((302 : Nat) : Int)) := by
    rcases hz with z | z | z
    · exact Or.inl ⟨z, by rw [z]; rfl⟩
    · exact Or.inr ⟨z, by rw [z]; rfl⟩
    · omega
  refine ⟨show -2147483648 ≤ _ ∧ _ < 2147483648 by omega, ?_⟩
  have key : ∀ k : Nat, (zc Z = 20 ∧ k = 80) ∨ (zc Z = 80 ∧ k = 302) → wq_85 (k : Int) (T, n, u, m1) (fun _ s4 => wq_101_81 (c : Int) x (cut : Int) (a : Int) s4 Q) := by
    intro k hk
    obtain ⟨y1, y2, y3, y4, y5, y6⟩ := hOk
    refine sp_85 hP1.1 hP1.2.2.2.2.2 y2 y3 y6 (by omega) (by omega) (fun T' m2 hg2 => ?_)
    have hgc := gRo_c (c := (c : Int)) hP.1 y3 hd hg2
    have hOk2 := zOk_G (m := m) (m' := hy_u (hy_u m2 36 14 (m 36 14)) 39 (c : Int) (m 39 (c : Int))) ⟨y1, y2, y3, y4, y5, y6⟩ hk hgc
    have g36 : ∀ (b : Nat) (e : Int), ¬ (b = 36 ∧ e = 14) → ¬ (b = 39 ∧ e = (c : Int)) → m2 b e = hy_u (hy_u m2 36 14 (m 36 14)) 39 (c : Int) (m 39 (c : Int)) b e := fun b e q1 q2 => by rw [hy_uf q2, hy_uf q1]
    have g14 : hy_u (hy_u m2 36 14 (m 36 14)) 39 (c : Int) (m 39 (c : Int)) 36 14 = m 36 14 := by rw [hy_ua (by decide), hy_us]
    have g39 : hy_u (hy_u m2 36 14 (m 36 14)) 39 (c : Int) (m 39 (c : Int)) 39 (c : Int) = m 39 (c : Int) := hy_us _ _ _ _
    generalize hy_u (hy_u m2 36 14 (m 36 14)) 39 (c : Int) (m 39 (c : Int)) = mo at hgc g36 g14 g39 hOk2
    have hwl := wIs_len hP.2.2.2.1
    have hkz : zc Z < k ∧ k ≤ 302 ∧ (qi A).length + 2 < k := by omega
    have hSo := grow_sc (N := N) hp.1 hS y2 y3 hkz.1 hkz.2.1 hgc
    have fl : ∀ (b : Nat) (e : Int), b < 74 → ¬ (b = 41 ∧ (e = 1 ∨ e = 2 ∨ e = 4 ∨ e = 5)) → ¬ (b = 47 ∧ (e = 1 ∨ e = 2 ∨ e = 4 ∨ e = 6 ∨ e = 8)) → ¬ (b = 53 ∧ (e = 1 ∨ e = 3 ∨ e = 5 ∨ e = 6)) → mo b e = m b e := fun b e q1 q2 q3 q4 => hgc.2.2.2.1 b e (Nat.lt_of_lt_of_le q1 y3) q2 q3 q4
    have hFo : ∀ b z, F b → mo b z = m b z := fun b z hb => by
      have h14 := fz3 (hP.1.2.1 b hb)
      refine hgc.2.2.2.1 b z ?_ (fun q => h14.1 q.1) (fun q => h14.2.1 q.1) (fun q => h14.2.2 q.1)
      cases h : T.1 b with
      | none => exact absurd h (hP.2.2.2.2.2.1 b hb)
      | some x => exact y2 b x h
    have fl2 := hg2.2.2.2.1
    have sp0 : zSp F T m T' mo := ⟨hgc.1, fun b e q => by
      rcases q with q | q | q
      · exact fl b e (by omega) (by omega) (by omega) (by omega)
      · exact fl b e (by omega) (by omega) (by omega) (by omega)
      · exact hFo b e q⟩
    have hTE : tE (zX Z (qi A).length N) m (zX (zGr Z n k) (qi A).length N) mo := tE_s hP hSo.1 (Nat.le_refl _) (Nat.le_refl _) (fun _ q => q) hFo (fun j _ => fl 46 _ (by decide) (by omega) (by omega) (by omega)) (Nat.le_refl _)
    refine sp_101_81 hK hp hc hSo g36 ?_ ?_ hkz.2.2 (cFg_mo hTE (Nat.le_refl _) (fun _ q => q) hg) hOk2 (cCt_fr hCt (fl _ _ (by decide) (by omega) (by omega) (by omega)) (fl _ _ (by decide) (by omega) (by omega) (by omega)) (fl _ _ (by decide) (by omega) (by omega) (by omega)) (fl _ _ (by decide) (by omega) (by omega) (by omega)) rfl rfl rfl rfl) ?_ (cCl_fr hcl (fun _ q => q) (fun b x _ q => hgc.1 b x q) (fun b e hb => hFo b e hb)) hkk (fun Z' T'' n' u' m' a1 a2 a3 a4 a5 => h1 Z' T'' n' u' m' (sp0.tr a1) a2 a3 a4 a5) (fun Z' T'' n' u' m' a1 a2 a3 a4 a5 => h0 Z' T'' n' u' m' (sp0.tr a1) a2 a3 a4 a5)
    · rw [g14, fl2 36 14 (by omega) (by omega) (by omega) (by omega)]; exact v14
    · rw [g39, fl2 39 _ (by omega) (by omega) (by omega) (by omega)]; exact v39
    · rw [fl 22 _ (by decide) (by omega) (by omega) (by omega)]; exact h22
  rcases hzz with ⟨z1', z2'⟩ | ⟨z1', z2'⟩
  · rw [z2']
    exact key 80 (Or.inl ⟨z1', rfl⟩)
  · rw [z2']
    exact key 302 (Or.inr ⟨z1', rfl⟩)
theorem cOb_m (h : cOb F T m Z) (h37 : ∀ e, m' 37 e = m 37 e) (h38 : ∀ e, m' 38 e = m 38 e) : cOb F T m' Z := by
  obtain ⟨⟨o1, o2, o3, o4⟩, o5, o6, o7, o8⟩ := h
  exact ⟨⟨o1, fun j c q => by rw [h37]; exact o2 j c q, fun j q => by rw [h37]; exact o3 j q, o4⟩, o5, fun j c q => by rw [h38]; exact o6 j c q, fun j q => by rw [h38]; exact o7 j q, o8⟩
theorem sp_27_0 {m : hy_m} {Q : Int → hy_m → Prop} (hq : ∀ r, Q r m) : wq_27 0 m Q := by
  unfold wq_27 wq_307
  exact ⟨show -2147483648 ≤ _ ∧ _ < 2147483648 by decide, hq _⟩
theorem iA_0 : iA 0 (0 - 1) = 0 := by decide
/-- the lowest of a list of candidates is taken away -/
theorem bS_lw {x : Int} {c0 : Nat} {L : List Nat} (h : bS x (fun v => decide (v ∈ c0 :: L))) (hp : (c0 :: L).Pairwise (· < ·)) (hl : ∀ v ∈ c0 :: L, v < 20) : (∀ (m : hy_m) (Q : Int → hy_m → Prop), Q (c0 : Int) m → wq_27 x m Q) ∧ bS (iA x (x - 1)) (fun v => decide (v ∈ L)) ∧ (iA x (x - 1) = 0 ↔ L = []) := by
  obtain ⟨p1, p2⟩ := List.pairwise_cons.mp hp
  have h0 := hl c0 (List.mem_cons_self ..)
  have hx : x ≠ 0 := fun q => by
    have := (bS_z h).mp q c0 h0
    rw [decide_eq_true (List.mem_cons_self ..)] at this
    cases this
  obtain ⟨c1, y1, y2, y3, y4, y5⟩ := bS_low h hx
  have e : c1 = c0 := by
    have hm : c1 ∈ c0 :: L := of_decide_eq_true y2
    by_cases q : c0 < c1
    · have := y3 c0 q
      rw [decide_eq_true (List.mem_cons_self ..)] at this
      cases this
    · rcases List.mem_cons.mp hm with z | z
      · exact z
      · have := p1 c1 z
        omega
  subst e
  have h2 : bS (iA x (x - 1)) (fun v => decide (v ∈ L)) := by
    refine bS_c y5 (fun v _ => ?_)
    by_cases e : v ∈ L
    · rw [decide_eq_true e, decide_eq_true (List.mem_cons_of_mem _ e), decide_eq_false (fun q => by have := p1 v e; omega)]
      rfl
    · rw [decide_eq_false e]
      by_cases e2 : c1 = v
      · rw [decide_eq_true e2, Bool.not_true, Bool.and_false]
      · rw [decide_eq_false (fun q => by
          rcases List.mem_cons.mp q with q | q
          · exact e2 q.symm
          · exact e q), Bool.false_and]
  refine ⟨y4, h2, ?_⟩
  rw [bS_z h2]
  constructor
  · intro q
    cases L with
    | nil => rfl
    | cons y L =>
      have := q y (hl y (List.mem_cons_of_mem _ (List.mem_cons_self ..)))
      rw [decide_eq_true (List.mem_cons_self ..)] at this
      cases this
  · rintro rfl v _
    exact decide_eq_false (fun q => by cases q)
theorem qkeep_1 {c : qC} {r : List qC} : qkeep (qrest A c (c :: r)) r.length = qrest A c r := by
  unfold qkeep
  have : (qh (qrest A c (c :: r))).drop ((qh (qrest A c (c :: r))).length - r.length) = r := by
    show (c :: r).drop ((c :: r).length - r.length) = r
    rw [List.length_cons, Nat.add_sub_cancel_left]
    rfl
  rw [this]
  rfl
end CX5
