/-! THE CLASS WITHOUT A QUERY; A QUERY BEGINS -/
/-- what holds of the search's cells with and without a query -/
def cB0 (F : Nat → Prop) (K : Nat) (T : hy_T) (m : hy_m) (Z : cZ) : Prop := cRo F T m Z ∧ cOb F T m Z ∧ cGd F T m Z ∧ m 47 10 ≤ (K : Int) ∧ m 53 7 ≤ (K : Int)
def cId (F : Nat → Prop) (K : Nat) (T : hy_T) (m : hy_m) (Z : cZ) : Prop := cB0 F K T m Z ∧ m 36 10 = 0 ∧ m 36 6 = 0 ∧ m 36 8 = 0
section CID
variable {E : qE} {F F' : Nat → Prop} {T T' : hy_T} {m m' : hy_m} {Z Z' : cZ} {Q : Int → hy_m → Prop} {x k : Int} {PL : List pCl} {PH : List (List pCl)} {l TI : List Nat} {N N' n n' u n0 u0 K : Nat} {A : qA} {B : bM}
theorem cDy_l (hP : cPr E F T m Z (qi A)) (hP' : cPr E F T m' Z (qi A)) (hk : ∀ c ∈ qh A, c.2.2.2.1.1 ≤ (qi A).length) (h46 : ∀ j : Nat, j < N → m' 46 (j : Int) = m 46 (j : Int)) (hF : ∀ b z, F b → m' b z = m b z) (h4 : ∀ e : Int, ¬ (8 ≤ e ∧ e < 16) → m' (z4 Z) e = m (z4 Z) e) (ht : ∀ e, m' (yt (zU Z)) e = m (yt (zU Z)) e) (h6 : m' 41 6 = m 41 6) (h7 : m' 41 7 = m 41 7) (h8 : m' 36 8 = m 36 8) (hFr : ∀ (j c' : Nat), (zF Z)[j]? = some c' → ∀ z, m' c' z = m c' z) (hCr : ∀ (j c' : Nat), (zC Z)[j]? = some c' → ∀ z, m' c' z = m c' z) (hD : cDy E Z N m A B TI) : cDy E Z N m' A B TI := by
  obtain ⟨d1, ⟨TL, dt, dl, dv⟩, d4, d5, d6, d7⟩ := hD
  have hTE : ∀ k, k ≤ (qi A).length → tE (zX Z k N) m (zX Z k N) m' := fun k hk => tE_s hP hP' hk hk (fun _ q => q) hF h46 (Nat.le_refl _)
  have live : ∀ i n : Nat, xL (zX Z (qi A).length N) i → n < xV (zX Z (qi A).length N) i → m' (z4 Z) (8 * (i : Int) + (n : Int)) = m (z4 Z) (8 * (i : Int) + (n : Int)) := fun i n q1 q2 => by
    have h8 := ((zX_uPr hP N).2.1.2.2.2.2.2 i q1).2.2.2.1
    have hi : i = 0 ∨ 2 ≤ i := by
      have hI := wIs_tk hP.2.2.2.1 (qi A).length (Nat.le_refl _)
      obtain ⟨e, he, rfl⟩ := q1
      rcases wIs_at hI he with ⟨-, g, -⟩ | ⟨j, c, cl, g1, g2, g3, g4, -⟩
      · exact Or.inl g
      · exact Or.inr (by omega)
    exact h4 _ (by omega)
  refine ⟨⟨fun i n q1 q2 => ?_, fun v hv => d1.2 v hv⟩, ⟨TL, ⟨by rw [h6]; exact dt.1, fun i hi => ?_, dt.2.2.1, fun e he => ?_⟩, dl, dv⟩, d4, ?_, by rw [h8]; exact d6, by rw [h7]; exact d7⟩
  · show (_ ∧ m' (z4 Z) _ = -1) ∨ ∃ t, _ ∧ m' (z4 Z) _ ≠ -1 ∧ cTm _ m' (m' (z4 Z) _) t ∧ _
    rw [live i n q1 q2]
    rcases d1.1 i n q1 q2 with q | ⟨t, b1, b2, b3, b4⟩
    · exact Or.inl q
    · exact Or.inr ⟨t, b1, b2, hTE _ (Nat.le_refl _) _ _ b3, b4⟩
  · show m' (yt (zU Z)) _ = _
    rw [ht]; exact dt.2.1 i hi
  · refine ⟨(dt.2.2.2 e he).1, ?_⟩
    obtain ⟨k, hk2⟩ := List.getElem?_of_mem he
    have hkl := (List.getElem?_eq_some_iff.mp hk2).1
    obtain ⟨i, n, a1, a2, a3, -⟩ := dv k e _ hk2 (List.getElem?_eq_getElem (by omega : k < TI.length))
    show m' (z4 Z) _ ≠ -1
    rw [a3, show ((8 * i + n : Nat) : Int) = 8 * (i : Int) + (n : Int) by omega, live i n a1 a2]
    have := (dt.2.2.2 e he).2
    rw [a3, show ((8 * i + n : Nat) : Int) = 8 * (i : Int) + (n : Int) by omega] at this
    exact this
  · exact cCc_mo (Z := Z) (Z' := Z) _ (fun j cc _ q => ⟨q, hCr j cc q⟩) (fun c hc => ⟨fun j c' _ q => ⟨q, hFr j c' q⟩, rfl, hTE _ (hk c hc), rfl, ⟨cCc_tr _ d5 c hc, rfl⟩, rfl, fun i n q1 q2 _ => by
      obtain ⟨s1, s2, s3⟩ := zX_sub (N := N) (N' := N) hP (hk c hc) q1
      exact live i n s1 (by rw [s2]; exact q2)⟩) d5
/-- a listing leaves the search alone -/
theorem cSe_l (hkl : ∀ c ∈ qh A, c.2.2.2.1.1 ≤ (qi A).length) (hS : cSe E F Z N T m A) (hl : cLs Z T m m') : cSe E F Z N T m' A := by
  obtain ⟨hf, a, ha, hTa⟩ := hl
  have hP := hS.1
  have hR := hP.1
  have hO := hP.2.2.2.2.1
  have hzc := hR.2.2.1
  obtain ⟨ne1, ne2, ne3, ne4, ne5, ne6, ne7, ne8, ne9, ne10, ne11, ne12, ne13, ne14⟩ := cRo_ne hR
  obtain ⟨zz1, zz2, zz3, zz4, zz5, zz6, zz7⟩ := cRo_z hR
  have hb69 : ∀ b, b ∈ rwL Z → ¬ (69 ≤ b ∧ b ≤ 73) := fun b q => (hR.1.2 b q).2.2.2.2.1
  -- the writer's cells as they were
  have g1 : ∀ (b : Nat) (e : Int), 69 ≤ b ∧ b ≤ 73 → (fun b e => if 69 ≤ b ∧ b ≤ 73 then m b e else m' b e : hy_m) b e = m b e := fun b e q => if_pos q
  have g2 : ∀ (b : Nat) (e : Int), ¬ (69 ≤ b ∧ b ≤ 73) → (fun b e => if 69 ≤ b ∧ b ≤ 73 then m b e else m' b e : hy_m) b e = m' b e := fun b e q => if_neg q
  generalize (fun b e => if 69 ≤ b ∧ b ≤ 73 then m b e else m' b e : hy_m) = M at g1 g2
  have hM : ∀ (b : Nat) (e : Int), ¬ (b = z1 Z ∧ e = 1) → ¬ (b = z2 Z ∧ e = 1) → ¬ (b = z4 Z ∧ 8 ≤ e ∧ e < 16) → M b e = m b e := fun b e q1 q2 q3 => by
    by_cases c : 69 ≤ b ∧ b ≤ 73
    · exact g1 b e c
    · rw [g2 b e c]
      exact hf b e q1 q2 q3 (by omega) (by omega)
  have hdM : dFx M m' := fun b e q1 q2 => by
    by_cases c : 69 ≤ b ∧ b ≤ 73
    · rw [g1 b e c]
      exact hf b e (fun z => hb69 (z1 Z) (by unfold rwL; simp) (z.1 ▸ c)) (fun z => hb69 (z2 Z) (by unfold rwL; simp) (z.1 ▸ c)) (fun z => hb69 (z4 Z) (by unfold rwL; simp) (z.1 ▸ c)) q1 q2
    · exact (g2 b e c).symm
  have hP' : cPr E F T M Z (qi A) := cPr_p (i := 1) (a := a) (nv := 9) hP (Or.inr rfl) hTa (by omega) (fun b e q1 q2 q3 => hM b e q2 q3 (fun z => q1 (by unfold kEx; simp [z.1]))) (by rw [g2 _ _ (hb69 (z1 Z) (by unfold rwL; simp))]; exact ha)
  have tg1 := hR.2.2.2.1.2
  have tg2 := hR.2.2.2.2.1.2
  have tg4 := hR.2.2.2.2.2.1.2
  have hyt := (hR.1.2 (yt (zU Z)) (by unfold rwL; simp)).1
  have low : ∀ (b : Nat) (e : Int), b < 42 → M b e = m b e := fun b e q => hM b e (by omega) (by omega) (by omega)
  have hFr : ∀ (j c' : Nat), (zF Z)[j]? = some c' → ∀ z, M c' z = m c' z := fun j c' q z => by
    have ht := hO.1.2.1 j c' q
    exact hM c' z (fun w => by rw [w.1, tg1] at ht; have := ht.2.1; injection this with this; injection this with this; omega) (fun w => by rw [w.1, tg2] at ht; have := ht.2.1; injection this with this; injection this with this; omega) (fun w => by rw [w.1, tg4] at ht; have := ht.2.1; injection this with this; injection this with this; omega)
  have hCr : ∀ (j c' : Nat), (zC Z)[j]? = some c' → ∀ z, M c' z = m c' z := fun j c' q z => by
    have ht := hO.2.2.1 j c' q
    exact hM c' z (fun w => by rw [w.1, tg1] at ht; have := ht.2.1; injection this with this; injection this with this; omega) (fun w => by rw [w.1, tg2] at ht; have := ht.2.1; injection this with this; injection this with this; omega) (fun w => by rw [w.1, tg4] at ht; have := ht.2.1; injection this with this; injection this with this; omega)
  have hFc : ∀ b z, F b → M b z = m b z := fun b z hb => hM b z (fun q => (hR.1.2 (z1 Z) (by unfold rwL; simp)).2.2.2.2.2 (q.1 ▸ hb)) (fun q => (hR.1.2 (z2 Z) (by unfold rwL; simp)).2.2.2.2.2 (q.1 ▸ hb)) (fun q => (hR.1.2 (z4 Z) (by unfold rwL; simp)).2.2.2.2.2 (q.1 ▸ hb))
  have h46 : ∀ j : Nat, j < N → M 46 (j : Int) = m 46 (j : Int) := fun j _ => hM 46 _ (fun z => ne11 z.1.symm) (fun z => ne12 z.1.symm) (fun z => ne8 z.1.symm)
  obtain ⟨-, hNm, ⟨h3, h5, h8, hch⟩, B, TI, hD, hRes, hTI⟩ := hS
  have hTE : tE (zX Z (qi A).length N) m (zX Z (qi A).length N) M := tE_s hP hP' (Nat.le_refl _) (Nat.le_refl _) (fun _ q => q) hFc h46 (Nat.le_refl _)
  refine cSe_d hkl ⟨hP', cNm_fr (A := A) hNm (fun e _ _ => low _ _ (by decide)) (fun e => low _ _ (by decide)) (fun e => low _ _ (by decide)), ⟨by rw [low _ _ (by decide)]; exact h3, by rw [low _ _ (by decide)]; exact h5, h8, ?_⟩, B, TI, cDy_l hP hP' hkl h46 hFc (fun e he => hM _ _ (fun z => ne2 z.1.symm) (fun z => ne3 z.1.symm) (fun z => he z.2)) (fun e => hM _ _ (fun z => ne4 z.1.symm) (fun z => ne5 z.1.symm) (fun z => ne6 z.1.symm)) (low _ _ (by decide)) (low _ _ (by decide)) (low _ _ (by decide)) hFr hCr hD, hRes, hTI⟩ hdM
  rw [low 36 6 (by decide)]
  exact cCh_mo hTE (Nat.le_refl _) (fun _ q => q) _ _ _ (fun j c' _ q => ⟨q, hFr j c' q⟩) hch
/-- the rows: which cells they are in -/
theorem cRo_f (hR : cRo F T m Z) (hT : ∀ b x, T.1 b = some x → T'.1 b = some x) (hf : ∀ (b : Nat) (e : Int), (b = 41 ∧ (e = 1 ∨ e = 2 ∨ e = 4 ∨ e = 5)) ∨ b = 47 ∨ b = 53 ∨ b = yj (zU Z) ∨ b = ym (zU Z) ∨ b = (zV Z).2 → m' b e = m b e) (hF1 : fzn F') (hF2 : ∀ b ∈ rwL Z, ¬ F' b) : cRo F' T' m' Z := by
  obtain ⟨r1, r2, r3, r4, r5, r6, r7, r8, r9, r10, r11⟩ := hR
  have r41 : ∀ e : Int, (e = 1 ∨ e = 2 ∨ e = 4 ∨ e = 5) → m' 41 e = m 41 e := fun e q => hf _ e (Or.inl ⟨rfl, q⟩)
  have r47 : ∀ e, m' 47 e = m 47 e := fun e => hf _ e (by simp)
  have r53 : ∀ e, m' 53 e = m 53 e := fun e => hf _ e (by simp)
  refine ⟨⟨r1.1, fun b hb => ?_⟩, hF1, r3, ⟨by rw [r41 _ (by omega)]; exact r4.1, hT _ _ r4.2⟩, ⟨by rw [r41 _ (by omega)]; exact r5.1, hT _ _ r5.2⟩, ⟨by rw [r41 _ (by omega)]; exact r6.1, hT _ _ r6.2⟩, ?_, ?_, ⟨fun z z1 z2 => ?_, fun z => ?_, by rw [r47]; exact r9.2.2⟩, fun z => ?_, by rw [r53]; exact r11⟩
  · have := r1.2 b hb
    exact ⟨this.1, this.2.1, this.2.2.1, this.2.2.2.1, this.2.2.2.2.1, hF2 b hb⟩
  · rw [r47, r47, r47, r47, r47, r41 _ (by omega)]
    exact ⟨⟨r7.1.1, hT _ _ r7.1.2⟩, ⟨r7.2.1.1, hT _ _ r7.2.1.2⟩, ⟨r7.2.2.1.1, hT _ _ r7.2.2.1.2⟩, ⟨r7.2.2.2.1.1, hT _ _ r7.2.2.2.1.2⟩, ⟨r7.2.2.2.2.1.1, hT _ _ r7.2.2.2.2.1.2⟩, r7.2.2.2.2.2.1, hT _ _ r7.2.2.2.2.2.2⟩
  · rw [r53, r53, r53, r53]
    exact ⟨⟨r8.1.1, hT _ _ r8.1.2⟩, ⟨r8.2.1.1, hT _ _ r8.2.1.2⟩, ⟨r8.2.2.1.1, hT _ _ r8.2.2.1.2⟩, r8.2.2.2.1, hT _ _ r8.2.2.2.2⟩
  · rw [hf _ _ (by simp)]; exact r9.1 z z1 z2
  · rw [hf _ _ (by simp), r47]; exact r9.2.1 z
  · rw [hf _ _ (by simp), r53]; exact r10 z
theorem rw_lt (hR : cRo F T m Z) (hW : sWf T n) : ∀ b ∈ rwL Z, b < n := by
  obtain ⟨r1, r2, r3, r4, r5, r6, r7, r8, r9, r10, r11⟩ := hR
  intro b hb
  unfold rwL at hb
  simp only [List.mem_cons, List.not_mem_nil, or_false] at hb
  rcases hb with rfl | rfl | rfl | rfl | rfl | rfl | rfl | rfl | rfl | rfl | rfl
  · exact hW _ _ r4.2
  · exact hW _ _ r5.2
  · exact hW _ _ r6.2
  · exact hW _ _ r7.1.2
  · exact hW _ _ r7.2.1.2
  · exact hW _ _ r7.2.2.1.2
  · exact hW _ _ r7.2.2.2.1.2
  · exact hW _ _ r7.2.2.2.2.1.2
  · exact hW _ _ r7.2.2.2.2.2.2
  · exact hW _ _ r8.2.2.1.2
  · exact hW _ _ r8.2.2.2.2
theorem cFin_v {b : Nat} {st er : Int} (hb : b ≠ 36 ∧ b ≠ 41) : cFin m b st er 36 10 = st ∧ cFin m b st er 36 11 = er ∧ cFin m b st er 36 6 = 0 ∧ cFin m b st er 36 5 = 0 ∧ cFin m b st er 36 8 = 0 ∧ cFin m b st er 41 3 = 2 ∧ cFin m b st er 41 6 = 0 ∧ cFin m b st er 41 7 = 0 ∧ ∀ e : Int, 0 ≤ e → e < 8 → cFin m b st er b e = -1 := by
  obtain ⟨h36, h41⟩ := hb
  unfold cFin
  refine ⟨?_, ?_, ?_, ?_, ?_, ?_, ?_, hy_us _ _ _ _, fun e q1 q2 => ?_⟩
  · rw [hy_ua (by decide), hy_ua (by decide), hy_ua (by decide), mFill_o (by omega), hy_uk (by decide), hy_uk (by decide), hy_uk (by decide), hy_uk (by decide), hy_us]
  · rw [hy_ua (by decide), hy_ua (by decide), hy_ua (by decide), mFill_o (by omega), hy_uk (by decide), hy_uk (by decide), hy_uk (by decide), hy_us]
  · rw [hy_ua (by decide), hy_ua (by decide), hy_ua (by decide), mFill_o (by omega), hy_uk (by decide), hy_uk (by decide), hy_us]
  · rw [hy_ua (by decide), hy_ua (by decide), hy_ua (by decide), mFill_o (by omega), hy_uk (by decide), hy_us]
  · rw [hy_ua (by decide), hy_ua (by decide), hy_ua (by decide), mFill_o (by omega), hy_us]
  · rw [hy_uk (by decide), hy_uk (by decide), hy_us]
  · rw [hy_uk (by decide), hy_us]
  · rw [hy_ua h41, hy_ua h41, hy_ua h41, mFill_s ⟨q1, q2⟩]
/-- the program changes: no query any more -/
theorem cB0_fin (h : cB0 F K T m Z) (hW : sWf T n) (hn : 74 ≤ n) (hT : ∀ z, z < n → T'.1 z = T.1 z) (hF1 : ∀ z, F' z → F z ∨ n ≤ z) (hF2 : ∀ z, F' z → T'.1 z ≠ none) (hk : ∀ (z : Nat) (e : Int), z < n → ¬ (2 ≤ z ∧ z ≤ 13) → ¬ (21 ≤ z ∧ z ≤ 35) → ¬ (z = 1 ∧ e = 4) → m' z e = cFin m (z4 Z) 0 0 z e) : cId F' K T' m' Z := by
  obtain ⟨hR, hO, hG, h47, h53⟩ := h
  have hlt := rw_lt hR hW
  have hTx : ∀ b x, T.1 b = some x → T'.1 b = some x := fun b x q => by rw [hT b (hW b x q)]; exact q
  obtain ⟨ne1, ne2, ne3, ne4, ne5, ne6, ne7, ne8, ne9, ne10, ne11, ne12, ne13, ne14⟩ := cRo_ne hR
  obtain ⟨zz1, zz2, zz3, zz4, zz5, zz6, zz7⟩ := cRo_z hR
  obtain ⟨v10, v11, v6, v5, v8, v3, v46, v7, vb⟩ := cFin_v (m := m) (b := z4 Z) (st := 0) (er := 0) ⟨by omega, by omega⟩
  have hfz : fzn F' := fun b hb => by
    rcases hF1 b hb with q | q
    · exact hR.2.1 b q
    · exact Or.inr (by omega)
  have hk' : ∀ (z : Nat) (e : Int), z < n → 36 ≤ z → ¬ (z = 36 ∧ (e = 5 ∨ e = 6 ∨ e = 8 ∨ e = 10 ∨ e = 11)) → ¬ (z = 41 ∧ (e = 3 ∨ e = 6 ∨ e = 7)) → z ≠ z4 Z → m' z e = m z e := fun z e q1 q2 q3 q4 q5 => by
    rw [hk z e q1 (by omega) (by omega) (by omega)]
    exact cFin_o q3 q4 (fun w => q5 w.1)
  have hRn := hR.1.1
  unfold rwL at hRn
  simp only [List.nodup_cons, List.mem_cons, List.not_mem_nil, or_false, not_or, List.nodup_nil, and_true, not_false_eq_true] at hRn
  obtain ⟨⟨n1, n2, n3, n4, n5, n6, n7, n8, n9, n10⟩, ⟨p1, p2, p3, p4, p5, p6, p7, p8, p9⟩, ⟨q1, q2, q3, q4, q5, q6, q7, q8⟩, -⟩ := hRn
  have rj := hlt (yj (zU Z)) (by unfold rwL; simp)
  have rm := hlt (ym (zU Z)) (by unfold rwL; simp)
  have rv := hlt (zV Z).2 (by unfold rwL; simp)
  have r1 := hlt (z1 Z) (by unfold rwL; simp)
  have bj := (hR.1.2 (yj (zU Z)) (by unfold rwL; simp)).1
  have bm := (hR.1.2 (ym (zU Z)) (by unfold rwL; simp)).1
  have bv := (hR.1.2 (zV Z).2 (by unfold rwL; simp)).1
  refine ⟨⟨cRo_f hR hTx (fun b e q => ?_) hfz (fun b hb hF => ?_), ?_, ?_, ?_, ?_⟩, ?_, ?_, ?_⟩
  · rcases q with q | q | q | q | q | q
    · exact hk' b e (by omega) (by omega) (by omega) (by omega) (by omega)
    · exact hk' b e (by omega) (by omega) (by omega) (by omega) (fun z => ne9 (z.symm.trans q))
    · exact hk' b e (by omega) (by omega) (by omega) (by omega) (fun z => ne10 (z.symm.trans q))
    · rw [q]
      exact hk' _ e rj (by omega) (by omega) (by omega) (fun z => q1 z.symm)
    · rw [q]
      exact hk' _ e rm (by omega) (by omega) (by omega) (fun z => q5 z.symm)
    · rw [q]
      exact hk' _ e rv (by omega) (by omega) (by omega) (fun z => q8 z.symm)
  · rcases hF1 b hF with z | z
    · exact (hR.1.2 b hb).2.2.2.2.2 z
    · have := hlt b hb
      omega
  · obtain ⟨⟨o1, o2, o3, o4⟩, o5, o6, o7, o8⟩ := hO
    have n37 : ∀ e, m' 37 e = m 37 e := fun e => hk' 37 e (by omega) (by omega) (by omega) (by omega) (by omega)
    have n38 : ∀ e, m' 38 e = m 38 e := fun e => hk' 38 e (by omega) (by omega) (by omega) (by omega) (by omega)
    refine ⟨⟨o1, fun j c q => ?_, fun j q => by rw [n37]; exact o3 j q, o4⟩, o5, fun j c q => ?_, fun j q => by rw [n38]; exact o7 j q, o8⟩
    · obtain ⟨b1, b2, b3, b4⟩ := o2 j c q
      refine ⟨by rw [n37]; exact b1, hTx _ _ b2, b3, fun z => ?_⟩
      rcases hF1 c z with w | w
      · exact b4 w
      · have := hW _ _ b2
        omega
    · obtain ⟨b1, b2, b3, b4⟩ := o6 j c q
      refine ⟨by rw [n38]; exact b1, hTx _ _ b2, b3, fun z => ?_⟩
      rcases hF1 c z with w | w
      · exact b4 w
      · have := hW _ _ b2
        omega
  · obtain ⟨g1, g2, nv0, g4⟩ := hG
    refine ⟨hF2, fun i i1 i2 => ?_, nv0, hTx _ _ g4⟩
    obtain ⟨a, nv, b1, b2⟩ := g2 i i1 i2
    exact ⟨a, nv, by rw [hk' _ _ r1 (by omega) (by omega) (by omega) (fun z => ne2 z)]; exact b1, hTx _ _ b2⟩
  · rw [hk' 47 _ (by omega) (by omega) (by omega) (by omega) (fun z => ne9 z.symm)]; exact h47
  · rw [hk' 53 _ (by omega) (by omega) (by omega) (by omega) (fun z => ne10 z.symm)]; exact h53
  · rw [hk 36 _ (by omega) (by omega) (by omega) (by omega)]; exact v10
  · rw [hk 36 _ (by omega) (by omega) (by omega) (by omega)]; exact v6
  · rw [hk 36 _ (by omega) (by omega) (by omega) (by omega)]; exact v8
/-- stop -/
theorem sp_15 (hB : cB0 F K T m Z) (hW : sWf T n) (hn : 74 ≤ n) (h0 : m 36 10 = 0 → Q (-2) m) (hq : ∀ m', m 36 10 ≠ 0 → (∀ (z : Nat) (e : Int), m' z e = cFin m (z4 Z) 0 0 z e) → cId F K T m' Z → Q (m 36 10) m') : wq_15 T m Q := by
  have h4 := hB.1.2.2.2.2.2.1
  have hz := hB.1.2.2.1
  unfold wq_15 wq_87
  refine ⟨fun q => sp_88 (b := z4 Z) h4.1 h4.2 (by omega) (by omega) (hq _ q (fun _ _ => rfl) (cB0_fin hB hW hn (fun _ _ => rfl) (fun z q => Or.inl q) (fun z q => hB.2.2.1.1 z q) (fun _ _ _ _ _ _ => rfl))), h0⟩
theorem cAl_B (hA : cAl E F K Z T m A) (hO : qOK E A) : cB0 F (K + 12600) T m Z := by
  obtain ⟨hS, -, h1, h2⟩ := hA
  obtain ⟨hln, hlc, h4, h8⟩ := hO.len
  have h3 := hO.2.2.2.2.2.2.2.1
  exact ⟨hS.1.1, hS.1.2.2.2.2.1, hS.1.2.2.2.2.2, by omega, by omega⟩
end CID
