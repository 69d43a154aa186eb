/-! THE CLASS'S SEARCH: new frames -/
def zSt (Z : cZ) (FC CC : List Nat) : cZ := (zW Z, FC, CC, Z.2.2.2)
/-- what the machine's room holds -/
def zRm (n0 u0 : Nat) (Z : cZ) (n u : Nat) : Prop := n = n0 + (zF Z).length + (zC Z).length ∧ u = u0 + 5 * (zF Z).length + 6 * (zC Z).length
section CF
variable {E : qE} {l l' TI TI' TL : List Nat} {F : Nat → Prop} {T T' : hy_T} {m m' : hy_m} {Z Z' : cZ} {N N' n u : Nat} {A : qA} {B B' : bM} {s s' : Nat → pE} {Q : sQ} {c : qC} {r : List qC} {FC CC : List Nat}
theorem cPr_x (hP : cPr E F T m Z l) (hT : ∀ b x, T.1 b = some x → T'.1 b = some x) (hO' : cOb F T' m' (zSt Z FC CC)) (hf : ∀ (a : Nat) (e : Int), a ≠ 37 → a ≠ 38 → (a < 74 ∨ T.1 a ≠ none) → ¬ kEx Z a e → m' a e = m a e) : cPr E F T' m' (zSt Z FC CC) l := by
  obtain ⟨hR, p2, p3, p4, p5, p6⟩ := hP
  have no : ∀ {a : Nat} {e : Int}, a ≠ 37 → a ≠ 38 → (a < 74 ∨ T.1 a ≠ none) → ((a < 74 ∧ a ≠ 36 ∧ a ≠ 39 ∧ a ≠ 40 ∧ a ≠ 46 ∧ ¬ (a = 41 ∧ (e = 3 ∨ e = 6 ∨ e = 7)) ∧ a < 42) ∨ F a ∨ a = 47 ∨ a = 53 ∨ a = z1 Z ∨ a = z2 Z ∨ a = yj (zU Z) ∨ a = yq (zU Z) ∨ a = ys (zU Z) ∨ a = yp (zU Z) ∨ a = ym (zU Z) ∨ a = (zV Z).1 ∨ a = (zV Z).2) → m' a e = m a e := fun q1 q2 q3 h => hf _ _ q1 q2 q3 (kEx_no hR p5 h)
  have hFc : ∀ b z, F b → m' b z = m b z := fun b z hb => no (by have := hR.2.1 b hb; omega) (by have := hR.2.1 b hb; omega) (Or.inr (p6.1 b hb)) (Or.inr (Or.inl hb))
  have n41 : ∀ e : Int, ¬ (e = 3 ∨ e = 6 ∨ e = 7) → m' 41 e = m 41 e := fun e he => no (by decide) (by decide) (Or.inl (by decide)) (Or.inl ⟨by decide, by decide, by decide, by decide, by decide, fun q => he q.2, by decide⟩)
  have n47 : ∀ e : Int, m' 47 e = m 47 e := fun e => no (by decide) (by decide) (Or.inl (by decide)) (by simp)
  have n53 : ∀ e : Int, m' 53 e = m 53 e := fun e => no (by decide) (by decide) (Or.inl (by decide)) (by simp)
  have hb : ∀ b ∈ rwL Z, 42 ≤ b := fun b q => (hR.1.2 b q).1
  have row : ∀ (b : Nat) (e : Int), b ∈ rwL Z → (∃ x, T.1 b = some x) → (b = z1 Z ∨ b = z2 Z ∨ b = yj (zU Z) ∨ b = yq (zU Z) ∨ b = ys (zU Z) ∨ b = yp (zU Z) ∨ b = ym (zU Z) ∨ b = (zV Z).1 ∨ b = (zV Z).2) → m' b e = m b e := fun b e q1 ⟨x, q2⟩ q3 => no (by have := hb b q1; omega) (by have := hb b q1; omega) (Or.inr (by rw [q2]; simp)) (Or.inr (Or.inr (Or.inr (Or.inr q3))))
  have p2' := p2
  obtain ⟨t21, -, t22, -⟩ := p2'
  obtain ⟨r1, r2, r3, r4, r5, r6, r7, r8, r9, r10, r11⟩ := hR
  have row1 : ∀ e, m' (z1 Z) e = m (z1 Z) e := fun e => row _ e (by unfold rwL; simp) ⟨_, r4.2⟩ (by simp)
  have row2 : ∀ e, m' (z2 Z) e = m (z2 Z) e := fun e => row _ e (by unfold rwL; simp) ⟨_, r5.2⟩ (by simp)
  have rowj : ∀ e, m' (yj (zU Z)) e = m (yj (zU Z)) e := fun e => row _ e (by unfold rwL; simp) ⟨_, r7.1.2⟩ (by simp)
  have rowm : ∀ e, m' (ym (zU Z)) e = m (ym (zU Z)) e := fun e => row _ e (by unfold rwL; simp) ⟨_, r7.2.2.2.2.1.2⟩ (by simp)
  have rowv : ∀ e, m' (zV Z).2 e = m (zV Z).2 e := fun e => row _ e (by unfold rwL; simp) ⟨_, r8.2.2.2.2⟩ (by simp)
  refine ⟨⟨r1, r2, r3, ⟨by rw [n41 _ (by decide)]; exact r4.1, hT _ _ r4.2⟩, ⟨by rw [n41 _ (by decide)]; exact r5.1, hT _ _ r5.2⟩, ⟨by rw [n41 _ (by decide)]; exact r6.1, hT _ _ r6.2⟩, ?_, ?_, ⟨fun z q1 q2 => ?_, fun z => ?_, ?_⟩, fun z => ?_, ?_⟩, cPo_fr p2 (fun _ q => q) hT (fun b e q => ?_), p3, wIs_fr p4 hT hFc (fun z _ _ _ => row1 z) (fun z _ _ _ => row2 z), hO', cGd_fr p6 hT row1 (n41 _ (by decide))⟩
  · rw [n47, n47, n47, n47, n47, n41 _ (by decide)]
    exact ⟨⟨r7.1.1, hT _ _ r7.1.2⟩, ⟨r7.2.1.1, hT _ _ r7.2.1.2⟩, ⟨r7.2.2.1.1, hT _ _ r7.2.2.1.2⟩, ⟨r7.2.2.2.1.1, hT _ _ r7.2.2.2.1.2⟩, ⟨r7.2.2.2.2.1.1, hT _ _ r7.2.2.2.2.1.2⟩, r7.2.2.2.2.2.1, hT _ _ r7.2.2.2.2.2.2⟩
  · rw [n53, n53, n53, n53]
    exact ⟨⟨r8.1.1, hT _ _ r8.1.2⟩, ⟨r8.2.1.1, hT _ _ r8.2.1.2⟩, ⟨r8.2.2.1.1, hT _ _ r8.2.2.1.2⟩, r8.2.2.2.1, hT _ _ r8.2.2.2.2⟩
  · show m' (yj (zU Z)) z = 0
    rw [rowj]; exact r9.1 z q1 q2
  · show m' (ym (zU Z)) z ≤ _
    rw [rowm, n47]; exact r9.2.1 z
  · rw [n47]; exact r9.2.2
  · show m' (zV Z).2 z ≤ _
    rw [rowv, n53]; exact r10 z
  · rw [n53]; exact r11
  · rcases q with q | q | q
    · exact hFc b e q
    · subst q
      exact no (by decide) (by decide) (Or.inl (by decide)) (Or.inl ⟨by decide, by decide, by decide, by decide, by decide, fun q => absurd q.1 (by decide), by decide⟩)
    · subst q
      exact no (by decide) (by decide) (Or.inl (by decide)) (Or.inl ⟨by decide, by decide, by decide, by decide, by decide, fun q => absurd q.1 (by decide), by decide⟩)
/-- cells of the search that keep what they hold -/
theorem cDy_x (hP : cPr E F T m Z (qi A)) (hP' : cPr E F T' m' (zSt Z FC CC) (qi A)) (hk : ∀ c ∈ qh A, c.2.2.2.1.1 ≤ (qi A).length) (hN : N ≤ N') (h46 : ∀ j : Nat, j < N → m' 46 (j : Int) = m 46 (j : Int)) (hF : ∀ b z, F b → m' b z = m b z) (h4 : ∀ e, m' (z4 Z) e = m (z4 Z) e) (ht : ∀ e, m' (yt (zU Z)) e = m (yt (zU Z)) e) (h6 : m' 41 6 = m 41 6) (h7 : m' 41 7 = m 41 7) (h8 : m' 36 8 = m 36 8) (hFC : ∀ c ∈ qh A, ∀ j c' : Nat, j < c.2.2.2.1.2.2 → (zF Z)[j]? = some c' → FC[j]? = some c' ∧ ∀ z, m' c' z = m c' z) (hCC : ∀ k cc : Nat, k < (qh A).length → (zC Z)[k]? = some cc → CC[k]? = some cc ∧ ∀ z, m' cc z = m cc z) (hD : cDy E Z N m A B TI) : cDy E (zSt Z FC CC) N' m' A B TI := by
  obtain ⟨d1, ⟨TL, dt, dl, dv⟩, d4, d5, d6, d7⟩ := hD
  have hTE : ∀ k, k ≤ (qi A).length → tE (zX Z k N) m (zX (zSt Z FC CC) k N') m' := fun k hk => tE_s hP hP' hk hk (fun _ q => q) hF h46 hN
  refine ⟨⟨fun i n q1 q2 => ?_, fun v hv => d1.2 v hv⟩, ⟨TL, ⟨by rw [h6]; exact dt.1, fun i hi => ?_, dt.2.2.1, fun e he => ?_⟩, dl, dv⟩, d4, ?_, by rw [h8]; exact d6, by rw [h7]; exact d7⟩
  · show (_ ∧ m' (z4 Z) _ = -1) ∨ ∃ t, _ ∧ m' (z4 Z) _ ≠ -1 ∧ cTm _ m' (m' (z4 Z) _) t ∧ _
    rw [h4]
    rcases d1.1 i n q1 q2 with q | ⟨t, b1, b2, b3, b4⟩
    · exact Or.inl q
    · exact Or.inr ⟨t, b1, b2, hTE _ (Nat.le_refl _) _ _ b3, b4⟩
  · show m' (yt (zU Z)) _ = _
    rw [ht]; exact dt.2.1 i hi
  · refine ⟨(dt.2.2.2 e he).1, ?_⟩
    show m' (z4 Z) _ ≠ -1
    rw [h4]; exact (dt.2.2.2 e he).2
  · exact cCc_mo (Z := Z) (Z' := zSt Z FC CC) _ hCC (fun c hc => ⟨hFC c hc, rfl, hTE _ (hk c hc), rfl, ⟨by
      have : ∀ (C : List qC), cCc E Z N m (qi A) TI B C → c ∈ C → c.2.2.2.1.2.1 ≤ TI.length := by
        intro C
        induction C with
        | nil => exact fun _ h => by cases h
        | cons x r ih =>
          intro h hm
          rcases List.mem_cons.mp hm with rfl | hm
          · exact h.2.1.1
          · exact ih h.2.2.2.2 hm
      exact this _ d5 hc, rfl⟩, rfl, fun i n _ _ _ => h4 _⟩) d5
/-- newFrame, and the frames behind it -/
theorem sp_push {f : qF} {L : List qF} {j : Nat} {x1 x2 x3 x4 : Int} {I ni tr : Nat} (hk : chK E (qi A) I (qh A) ni tr j) (hni : ni ≤ (qi A).length) (hP : cPr E F T m Z (qi A)) (hNm : cNm m A) (h3 : m 41 3 = ((qi A).length : Int) + 2) (h5 : m 36 5 = j) (h8 : qn A 8 = j) (hj : j ≤ 601) (hjl : j ≤ (zF Z).length) (hch : cCh (zF Z) (zX Z (qi A).length N) m (tot E (qi A)) (qs A) j L x3) (hD : ∃ B TI, cDy E Z N m A B TI ∧ Res B (qs A) ∧ TI.length = qn A 7) (hW : sWf T n) (hn : 74 ≤ n) (hf : x4 = f.2.2.1 ∧ match f.2.2.2 with
  | none => x1 = f.1 ∧ x2 = f.2.1
  | some g => (f.2.1 = 0 → x1 = -1 ∧ cFg (zX Z (qi A).length N) m (tot E (qi A)) (qs A) x2 g) ∧ (f.2.1 ≠ 0 → x1 = -2)) (hq : ∀ (FC : List Nat) (T' : hy_T) (n' u' : Nat) (m' : hy_m) (c : Nat), (∀ b x, T.1 b = some x → T'.1 b = some x) → sWf T' n' → n' + (zF Z).length = n + FC.length → u' + 5 * (zF Z).length = u + 5 * FC.length → n ≤ n' → (∀ (a : Nat) (e : Int), (a < 74 ∨ T.1 a ≠ none) → a ∉ zF Z → ¬ (a = 36 ∧ e = 5) → a ≠ 37 → m' a e = m a e) → (∀ (i c' : Nat), i < j → (zF Z)[i]? = some c' → ∀ z, m' c' z = m c' z) → cSe E F (zSt Z FC (zC Z)) N T' (hy_u m' 36 6 (c : Int)) (qpush A f L) → Q (c : Int) (T', n', u', m')) : wq_102 x1 x2 x3 x4 (T, n, u, m) Q := by
  obtain ⟨B, TI, hD, hRes, hTI⟩ := hD
  have hO := hP.2.2.2.2.1
  have hall := chK_all _ hk
  have h602 := hO.1.1
  have hlen := cCh_len _ _ _ hch
  -- the frame under
  have hx3 : (x3 = 0 ∧ L = []) ∨ ∃ i c3 : Nat, (zF Z)[i]? = some c3 ∧ i < j ∧ x3 = c3 ∧ m c3 4 = L.length := by
    cases L with
    | nil => exact Or.inl ⟨hch, rfl⟩
    | cons g L =>
      obtain ⟨i, c3, b1, b2, b3, b4, b5, b6⟩ := hch
      exact Or.inr ⟨i, c3, b1, b2, b3, by rw [b5]; rfl⟩
  -- a frame with this cell
  have go : ∀ (FC : List Nat) (T' : hy_T) (n' u' : Nat) (m1 : hy_m) (c : Nat), (∀ b x, T.1 b = some x → T'.1 b = some x) → sWf T' n' → n' + (zF Z).length = n + FC.length → u' + 5 * (zF Z).length = u + 5 * FC.length → n ≤ n' → (∀ (i c' : Nat), i < j → (zF Z)[i]? = some c' → FC[i]? = some c' ∧ c' ≠ c) → FC[j]? = some c → T'.1 c = some (4, 5) → 74 ≤ c → ¬ F c → (c ∈ zF Z ∨ T.1 c = none) → (∀ (a : Nat) (e : Int), a ≠ c → a ≠ 37 → m1 a e = m a e) → (∀ m2 : hy_m, (∀ e, m2 37 e = m1 37 e) → (∀ e, m2 38 e = m1 38 e) → cOb F T' m2 (zSt Z FC (zC Z))) → wq_102_48 x1 x2 x3 x4 (c : Int) (T', n', u', m1) Q := by
    intro FC T' n' u' m1 c hT hW' hn' hu' hnn hFC hFj hTc hc74 hFc hcz hm1 hO'
    have e5 : m1 36 5 = j := by rw [hm1 _ _ (by omega) (by decide)]; exact h5
    have fin : ∀ v4 : Int, v4 = (L.length : Int) + 1 → Q (c : Int) (T', n', u', hy_u (hy_u (hy_u (hy_u (hy_u (hy_u m1 36 5 (m1 36 5 + 1)) c 0 x1) c 1 x2) c 2 x3) c 3 x4) c 4 v4) := by
      intro v4 hv4
      have f1 : ∀ (a : Nat) (e : Int), a ≠ c → ¬ (a = 36 ∧ e = 5) → a ≠ 37 → hy_u (hy_u (hy_u (hy_u (hy_u (hy_u m1 36 5 (m1 36 5 + 1)) c 0 x1) c 1 x2) c 2 x3) c 3 x4) c 4 v4 a e = m a e := fun a e q1 q2 q3 => by
        rw [hy_ua q1, hy_ua q1, hy_ua q1, hy_ua q1, hy_ua q1, hy_uf q2]
        exact hm1 a e q1 q3
      have f37 : ∀ (a : Nat) (e : Int), a = 37 ∨ a = 38 → hy_u (hy_u (hy_u (hy_u (hy_u (hy_u m1 36 5 (m1 36 5 + 1)) c 0 x1) c 1 x2) c 2 x3) c 3 x4) c 4 v4 a e = m1 a e := fun a e q1 => by
        rw [hy_ua (by omega), hy_ua (by omega), hy_ua (by omega), hy_ua (by omega), hy_ua (by omega), hy_ua (by omega)]
      have v0 : hy_u (hy_u (hy_u (hy_u (hy_u (hy_u m1 36 5 (m1 36 5 + 1)) c 0 x1) c 1 x2) c 2 x3) c 3 x4) c 4 v4 c 0 = x1 := by rw [hy_uk (by decide), hy_uk (by decide), hy_uk (by decide), hy_uk (by decide), hy_us]
      have v1 : hy_u (hy_u (hy_u (hy_u (hy_u (hy_u m1 36 5 (m1 36 5 + 1)) c 0 x1) c 1 x2) c 2 x3) c 3 x4) c 4 v4 c 1 = x2 := by rw [hy_uk (by decide), hy_uk (by decide), hy_uk (by decide), hy_us]
      have v2 : hy_u (hy_u (hy_u (hy_u (hy_u (hy_u m1 36 5 (m1 36 5 + 1)) c 0 x1) c 1 x2) c 2 x3) c 3 x4) c 4 v4 c 2 = x3 := by rw [hy_uk (by decide), hy_uk (by decide), hy_us]
      have v3 : hy_u (hy_u (hy_u (hy_u (hy_u (hy_u m1 36 5 (m1 36 5 + 1)) c 0 x1) c 1 x2) c 2 x3) c 3 x4) c 4 v4 c 3 = x4 := by rw [hy_uk (by decide), hy_us]
      have v44 : hy_u (hy_u (hy_u (hy_u (hy_u (hy_u m1 36 5 (m1 36 5 + 1)) c 0 x1) c 1 x2) c 2 x3) c 3 x4) c 4 v4 c 4 = v4 := hy_us _ _ _ _
      have v5 : hy_u (hy_u (hy_u (hy_u (hy_u (hy_u m1 36 5 (m1 36 5 + 1)) c 0 x1) c 1 x2) c 2 x3) c 3 x4) c 4 v4 36 5 = (j : Int) + 1 := by
        rw [hy_ua (by omega), hy_ua (by omega), hy_ua (by omega), hy_ua (by omega), hy_ua (by omega), hy_us, e5]
      generalize hy_u (hy_u (hy_u (hy_u (hy_u (hy_u m1 36 5 (m1 36 5 + 1)) c 0 x1) c 1 x2) c 2 x3) c 3 x4) c 4 v4 = m2 at f1 f37 v0 v1 v2 v3 v44 v5
      have hcN : ∀ a : Nat, (a < 74 ∨ T.1 a ≠ none) → a ∉ zF Z → a ≠ c := fun a q1 q2 q3 => by
        subst q3
        rcases hcz with q | q
        · exact q2 q
        · rcases q1 with q1 | q1
          · omega
          · exact q1 q
      have g1 : ∀ (a : Nat) (e : Int), (a < 74 ∨ T.1 a ≠ none) → a ∉ zF Z → ¬ (a = 36 ∧ e = 5) → a ≠ 37 → m2 a e = m a e := fun a e q1 q2 q3 q4 => f1 a e (hcN a q1 q2) q3 q4
      have g2 : ∀ (i c' : Nat), i < j → (zF Z)[i]? = some c' → ∀ z, m2 c' z = m c' z := fun i c' q1 q2 z => f1 c' z (hFC i c' q1 q2).2 (by have := (hO.1.2.1 i c' q2).2.2.1; omega) (by have := (hO.1.2.1 i c' q2).2.2.1; omega)
      refine hq FC T' n' u' m2 c hT hW' hn' hu' hnn g1 g2 ?_
      have w1 : ∀ (a : Nat) (e : Int), ¬ (a = 36 ∧ e = 6) → hy_u m2 36 6 (c : Int) a e = m2 a e := fun a e q => hy_uf q
      have w6 : hy_u m2 36 6 (c : Int) 36 6 = c := hy_us _ _ _ _
      generalize hy_u m2 36 6 (c : Int) = m3 at w1 w6
      have k1 : ∀ (a : Nat) (e : Int), (a < 74 ∨ T.1 a ≠ none) → a ∉ zF Z → a ≠ 36 → a ≠ 37 → m3 a e = m a e := fun a e q1 q2 q3 q4 => (w1 a e (by omega)).trans (g1 a e q1 q2 (by omega) q4)
      have hP' : cPr E F T' m3 (zSt Z FC (zC Z)) (qi A) := cPr_x hP hT (hO' m3 (fun e => (w1 _ _ (by omega)).trans (f37 _ _ (Or.inl rfl))) (fun e => (w1 _ _ (by omega)).trans (f37 _ _ (Or.inr rfl)))) (fun a e q1 q2 q3 q4 => k1 a e q3 (fun q => q4 (by unfold kEx; simp [q])) (fun q => q4 (Or.inl q)) q1)
      have nzF : ∀ a, (∃ tg nn, T.1 a = some (tg, nn) ∧ tg ≠ 4) → a ∉ zF Z := fun a ⟨tg, nn, q1, q2⟩ q3 => by
        have := (zF_tag hO q3).1
        rw [q1] at this
        injection this with this
        injection this with this
        exact q2 this
      have hFk : ∀ b z, F b → m3 b z = m b z := fun b z hb => k1 b z (Or.inr (hP.2.2.2.2.2.1 b hb)) (fun q => (zF_tag hO q).2.2 hb) (by have := hP.1.2.1 b hb; omega) (by have := hP.1.2.1 b hb; omega)
      obtain ⟨zz1, zz2, zz3, zz4, zz5, zz6, zz7⟩ := cRo_z hP.1
      have hyt := (hP.1.1.2 (yt (zU Z)) (by unfold rwL; simp)).1
      have t4 := hP.1.2.2.2.2.2.1.2
      have tt := hP.1.2.2.2.2.2.2.1.2.2.2.2.2.2
      have small : ∀ a : Nat, a < 74 → a ∉ zF Z := fun a q1 q2 => by
        have := (zF_tag hO q2).2.1
        omega
      have hD' : cDy E (zSt Z FC (zC Z)) N m3 A B TI := cDy_x hP hP' (fun c hc => Nat.le_trans (hall c hc).1 hni) (Nat.le_refl _) (fun j _ => k1 46 _ (Or.inl (by decide)) (small _ (by decide)) (by decide) (by decide)) hFk (fun e => k1 _ e (Or.inr (by rw [t4]; simp)) (nzF _ ⟨_, _, t4, by decide⟩) (by omega) (by omega)) (fun e => k1 _ e (Or.inr (by rw [tt]; simp)) (nzF _ ⟨_, _, tt, by decide⟩) (by omega) (by omega)) (k1 41 6 (Or.inl (by decide)) (small _ (by decide)) (by decide) (by decide)) (k1 41 7 (Or.inl (by decide)) (small _ (by decide)) (by decide) (by decide)) ((w1 _ _ (by omega)).trans (g1 36 8 (Or.inl (by decide)) (small _ (by decide)) (by omega) (by decide))) (fun cc hcc i c' q1 q2 => ⟨(hFC i c' (Nat.lt_of_lt_of_le q1 (hall cc hcc).2.2) q2).1, fun z => (w1 c' z (by have := (hO.1.2.1 i c' q2).2.2.1; omega)).trans (g2 i c' (Nat.lt_of_lt_of_le q1 (hall cc hcc).2.2) q2 z)⟩) (fun k cc _ q => ⟨q, fun z => by
          have ht := hO.2.2.1 k cc q
          exact k1 cc z (Or.inr (by rw [ht.2.1]; simp)) (nzF _ ⟨_, _, ht.2.1, by decide⟩) (by have := ht.2.2.1; omega) (by have := ht.2.2.1; omega)⟩) hD
      have hTE : tE (zX Z (qi A).length N) m (zX (zSt Z FC (zC Z)) (qi A).length N) m3 := tE_s hP hP' (Nat.le_refl _) (Nat.le_refl _) (fun _ q => q) hFk (fun j _ => k1 46 _ (Or.inl (by decide)) (small _ (by decide)) (by decide) (by decide)) (Nat.le_refl _)
      have hjFC : j < FC.length := (List.getElem?_eq_some_iff.mp hFj).1
      have wc : ∀ z, m3 c z = m2 c z := fun z => w1 c z (by omega)
      refine ⟨hP', cNm_fr (A := A) hNm (fun e q1 q2 => (w1 _ _ (by omega)).trans (g1 _ _ (Or.inl (by decide)) (small _ (by decide)) (by omega) (by decide))) (fun e => k1 _ _ (Or.inl (by decide)) (small _ (by decide)) (by decide) (by decide)) (fun e => k1 _ _ (Or.inl (by decide)) (small _ (by decide)) (by decide) (by decide)), ⟨?_, ?_, ?_, ?_⟩, B, TI, hD', hRes, hTI⟩
      · rw [k1 41 3 (Or.inl (by decide)) (small _ (by decide)) (by decide) (by decide)]; exact h3
      · show m3 36 5 = ((qn A 8 + 1 : Nat) : Int)
        rw [w1 _ _ (by omega), v5, h8]
        omega
      · show qn A 8 + 1 ≤ FC.length
        omega
      · show cCh FC (zX Z (qi A).length N) m3 (tot E (qi A)) (qs A) (qn A 8 + 1) (f :: L) (m3 36 6)
        refine ⟨j, c, hFj, by omega, w6, ?_, by rw [wc, v44, hv4], ?_⟩
        · refine ⟨by rw [wc, v3]; exact hf.1, ?_⟩
          cases hg : f.2.2.2 with
          | none =>
            have hf2 := hf.2
            rw [hg] at hf2
            dsimp only
            rw [wc, wc, v0, v1]
            exact hf2
          | some g =>
            have hf2 := hf.2
            rw [hg] at hf2
            dsimp only
            rw [wc, wc, v0, v1]
            exact ⟨fun q => ⟨(hf2.1 q).1, cFg_mo hTE (Nat.le_refl _) (fun _ q => q) (hf2.1 q).2⟩, hf2.2⟩
        · rw [wc, v2]
          exact cCh_mo hTE (Nat.le_refl _) (fun _ q => q) _ _ _ (fun i c' q1 q2 => ⟨(hFC i c' q1 q2).1, fun z => (w1 c' z (by have := (hO.1.2.1 i c' q2).2.2.1; omega)).trans (g2 i c' q1 q2 z)⟩) hch
    unfold wq_102_48
    dsimp only
    rw [Int.toNat_natCast]
    refine ⟨by rw [e5]; show -2147483648 ≤ _ ∧ _ < 2147483648; omega, hTc, hTc, hTc, hTc, fun q => ⟨hTc, fin 1 ?_⟩, fun q => ?_⟩
    · rcases hx3 with ⟨-, q2⟩ | ⟨i, c3, b1, b2, b3, b4⟩
      · rw [q2]; rfl
      · have := (hO.1.2.1 i c3 b1).2.2.1
        omega
    · rcases hx3 with ⟨q2, -⟩ | ⟨i, c3, b1, b2, b3, b4⟩
      · exact absurd q2 q
      · have hi := hFC i c3 b2 b1
        have ht := hO.1.2.1 i c3 b1
        subst b3
        rw [Int.toNat_natCast]
        have e4 : hy_u (hy_u (hy_u (hy_u (hy_u m1 36 5 (m1 36 5 + 1)) c 0 x1) c 1 x2) c 2 (c3 : Int)) c 3 x4 c3 4 = L.length := by
          rw [hy_ua hi.2, hy_ua hi.2, hy_ua hi.2, hy_ua hi.2, hy_ua (by have := ht.2.2.1; omega), hm1 _ _ hi.2 (by have := ht.2.2.1; omega)]
          exact b4
        rw [e4]
        refine ⟨hT _ _ ht.2.1, hTc, show -2147483648 ≤ _ ∧ _ < 2147483648 by omega, fin _ rfl⟩
  unfold wq_102
  dsimp only
  have eif : (if (602 - 1 : Int) < m 36 5 then (602 - 1 : Int) else m 36 5) = j := by
    rw [if_neg (by omega)]
    exact h5
  rw [eif]
  refine ⟨show -2147483648 ≤ _ ∧ _ < 2147483648 by omega, by omega, by omega, fun q => ?_, fun q => ?_⟩
  · -- a new one
    have hjL : j = (zF Z).length := by
      by_cases c : j < (zF Z).length
      · have ht := hO.1.2.1 j _ (List.getElem?_eq_getElem c)
        have h74 := ht.2.2.1
        rw [ht.1] at q
        omega
      · omega
    have hfr : T.1 n = none := by
      cases h : T.1 n with
      | none => rfl
      | some x => exact absurd (hW n x h) (Nat.lt_irrefl _)
    have hFn : ¬ F n := fun h => hP.2.2.2.2.2.1 n h hfr
    have hTe : ∀ b x, T.1 b = some x → (hy_e T n 4 5).1 b = some x := fun b x hb => by
      show (if b = n then some (4, 5) else T.1 b) = some x
      rw [if_neg (fun e => by rw [e, hfr] at hb; cases hb)]
      exact hb
    have hTn : (hy_e T n 4 5).1 n = some (4, 5) := if_pos rfl
    have hnF : n ∉ zF Z := fun h => by
      have := (zF_tag hO h).1
      rw [hfr] at this
      cases this
    have hzz : ∀ (a : Nat) (e : Int), a ≠ n → hy_z m n a e = m a e := fun a e q => if_neg q
    rw [Int.toNat_natCast]
    refine ⟨hTn, ⟨by omega, by omega, by omega, Or.inr ⟨5, hTn, by decide⟩, ?_⟩⟩
    refine go (zF Z ++ [n]) (hy_e T n 4 5) (n + 1) (u + 5) _ n hTe (sWf_e hW) (by rw [List.length_append, List.length_singleton]; omega) (by rw [List.length_append, List.length_singleton]; omega) (Nat.le_succ _) (fun i c' q1 q2 => ⟨by rw [List.getElem?_append_left (by omega)]; exact q2, fun q3 => hnF (q3 ▸ List.mem_of_getElem? q2)⟩) (by rw [hjL, List.getElem?_append_right (Nat.le_refl _), Nat.sub_self]; rfl) hTn hn hFn (Or.inr hfr) (fun a e q1 q2 => by rw [hy_ua q2]; exact hzz a e q1) (fun m2 q1 q2 => ?_)
    obtain ⟨⟨o1, o2, o3, o4⟩, o5, o6, o7, o8⟩ := hO
    have e37 : ∀ e : Int, m2 37 e = if e = (j : Int) then (n : Int) else m 37 e := fun e => by
      rw [q1]
      by_cases c : e = (j : Int)
      · rw [c, hy_us, if_pos rfl]
      · rw [hy_uk c, hzz _ _ (by omega), if_neg c]
    refine ⟨⟨?_, fun i c' hi => ?_, fun e he => ?_, ?_⟩, o5, fun i c' hi => ?_, fun e he => ?_, o8⟩
    · show (zF Z ++ [n]).length ≤ 602
      rw [List.length_append, List.length_singleton]
      omega
    · have hi : (zF Z ++ [n])[i]? = some c' := hi
      rw [e37]
      by_cases c : i < (zF Z).length
      · rw [List.getElem?_append_left c] at hi
        obtain ⟨b1, b2, b3⟩ := o2 i c' hi
        rw [if_neg (by omega)]
        exact ⟨b1, hTe _ _ b2, b3⟩
      · rw [List.getElem?_append_right (by omega)] at hi
        have hi0 : i - (zF Z).length = 0 := by
          have := (List.getElem?_eq_some_iff.mp hi).1
          rw [List.length_singleton] at this
          omega
        rw [hi0] at hi
        have hi : some n = some c' := hi
        injection hi with hi
        subst hi
        rw [if_pos (by omega)]
        exact ⟨rfl, hTn, hn, hFn⟩
    · have he : (((zF Z ++ [n]).length : Nat) : Int) ≤ e := he
      rw [List.length_append, List.length_singleton] at he
      rw [e37, if_neg (by omega)]
      exact o3 e (by omega)
    · show (zF Z ++ [n]).Nodup
      rw [List.nodup_append]
      exact ⟨o4, by simp, fun x hx y hy e => hnF (by rw [List.mem_singleton.mp hy] at e; exact e ▸ hx)⟩
    · rw [q2, hy_ua (by decide), hzz _ _ (by omega)]
      obtain ⟨b1, b2, b3⟩ := o6 i c' hi
      exact ⟨b1, hTe _ _ b2, b3⟩
    · rw [q2, hy_ua (by decide), hzz _ _ (by omega)]
      exact o7 e he
  · have hjL : j < (zF Z).length := by
      by_cases c : j < (zF Z).length
      · exact c
      · exact absurd (hO.1.2.2.1 (j : Int) (by omega)) q
    have hg := List.getElem?_eq_getElem hjL
    obtain ⟨b1, b2, b3, b4⟩ := hO.1.2.1 j _ hg
    rw [b1]
    refine go (zF Z) T n u m _ (fun _ _ q => q) hW rfl rfl (Nat.le_refl _) (fun i c' q1 q2 => ⟨q2, fun q3 => ?_⟩) hg b2 b3 b4 (Or.inl (List.getElem_mem hjL)) (fun a e _ _ => rfl) (fun m2 q1 q2 => ?_)
    · have hi := (List.getElem?_eq_some_iff.mp q2)
      have : i = j := (List.getElem?_inj hi.1 hO.1.2.2.2).mp (by rw [q2, hg, q3])
      omega
    · obtain ⟨⟨o1, o2, o3, o4⟩, o5, o6, o7, o8⟩ := hO
      exact ⟨⟨o1, fun i c' hi => by rw [q1]; exact o2 i c' hi, fun e he => by rw [q1]; exact o3 e he, o4⟩, o5, fun i c' hi => by rw [q2]; exact o6 i c' hi, fun e he => by rw [q2]; exact o7 e he, o8⟩
end CF
