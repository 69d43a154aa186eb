/-! THE CLASS'S SEARCH: a clause is tried, the whole of it -/
section CT2
variable {E : qE} {l l' TI TI' TL : List Nat} {F : Nat → Prop} {T T' : hy_T} {m m' m1 m2 : hy_m} {Z Z' : cZ} {N N' n u n' u' k n0 u0 K J : Nat} {A A' : qA} {B B' : bM} {s s' : Nat → pE} {Q : sQ}
theorem uni_c {t t' w w' : pE} (h1 : ∀ v, SolS s v → sb v t = sb v t') (h2 : ∀ v, SolS s v → sb v w = sb v w') : uni s t w = uni s t' w' := by
  by_cases h : ∃ s', unR s t w s'
  · obtain ⟨s', hs⟩ := h
    rw [uni_t hs, uni_t (unR_c h1 h2 hs)]
  · have h' : ¬ ∃ s', unR s t' w' s' := fun ⟨s', hs⟩ => h ⟨s', unR_c (fun v q => (h1 v q).symm) (fun v q => (h2 v q).symm) hs⟩
    unfold uni
    rw [dif_neg h, dif_neg h']
theorem cCt_fr (h : cCt m A K J) (e1 : m' 36 10 = m 36 10) (e2 : m' 36 11 = m 36 11) (e3 : m' 47 10 = m 47 10) (e4 : m' 53 7 = m 53 7) (k0 : qn A' 0 = qn A 0) (k1 : qn A' 1 = qn A 1) (k2 : qn A' 2 = qn A 2) (k4 : qn A' 4 = qn A 4) : cCt m' A' K J := by
  unfold cCt at h ⊢
  rw [e1, e2, e3, e4, k0, k1, k2, k4]
  exact h
theorem zOk_F {FC : List Nat} (h : zOk n0 u0 Z T n u) (hT : ∀ b x, T.1 b = some x → T'.1 b = some x) (hW : sWf T' n') (hn : n' + (zF Z).length = n + FC.length) (hu : u' + 5 * (zF Z).length = u + 5 * FC.length) (hnn : n ≤ n') : zOk n0 u0 (zSt Z FC (zC Z)) T' n' u' := by
  obtain ⟨h1, h2, h3, h4, h5, h6⟩ := h
  have e1 : zN (zSt Z FC (zC Z)) = FC.length + (zC Z).length + (gN (zc Z)).1 := rfl
  have e2 : zS (zSt Z FC (zC Z)) = 5 * FC.length + 6 * (zC Z).length + (gN (zc Z)).2 := rfl
  unfold zN at h4
  unfold zS at h5
  exact ⟨h1, hW, by omega, by omega, by omega, hT _ _ h6⟩
theorem zOk_C {CC : List Nat} (h : zOk n0 u0 Z T n u) (hT : ∀ b x, T.1 b = some x → T'.1 b = some x) (hW : sWf T' n') (hn : n' + (zC Z).length = n + CC.length) (hu : u' + 6 * (zC Z).length = u + 6 * CC.length) (hnn : n ≤ n') : zOk n0 u0 (zSt Z (zF Z) CC) T' n' u' := by
  obtain ⟨h1, h2, h3, h4, h5, h6⟩ := h
  have e1 : zN (zSt Z (zF Z) CC) = (zF Z).length + CC.length + (gN (zc Z)).1 := rfl
  have e2 : zS (zSt Z (zF Z) CC) = 5 * (zF Z).length + 6 * CC.length + (gN (zc Z)).2 := rfl
  unfold zN at h4
  unfold zS at h5
  exact ⟨h1, hW, by omega, by omega, by omega, hT _ _ h6⟩
theorem zOk_G (h : zOk n0 u0 Z T n u) (hk : (zc Z = 20 ∧ k = 80) ∨ (zc Z = 80 ∧ k = 302)) (hg : gRo Z n k T T' m m') : zOk n0 u0 (zGr Z n k) T' (n + 11) (u + 314 * k) := by
  obtain ⟨h1, h2, h3, h4, h5, h6⟩ := h
  have e1 : zN (zGr Z n k) = (zF Z).length + (zC Z).length + (gN k).1 := rfl
  have e2 : zS (zGr Z n k) = 5 * (zF Z).length + 6 * (zC Z).length + (gN k).2 := rfl
  have g20 : gN 20 = (0, 0) := rfl
  have g80 : gN 80 = (11, 25120) := rfl
  have g302 : gN 302 = (22, 119948) := rfl
  unfold zN at h4
  unfold zS at h5
  refine ⟨?_, hg.2.1, by omega, ?_, ?_, hg.1 _ _ h6⟩
  · show k = 20 ∨ k = 80 ∨ k = 302
    omega
  · rcases hk with ⟨q1, q2⟩ | ⟨q1, q2⟩
    · rw [e1, q2, g80]
      rw [q1, g20] at h4
      dsimp only at h4 ⊢
      omega
    · rw [e1, q2, g302]
      rw [q1, g80] at h4
      dsimp only at h4 ⊢
      omega
  · rcases hk with ⟨q1, q2⟩ | ⟨q1, q2⟩
    · rw [e2, q2, g80]
      rw [q1, g20] at h5
      dsimp only at h5 ⊢
      omega
    · rw [e2, q2, g302]
      rw [q1, g80] at h5
      dsimp only at h5 ⊢
      omega
/-- what frames leave alone -/
theorem kFs_F (hP : cPr E F T m Z l) {a : Nat} (h : a < 36 ∨ (69 ≤ a ∧ a ≤ 73) ∨ F a) : (a < 74 ∨ T.1 a ≠ none) ∧ a ∉ zF Z ∧ a ∉ zC Z ∧ a ≠ 36 ∧ a ≠ 37 ∧ a ≠ 38 ∧ a ≠ 39 ∧ a ≠ 40 ∧ a ≠ 41 ∧ a ≠ 46 ∧ a ≠ 47 ∧ a ≠ 53 ∧ a ∉ rwL Z := by
  have hO := hP.2.2.2.2.1
  have hF : a < 36 ∨ (69 ≤ a ∧ a ≤ 73) ∨ (14 ≤ a ∧ a < 21) ∨ 74 ≤ a := h.imp id (fun q => q.imp id (fun z => hP.1.2.1 a z))
  refine ⟨?_, fun q => ?_, fun q => ?_, by omega, by omega, by omega, by omega, by omega, by omega, by omega, by omega, by omega, fun q => ?_⟩
  · rcases h with h | h | h
    · exact Or.inl (by omega)
    · exact Or.inl (by omega)
    · exact Or.inr (hP.2.2.2.2.2.1 a h)
  · have := zF_tag hO q
    rcases h with h | h | h
    · omega
    · omega
    · exact this.2.2 h
  · have := zC_tag hO q
    rcases h with h | h | h
    · omega
    · omega
    · exact this.2.2 h
  · have := hP.1.1.2 a q
    rcases h with h | h | h
    · omega
    · exact this.2.2.2.2.1 h
    · exact this.2.2.2.2.2 h
theorem gr_36 {n : Nat} (hn : 74 ≤ n) : (n ≠ 36 ∧ n ≠ 39) ∧ (n + 1 ≠ 36 ∧ n + 1 ≠ 39) ∧ (n + 2 ≠ 36 ∧ n + 2 ≠ 39) ∧ (n + 3 ≠ 36 ∧ n + 3 ≠ 39) ∧ (n + 4 ≠ 36 ∧ n + 4 ≠ 39) ∧ (n + 8 ≠ 36 ∧ n + 8 ≠ 39) ∧ n + 10 ≠ 36 ∧ n + 10 ≠ 39 := by omega
theorem ge_36 {a : Nat} (h : 42 ≤ a) : a ≠ 36 ∧ a ≠ 39 := by omega
theorem gRo_c {c : Int} (hR : cRo F T m Z) (hn : 74 ≤ n) (hd : ∀ (a : Nat) (e : Int), ¬ (a = 36 ∧ e = 14) → ¬ (a = 39 ∧ e = c) → m1 a e = m a e) (h : gRo Z n k T T' m1 m2) : gRo Z n k T T' m (hy_u (hy_u m2 36 14 (m 36 14)) 39 c (m 39 c)) := by
  obtain ⟨zz1, zz2, zz3, zz4, zz5, zz6, zz7⟩ := cRo_z hR
  have hyt := ge_36 (hR.1.2 (yt (zU Z)) (by unfold rwL; simp)).1
  have g1z := ge_36 zz1
  have g2z := ge_36 zz3
  have g4z := ge_36 zz7
  obtain ⟨n0', n1', n2', n3', n4', n8', n10'⟩ := gr_36 hn
  clear zz1 zz2 zz3 zz4 zz5 zz6 zz7 hn
  have fM : ∀ (a : Nat) (e : Int), a ≠ 36 → a ≠ 39 → hy_u (hy_u m2 36 14 (m 36 14)) 39 c (m 39 c) a e = m2 a e := fun a e q1 q2 => by rw [hy_ua q2, hy_ua q1]
  have v36 : hy_u (hy_u m2 36 14 (m 36 14)) 39 c (m 39 c) 36 14 = m 36 14 := by rw [hy_ua (by decide), hy_us]
  have v39 : hy_u (hy_u m2 36 14 (m 36 14)) 39 c (m 39 c) 39 c = m 39 c := hy_us _ _ _ _
  have fo : ∀ (a : Nat) (e : Int), ¬ (a = 36 ∧ e = 14) → ¬ (a = 39 ∧ e = c) → hy_u (hy_u m2 36 14 (m 36 14)) 39 c (m 39 c) a e = m2 a e := fun a e q1 q2 => by rw [hy_uf q2, hy_uf q1]
  generalize hy_u (hy_u m2 36 14 (m 36 14)) 39 c (m 39 c) = M at fM v36 v39 fo
  obtain ⟨g1, g2, g3, gf, ⟨v1, v2, v3, v4⟩, ⟨w1, w2, w3, w4, w5⟩, ⟨x1, x2, x3, x4⟩, r1, r2, r3, r0⟩ := h
  have hd' : ∀ (a : Nat) (e : Int), a ≠ 36 → a ≠ 39 → m1 a e = m a e := fun a e q1 q2 => hd a e (fun z => q1 z.1) (fun z => q2 z.1)
  refine ⟨g1, g2, g3, fun b e q1 q2 q3 q4 => ?_, ⟨?_, ?_, ?_, ?_⟩, ⟨?_, ?_, ?_, ?_, ?_⟩, ⟨?_, ?_, ?_, ?_⟩, fun i q1 q2 => ?_, fun i q1 q2 => ?_, fun i q1 q2 => ?_, fun e => ?_⟩
  · by_cases c1 : b = 36 ∧ e = 14
    · rw [c1.1, c1.2]; exact v36
    · by_cases c2 : b = 39 ∧ e = c
      · rw [c2.1, c2.2]; exact v39
      · rw [fo b e c1 c2, gf b e q1 q2 q3 q4, hd b e c1 c2]
  · rw [fM _ _ (by decide) (by decide)]; exact v1
  · rw [fM _ _ (by decide) (by decide)]; exact v2
  · rw [fM _ _ (by decide) (by decide)]; exact v3
  · rw [fM _ _ (by decide) (by decide)]; exact v4
  · rw [fM _ _ (by decide) (by decide)]; exact w1
  · rw [fM _ _ (by decide) (by decide)]; exact w2
  · rw [fM _ _ (by decide) (by decide)]; exact w3
  · rw [fM _ _ (by decide) (by decide)]; exact w4
  · rw [fM _ _ (by decide) (by decide)]; exact w5
  · rw [fM _ _ (by decide) (by decide)]; exact x1
  · rw [fM _ _ (by decide) (by decide)]; exact x2
  · rw [fM _ _ (by decide) (by decide)]; exact x3
  · rw [fM _ _ (by decide) (by decide)]; exact x4
  · obtain ⟨y1, y2⟩ := r1 i q1 q2
    exact ⟨((fM _ _ n0'.1 n0'.2).trans y1).trans (hd' _ _ g1z.1 g1z.2), ((fM _ _ n1'.1 n1'.2).trans y2).trans (hd' _ _ g2z.1 g2z.2)⟩
  · obtain ⟨y1, y2⟩ := r2 i q1 q2
    exact ⟨((fM _ _ n2'.1 n2'.2).trans y1).trans (hd' _ _ g4z.1 g4z.2), ((fM _ _ n3'.1 n3'.2).trans y2).trans (hd' _ _ hyt.1 hyt.2)⟩
  · obtain ⟨a, nv, y1, y2⟩ := r3 i q1 q2
    exact ⟨a, nv, (fM _ _ n0'.1 n0'.2).trans y1, y2⟩
  · obtain ⟨y1, y2, y3⟩ := r0 e
    exact ⟨(fM _ _ n4'.1 n4'.2).trans y1, (fM _ _ n8'.1 n8'.2).trans y2, (fM _ _ n10'.1 n10'.2).trans y3⟩
end CT2
