/-! BOTH SIDES TOGETHER: the class between two calls -/
/-- cells that reader, text and writer don't use -/
def jCf (m m' : hy_m) : Prop := ∀ (a : Nat) (e : Int), 14 ≤ a → ¬ (70 ≤ a ∧ a ≤ 73) → ¬ (a = 69 ∧ (e = 2 ∨ e = 4 ∨ e = 7)) → m' a e = m a e
def jCq (A : jst) (F : Nat → Prop) (K : Nat) (T : hy_T) (m : hy_m) (Z : cZ) : Prop := (A.2.2.2 = none → cId F K T m Z) ∧ ∀ q : qE × qA, A.2.2.2 = some q → cAl q.1 F K Z T m q.2
/-- the model's cells are left alone -/
def jG (m m' : hy_m) : Prop := ∀ (z : Nat) (e : Int), 74 ≤ z → z < 119 → m' z e = m z e
def jFm (F : Nat → Prop) : Prop := ∀ z : Nat, 74 ≤ z → z < 119 → F z
def jC (k : Nat) (A : jst) (T : hy_T) (n u : Nat) (m : hy_m) : Prop := cTx m A.1 ∧ k5 m ∧ rRef T m ∧ (T.1 39 = some (100, 20) ∧ T.1 40 = some (100, 20)) ∧ ∃ (F : Nat → Prop) (Z : cZ) (n0 u0 K M : Nat), cPs T m F A.2.1 A.2.2.1 ∧ zOk n0 u0 Z T n u ∧ (n0 ≤ 119 + 7 * M ∧ u0 ≤ 170454 + 659 * M ∧ M + 10 * A.2.2.1.length ≤ 12 * k + A.2.1.length) ∧ K ≤ 12600 * k ∧ jFm F ∧ jCq A F K T m Z
section JC
variable {A A' : jst} {E : qE} {B : qA} {F F' : Nat → Prop} {T T' : hy_T} {m m' m1 : hy_m} {Z Z' : cZ} {N n n' u u' n0 u0 K k : Nat} {a b x : Int} {PL PL' : List pCl} {PH PH' : List (List pCl)} {tx : List Int}
theorem cSe_lo (hkl : ∀ c ∈ qh B, c.2.2.2.1.1 ≤ (qi B).length) (hS : cSe E F Z N T m B) (hf : jCf m m') : cSe E F Z N T m' B := by
  have hP := hS.1
  have hO := hP.2.2.2.2.1
  have low : ∀ (a : Nat) (e : Int), 14 ≤ a → a < 69 ∨ 73 < a → m' a e = m a e := fun a e q0 q => hf a e q0 (by omega) (by omega)
  have hrow : ∀ b, b ∈ rwL Z → ∀ e, m' b e = m b e := fun b q e => low b e (by have := (hP.1.1.2 b q).1; omega) (by have := (hP.1.1.2 b q).2.2.2.2.1; omega)
  have hFc : ∀ b z, F b → m' b z = m b z := fun b z hb => low b z (by have := hP.1.2.1 b hb; omega) (by have := hP.1.2.1 b hb; omega)
  have hP' : cPr E F T m' Z (qi B) := by
    obtain ⟨hR, p2, p3, p4, p5, p6⟩ := hP
    have r1' : ∀ e, m' (z1 Z) e = m (z1 Z) e := fun e => hrow _ (by unfold rwL; simp) e
    have r2' : ∀ e, m' (z2 Z) e = m (z2 Z) e := fun e => hrow _ (by unfold rwL; simp) e
    have r41 : ∀ e, m' 41 e = m 41 e := fun e => low _ _ (by omega) (by omega)
    have r47 : ∀ e, m' 47 e = m 47 e := fun e => low _ _ (by omega) (by omega)
    have r53 : ∀ e, m' 53 e = m 53 e := fun e => low _ _ (by omega) (by omega)
    refine ⟨?_, cPo_fr p2 (fun _ q => q) (fun _ _ q => q) (fun b e q => ?_), p3, wIs_fr p4 (fun _ _ q => q) hFc (fun z _ _ _ => r1' z) (fun z _ _ _ => r2' z), cOb_m p5 (fun e => low _ _ (by omega) (by omega)) (fun e => low _ _ (by omega) (by omega)), cGd_fr p6 (fun _ _ q => q) r1' (r41 _)⟩
    · obtain ⟨r1, r2, r3, r4, r5, r6, r7, r8, r9, r10, r11⟩ := hR
      refine ⟨r1, r2, r3, ⟨by rw [r41]; exact r4.1, r4.2⟩, ⟨by rw [r41]; exact r5.1, r5.2⟩, ⟨by rw [r41]; exact r6.1, r6.2⟩, ?_, ?_, ⟨fun z q1 q2 => ?_, fun z => ?_, by rw [r47]; exact r9.2.2⟩, fun z => ?_, by rw [r53]; exact r11⟩
      · rw [r47, r47, r47, r47, r47, r41]; exact r7
      · rw [r53, r53, r53, r53]; exact r8
      · rw [hrow _ (by unfold rwL; simp)]; exact r9.1 z q1 q2
      · rw [hrow _ (by unfold rwL; simp), r47]; exact r9.2.1 z
      · rw [hrow _ (by unfold rwL; simp), r53]; exact r10 z
    · rcases q with q | q | q
      · exact hFc b e q
      · exact low b e (by omega) (by omega)
      · exact low b e (by omega) (by omega)
  exact cSe_g hS hkl hP' (Nat.le_refl _) (fun e _ => low _ _ (by omega) (by omega)) (fun e _ => low _ _ (by omega) (by omega)) (fun j _ => low _ _ (by omega) (by omega)) (fun e => hrow _ (by unfold rwL; simp) e) (fun e => hrow _ (by unfold rwL; simp) e) (fun j c' q z => low _ _ (by have := (hO.1.2.1 j c' q).2.2.1; omega) (by have := (hO.1.2.1 j c' q).2.2.1; omega)) (fun j c' q z => low _ _ (by have := (hO.2.2.1 j c' q).2.2.1; omega) (by have := (hO.2.2.1 j c' q).2.2.1; omega)) hFc rfl rfl rfl (cNm_fr (A := B) hS.2.1 (fun e _ _ => low _ _ (by omega) (by omega)) (fun e => low _ _ (by omega) (by omega)) (fun e => low _ _ (by omega) (by omega)))
theorem cAl_f (hO : qOK E B) (hA : cAl E F K Z T m B) (hS : cSe E F Z (qn B 2 + 1) T m' B) (hf : ∀ e : Int, m' 36 e = m 36 e ∧ m' 47 e = m 47 e ∧ m' 53 e = m 53 e) : cAl E F K Z T m' B := by
  obtain ⟨-, ⟨c1, c2⟩, c3, c4⟩ := hA
  exact ⟨hS, ⟨by rw [(hf _).1]; exact c1, by rw [(hf _).1]; exact c2⟩, by rw [(hf _).2.1]; exact c3, by rw [(hf _).2.2]; exact c4⟩
theorem cB0_lo (h : cB0 F K T m Z) (hf : jCf m m') : cB0 F K T m' Z := by
  obtain ⟨hR, hO, hG, h47, h53⟩ := h
  have low : ∀ (a : Nat) (e : Int), 14 ≤ a → a < 69 ∨ 73 < a → m' a e = m a e := fun a e q0 q => hf a e q0 (by omega) (by omega)
  have hrow : ∀ b, b ∈ rwL Z → ∀ e, m' b e = m b e := fun b q e => low b e (by have := (hR.1.2 b q).1; omega) (by have := (hR.1.2 b q).2.2.2.2.1; omega)
  refine ⟨cRo_f hR (fun _ _ q => q) (fun b e q => ?_) hR.2.1 (fun b hb => (hR.1.2 b hb).2.2.2.2.2), cOb_m hO (fun e => low _ _ (by omega) (by omega)) (fun e => low _ _ (by omega) (by omega)), cGd_fr hG (fun _ _ q => q) (fun e => hrow _ (by unfold rwL; simp) e) (low _ _ (by omega) (by omega)), by rw [low 47 _ (by omega) (by omega)]; exact h47, by rw [low 53 _ (by omega) (by omega)]; exact h53⟩
  rcases q with q | q | q | q | q | q
  · exact low b e (by omega) (by omega)
  · exact low b e (by omega) (by omega)
  · exact low b e (by omega) (by omega)
  · rw [q]; exact hrow _ (by unfold rwL; simp) e
  · rw [q]; exact hrow _ (by unfold rwL; simp) e
  · rw [q]; exact hrow _ (by unfold rwL; simp) e
theorem jCq_lo (hV : jV k A) (h : jCq A F K T m Z) (hf : jCf m m') : jCq (tx, A.2) F K T m' Z := by
  have low : ∀ (a : Nat) (e : Int), 14 ≤ a → a < 69 ∨ 73 < a → m' a e = m a e := fun a e q0 q => hf a e q0 (by omega) (by omega)
  refine ⟨fun q => ?_, fun q hq => ?_⟩
  · obtain ⟨i1, i2, i3, i4⟩ := h.1 q
    exact ⟨cB0_lo i1 hf, by rw [low _ _ (by omega) (by omega)]; exact i2, by rw [low _ _ (by omega) (by omega)]; exact i3, by rw [low _ _ (by omega) (by omega)]; exact i4⟩
  · have hA := h.2 q hq
    have hO := (hV.2.2 q.1 q.2 hq).2.1.1
    exact cAl_f hO hA (cSe_lo (fun c hc => (chK_all _ hO.1 c hc).1) hA.1 hf) (fun e => ⟨low _ _ (by omega) (by omega), low _ _ (by omega) (by omega), low _ _ (by omega) (by omega)⟩)
/-- the search and the program are left alone -/
theorem jC_lo (hV : jV k A) (h : jC k A T n u m) (hf : jCf m m') (h14 : m' 1 4 = m 1 4) (hT : cTx m' tx) (h5 : k5 m') (h4 : ∀ e : Int, e = 1 ∨ e = 2 ∨ e = 3 ∨ e = 6 ∨ e = 9 ∨ e = 11 → m' 4 e = m 4 e) : jC (k + 1) (tx, A.2) T n u m' := by
  obtain ⟨-, -, c3, c4, F, Z, n0, u0, K, M, d1, d2, d3, d4, dF, d5⟩ := h
  have hfz : fzn F := by
    cases e : A.2.2.2 with
    | none => exact (d5.1 e).1.1.2.1
    | some q => exact (d5.2 q e).1.1.1.2.1
  refine ⟨hT, h5, rRef_lo (fun _ _ q => q) h4 c3, c4, F, Z, n0, u0, K, M, cPs_fr d1 h14 (fun z e q => hf z e ?_ ?_ ?_), d2, ⟨d3.1, d3.2.1, by have := d3.2.2; show M + 10 * A.2.2.1.length ≤ 12 * (k + 1) + A.2.1.length; omega⟩, by omega, dF, jCq_lo hV d5 hf⟩
  · rcases q with q | q
    · have := hfz z q; omega
    · omega
  · rcases q with q | q
    · have := hfz z q; omega
    · omega
  · rcases q with q | q
    · have := hfz z q; omega
    · omega
theorem jC_s (hV : jV k A) (h : jC k A T n u m) : jC (k + 1) A T n u m := jC_lo hV h (fun _ _ _ _ _ => rfl) rfl h.1 h.2.1 (fun _ _ => rfl)
theorem jC_x (hV : jV k A) (h : jC k A T n u m) (hf : cFx m m') (h5 : k5 m') : jC (k + 1) A T n u m' := jC_lo hV h (fun a e q1 q2 q3 => hf a e (by omega) (by omega)) (hf _ _ (by omega) (by omega)) (cTx_x h.1 hf) h5 (fun e q => hf _ _ (by omega) (by omega))
theorem jC_d (hV : jV k A) (h : jC k A T n u m) (hf : dFx m m') : jC (k + 1) A T n u m' := by
  have lo : ∀ (z : Nat) (e : Int), z < 14 → m' z e = m z e := fun z e q => hf z e (by omega) (by omega)
  exact jC_lo hV h (fun a e _ q2 q3 => hf a e q2 q3) (lo _ _ (by omega)) (cTx_lo lo h.1) (fun i i1 i2 => by rw [lo _ _ (by omega)]; exact h.2.1 i i1 i2) (fun e _ => lo _ _ (by omega))
/-- what is there with and without a query -/
theorem jC_B (hV : jV k A) (h : jC k A T n u m) : ∃ (F : Nat → Prop) (Z : cZ) (n0 u0 M : Nat), cB0 F (12600 * (k + 1)) T m Z ∧ cPs T m F A.2.1 A.2.2.1 ∧ zOk n0 u0 Z T n u ∧ (n0 ≤ 119 + 7 * M ∧ u0 ≤ 170454 + 659 * M ∧ M + 10 * A.2.2.1.length ≤ 12 * k + A.2.1.length) ∧ (∀ z, F z → z < n) ∧ gOk T m F (z4 Z) ∧ jFm F := by
  obtain ⟨-, -, -, -, F, Z, n0, u0, K, M, d1, d2, d3, d4, dF, d5⟩ := h
  have hB : cB0 F (12600 * (k + 1)) T m Z := by
    cases e : A.2.2.2 with
    | none =>
      obtain ⟨b1, b2, b3, b4, b5⟩ := (d5.1 e).1
      exact ⟨b1, b2, b3, by omega, by omega⟩
    | some q =>
      obtain ⟨b1, b2, b3, b4, b5⟩ := cAl_B (d5.2 q e) (hV.2.2 q.1 q.2 e).2.1.1
      exact ⟨b1, b2, b3, by omega, by omega⟩
  refine ⟨F, Z, n0, u0, M, hB, d1, d2, d3, fun z hz => ?_, ?_⟩
  · cases q : T.1 z with
    | none => exact absurd q (hB.2.2.1.1 z hz)
    | some x => exact d2.2.1 z x q
  · have hz := hB.1.2.2.1
    have h4 := hB.1.2.2.2.2.2.1
    have hz4 := hB.1.1.2 (z4 Z) (by unfold rwL; simp)
    exact ⟨⟨hB.1.2.1, h4.1, ⟨_, h4.2, by omega, by omega⟩, by omega, hz4.2.2.2.2.2⟩, dF⟩
/-- another program -/
theorem jC_p {d : Nat} {F1 : Nat → Prop} (h : jC k A T n u m) (hB : cB0 F (12600 * (k + 1)) T m Z) (hOk : zOk n0 u0 Z T n u) (hM : n0 ≤ 119 + 7 * N ∧ u0 ≤ 170454 + 659 * N ∧ N + 10 * A.2.2.1.length ≤ 12 * k + A.2.1.length) (hT : ∀ z, z < n → T'.1 z = T.1 z) (hW' : sWf T' n') (hn : n ≤ n' ∧ n' ≤ n + 7 * d) (hu : u ≤ u' ∧ u' ≤ u + 659 * d) (hP : cPs T' m' F1 PL' PH') (hF1 : ∀ z, F1 z → F z ∨ n ≤ z) (hF2 : ∀ z, F z → F1 z) (hFm : jFm F) (kf : ∀ (z : Nat) (e : Int), z < n → ¬ (2 ≤ z ∧ z ≤ 13) → ¬ (21 ≤ z ∧ z ≤ 35) → ¬ (z = 1 ∧ e = 4) → m' z e = cFin m (z4 Z) 0 0 z e) (hTx : cTx m' A.1) (h5 : k5 m') (hr : rRef T' m') (hd : d + 10 * PH'.length + A.2.1.length ≤ 12 + 10 * A.2.2.1.length + PL'.length) : jC (k + 1) (jP A PL' PH') T' n' u' m' ∧ jG m m' := by
  have hz4 := (hB.1.1.2 (z4 Z) (by unfold rwL; simp)).2.2.2.2.2
  have hFt : ∀ z, F z → T'.1 z ≠ none ∧ z < n := fun z q => by
    cases w : T.1 z with
    | none => exact absurd w (hB.2.2.1.1 z q)
    | some y =>
      have hy := hOk.2.1 z y w
      exact ⟨by rw [hT z hy, w]; simp, hy⟩
  have hG : jG m m' := fun z e z1 z2 => by
    have hz := hFm z z1 z2
    have hne : z ≠ z4 Z := fun w => hz4 (w ▸ hz)
    rw [kf z e (hFt z hz).2 (by omega) (by omega) (by omega), cFin_o (by omega) (by omega) (fun w => hne w.1)]
  obtain ⟨o1, o2, o3, o4, o5, o6⟩ := hOk
  have hTx' : ∀ b y, T.1 b = some y → T'.1 b = some y := fun b y q => by rw [hT b (o2 b y q)]; exact q
  have hI := cB0_fin (F' := fun z => F1 z ∧ T'.1 z ≠ none) hB o2 o3 hT (fun z q => hF1 z q.1) (fun z q => q.2) kf
  refine ⟨⟨hTx, h5, hr, ⟨hTx' _ _ h.2.2.2.1.1, hTx' _ _ h.2.2.2.1.2⟩, _, Z, n0 + (n' - n), u0 + (u' - u), _, N + d, cPs_ty hP, ⟨o1, hW', by omega, by omega, by omega, hTx' _ _ o6⟩, ⟨by omega, by omega, ?_⟩, Nat.le_refl _, fun z z1 z2 => ⟨hF2 z (hFm z z1 z2), (hFt z (hFm z z1 z2)).1⟩, fun _ => hI, fun q hq => ?_⟩, hG⟩
  · show N + d + 10 * PH'.length ≤ 12 * (k + 1) + PL'.length
    omega
  · have hq : (none : Option (qE × qA)) = some q := hq
    cases hq
theorem phN_len {PH : List (List pCl)} (h : PH.length ≤ 6) : (phN PH PL).length ≤ PH.length + 1 := by
  unfold phN
  split
  · rw [List.length_append, List.length_tail]
    show _ - 1 + 1 ≤ _
    omega
  · rw [List.length_append]
    exact Nat.le_refl _
/-- another program, nothing made -/
theorem jC_g (h : jC k A T n u m) (hB : cB0 F (12600 * (k + 1)) T m Z) (hOk : zOk n0 u0 Z T n u) (hM : n0 ≤ 119 + 7 * N ∧ u0 ≤ 170454 + 659 * N ∧ N + 10 * A.2.2.1.length ≤ 12 * k + A.2.1.length) (hP : cPs T m' F PL' PH') (hFm : jFm F) (kf : gFr (z4 Z) m m') (hd : 10 * PH'.length + A.2.1.length ≤ 12 + 10 * A.2.2.1.length + PL'.length) : jC (k + 1) (jP A PL' PH') T n u m' ∧ jG m m' := by
  have hz := (hB.1.1.2 (z4 Z) (by unfold rwL; simp)).1
  have lo : ∀ (z : Nat) (e : Int), 2 ≤ z → z < 14 → m' z e = m z e := fun z e q1 q2 => by
    rw [kf z e (by omega) (by omega), cFin_o (by omega) (by omega) (by omega)]
  refine jC_p (d := 0) h hB hOk hM (fun _ _ => rfl) hOk.2.1 ⟨Nat.le_refl _, Nat.le_refl _⟩ ⟨Nat.le_refl _, Nat.le_refl _⟩ hP (fun z q => Or.inl q) (fun z q => q) hFm (fun z e _ _ q3 q4 => kf z e q3 q4) ?_ (fun i i1 i2 => by rw [lo _ _ (by omega) (by omega)]; exact h.2.1 i i1 i2) (rRef_lo (fun _ _ q => q) (fun e _ => lo _ _ (by omega) (by omega)) h.2.2.1) (by omega)
  obtain ⟨t1, t2, t3, t4⟩ := h.1
  exact ⟨by rw [lo _ _ (by omega) (by omega)]; exact t1, t2, fun i hi => by rw [lo _ _ (by omega) (by omega)]; exact t3 i hi, t4⟩
end JC
