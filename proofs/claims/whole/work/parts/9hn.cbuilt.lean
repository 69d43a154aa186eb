/-! THE CLASS'S SEARCH: built ins -/
section CBI
variable {E : qE} {l l' TI TI' TL : List Nat} {F : Nat → Prop} {T T' : hy_T} {m m' m1 m2 : hy_m} {Z Z' : cZ} {N N' n u n' u' k n0 u0 K J : Nat} {A A' : qA} {B B' : bM} {s s' : Nat → pE} {X : cX} {x y : Int} {t ta tb : pE}
theorem cTm_nmR (h : cTm X m x t) : nmR t := by
  rcases h with ⟨j, hj, rfl, rfl, hr⟩ | ⟨i, n, u, hi, rfl, hn, hu, hk, rfl⟩
  · exact hr
  · exact nmR_sb u (nmR_K u false hk) (fun _ _ => trivial)
theorem cBd_nmR (hB : cBd X m B) (hR : Res B s) : ∀ x, nmR (s x) := by
  refine nmR_B hR (fun x t e => ?_)
  by_cases c : cDm X x
  · obtain ⟨i, n, h1, h2, rfl⟩ := c
    rcases hB.1 i n h1 h2 with ⟨q, -⟩ | ⟨t', q1, q2, q3, q4⟩
    · rw [e] at q
      cases q
    · rw [e] at q1
      injection q1 with q1
      rw [q1]
      exact cTm_nmR q3
  · rw [hB.2 x c] at e
    cases e
/-- a state whose cells are the same -/
theorem cSe_g (h : cSe E F Z N T m A) (hk : ∀ c ∈ qh A, c.2.2.2.1.1 ≤ (qi A).length) (hP' : cPr E F T m' Z (qi A)) (hN : N ≤ N') (h36 : ∀ e : Int, e = 5 ∨ e = 6 ∨ e = 8 → m' 36 e = m 36 e) (h41 : ∀ e : Int, e = 3 ∨ e = 6 ∨ e = 7 → m' 41 e = m 41 e) (h46 : ∀ j : Nat, j < N → m' 46 (j : Int) = m 46 (j : Int)) (h4 : ∀ e, m' (z4 Z) e = m (z4 Z) e) (ht : ∀ e, m' (yt (zU Z)) e = m (yt (zU Z)) e) (hFr : ∀ (j c' : Nat), (zF Z)[j]? = some c' → ∀ z, m' c' z = m c' z) (hCr : ∀ (j c' : Nat), (zC Z)[j]? = some c' → ∀ z, m' c' z = m c' z) (hFc : ∀ b z, F b → m' b z = m b z) (e8 : qn A' 8 = qn A 8) (e7 : qn A' 7 = qn A 7) (eA : A'.2.2.2 = A.2.2.2) (hNm : cNm m' A') : cSe E F Z N' T m' A' := by
  obtain ⟨hP, -, ⟨h3, h5, h8, hch⟩, B, TI, hD, hRes, hTI⟩ := h
  have ei : qi A' = qi A := congrArg (fun x => x.1) eA
  have es : qs A' = qs A := congrArg (fun x => x.2.1) eA
  have ep : qp A' = qp A := congrArg (fun x => x.2.2.1) eA
  have eh : qh A' = qh A := congrArg (fun x => x.2.2.2) eA
  have hTE : tE (zX Z (qi A).length N) m (zX Z (qi A).length N') m' := tE_s hP hP' (Nat.le_refl _) (Nat.le_refl _) (fun _ q => q) hFc h46 hN
  have d := cDy_x (FC := zF Z) (CC := zC Z) hP hP' hk hN h46 hFc h4 ht (h41 _ (by omega)) (h41 _ (by omega)) (h36 _ (by omega)) (fun _ _ j c' _ q => ⟨q, hFr j c' q⟩) (fun j c' _ q => ⟨q, hCr j c' q⟩) hD
  refine ⟨by rw [ei]; exact hP', hNm, ⟨by rw [ei, h41 _ (by omega)]; exact h3, by rw [e8, h36 _ (by omega)]; exact h5, by rw [e8]; exact h8, ?_⟩, B, TI, ?_, by rw [es]; exact hRes, by rw [e7]; exact hTI⟩
  · rw [ei, es, e8, ep, h36 6 (by omega)]
    exact cCh_mo hTE (Nat.le_refl _) (fun _ q => q) _ _ _ (fun j c' _ q => ⟨q, hFr j c' q⟩) hch
  · unfold cDy
    rw [ei, eh]
    exact d
/-- cells that arithmetic leaves alone -/
theorem ar_no (hR : cRo F T m Z) (hO : cOb F T m Z) {a : Nat} (ha : a < 42 ∨ a = 46 ∨ a = 47 ∨ (69 ≤ a ∧ a ≤ 73) ∨ F a ∨ a = z1 Z ∨ a = z2 Z ∨ a = z4 Z ∨ a = yj (zU Z) ∨ a = ym (zU Z) ∨ a = yt (zU Z) ∨ a ∈ zF Z ∨ a ∈ zC Z) : ¬ aRw (zU Z) (zV Z) a ∧ a ≠ 53 := by
  have hR' := hR
  obtain ⟨⟨hn, hb⟩, hf, h3, h4, h5, h6, ⟨h71, h72, h73, h74, h75, h76⟩, ⟨h81, h82, h83, h84, h85⟩, -⟩ := hR
  have hb' : ∀ b, b = z1 Z ∨ b = z2 Z ∨ b = z4 Z ∨ b = yj (zU Z) ∨ b = yq (zU Z) ∨ b = ys (zU Z) ∨ b = yp (zU Z) ∨ b = ym (zU Z) ∨ b = yt (zU Z) ∨ b = (zV Z).1 ∨ b = (zV Z).2 → 42 ≤ b ∧ b ≠ 46 ∧ b ≠ 47 ∧ b ≠ 53 ∧ ¬ (69 ≤ b ∧ b ≤ 73) ∧ ¬ F b := fun b q => hb b (by
    unfold rwL
    simp only [List.mem_cons, List.not_mem_nil, or_false]
    exact q)
  unfold rwL at hn
  simp only [List.nodup_cons, List.mem_cons, List.not_mem_nil, or_false, not_or, List.nodup_nil, and_true, not_false_eq_true] at hn
  obtain ⟨⟨n1, n2, n3, n4, n5, n6, n7, n8, n9, n10⟩, ⟨p1, p2, p3, p4, p5, p6, p7, p8, p9⟩, ⟨r1, r2, r3, r4, r5, r6, r7, r8⟩, ⟨s1, s2, s3, s4, s5, s6, s7⟩, ⟨t1, t2, t3, t4, t5, t6⟩, ⟨u1, u2, u3, u4, u5⟩, ⟨v1, v2, v3, v4⟩, ⟨w1, w2, w3⟩, ⟨x1, x2⟩, y1⟩ := hn
  have bp := hb' (yp (zU Z)) (by simp only [true_or, or_true])
  have bq := hb' (yq (zU Z)) (by simp only [true_or, or_true])
  have b1 := hb' (zV Z).1 (by simp only [true_or, or_true])
  have b2 := hb' (zV Z).2 (by simp only [true_or, or_true])
  have four : ∀ P : Nat → Prop, P (yp (zU Z)) → P (yq (zU Z)) → P (zV Z).1 → P (zV Z).2 → ∀ a, aRw (zU Z) (zV Z) a → P a := by
    rintro P q1 q2 q3 q4 a (rfl | rfl | rfl | rfl)
    · exact q1
    · exact q2
    · exact q3
    · exact q4
  have lo : ∀ b, aRw (zU Z) (zV Z) b → 42 ≤ b ∧ b ≠ 46 ∧ b ≠ 47 ∧ b ≠ 53 ∧ ¬ (69 ≤ b ∧ b ≤ 73) ∧ ¬ F b := four _ bp bq b1 b2
  have tg : ∀ b, aRw (zU Z) (zV Z) b → ∃ nn, T.1 b = some (100, nn) := four _ ⟨_, h81.2⟩ ⟨_, h82.2⟩ ⟨_, h83.2⟩ ⟨_, h85⟩
  have c1 := hb' (z1 Z) (by simp only [true_or, or_true])
  have c2 := hb' (z2 Z) (by simp only [true_or, or_true])
  have c4 := hb' (z4 Z) (by simp only [true_or, or_true])
  have cj := hb' (yj (zU Z)) (by simp only [true_or, or_true])
  have cm := hb' (ym (zU Z)) (by simp only [true_or, or_true])
  have ct := hb' (yt (zU Z)) (by simp only [true_or, or_true])
  rcases ha with ha | ha | ha | ha | ha | ha | ha | ha | ha | ha | ha | ha | ha
  · exact ⟨fun q => by have := (lo a q).1; omega, by omega⟩
  · exact ⟨fun q => (lo a q).2.1 ha, by omega⟩
  · exact ⟨fun q => (lo a q).2.2.1 ha, by omega⟩
  · exact ⟨fun q => (lo a q).2.2.2.2.1 ha, by omega⟩
  · exact ⟨fun q => (lo a q).2.2.2.2.2 ha, by have := hf a ha; omega⟩
  · subst ha
    exact ⟨fun q => by
      rcases q with q | q | q | q
      · exact n6 q
      · exact n4 q
      · exact n9 q
      · exact n10 q, c1.2.2.2.1⟩
  · subst ha
    exact ⟨fun q => by
      rcases q with q | q | q | q
      · exact p5 q
      · exact p3 q
      · exact p8 q
      · exact p9 q, c2.2.2.2.1⟩
  · subst ha
    exact ⟨fun q => by
      rcases q with q | q | q | q
      · exact r4 q
      · exact r2 q
      · exact r7 q
      · exact r8 q, c4.2.2.2.1⟩
  · subst ha
    exact ⟨fun q => by
      rcases q with q | q | q | q
      · exact s3 q
      · exact s1 q
      · exact s6 q
      · exact s7 q, cj.2.2.2.1⟩
  · subst ha
    exact ⟨fun q => by
      rcases q with q | q | q | q
      · exact v1 q.symm
      · exact t3 q.symm
      · exact w2 q
      · exact w3 q, cm.2.2.2.1⟩
  · subst ha
    exact ⟨fun q => by
      rcases q with q | q | q | q
      · exact v2 q.symm
      · exact t4 q.symm
      · exact x1 q
      · exact x2 q, ct.2.2.2.1⟩
  · have ht := zF_tag hO ha
    refine ⟨fun q => ?_, by omega⟩
    obtain ⟨nn, hnn⟩ := tg a q
    rw [ht.1] at hnn
    injection hnn with hnn
    injection hnn with hnn
    omega
  · have ht := zC_tag hO ha
    refine ⟨fun q => ?_, by omega⟩
    obtain ⟨nn, hnn⟩ := tg a q
    rw [ht.1] at hnn
    injection hnn with hnn
    injection hnn with hnn
    omega
theorem cPr_a (hP : cPr E F T m Z l) (hf : ∀ (a : Nat) (e : Int), ¬ aRw (zU Z) (zV Z) a → ¬ (a = 53 ∧ (e = 2 ∨ e = 4 ∨ e = 7 ∨ e = 8)) → m' a e = m a e) (hk : ∀ z : Int, m' (zV Z).2 z ≤ m' 53 7) (h7 : m' 53 7 = m 53 7 + 1) : cPr E F T m' Z l := by
  obtain ⟨hR, p2, p3, p4, p5, p6⟩ := hP
  have no : ∀ {a : Nat} (e : Int), (a < 42 ∨ a = 46 ∨ a = 47 ∨ (69 ≤ a ∧ a ≤ 73) ∨ F a ∨ a = z1 Z ∨ a = z2 Z ∨ a = z4 Z ∨ a = yj (zU Z) ∨ a = ym (zU Z) ∨ a = yt (zU Z) ∨ a ∈ zF Z ∨ a ∈ zC Z) → m' a e = m a e := fun e q => hf _ e (ar_no hR p5 q).1 (fun z => (ar_no hR p5 q).2 z.1)
  have h53 : ¬ aRw (zU Z) (zV Z) 53 := by
    have hb := hR.1.2
    rintro (q | q | q | q)
    · exact (hb (yp (zU Z)) (by unfold rwL; simp)).2.2.2.1 q.symm
    · exact (hb (yq (zU Z)) (by unfold rwL; simp)).2.2.2.1 q.symm
    · exact (hb (zV Z).1 (by unfold rwL; simp)).2.2.2.1 q.symm
    · exact (hb (zV Z).2 (by unfold rwL; simp)).2.2.2.1 q.symm
  have n53 : ∀ e : Int, ¬ (e = 2 ∨ e = 4 ∨ e = 7 ∨ e = 8) → m' 53 e = m 53 e := fun e q => hf 53 e h53 (fun z => q z.2)
  have hFc : ∀ b z, F b → m' b z = m b z := fun b z hb => no z (by simp only [hb, true_or, or_true])
  have n41 : ∀ e, m' 41 e = m 41 e := fun e => no e (Or.inl (by decide))
  have n47 : ∀ e, m' 47 e = m 47 e := fun e => no e (by simp)
  have n37 : ∀ e, m' 37 e = m 37 e := fun e => no e (Or.inl (by decide))
  have n38 : ∀ e, m' 38 e = m 38 e := fun e => no e (Or.inl (by decide))
  refine ⟨?_, cPo_fr p2 (fun _ q => q) (fun _ _ q => q) (fun b e q => ?_), p3, wIs_fr p4 (fun _ _ q => q) hFc (fun z _ _ _ => no z (by simp)) (fun z _ _ _ => no z (by simp)), cOb_m p5 n37 n38, cGd_fr p6 (fun _ _ q => q) (fun e => no e (by simp)) (n41 _)⟩
  · obtain ⟨r1, r2, r3, r4, r5, r6, r7, r8, r9, r10, r11⟩ := hR
    refine ⟨r1, r2, r3, ⟨by rw [n41]; exact r4.1, r4.2⟩, ⟨by rw [n41]; exact r5.1, r5.2⟩, ⟨by rw [n41]; exact r6.1, r6.2⟩, ?_, ?_, ⟨fun z q1 q2 => ?_, fun z => ?_, ?_⟩, hk, by omega⟩
    · rw [n47, n47, n47, n47, n47, n41]; exact r7
    · rw [n53 _ (by decide), n53 _ (by decide), n53 _ (by decide), n53 _ (by decide)]; exact r8
    · rw [no z (by simp)]; exact r9.1 z q1 q2
    · rw [no z (by simp), n47]; exact r9.2.1 z
    · rw [n47]; exact r9.2.2
  · rcases q with q | q | q
    · exact hFc b e q
    · exact no e (Or.inl (by omega))
    · exact no e (Or.inl (by omega))
/-- a term is evaluated -/
theorem sp_evc {Q : Int → hy_m → Prop} (hkl : ∀ c ∈ qh A, c.2.2.2.1.1 ≤ (qi A).length) (hS : cSe E F Z N T m A) (ht : cTm (zX Z (qi A).length N) m x t) (h0x : 0 ≤ x) (hK : m 53 7 < 2147483000) (h1 : ∀ v m', ev0 (sb (qs A) t) = some v → hy_r 0 v → (∀ (a : Nat) (e : Int), a < 42 ∨ a = 46 ∨ a = 47 ∨ (69 ≤ a ∧ a ≤ 73) ∨ F a → m' a e = m a e) → cSe E F Z N T m' A → m' 53 7 = m 53 7 + 1 → m' 53 8 = v → Q 1 m') (h0 : ∀ m', ev0 (sb (qs A) t) = none → (∀ (a : Nat) (e : Int), a < 42 ∨ a = 46 ∨ a = 47 ∨ (69 ≤ a ∧ a ≤ 73) ∨ F a → m' a e = m a e) → cSe E F Z N T m' A → m' 53 7 = m 53 7 + 1 → Q 0 m') : wq_30 x T m Q := by
  have hP := hS.1
  have hU := zX_uPr hP N
  have hA := zX_all hP (qi A).length N (Nat.le_refl _)
  obtain ⟨s1, s2, s3⟩ := cRo_sep (b4 := 0) (N := N) hP.1 hA
  obtain ⟨r1, r2, r3, r4, r5, r6, r7, r8, r9, r10, r11⟩ := hP.1
  obtain ⟨B, TI, hD, hRes, hTI⟩ := hS.2.2.2
  have st : ∀ m', (∀ (a : Nat) (e : Int), ¬ aRw (zU Z) (zV Z) a → ¬ (a = 53 ∧ (e = 2 ∨ e = 4 ∨ e = 7 ∨ e = 8)) → m' a e = m a e) → (∀ z : Int, m' (zV Z).2 z ≤ m' 53 7) → m' 53 7 = m 53 7 + 1 → (∀ (a : Nat) (e : Int), a < 42 ∨ a = 46 ∨ a = 47 ∨ (69 ≤ a ∧ a ≤ 73) ∨ F a → m' a e = m a e) ∧ cSe E F Z N T m' A := by
    intro m' q1 q2 q3
    have hP' := cPr_a hP q1 q2 q3
    have no : ∀ {a : Nat} (e : Int), (a < 42 ∨ a = 46 ∨ a = 47 ∨ (69 ≤ a ∧ a ≤ 73) ∨ F a ∨ a = z1 Z ∨ a = z2 Z ∨ a = z4 Z ∨ a = yj (zU Z) ∨ a = ym (zU Z) ∨ a = yt (zU Z) ∨ a ∈ zF Z ∨ a ∈ zC Z) → m' a e = m a e := fun e q => q1 _ e (ar_no hP.1 hP.2.2.2.2.1 q).1 (fun z => (ar_no hP.1 hP.2.2.2.2.1 q).2 z.1)
    have fr : ∀ (a : Nat) (e : Int), a < 42 ∨ a = 46 ∨ a = 47 ∨ (69 ≤ a ∧ a ≤ 73) ∨ F a → m' a e = m a e := fun a e q => no e (by
      rcases q with q | q | q | q | q
      · exact Or.inl q
      · exact Or.inr (Or.inl q)
      · exact Or.inr (Or.inr (Or.inl q))
      · exact Or.inr (Or.inr (Or.inr (Or.inl q)))
      · exact Or.inr (Or.inr (Or.inr (Or.inr (Or.inl q)))))
    refine ⟨fr, cSe_g hS hkl hP' (Nat.le_refl _) (fun e _ => fr _ _ (Or.inl (by decide))) (fun e _ => fr _ _ (Or.inl (by decide))) (fun j _ => fr _ _ (Or.inr (Or.inl rfl))) (fun e => no e (by simp)) (fun e => no e (by simp)) (fun j c' q z => no z (by simp only [List.mem_of_getElem? q, true_or, or_true])) (fun j c' q z => no z (by simp only [List.mem_of_getElem? q, true_or, or_true])) (fun b z hb => fr b z (Or.inr (Or.inr (Or.inr (Or.inr hb))))) rfl rfl rfl (cNm_fr (A := A) hS.2.1 (fun e _ _ => fr _ _ (Or.inl (by decide))) (fun e => fr _ _ (Or.inl (by decide))) (fun e => fr _ _ (Or.inl (by decide))))⟩
  have hr : ∀ v, ev0 (sb (qs A) t) = some v → hy_r 0 v := fun v hv => ev0_r _ v (nmR_sb t (cTm_nmR ht) (fun z _ => cBd_nmR hD.1 hRes z)) hv
  refine sp_30 s2 r8 hU.2.1 (show 1 ≤ zc Z by omega) (wX_AW hA) hD.1 hRes (fun y u h => (wX_small hA h).2) ht h0x r10 (by omega) hK (fun v m' q1 q2 q3 q4 q5 => ?_) (fun m' q1 q2 q3 q4 => ?_)
  · obtain ⟨g1, g2⟩ := st m' q2 q3 q4
    exact h1 v m' q1 (hr v q1) g1 g2 q4 q5
  · obtain ⟨g1, g2⟩ := st m' q2 q3 q4
    exact h0 m' q1 g1 g2 q4
end CBI
/-- what an inference leaves -/
def cO1 (E : qE) (F : Nat → Prop) (N K n0 u0 : Nat) (T : hy_T) (m : hy_m) (A' : qA) (Q : sQ) : Prop := ∀ (r : Int) (Z' : cZ) (T' : hy_T) (n' u' : Nat) (m' : hy_m), r ≠ 0 → zSp F T m T' m' → zOk n0 u0 Z' T' n' u' → cSe E F Z' N T' m' A' → cCt m' A' K 0 → Q r (T', n', u', m')
def cO0 (E : qE) (F : Nat → Prop) (N K n0 u0 : Nat) (T : hy_T) (m : hy_m) (A' : qA) (Q : sQ) : Prop := ∀ (A'' : qA) (Z' : cZ) (T' : hy_T) (n' u' : Nat) (m' : hy_m), qFl E A'' → qbk E A'' = A' → zSp F T m T' m' → zOk n0 u0 Z' T' n' u' → cFl E F Z' N T' m' A'' → cCt m' A'' K 0 → Q 0 (T', n', u', m')
def cOut (E : qE) (F : Nat → Prop) (N K n0 u0 : Nat) (T : hy_T) (m : hy_m) (A' : qA) (Q : sQ) : Prop := cO1 E F N K n0 u0 T m A' Q ∧ cO0 E F N K n0 u0 T m A' Q
section CUN
variable {E : qE} {l l' TI TI' TL : List Nat} {F : Nat → Prop} {T T' : hy_T} {m m' m1 m2 mo : hy_m} {Z Z' : cZ} {N N' n u n' u' k n0 u0 K J : Nat} {A A' : qA} {B B' : bM} {s s' : Nat → pE} {X : cX} {x y : Int} {t ta tb : pE} {Q : sQ}
theorem cCt_0 (h : cCt m A K 1) (e1 : m' 36 10 = m 36 10) (e2 : m' 36 11 = m 36 11) (e3 : m' 47 10 ≤ m 47 10 + 2) (e4 : m' 53 7 ≤ m 53 7 + 2) (k0 : qn A' 0 = qn A 0) (k1 : qn A' 1 = qn A 1) (k2 : qn A' 2 = qn A 2) (k4 : qn A' 4 = qn A 4) : cCt m' A' K 0 := by
  obtain ⟨⟨a1, a2⟩, a3, a4⟩ := h
  refine ⟨⟨?_, ?_⟩, ?_, ?_⟩
  · rw [e1, k0]; exact a1
  · rw [e2, k1]; exact a2
  · rw [k2, k4]; omega
  · rw [k2]; omega
theorem cCt_z (h : cCt m A K 1) : cCt m A K 0 := cCt_0 h rfl rfl (by omega) (by omega) rfl rfl rfl rfl
/-- two terms are made equal -/
theorem sp_unc (hO : qOJ E A 1) (hS : cSe E F Z N T m A) (h1 : cTm (zX Z (qi A).length N) m x ta) (h2 : cTm (zX Z (qi A).length N) m y tb) (v1 : ∀ w, vIn w ta → w < tot E (qi A)) (v2 : ∀ w, vIn w tb → w < tot E (qi A)) (hOk : zOk n0 u0 Z T n u) (hsp : zSp F T mo T m) (hm : m 47 10 < 2147483000) (hC : ∀ m' A', (∀ (a : Nat) (e : Int), a < 41 ∨ a = 46 ∨ a = 53 ∨ (69 ≤ a ∧ a ≤ 73) ∨ F a → m' a e = m a e) → (m 47 10 ≤ m' 47 10 ∧ m' 47 10 ≤ m 47 10 + 2) → qn A' 0 = qn A 0 → qn A' 1 = qn A 1 → qn A' 2 = qn A 2 → qn A' 4 = qn A 4 → cCt m' A' K 0) (h : cOut E F N K n0 u0 T mo (quni E A ta tb) Q) : wq_148 x y 38656 T m (fun r m' => Q r (T, n, u, m')) := by
  obtain ⟨B, TI, hSb⟩ := hS.sb
  have hU := zX_uPr hS.1 N
  have hcap := hU.2.1.2.2.1
  have fr : ∀ m' : hy_m, (∀ (a : Nat) (e : Int), a < 41 ∨ a = 46 ∨ a = 53 ∨ (69 ≤ a ∧ a ≤ 73) ∨ F a → m' a e = m a e) → zSp F T mo T m' := fun m' q1 => hsp.tr ⟨fun _ _ q => q, fun a e q => q1 a e (by
    rcases q with q | q | q
    · exact Or.inl (Nat.lt_trans q (by decide))
    · exact Or.inr (Or.inr (Or.inr (Or.inl q)))
    · exact Or.inr (Or.inr (Or.inr (Or.inr q))))⟩
  refine sp_uc (O := fun _ => True) hO.1 hSb hm h1 h2 v1 v2 (fun _ _ _ _ _ _ => trivial) (fun w q => absurd trivial q) (fun _ _ _ _ => trivial) (fun i n' j n'' q1 q2 q3 q4 q5 q6 => ?_) (fun m3 s3 y1 y2 y3 y4 y5 => ?_) (fun m3 y1 y2 y3 y4 y5 => ?_)
  · obtain ⟨g1, g2, g3, g4, -⟩ := hU.2.1.2.2.2.2.2 i q1
    omega
  · have e : quni E A ta tb = qbind E A s3 := by unfold quni; rw [y4]
    rw [e] at h
    exact h.1 1 Z T n u m3 (by decide) (fr m3 y1) hOk y5 (hC m3 _ y1 y3 rfl rfl rfl rfl)
  · have e : quni E A ta tb = qbk E A := by unfold quni; rw [y4]
    rw [e] at h
    exact h.2 A Z T n u m3 hO.fl rfl (fr m3 y1) hOk y5 (hC m3 _ y1 y3 rfl rfl rfl rfl)
/-- an error -/
theorem sp_noc {er : Nat} (hS : cFl E F Z N T m A) (hOk : zOk n0 u0 Z T n u) (hsp : zSp F T mo T m) (hCt : cCt m A K 0) (h : cO1 E F N K n0 u0 T mo (qfin A 4 er) Q) : wq_88 4 (er : Int) T m (fun _ m' => Q 1 (T, n, u, m')) := by
  refine sp_fin (st := 4) (er := er) (N := N) hS.1 hS.2.1 hOk hCt (fun m' g1 g2 g3 g4 => ?_)
  exact h 1 _ T n u m' (by decide) (hsp.tr g1) g2 g3 g4
end CUN
