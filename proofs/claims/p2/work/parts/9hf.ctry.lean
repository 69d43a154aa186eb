/-! THE CLASS'S SEARCH: a clause is tried -/
section CT
variable {E : qE} {l l' TI TI' TL : List Nat} {F : Nat → Prop} {T T' : hy_T} {m m' : hy_m} {Z Z' : cZ} {N N' n u k n0 u0 K : Nat} {A : qA} {B B' : bM} {s s' : Nat → pE} {Q : sQ}
/-- an instance: its cell, its rows, its terms -/
theorem ins_at (hP : cPr E F T m Z l) (N : Nat) {i : Nat} (hi : i = 0 ∨ 2 ≤ i) (hi2 : i < l.length + 2) : ∃ (hd : Option pE) (a c k0 k1 k2 k4 nv : Nat), xL (zX Z l.length N) i ∧ xA (zX Z l.length N) i = a ∧ m (z1 Z) (i : Int) = a ∧ cRw T m F a c k0 k1 k2 k4 hd (gsO E l i) ∧ kOK hd (gsO E l i) nv ∧ m a 5 = nv ∧ xV (zX Z l.length N) i = nv ∧ xP (zX Z l.length N) i = plc E l i ∧ plc E l i + nv ≤ tot E l ∧ (∀ q (_ : q < (gsO E l i).length), 0 ≤ m k4 (q : Int) ∧ m k4 (q : Int) < 128 ∧ cTm (zX Z l.length N) m (128 * (i : Int) + m k4 (q : Int)) (rn (plc E l i) (gsO E l i)[q])) ∧ (∀ h, hd = some h → 0 ≤ m a 3 ∧ m a 3 < 128 ∧ cTm (zX Z l.length N) m (128 * (i : Int) + m a 3) (rn (plc E l i) h)) ∧ (i = 0 → hd = none ∧ nv = E.2.2 ∧ m (z2 Z) 0 = -9) ∧ ∀ c', 2 ≤ i → l[i - 2]? = some c' → m (z2 Z) (i : Int) = (c' : Nat) ∧ ∃ cl, E.1[c']? = some cl ∧ hd = some cl.1 ∧ nv = cl.2.2 := by
  have hA := zX_all hP l.length N (Nat.le_refl _)
  have hI := wIs_tk hP.2.2.2.1 l.length (Nat.le_refl _)
  rw [List.take_length] at hI
  -- one entry
  have key : ∀ (e : cEn) (hd : Option pE) (gs : List pE), e ∈ (zW Z).take (l.length + 1) → e.1 = i → wOn T m F (z1 Z) (zc Z) hd gs e → gsO E l i = gs → e.2.2.2.1 = plc E l i → plc E l i + e.2.2.1 ≤ tot E l → (i = 0 → hd = none ∧ e.2.2.1 = E.2.2 ∧ m (z2 Z) 0 = -9) → (∀ c', 2 ≤ i → l[i - 2]? = some c' → m (z2 Z) (i : Int) = (c' : Nat) ∧ ∃ cl, E.1[c']? = some cl ∧ hd = some cl.1 ∧ e.2.2.1 = cl.2.2) → ∃ (hd : Option pE) (a c k0 k1 k2 k4 nv : Nat), xL (zX Z l.length N) i ∧ xA (zX Z l.length N) i = a ∧ m (z1 Z) (i : Int) = a ∧ cRw T m F a c k0 k1 k2 k4 hd (gsO E l i) ∧ kOK hd (gsO E l i) nv ∧ m a 5 = nv ∧ xV (zX Z l.length N) i = nv ∧ xP (zX Z l.length N) i = plc E l i ∧ plc E l i + nv ≤ tot E l ∧ (∀ q (_ : q < (gsO E l i).length), 0 ≤ m k4 (q : Int) ∧ m k4 (q : Int) < 128 ∧ cTm (zX Z l.length N) m (128 * (i : Int) + m k4 (q : Int)) (rn (plc E l i) (gsO E l i)[q])) ∧ (∀ h, hd = some h → 0 ≤ m a 3 ∧ m a 3 < 128 ∧ cTm (zX Z l.length N) m (128 * (i : Int) + m a 3) (rn (plc E l i) h)) ∧ (i = 0 → hd = none ∧ nv = E.2.2 ∧ m (z2 Z) 0 = -9) ∧ ∀ c', 2 ≤ i → l[i - 2]? = some c' → m (z2 Z) (i : Int) = (c' : Nat) ∧ ∃ cl, E.1[c']? = some cl ∧ hd = some cl.1 ∧ nv = cl.2.2 := by
    intro e hd gs he hei hon hgs hpl hto h0 h2
    obtain ⟨a1, a2, a3, a4, a5, a6, a7, a8⟩ := wX_at (c1 := z1 Z) (b4 := z4 Z) (cap := zc Z) (N := N) hA.1 he
    obtain ⟨b1, ⟨k4, b2, b3⟩, b5, b6, b7, b8, b9⟩ := hon
    have hc := kNd_all b2 b6 b7
    rw [← b3] at hc
    have hc127 := b2.1.2.2.2.2.2.2.2
    subst hgs
    rw [hei] at a1 a6 a7
    have tm : ∀ (x : Int) (t : pE), x ∈ e.2.2.2.2 → cQ m e.2.1.2.1 e.2.1.2.2.1 e.2.1.2.2.2.1 e.2.1.2.2.2.2 t x → eK e.2.2.1 t false → 0 ≤ x ∧ x < 128 ∧ cTm (zX Z l.length N) m (128 * (i : Int) + x) (rn (plc E l i) t) := by
      intro x t q1 q2 q3
      have hx := (hc.1 x q1).1
      refine ⟨hx.1, by omega, (wTm hA).mpr (Or.inr ⟨e, x.toNat, t, he, by rw [hei]; omega, ⟨by omega, Or.inr ?_⟩, ?_, q3, by rw [hpl]⟩)⟩
      · rw [Int.toNat_of_nonneg hx.1]; exact q1
      · rw [Int.toNat_of_nonneg hx.1]; exact q2
    exact ⟨hd, e.2.1.1, e.2.1.2.1, e.2.1.2.2.1, e.2.1.2.2.2.1, e.2.1.2.2.2.2, k4, e.2.2.1, ⟨e, he, hei⟩, a1, by rw [← hei]; exact b1, b2, b6, b5, a6, a7.trans hpl, hto, fun q hq => tm _ _ (hc.2.1 q hq) (b2.2.2.2.2.2.2.1 q hq) (b6.2.2.1 _ (List.getElem_mem hq)).1, fun h hh => tm _ _ (hc.2.2.1 h hh) (b2.2.2.2.2.2.1 h hh) (b6.2.1 h hh).1, h0, h2⟩
  obtain ⟨g1, ⟨e0, g2, g3, g4, g5, g6, g8⟩, g7⟩ := hI
  rcases hi with rfl | hi
  · refine key e0 none E.2.1 (List.mem_of_getElem? g2) g3 g6 ?_ ?_ ?_ (fun _ => ⟨rfl, g4, g8⟩) (fun c' q => absurd q (by decide))
    · unfold gsO
      rw [if_pos rfl]
    · unfold plc
      rw [if_pos rfl]
      exact g5
    · unfold plc tot
      rw [if_pos rfl]
      omega
  · have hj : i - 2 < l.length := by omega
    obtain ⟨e, cl, a1, a2, a3, a4, a5, a6, a7⟩ := g7 (i - 2) _ (List.getElem?_eq_getElem hj)
    refine key e (some cl.1) cl.2.1 (List.mem_of_getElem? a1) (by omega) a6 ?_ ?_ ?_ (fun q => by omega) (fun c' _ q => ?_)
    · unfold gsO
      rw [if_neg (by omega), List.getElem?_eq_getElem hj]
      dsimp only
      rw [a2]
    · unfold plc
      rw [if_neg (by omega)]
      exact a5
    · unfold plc
      rw [if_neg (by omega), a4, ← nvO_s a2, ← tot_tk (List.getElem?_eq_getElem hj)]
      exact tot_pre (List.take_prefix _ _)
    · rw [List.getElem?_eq_getElem hj] at q
      injection q with q
      rw [← q]
      rw [show i - 2 + 2 = i by omega] at a7
      exact ⟨a7, cl, a2, rfl, a4⟩
/-- more computed integers -/
theorem cSe_N (hk : ∀ c ∈ qh A, c.2.2.2.1.1 ≤ (qi A).length) (hN : N ≤ N') (hS : cSe E F Z N T m A) : cSe E F Z N' T m A := by
  obtain ⟨hP, hNm, ⟨h3, h5, h8, hch⟩, B, TI, hD, hRes, hTI⟩ := hS
  have hTE : tE (zX Z (qi A).length N) m (zX Z (qi A).length N') m := tE_s hP hP (Nat.le_refl _) (Nat.le_refl _) (fun _ q => q) (fun _ _ _ => rfl) (fun _ _ => rfl) hN
  exact ⟨hP, hNm, ⟨h3, h5, h8, cCh_mo hTE (Nat.le_refl _) (fun _ q => q) _ _ _ (fun _ _ _ q => ⟨q, fun _ => rfl⟩) hch⟩, B, TI, cDy_x (FC := zF Z) (CC := zC Z) hP hP hk hN (fun _ _ => rfl) (fun _ _ _ => rfl) (fun _ => rfl) (fun _ => rfl) rfl rfl rfl (fun _ _ _ _ _ q => ⟨q, fun _ => rfl⟩) (fun _ _ _ q => ⟨q, fun _ => rfl⟩) hD, hRes, hTI⟩
theorem cFl_N (hk : ∀ c ∈ qh A, c.2.2.2.1.1 ≤ (qi A).length) (hN : N ≤ N') (hS : cFl E F Z N T m A) : cFl E F Z N' T m A := by
  obtain ⟨hP, hNm, ⟨B, TI, hD⟩, h8⟩ := hS
  exact ⟨hP, hNm, ⟨B, TI, cDy_x (FC := zF Z) (CC := zC Z) hP hP hk hN (fun _ _ => rfl) (fun _ _ _ => rfl) (fun _ => rfl) (fun _ => rfl) rfl rfl rfl (fun _ _ _ _ _ q => ⟨q, fun _ => rfl⟩) (fun _ _ _ q => ⟨q, fun _ => rfl⟩) hD⟩, h8⟩
/-- cells that hold neither instances nor bindings nor frames nor choices may change -/
theorem cSe_o {A' : qA} (h : cSe E F Z N T m A) (hk : ∀ c ∈ qh A, c.2.2.2.1.1 ≤ (qi A).length) (hf : ∀ (a : Nat) (e : Int), ¬ (a = 36 ∧ (e = 7 ∨ 9 ≤ e)) → a ≠ 39 → a ≠ 40 → m' a e = m a e) (e8 : qn A' 8 = qn A 8) (e7 : qn A' 7 = qn A 7) (eA : A'.2.2.2 = A.2.2.2) (hN : cNm m' A') : cSe E F Z N T m' A' := by
  obtain ⟨hP, -, ⟨h3, h5, h8, hch⟩, B, TI, hD, hRes, hTI⟩ := h
  have ei : qi A' = qi A := congrArg (fun x => x.1) eA
  have es : qs A' = qs A := congrArg (fun x => x.2.1) eA
  have ep : qp A' = qp A := congrArg (fun x => x.2.2.1) eA
  have eh : qh A' = qh A := congrArg (fun x => x.2.2.2) eA
  have nn : ∀ {a : Nat} {e : Int}, a ≠ 36 → a ≠ 39 → a ≠ 40 → m' a e = m a e := fun q1 q2 q3 => hf _ _ (fun z => q1 z.1) q2 q3
  have hO := hP.2.2.2.2.1
  obtain ⟨zz1, zz2, zz3, zz4, zz5, zz6, zz7⟩ := cRo_z hP.1
  have hyt := (hP.1.1.2 (yt (zU Z)) (by unfold rwL; simp)).1
  have hP' : cPr E F T m' Z (qi A) := cPr_s hP (fun a e q => nn (fun z => q (Or.inl z)) (fun z => q (Or.inr (Or.inl z))) (fun z => q (Or.inr (Or.inr (Or.inl z)))))
  have hFc : ∀ b z, F b → m' b z = m b z := fun b z hb => by
    have := hP.1.2.1 b hb
    exact nn (by omega) (by omega) (by omega)
  have hTE : tE (zX Z (qi A).length N) m (zX Z (qi A).length N) m' := tE_s hP hP' (Nat.le_refl _) (Nat.le_refl _) (fun _ q => q) hFc (fun _ _ => nn (by decide) (by decide) (by decide)) (Nat.le_refl _)
  have hFr : ∀ (j c' : Nat), (zF Z)[j]? = some c' → ∀ z, m' c' z = m c' z := fun j c' q z => by
    have := (hO.1.2.1 j c' q).2.2.1
    exact nn (by omega) (by omega) (by omega)
  have hCr : ∀ (j c' : Nat), (zC Z)[j]? = some c' → ∀ z, m' c' z = m c' z := fun j c' q z => by
    have := (hO.2.2.1 j c' q).2.2.1
    exact nn (by omega) (by omega) (by omega)
  have d := cDy_x (FC := zF Z) (CC := zC Z) hP hP' hk (Nat.le_refl N) (fun _ _ => nn (by decide) (by decide) (by decide)) hFc (fun e => nn (by omega) (by omega) (by omega)) (fun e => nn (by omega) (by omega) (by omega)) (nn (by decide) (by decide) (by decide)) (nn (by decide) (by decide) (by decide)) (hf _ _ (by omega) (by decide) (by decide)) (fun _ _ j c' _ q => ⟨q, hFr j c' q⟩) (fun j c' _ q => ⟨q, hCr j c' q⟩) hD
  refine ⟨by rw [ei]; exact hP', hN, ⟨by rw [ei, nn (by decide) (by decide) (by decide)]; exact h3, by rw [e8, hf _ _ (by omega) (by decide) (by decide)]; exact h5, by rw [e8]; exact h8, ?_⟩, B, TI, ?_, by rw [es]; exact hRes, by rw [e7]; exact hTI⟩
  · rw [ei, es, e8, ep, hf _ _ (by omega) (by decide) (by decide)]
    exact cCh_mo hTE (Nat.le_refl _) (fun _ q => q) _ _ _ (fun j c' _ q => ⟨q, hFr j c' q⟩) hch
  · unfold cDy
    rw [ei, eh]
    exact d
end CT
