/-! TURNS: A VARIABLE, A COMPOUND -/
section CTV
variable {X : cX} {U : uX} {T : hy_T} {m0 m : hy_m} {B : bM} {sus : Nat → Prop} {I L x1 e : Int} {S : List Int} {k : Nat} {Q P : Int → hy_m → Prop}
theorem lFr_fx (h : lFr U m0 L m) : uFx X U m0 m := lIv_fx h.1
/-- a variable that was left -/
theorem lT_left {z w : Nat} (hp : lPr X U T m0 B I L) (hF : lFr U m0 L m) (h : lSt X U m0 B sus I L x1 m (e :: S) k) (hl : (e :: S).length ≤ 76 * xcap X) (e0 : 0 ≤ e) (het : cTm X m0 e (.var w)) (hD : cDm X w) (hz : sV X z w) (hm : m (ym U) (z : Int) = L) : lIv X U m0 B sus I L (x1 + 1) (hy_u m 47 7 (S.length : Int)) :=
  lT_none hp hF h hl e0 (Or.inl ⟨e0, het, fun a q => (show w = a from q) ▸ hD⟩) (fun a q => ⟨z, (show w = a from q) ▸ hz, hm⟩)
/-- a variable that it is inside of -/
theorem lT_in {z w : Nat} (h : lSt X U m0 B sus I L x1 m (e :: S) k) (e0 : 0 ≤ e) (het : cTm X m0 e (.var w)) (hD : cDm X w) (hz : sV X z w) (hm : m (ym U) (z : Int) = I) (v : Nat → pE) : ¬ Sol B v := by
  obtain ⟨hsk, hS, hd, hin, hf, hk, h0, hx⟩ := h
  rcases List.mem_cons.mp (hin z w hz hm) with q | q
  · have := mkf_neg (X := X) w
    omega
  · obtain ⟨ab, be, rfl⟩ := List.append_of_mem q
    exact dI_back (ab := e :: ab) (be := be) (w := w) hd ⟨e, List.mem_cons_self .., Or.inl ⟨e0, het, fun a q => (show w = a from q) ▸ hD⟩⟩ v
/-- what a binding is that isn't a ref -/
theorem bd_neg {z w : Nat} (hw : cW X T m0) (hB : cBd X m0 B) (hz : sV X z w) (hn : m0 (xb4 X) (z : Int) < 0) : ∀ t, B w = some t → ∀ a, ¬ vIn a t := by
  obtain ⟨i, n, hi, hn', rfl, rfl⟩ := hz
  rw [show ((8 * i + n : Nat) : Int) = 8 * (i : Int) + (n : Int) by omega] at hn
  intro t ht a ha
  rcases hB.1 i n hi hn' with ⟨q, _⟩ | ⟨t', q1, q2, q3, q4⟩
  · rw [q] at ht
    cases ht
  · rw [q1] at ht
    injection ht with ht
    subst ht
    rcases q3 with ⟨j, _, _, rfl, _⟩ | ⟨i', n', u, _, e', _⟩
    · exact ha
    · omega
/-- what it is if it is one -/
theorem bd_pos {z w : Nat} (hB : cBd X m0 B) (hz : sV X z w) (hn : 0 ≤ m0 (xb4 X) (z : Int)) : ∃ u, B w = some u ∧ cTm X m0 (m0 (xb4 X) (z : Int)) u ∧ ∀ a, vIn a u → cDm X a := by
  obtain ⟨i, n, hi, hn', rfl, rfl⟩ := hz
  rw [show ((8 * i + n : Nat) : Int) = 8 * (i : Int) + (n : Int) by omega] at hn ⊢
  rcases hB.1 i n hi hn' with ⟨_, q⟩ | ⟨t', q1, q2, q3, q4⟩
  · omega
  · exact ⟨t', q1, q3, q4⟩
theorem bd_live (hB : cBd X m0 B) (a : Nat) (h : B a ≠ none) : ∃ z, sV X z a := by
  refine Classical.byContradiction fun c => h (hB.2 a fun ⟨i, n, h1, h2, h3⟩ => c ⟨8 * i + n, i, n, h1, h2, rfl, h3⟩)
/-- a variable that it hasn't come to -/
theorem lT_new {z w : Nat} (hp : lPr X U T m0 B I L) (hF : lFr U m0 L m) (h : lSt X U m0 B sus I L x1 m (e :: S) k) (hl : S.length + 4 ≤ 76 * xcap X) (e0 : 0 ≤ e) (het : cTm X m0 e (.var w)) (hD : cDm X w) (hz : sV X z w) (hmI : m (ym U) (z : Int) ≠ I) (hmL : m (ym U) (z : Int) ≠ L) (hP : ∀ m', lIv X U m0 B sus I L (x1 + 1) m' → lFr U m0 L m' → P 0 m') : wq_152 (z : Int) T (hy_u m 47 7 (S.length : Int)) P := by
  have hp' := hp
  obtain ⟨hs, hw, hU, hO, hG, h4, hN, hB, ho, hI, hL, hIL⟩ := hp
  obtain ⟨hsk, hS, hd, hin, hf, hk, h0, hx⟩ := h
  have hF' := lFr_pop (v := (S.length : Int)) hs hF
  have fx := lFr_fx (X := X) hF'
  have hne := hs.ne
  have hn47 := hs.n47
  have e9 : (hy_u m 47 7 (S.length : Int)) 47 9 = I := by rw [lFr_47 hs hF' (by decide)]; exact hI
  have e10 : (hy_u m 47 7 (S.length : Int)) 47 10 = L := by rw [lFr_47 hs hF' (by decide)]; exact hL
  have eb : ∀ a : Int, (hy_u m 47 7 (S.length : Int)) (xb4 X) a = m0 (xb4 X) a := fun a => hF'.1 _ _ (fun q => hne.2.2.2.1.2.2.2.2.2 q.symm) (fun q => hne.2.2.2.2.2 q.symm) (fun q => hn47.2.2.2.2.2.2 q.1)
  have hDv : ∀ a, vIn a (.var w) → cDm X a := fun a q => (show w = a from q) ▸ hD
  refine sp_152 (S := S) hs (cW_fx hs fx hw) (uW_fx hs fx hU) (sK_pop hs hsk) (by omega) (sV_lt hw hz) (fun q => ?_) (fun q => ?_)
  · rw [eb] at q ⊢
    rw [e9]
    obtain ⟨u, g1, g2, g3⟩ := bd_pos hB hz q
    have hFm := lFr_mk (z := (z : Int)) hs (show I ≤ L by omega) hF'
    have hF1 := lFr_pu (j := S.length) (x := -1 - (z : Int)) hs hFm
    have hF2 := lFr_pu (j := S.length + 1) (x := m0 (xb4 X) (z : Int)) hs hF1
    have sk1 : sK U (hy_u (hy_u m 47 7 (S.length : Int)) (ym U) (z : Int) I) S := by
      refine sK_k ?_ ?_ (sK_pop hs hsk)
      · exact hy_ua (fun q => hn47.2.2.2.2.1 q.symm)
      · funext a
        exact hy_ua hne.2.2.2.1.2.2.2.1
    refine hP _ (lIv_enter (y := m0 (xb4 X) (z : Int)) hw hO (by omega) (bd_live hB) e0 hz het hDv g1 (fun a q => ho w a (q ▸ g1)) q g2 g3 (hN _ _ g2) hmI hmL hd hin hS hf hk h0 hx (by omega) hF2.1 (sK_push hs (sK_push hs sk1)) (fun z' => ?_)) hF2
    have hy : ∀ (mm : hy_m) (j : Nat) (x : Int), uPu U mm j x (ym U) z' = mm (ym U) z' := fun mm j x => uPu_sk (ym U) z' (fun q => hne.2.2.2.1.2.2.2.1 q.symm) (fun q => hn47.2.2.2.2.1 q.1)
    rw [hy, hy]
    by_cases c : z' = (z : Int)
    · rw [if_pos c, c, hy_us]
    · rw [if_neg c, hy_uf (fun q => c q.2), hy_ua hn47.2.2.2.2.1]
  · rw [eb] at q
    rw [e10]
    have hFm := lFr_mk (z := (z : Int)) hs (Int.le_refl L) hF'
    refine hP _ (lIv_leave hw hO (by omega) hz (Or.inl ⟨e0, het, hDv⟩) (Acc.intro w fun y hy => ?_) hd hin hS hf hk h0 hx (show S.length + 1 ≤ _ by omega) hFm.1 (sK_k ?_ ?_ (sK_pop hs hsk)) (fun z' => ?_)) hFm
    · obtain ⟨t, g1, g2⟩ := hy
      exact absurd g2 (bd_neg hw hB hz q t g1 y)
    · exact hy_ua (fun q => hn47.2.2.2.2.1 q.symm)
    · funext a
      exact hy_ua hne.2.2.2.1.2.2.2.1
    · by_cases c : z' = (z : Int)
      · rw [if_pos c, c, hy_us]
      · rw [if_neg c, hy_uf (fun q => c q.2), hy_ua hn47.2.2.2.2.1]
/-- a compound -/
theorem lT_comp {b : pE} {kk : Int} (hp : lPr X U T m0 B I L) (hF : lFr U m0 L m) (h : lSt X U m0 B sus I L x1 m (e :: S) k) (hl : S.length + 4 ≤ 76 * xcap X) (e0 : 0 ≤ e) (het : cTm X m0 e (.mulL kk b)) (hD : ∀ w, vIn w b → cDm X w) (hb : isL b) (h3 : eN b ≤ 3) (h1 : eN b ≠ 0) (hP : ∀ m', lIv X U m0 B sus I L (x1 + 1) m' → lFr U m0 L m' → P (x1 + 1) m') : wq_151_163 P x1 e (eN b : Int) 0 T (hy_u m 47 7 (S.length : Int)) Q := by
  have hp' := hp
  obtain ⟨hs, hw, hU, hO, hG, h4, hN, hB, ho, hI, hL, hIL⟩ := hp
  obtain ⟨hsk, hS, hd, hin, hf, hk, h0, hx⟩ := h
  have hF' := lFr_pop (v := (S.length : Int)) hs hF
  have fx := lFr_fx (X := X) hF'
  refine sp_151_163 hs (cW_fx hs fx hw) (uW_fx hs fx hU) (cTm_fx hs fx het) h3 (sK_pop hs hsk) (by omega) (show -2147483648 ≤ _ ∧ _ < 2147483648 by omega) (fun m' N g1 g2 g3 => ?_)
  have eT : ∀ (x : Int) (t : pE), cTm X (hy_u m 47 7 (S.length : Int)) x t → cTm X m0 x t := fun x t q => cTm_fx hs fx.sy q
  have g2 : aPs X m0 b (eN b) N := ⟨g2.1, fun e' he' => ⟨(g2.2.1 e' he').1, (g2.2.1 e' he').2.imp fun j q => ⟨q.1, eT _ _ q.2⟩⟩, fun j hj => (g2.2.2.1 j hj).imp fun e' q => ⟨q.1, eT _ _ q.2⟩, wgR_mo N _ (fun e' _ t q => eT _ _ q) g2.2.2.2⟩
  have hF2 : lFr U m0 L m' := by
    refine ⟨fun a e q1 q2 q3 => ?_, fun z' => ?_⟩
    · rw [g1 a e q1 q3]
      exact hF'.1 a e q1 q2 q3
    · rw [g1 (ym U) z' (fun q => hs.ne.2.2.2.1.2.2.2.1 q.symm) (fun q => hs.n47.2.2.2.2.1 q.1)]
      exact hF'.2 z'
  have hNe : ∀ e' ∈ N, ∀ t, cTm X m0 e' t → eTm X m0 e' t := fun e' he' t ht => by
    obtain ⟨q1, j, q2, q3⟩ := g2.2.1 e' he'
    rw [cTm_uq ht q3]
    exact Or.inl ⟨q1, q3, fun z hz => hD z (vIn_ar z b j hb q2 hz)⟩
  refine hP m' (lIv_pop (N := N) (kn := ndS b (eN b)) hw e0 (Or.inl ⟨e0, het, hD⟩) (dI_args hw hd het e0 hD hb g2) hin hS (fun e' he' => ?_) (fun v hv => ?_) hk (wgR_mo N _ hNe g2.2.2.2) ?_ h0 hx ?_ hF2.1 g3 ?_) hF2
  · obtain ⟨q1, j, q2, q3⟩ := g2.2.1 e' he'
    exact ⟨_, hNe e' he' _ q3⟩
  · have hff := hf v hv
    rw [List.filter_cons_of_pos (by simpa using e0)] at hff
    have hfn : N.filter (fun e => decide (0 ≤ e)) = N := List.filter_eq_self.mpr (fun e' he' => by simpa using (g2.2.1 e' he').1)
    rw [List.filter_append, hfn]
    refine yfP_exp hff het (show 1 ≤ eN b by omega) (show N.length ≤ eN b by rw [g2.1]; exact Nat.le_refl _) (fun e' he' t ht => ?_)
    obtain ⟨q1, j, q2, q3⟩ := g2.2.1 e' he'
    rw [cTm_uq ht q3]
    have z1 := ar_sz v b j hb q2
    have z2 : sz (sb v (.mulL kk b)) = 1 + sz (sb v b) := rfl
    omega
  · have := ndS_L b hb
    have : nd (.mulL kk b) = 1 + nd b := rfl
    omega
  · rw [List.length_append, g2.1]
    omega
  · funext z'
    rw [g1 (ym U) z' (fun q => hs.ne.2.2.2.1.2.2.2.1 q.symm) (fun q => hs.n47.2.2.2.2.1 q.1), hy_ua hs.n47.2.2.2.2.1]
end CTV
