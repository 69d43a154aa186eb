/-! THE CLASS LISTS A CLAUSE -/
/-- what a listing leaves alone -/
def cLs (Z : cZ) (T : hy_T) (m m' : hy_m) : Prop := (∀ (b : Nat) (e : Int), ¬ (b = z1 Z ∧ e = 1) → ¬ (b = z2 Z ∧ e = 1) → ¬ (b = z4 Z ∧ 8 ≤ e ∧ e < 16) → ¬ (70 ≤ b ∧ b ≤ 73) → ¬ (b = 69 ∧ (e = 2 ∨ e = 4 ∨ e = 7)) → m' b e = m b e) ∧ ∃ a : Nat, m' (z1 Z) 1 = a ∧ T.1 a = some (3, 9)
section CLI
variable {E : qE} {F : Nat → Prop} {T T' : hy_T} {m m' : hy_m} {Z : cZ} {Q : Int → hy_m → Prop} {x k : Int} {PL : List pCl} {l : List Nat} {N : Nat} {A : qA}
theorem cRo_d (hR : cRo F T m Z) (hf : ∀ (b : Nat) (e : Int), ¬ (b = z1 Z ∧ e = 1) → ¬ (b = z2 Z ∧ e = 1) → ¬ (b = z4 Z ∧ 8 ≤ e ∧ e < 16) → ¬ (70 ≤ b ∧ b ≤ 73) → ¬ (b = 69 ∧ (e = 2 ∨ e = 4 ∨ e = 7)) → m' b e = m b e) : cRo F T m' Z := by
  obtain ⟨ne1, ne2, ne3, ne4, ne5, ne6, ne7, ne8, ne9, ne10, ne11, ne12, ne13, ne14⟩ := cRo_ne hR
  obtain ⟨zz1, zz2, zz3, zz4, zz5, zz6, zz7⟩ := cRo_z hR
  have hR' := hR
  obtain ⟨r1, r2, r3, r4, r5, r6, r7, r8, r9, r10, r11⟩ := hR
  have hn := r1.1
  unfold rwL at hn
  simp only [List.nodup_cons, List.mem_cons, List.not_mem_nil, or_false, not_or, List.nodup_nil, and_true, not_false_eq_true] at hn
  obtain ⟨⟨n1, n2, n3, n4, n5, n6, n7, n8, n9, n10⟩, ⟨p1, p2, p3, p4, p5, p6, p7, p8, p9⟩, ⟨q1, q2, q3, q4, q5, q6, q7, q8⟩, -⟩ := hn
  have bj := (r1.2 (yj (zU Z)) (by unfold rwL; simp)).2.2.2.2.1
  have bm := (r1.2 (ym (zU Z)) (by unfold rwL; simp)).2.2.2.2.1
  have bv := (r1.2 (zV Z).2 (by unfold rwL; simp)).2.2.2.2.1
  have r41 : ∀ e, m' 41 e = m 41 e := fun e => hf _ e (by omega) (by omega) (by omega) (by omega) (by omega)
  have r47 : ∀ e, m' 47 e = m 47 e := fun e => hf _ e (fun z => zz2 z.1.symm) (fun z => zz4 z.1.symm) (fun z => ne9 z.1.symm) (by omega) (by omega)
  have r53 : ∀ e, m' 53 e = m 53 e := fun e => hf _ e (fun z => ne13 z.1.symm) (fun z => ne14 z.1.symm) (fun z => ne10 z.1.symm) (by omega) (by omega)
  refine ⟨r1, r2, r3, ⟨by rw [r41]; exact r4.1, r4.2⟩, ⟨by rw [r41]; exact r5.1, r5.2⟩, ⟨by rw [r41]; exact r6.1, r6.2⟩, ?_, ?_, ⟨fun z z1 z2 => ?_, fun z => ?_, by rw [r47]; exact r9.2.2⟩, fun z => ?_, by rw [r53]; exact r11⟩
  · rw [r47, r47, r47, r47, r47, r41]; exact r7
  · rw [r53, r53, r53, r53]; exact r8
  · rw [hf _ _ (fun w => n3 w.1.symm) (fun w => p2 w.1.symm) (fun w => q1 w.1.symm) (fun w => bj ⟨by omega, by omega⟩) (fun w => bj ⟨by omega, by omega⟩)]; exact r9.1 z z1 z2
  · rw [hf _ _ (fun w => n7 w.1.symm) (fun w => p6 w.1.symm) (fun w => q5 w.1.symm) (fun w => bm ⟨by omega, by omega⟩) (fun w => bm ⟨by omega, by omega⟩), r47]; exact r9.2.1 z
  · rw [hf _ _ (fun w => n10 w.1.symm) (fun w => p9 w.1.symm) (fun w => q8 w.1.symm) (fun w => bv ⟨by omega, by omega⟩) (fun w => bv ⟨by omega, by omega⟩), r53]; exact r10 z
set_option maxHeartbeats 1000000 in
theorem sp_10 (hR : cRo F T m Z) (hPo : cPo T m F 21 22 PL) (h30 : ∀ cl ∈ PL, aM cl.1 + aMs cl.2.1 ≤ 30) (h0 : ¬ (0 ≤ x ∧ x < PL.length ∧ 0 ≤ k) → Q (-1) m) (hq : ∀ (c : Nat) cl m', x = c → PL[c]? = some cl → 0 ≤ k → cLs Z T m m' → Q (tsA (tkp [] (lsT cl)) k) m') : wq_10 x k T m Q := by
  unfold wq_10
  refine sp_52 hPo (fun a1 a2 => ⟨fun q => absurd q (by decide), fun _ => ⟨fun hk => ?_, fun hk => h0 (by omega)⟩⟩) (fun q => ⟨fun _ => h0 (by omega), fun z => absurd rfl z⟩)
  obtain ⟨c, rfl⟩ : ∃ c : Nat, x = c := ⟨x.toNat, by omega⟩
  have hc : c < PL.length := by omega
  have hq := fun m' => hq c _ m' rfl (List.getElem?_eq_getElem hc) hk
  have ha30 := h30 _ (List.getElem_mem hc)
  refine sp_156 (fun m1 f1 o1 n1 => ?_)
  have low1 : ∀ (a : Nat) (e : Int), a < 69 ∨ 73 < a → m1 a e = m a e := fun a e q => f1 a e (by omega) (by omega)
  have hF1 : ∀ b z, F b → m1 b z = m b z := fun b z hb => low1 b z (by have := hR.2.1 b hb; omega)
  have hPo1 : cPo T m1 F 21 22 PL := cPo_fr hPo (fun _ q => q) (fun _ _ q => q) (fun b e q => by
    rcases q with q | q | q
    · exact hF1 b e q
    · exact low1 b e (by omega)
    · exact low1 b e (by omega))
  have hR1 : cRo F T m1 Z := cRo_d hR (fun b e _ _ _ q4 q5 => f1 b e q4 q5)
  refine sp_53 hPo1 (List.getElem?_eq_getElem hc) (fun a hcl hkk _ => ?_)
  generalize PL[c] = cl at hcl hkk hq ha30
  have hTa : T.1 a = some (3, 9) := cCl_T hcl
  have hzc := hR.2.2.1
  unfold wq_158
  refine sp_118 (i := 1) hR1 (by omega) hTa (fun m2 g1 g2 g3 g4 => ?_)
  have g1' : ∀ (b : Nat) (e : Int), ¬ (b = z1 Z ∧ e = 1) → ¬ (b = z2 Z ∧ e = 1) → ¬ (b = z4 Z ∧ 8 ≤ e ∧ e < 16) → m2 b e = m1 b e := fun b e q1 q2 q3 => g1 b e q1 q2 (fun z => q3 ⟨z.1, by have := z.2.1; omega, by have := z.2.2; omega⟩)
  have hR2 : cRo F T m2 Z := cRo_d hR1 (fun b e q1 q2 q3 _ _ => g1' b e q1 q2 q3)
  have hF2 : ∀ b z, F b → m2 b z = m1 b z := fun b z hb => g1' b z (fun q => (hR.1.2 (z1 Z) (by unfold rwL; simp)).2.2.2.2.2 (q.1 ▸ hb)) (fun q => (hR.1.2 (z2 Z) (by unfold rwL; simp)).2.2.2.2.2 (q.1 ▸ hb)) (fun q => (hR.1.2 (z4 Z) (by unfold rwL; simp)).2.2.2.2.2 (q.1 ▸ hb))
  have hcl2 : cCl T m2 F a (some cl.1) cl.2.1 cl.2.2 := cCl_fr hcl (fun _ q => q) (fun _ _ _ q => q) hF2
  obtain ⟨c', k0, k1, k2, k4, hrw, h5a⟩ := cCl_rw hcl2
  -- the world
  have hon : wOn T m2 F (z1 Z) (zc Z) (some cl.1) cl.2.1 (1, (a, c', k0, k1, k2), cl.2.2, 2490, kNd (m2 k2) (m2 k4) (m2 a 3) (some cl.1) cl.2.1) := ⟨g2, ⟨k4, hrw, rfl⟩, h5a, hkk, ha30, by have := hkk.1; show 2490 + cl.2.2 ≤ 2500; omega, by show 1 < zc Z; omega⟩
  have hnod := kNd_all hrw hkk ha30
  generalize hed : ((1, (a, c', k0, k1, k2), cl.2.2, 2490, kNd (m2 k2) (m2 k4) (m2 a 3) (some cl.1) cl.2.1) : cEn) = ed at hon
  have ed1 : ed.1 = 1 := by rw [← hed]
  have ed2 : ed.2.2.1 = cl.2.2 := by rw [← hed]
  have ed3 : ed.2.2.2.1 = 2490 := by rw [← hed]
  have ed4 : ed.2.2.2.2 = kNd (m2 k2) (m2 k4) (m2 a 3) (some cl.1) cl.2.1 := by rw [← hed]
  have ed5 : ed.2.1 = (a, c', k0, k1, k2) := by rw [← hed]
  have hA : wOl T m2 F (z1 Z) (zc Z) [ed] := ⟨by simp, fun e he => by
    rw [List.mem_singleton.mp he]
    exact ⟨_, _, hon⟩⟩
  obtain ⟨s1, s2, hs⟩ := cRo_sep (b4 := 0) (N := 0) hR2 hA
  have hcw : cW (wX [ed] (z1 Z) (z4 Z) (zc Z) 0) T m2 := wX_cW hA hR2.2.2.2.1.1 hR2.2.2.2.1.2 hzc.2 hR2.2.2.2.2.2.1.1 hR2.2.2.2.2.2.1.2
  have hO : cOr (wX [ed] (z1 Z) (z4 Z) (zc Z) 0) := wX_Or hA (fun e he e' he' h => by
    rw [List.mem_singleton.mp he, List.mem_singleton.mp he'] at h
    omega)
  have hxv : ∀ i, xL (wX [ed] (z1 Z) (z4 Z) (zc Z) 0) i → i = 1 ∧ xV (wX [ed] (z1 Z) (z4 Z) (zc Z) 0) i = cl.2.2 ∧ xP (wX [ed] (z1 Z) (z4 Z) (zc Z) 0) i = 2490 := by
    rintro i ⟨e, he, rfl⟩
    obtain ⟨-, -, -, -, -, a6, a7, -⟩ := wX_at (c1 := z1 Z) (b4 := z4 Z) (cap := zc Z) (N := 0) hA.1 he
    rw [List.mem_singleton.mp he] at a6 a7 ⊢
    exact ⟨ed1, a6.trans ed2, a7.trans ed3⟩
  have h8 := hkk.1
  have hB : cBd (wX [ed] (z1 Z) (z4 Z) (zc Z) 0) m2 (fun _ => none) := ⟨fun i n q1 q2 => Or.inl ⟨rfl, by
    obtain ⟨w1, w2, w3⟩ := hxv i q1
    rw [w2] at q2
    show m2 (z4 Z) _ = -1
    rw [w1]
    exact g4 _ (by omega) (by omega)⟩, fun _ _ => rfl⟩
  have hRs : Res (fun _ => none) (fun x => (.var x : pE)) := fun x => ⟨fun _ => rfl, fun t e => by cases e⟩
  have term : ∀ (n : Int) (t : pE), n ∈ kNd (m2 k2) (m2 k4) (m2 a 3) (some cl.1) cl.2.1 → cQ m2 c' k0 k1 k2 t n → eK cl.2.2 t false → cTm (wX [ed] (z1 Z) (z4 Z) (zc Z) 0) m2 (128 + n) (rn 2490 t) ∧ ∀ w, vIn w (rn 2490 t) → cDm (wX [ed] (z1 Z) (z4 Z) (zc Z) 0) w := by
    intro n t q1 q2 q3
    have hx := (hnod.1 n q1).1
    have hc127 := hrw.1.2.2.2.2.2.2.2
    refine ⟨(wTm hA).mpr (Or.inr ⟨ed, n.toNat, t, List.mem_singleton.mpr rfl, by rw [ed1]; omega, ⟨by omega, Or.inr ?_⟩, ?_, by rw [ed2]; exact q3, by rw [ed3]⟩), fun w hw => ?_⟩
    · rw [Int.toNat_of_nonneg hx.1, ed4]; exact q1
    · rw [Int.toNat_of_nonneg hx.1, ed5]; exact q2
    · have b1 := rn_ge q3 hw
      have b2 := rn_in q3 hw
      exact (wDm hA w).mpr ⟨ed, List.mem_singleton.mpr rfl, by rw [ed3]; exact b1, by rw [ed3, ed2]; exact b2⟩
  have o2 : cOu m2 [] := by
    have fr : ∀ (b : Nat) (e : Int), 69 ≤ b ∧ b ≤ 73 → m2 b e = m1 b e := fun b e q => g1' b e (fun z => (hR.1.2 (z1 Z) (by unfold rwL; simp)).2.2.2.2.1 (z.1 ▸ q)) (fun z => (hR.1.2 (z2 Z) (by unfold rwL; simp)).2.2.2.2.1 (z.1 ▸ q)) (fun z => (hR.1.2 (z4 Z) (by unfold rwL; simp)).2.2.2.2.1 (z.1 ▸ q))
    exact ⟨by rw [fr _ _ (by omega)]; exact o1.1, o1.2.1, (fun i c hc => by cases hc), by rw [fr _ _ (by omega)]; exact o1.2.2.2⟩
  have n2 : m2 69 4 = 0 := by
    rw [g1' 69 _ (fun z => (hR.1.2 (z1 Z) (by unfold rwL; simp)).2.2.2.2.1 (by omega)) (fun z => (hR.1.2 (z2 Z) (by unfold rwL; simp)).2.2.2.2.1 (by omega)) (fun z => (hR.1.2 (z4 Z) (by unfold rwL; simp)).2.2.2.2.1 (by omega))]
    exact n1
  have e4a : m2 a 4 = k4 := hrw.2.2.1
  have t4 := hrw.2.2.2.1
  have hFa := hrw.2.2.2.2.2.2.2
  clear g1
  generalize hX : wX [ed] (z1 Z) (z4 Z) (zc Z) 0 = X at hs hcw hO hxv hB term
  have hs : dSep X := by rw [← hX]; exact (cRo_sep (b4 := 0) (N := 0) hR2 hA).2.2
  have h69F : ∀ b, F b → b < 69 ∨ 73 < b := fun b hb => by have := hR.2.1 b hb; omega
  -- a term is put
  have put : ∀ (m3 : hy_m) (o : List Int) (nm : List Nat) (n : Int) (t : pE) (Q' : Int → hy_m → Prop), dFx m2 m3 → cOu m3 o → (o.length < 120 → cNa X m2 m3 nm ∧ 2 * nm.length ≤ o.length) → n ∈ kNd (m2 k2) (m2 k4) (m2 a 3) (some cl.1) cl.2.1 → cQ m2 c' k0 k1 k2 t n → eK cl.2.2 t false → (∀ m4, dFx m2 m4 → cOu m4 (tkp o (wM (rn 2490 t) 0 nm).1) → ((tkp o (wM (rn 2490 t) 0 nm).1).length < 120 → cNa X m2 m4 (wM (rn 2490 t) 0 nm).2 ∧ 2 * (wM (rn 2490 t) 0 nm).2.length ≤ (tkp o (wM (rn 2490 t) 0 nm).1).length) → Q' 0 m4) → wq_159 (128 + n) T m3 Q' := by
    intro m3 o nm n t Q' f3 o3 n3 q1 q2 q3 hQ
    obtain ⟨x1, x2⟩ := term n t q1 q2 q3
    have ag := dFx_ag hs f3
    have hb4 := dFx_b4 hs f3
    by_cases hl : o.length < 120
    · obtain ⟨n4, n5⟩ := n3 hl
      refine sp_159 hs hO (cW_ag ag hcw) (cBd_ag ag hb4 hB) hRs (cTm_ag ag x1) x2 o3 ⟨n4.1, n4.2.1, fun i v hv => cTm_ag ag (n4.2.2 i v hv)⟩ n5 (fun m4 f4 o4 n6 => ?_)
      rw [sb_rn_var] at o4 n6
      exact hQ m4 (f3.tr f4) o4 (fun q => by
        obtain ⟨y1, y2⟩ := n6 q
        exact ⟨⟨y1.1, y1.2.1, fun i v hv => cTm_ag ag.sy (y1.2.2 i v hv)⟩, y2⟩)
    · have hl2 : o.length = 120 := by have := o3.2.1; omega
      refine sp_159f hs hO (cW_ag ag hcw) (cBd_ag ag hb4 hB) hRs (cTm_ag ag x1) x2 o3 hl2 (fun m4 f4 o4 => ?_)
      have e : tkp o (wM (rn 2490 t) 0 nm).1 = o := tkp_full hl2
      rw [e] at hQ
      exact hQ m4 (f3.tr f4) o4 (fun q => by omega)
  have hhd := hnod.2.2.1 cl.1 rfl
  have hhx := (hnod.1 _ hhd).1
  have hc127 := hrw.1.2.2.2.2.2.2.2
  have hhk : eK cl.2.2 cl.1 false := (hkk.2.1 cl.1 rfl).1
  rw [Int.toNat_natCast, show 128 * ((1 : Nat) : Int) = 128 by decide]
  refine ⟨hTa, show -2147483648 ≤ _ ∧ _ < 2147483648 by omega, put m2 [] [] _ cl.1 _ (fun _ _ _ _ => rfl) o2 (fun _ => ⟨⟨n2, List.nodup_nil, fun i v hi => by cases hi⟩, Nat.zero_le _⟩) hhd (hrw.2.2.2.2.2.1 cl.1 rfl) hhk (fun m3 f3 o3 n3 => ?_)⟩
  -- the end
  have fin : ∀ m4, dFx m2 m4 → cLs Z T m m4 := fun m4 f4 => by
    have hz1 := (hR.1.2 (z1 Z) (by unfold rwL; simp)).2.2.2.2.1
    exact ⟨fun b e q1 q2 q3 q4 q5 => by rw [f4 b e q4 q5, g1' b e q1 q2 q3, f1 b e q4 q5], a, by rw [f4 _ _ (by omega) (by omega)]; exact g2, hTa⟩
  unfold wq_158_24
  intro P hP
  have key : ∀ (d i : Nat) (o : List Int) (nm : List Nat) (m4 : hy_m), i + d = cl.2.1.length → dFx m2 m4 → cOu m4 o → (o.length < 120 → cNa X m2 m4 nm ∧ 2 * nm.length ≤ o.length) → tkp [] (lsT cl) = tkp o (lsG (cl.2.1.drop i) (decide (i = 0)) nm ++ [46]) → P (i : Int) m4 := by
    intro d
    induction d with
    | zero =>
      intro i o nm m4 hi f4 o4 n4 e
      have hi : i = cl.2.1.length := by omega
      subst hi
      rw [List.drop_length] at e
      have e : tkp [] (lsT cl) = tkp o [46] := e
      refine hP _ _ ?_
      unfold wf_158_24
      rw [Int.toNat_natCast, f4 a 4 (by have := h69F a hFa.1; omega) (by have := h69F a hFa.1; omega), e4a, Int.toNat_natCast]
      refine ⟨hTa, 100, _, t4, by decide, fun _ => sp_168 (by decide) o4 (fun m5 f5 o5 => sp_157 o5 hk ?_), fun q => by omega⟩
      rw [← e]
      exact hq m5 (fin m5 (f4.tr (wFc_x f5)))
    | succ d ih =>
      intro i o nm m4 hi f4 o4 n4 e
      have hlt : i < cl.2.1.length := by omega
      rw [List.drop_eq_getElem_cons hlt] at e
      have hgk : eK cl.2.2 cl.2.1[i] false := (hkk.2.2.1 _ (List.getElem_mem hlt)).1
      have h5 := hkk.2.2.2.1
      have hgn := hnod.2.1 i hlt
      have hgx := (hnod.1 _ hgn).1
      -- behind the signs
      have go : ∀ (m5 : hy_m) (o5 : List Int), dFx m2 m5 → cOu m5 o5 → (o5.length < 120 → cNa X m2 m5 nm ∧ 2 * nm.length ≤ o5.length) → tkp [] (lsT cl) = tkp o5 ((wM (rn 2490 cl.2.1[i]) 0 nm).1 ++ (lsG (cl.2.1.drop (i + 1)) false (wM (rn 2490 cl.2.1[i]) 0 nm).2 ++ [46])) → wq_158_58 P (a : Int) 128 (i : Int) T m5 (fun _ m4 => wq_157 k m4 (fun r5 m5 => Q r5 m5)) := by
        intro m5 o5 f5 h5' n5 e5
        have hFk : k4 < 69 ∨ 73 < k4 := h69F k4 hFa.2.2.2.2.1
        have hFaa := h69F a hFa.1
        unfold wq_158_58
        rw [Int.toNat_natCast, f5 a 4 (by omega) (by omega), e4a, Int.toNat_natCast, f5 k4 _ (by omega) (by omega)]
        refine ⟨hTa, _, t4, by omega, by omega, show -2147483648 ≤ _ ∧ _ < 2147483648 by omega, ?_⟩
        refine put m5 o5 nm _ cl.2.1[i] _ f5 h5' n5 hgn (hrw.2.2.2.2.2.2.1 i hlt) hgk (fun m6 f6 o6 n6 => ⟨show -2147483648 ≤ _ ∧ _ < 2147483648 by omega, ?_⟩)
        have := ih (i + 1) _ _ m6 (by omega) f6 o6 n6 (by rw [e5, tkp_tkp, decide_eq_false (Nat.succ_ne_zero i)])
        rw [show ((i + 1 : Nat) : Int) = (i : Int) + 1 by omega] at this
        exact this
      have kp : ∀ (m5 m6 : hy_m) (o5 : List Int) (ch : Int), wFc m5 m6 → cOu m5 o5 → (o5.length < 120 → cNa X m2 m5 nm ∧ 2 * nm.length ≤ o5.length) → ((tkp o5 [ch]).length < 120 → cNa X m2 m6 nm ∧ 2 * nm.length ≤ (tkp o5 [ch]).length) := by
        intro m5 m6 o5 ch f h n q
        rw [tkp_len] at q
        have h2 := h.2.1
        simp only [List.length_cons, List.length_nil] at q
        have hn := n (by omega)
        refine ⟨cNa_fc f hn.1, ?_⟩
        rw [tkp_len]
        simp only [List.length_cons, List.length_nil]
        have := hn.2
        omega
      refine hP _ _ ?_
      unfold wf_158_24
      rw [Int.toNat_natCast, f4 a 4 (by have := h69F a hFa.1; omega) (by have := h69F a hFa.1; omega), e4a, Int.toNat_natCast]
      refine ⟨hTa, 100, _, t4, by decide, fun q => by omega, fun _ => ⟨fun hi0 => ?_, fun hi0 => ?_⟩⟩
      · refine sp_168 (by decide) o4 (fun m5 f5 o5 => go m5 _ (f4.tr (wFc_x f5)) o5 (kp _ _ _ _ f5 o4 n4) ?_)
        rw [e, tkp_tkp, decide_eq_false (by omega)]
        simp only [lsG, Bool.false_eq_true, if_false, List.append_assoc]
      · refine sp_168 (by decide) o4 (fun m5 f5 o5 => sp_168 (by decide) o5 (fun m6 f6 o6 => go m6 _ ((f4.tr (wFc_x f5)).tr (wFc_x f6)) o6 (kp _ _ _ _ f6 o5 (kp _ _ _ _ f5 o4 n4)) ?_))
        rw [e, tkp_tkp, tkp_tkp, decide_eq_true (by omega)]
        simp only [lsG, if_true, List.append_assoc, List.cons_append, List.nil_append]
  refine key cl.2.1.length 0 _ _ m3 (Nat.zero_add _) f3 o3 n3 ?_
  rw [List.drop_zero, tkp_tkp]
  rfl
end CLI
