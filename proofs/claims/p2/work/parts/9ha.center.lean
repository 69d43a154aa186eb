/-! THE CLASS'S SEARCH: a clause is entered -/
def zEn (Z : cZ) (e : cEn) : cZ := (zW Z ++ [e], Z.2)
/-- a state with its bindings and its trail -/
def cSb (E : qE) (F : Nat → Prop) (Z : cZ) (N : Nat) (T : hy_T) (m : hy_m) (A : qA) (B : bM) (TI : List Nat) : Prop := cPr E F T m Z (qi A) ∧ cNm m A ∧ (m 41 3 = ((qi A).length : Int) + 2 ∧ m 36 5 = qn A 8 ∧ qn A 8 ≤ (zF Z).length ∧ cCh (zF Z) (zX Z (qi A).length N) m (tot E (qi A)) (qs A) (qn A 8) (qp A) (m 36 6)) ∧ cDy E Z N m A B TI ∧ Res B (qs A) ∧ TI.length = qn A 7
section CE
variable {E : qE} {l l' TI TI' TL : List Nat} {F : Nat → Prop} {T T' : hy_T} {m m' : hy_m} {Z Z' : cZ} {N N' n u : Nat} {A : qA} {B B' : bM} {s s' : Nat → pE} {Q : Int → hy_m → Prop}
theorem cRo_ne (h : cRo F T m Z) : z1 Z ≠ z2 Z ∧ z1 Z ≠ z4 Z ∧ z2 Z ≠ z4 Z ∧ z1 Z ≠ yt (zU Z) ∧ z2 Z ≠ yt (zU Z) ∧ z4 Z ≠ yt (zU Z) ∧ 42 ≤ yt (zU Z) ∧ z4 Z ≠ 46 ∧ z4 Z ≠ 47 ∧ z4 Z ≠ 53 ∧ z1 Z ≠ 46 ∧ z2 Z ≠ 46 ∧ z1 Z ≠ 53 ∧ z2 Z ≠ 53 := by
  have hn := h.1.1
  have hb := h.1.2
  have q4 := hb (z4 Z) (by unfold rwL; simp)
  have q1 := hb (z1 Z) (by unfold rwL; simp)
  have q2 := hb (z2 Z) (by unfold rwL; simp)
  have q5 := hb (yt (zU Z)) (by unfold rwL; simp)
  unfold rwL at hn
  simp only [List.nodup_cons, List.mem_cons, List.not_mem_nil, or_false, not_or, List.nodup_nil, and_true, not_false_eq_true] at hn
  obtain ⟨⟨n1, n2, n3, n4, n5, n6, n7, n8, n9, n10⟩, ⟨p1, p2, p3, p4, p5, p6, p7, p8, p9⟩, ⟨r1, r2, r3, r4, r5, r6, r7, r8⟩, -⟩ := hn
  exact ⟨n1, n2, p1, n8, p7, r6, q5.1, q4.2.1, q4.2.2.1, q4.2.2.2.1, q1.2.1, q2.2.1, q1.2.2.2.1, q2.2.2.2.1⟩
/-- put -/
theorem sp_118 {i a nv : Nat} {v : Int} (hR : cRo F T m Z) (hi : i < zc Z) (ha : T.1 a = some (3, nv)) (hq : ∀ m' : hy_m, (∀ (b : Nat) (e : Int), ¬ (b = z1 Z ∧ e = (i : Int)) → ¬ (b = z2 Z ∧ e = (i : Int)) → ¬ (b = z4 Z ∧ 8 * (i : Int) ≤ e ∧ e < 8 * (i : Int) + 8) → m' b e = m b e) → m' (z1 Z) (i : Int) = a → m' (z2 Z) (i : Int) = v → (∀ e : Int, 8 * (i : Int) ≤ e → e < 8 * (i : Int) + 8 → m' (z4 Z) e = -1) → Q (128 * (i : Int)) m') : wq_118 (i : Int) (a : Int) v T m Q := by
  obtain ⟨ne1, ne2, ne3, -⟩ := cRo_ne hR
  obtain ⟨zz1, zz2, zz3, zz4, zz5, zz6, zz7⟩ := cRo_z hR
  obtain ⟨-, -, h3, h4, h5, h6, -⟩ := hR
  unfold wq_118
  rw [h4.1, Int.toNat_natCast]
  have e2 : hy_u m (z1 Z) (i : Int) (a : Int) 41 2 = (z2 Z : Nat) := by rw [hy_ua (by omega)]; exact h5.1
  rw [e2]
  have en : ((z2 Z : Nat) : Int).toNat = z2 Z := Int.toNat_natCast _
  rw [en]
  have e4 : hy_u (hy_u m (z1 Z) (i : Int) (a : Int)) (z2 Z) (i : Int) v 41 4 = (z4 Z : Nat) := by rw [hy_ua (by omega), hy_ua (by omega)]; exact h6.1
  rw [e4]
  refine ⟨fun q => by omega, fun _ => ⟨113, _, h4.2, by decide, fun q => by omega, fun _ => ⟨113, _, h4.2, by decide, by omega, by omega, Or.inr ⟨nv, by rw [Int.toNat_natCast]; exact ha, by decide⟩, zc Z, h5.2, by omega, by omega, show -2147483648 ≤ _ ∧ _ < 2147483648 by omega, show -2147483648 ≤ _ ∧ _ < 2147483648 by omega, ?_⟩⟩⟩
  refine sp_303 h6.2 (by omega) (by omega) (by omega) (by omega) ⟨show -2147483648 ≤ _ ∧ _ < 2147483648 by omega, ?_⟩
  rw [show (i : Int) * 128 = 128 * (i : Int) by omega]
  refine hq _ (fun b e q1 q2 q3 => ?_) ?_ ?_ (fun e q1 q2 => ?_)
  · unfold mFill
    rw [if_neg (by omega), hy_uf q2, hy_uf q1]
  · unfold mFill
    rw [if_neg (fun q => ne2 q.1), hy_ua ne1, hy_us]
  · unfold mFill
    rw [if_neg (fun q => ne3 q.1), hy_us]
  · unfold mFill
    rw [if_pos ⟨rfl, by omega, by omega⟩]
/-- rows of clauses and numbers have changed at one place -/
theorem cPr_p {i a nv : Nat} (hP : cPr E F T m Z l) (hi : l.length + 2 ≤ i ∨ i = 1) (ha : T.1 a = some (3, nv)) (hil : i < zc Z) (hf : ∀ (b : Nat) (e : Int), ¬ kEx Z b e → ¬ (b = z1 Z ∧ e = (i : Int)) → ¬ (b = z2 Z ∧ e = (i : Int)) → m' b e = m b e) (h1 : m' (z1 Z) (i : Int) = a) : cPr E F T m' Z l := by
  have hzi : ∀ z : Int, 0 ≤ z → z < (l.length : Int) + 2 → z ≠ 1 → z ≠ (i : Int) := fun z q1 q2 q3 => by omega
  obtain ⟨hR, p2, p3, p4, p5, p6⟩ := hP
  obtain ⟨ne1, ne2, ne3, ne4, ne5, ne6, ne7, -⟩ := cRo_ne hR
  obtain ⟨zz1, zz2, zz3, zz4, zz5, zz6, zz7⟩ := cRo_z hR
  have hF12 : ¬ F (z1 Z) ∧ ¬ F (z2 Z) := ⟨(hR.1.2 (z1 Z) (by unfold rwL; simp)).2.2.2.2.2, (hR.1.2 (z2 Z) (by unfold rwL; simp)).2.2.2.2.2⟩
  have no : ∀ {a : Nat} {e : Int}, ((a < 74 ∧ a ≠ 36 ∧ a ≠ 39 ∧ a ≠ 40 ∧ a ≠ 46 ∧ ¬ (a = 41 ∧ (e = 3 ∨ e = 6 ∨ e = 7)) ∧ a < 42) ∨ F a ∨ a = 47 ∨ a = 53 ∨ a = z1 Z ∨ a = z2 Z ∨ a = yj (zU Z) ∨ a = yq (zU Z) ∨ a = ys (zU Z) ∨ a = yp (zU Z) ∨ a = ym (zU Z) ∨ a = (zV Z).1 ∨ a = (zV Z).2) → ¬ (a = z1 Z ∧ e = (i : Int)) → ¬ (a = z2 Z ∧ e = (i : Int)) → m' a e = m a e := fun h q1 q2 => hf _ _ (kEx_no hR p5 h) q1 q2
  have hFc : ∀ b z, F b → m' b z = m b z := fun b z hb => no (Or.inr (Or.inl hb)) (fun q => hF12.1 (q.1 ▸ hb)) (fun q => hF12.2 (q.1 ▸ hb))
  have n41 : ∀ e : Int, ¬ (e = 3 ∨ e = 6 ∨ e = 7) → m' 41 e = m 41 e := fun e he => no (Or.inl ⟨by decide, by decide, by decide, by decide, by decide, fun q => he q.2, by decide⟩) (by omega) (by omega)
  have n47 : ∀ e : Int, m' 47 e = m 47 e := fun e => no (by simp) (fun q => zz2 q.1.symm) (fun q => zz4 q.1.symm)
  have hb53 : z1 Z ≠ 53 ∧ z2 Z ≠ 53 := ⟨(hR.1.2 (z1 Z) (by unfold rwL; simp)).2.2.2.1, (hR.1.2 (z2 Z) (by unfold rwL; simp)).2.2.2.1⟩
  have n53 : ∀ e : Int, m' 53 e = m 53 e := fun e => no (by simp) (fun q => hb53.1 q.1.symm) (fun q => hb53.2 q.1.symm)
  have n37 : ∀ e, m' 37 e = m 37 e := fun e => no (Or.inl ⟨by decide, by decide, by decide, by decide, by decide, fun q => absurd q.1 (by decide), by decide⟩) (by omega) (by omega)
  have n38 : ∀ e, m' 38 e = m 38 e := fun e => no (Or.inl ⟨by decide, by decide, by decide, by decide, by decide, fun q => absurd q.1 (by decide), by decide⟩) (by omega) (by omega)
  have hn := hR.1.1
  unfold rwL at hn
  simp only [List.nodup_cons, List.mem_cons, List.not_mem_nil, or_false, not_or, List.nodup_nil, and_true, not_false_eq_true] at hn
  obtain ⟨⟨n1, n2, n3, n4, n5, n6, n7, n8, n9, n10⟩, ⟨k1, k2, k3, k4, k5, k6, k7, k8, k9⟩, -⟩ := hn
  have r1' : ∀ z : Int, 0 ≤ z → z < (l.length : Int) + 2 → z ≠ 1 → m' (z1 Z) z = m (z1 Z) z := fun z q1 q2 q3 => no (by simp) (fun q => hzi z q1 q2 q3 q.2) (fun q => ne1 q.1)
  have r2' : ∀ z : Int, 0 ≤ z → z < (l.length : Int) + 2 → z ≠ 1 → m' (z2 Z) z = m (z2 Z) z := fun z q1 q2 q3 => no (by simp) (fun q => ne1 q.1.symm) (fun q => hzi z q1 q2 q3 q.2)
  refine ⟨?_, cPo_fr p2 (fun _ q => q) (fun _ _ q => q) (fun b e q => ?_), p3, wIs_fr p4 (fun _ _ q => q) hFc r1' r2', ?_, ?_⟩
  · obtain ⟨r1, r2, r3, r4, r5, r6, r7, r8, r9, r10, r11⟩ := hR
    refine ⟨r1, r2, r3, ⟨by rw [n41 _ (by decide)]; exact r4.1, r4.2⟩, ⟨by rw [n41 _ (by decide)]; exact r5.1, r5.2⟩, ⟨by rw [n41 _ (by decide)]; exact r6.1, r6.2⟩, ?_, ?_, ⟨fun z q1 q2 => ?_, fun z => ?_, ?_⟩, fun z => ?_, ?_⟩
    · rw [n47, n47, n47, n47, n47, n41 _ (by decide)]; exact r7
    · rw [n53, n53, n53, n53]; exact r8
    · rw [no (by simp) (fun q => n3 q.1.symm) (fun q => k2 q.1.symm)]; exact r9.1 z q1 q2
    · rw [no (by simp) (fun q => n7 q.1.symm) (fun q => k6 q.1.symm), n47]; exact r9.2.1 z
    · rw [n47]; exact r9.2.2
    · rw [no (by simp) (fun q => n10 q.1.symm) (fun q => k9 q.1.symm), n53]; exact r10 z
    · rw [n53]; exact r11
  · rcases q with q | q | q
    · exact hFc b e q
    · exact no (Or.inl (by omega)) (by omega) (by omega)
    · exact no (Or.inl (by omega)) (by omega) (by omega)
  · obtain ⟨⟨o1, o2, o3, o4⟩, o5, o6, o7, o8⟩ := p5
    exact ⟨⟨o1, fun j c q => by rw [n37]; exact o2 j c q, fun j q => by rw [n37]; exact o3 j q, o4⟩, o5, fun j c q => by rw [n38]; exact o6 j c q, fun j q => by rw [n38]; exact o7 j q, o8⟩
  · obtain ⟨g1, g2, nv0, g4⟩ := p6
    refine ⟨g1, fun z q1 q2 => ?_, nv0, g4⟩
    by_cases c : z = (i : Int)
    · rw [c]
      exact ⟨a, nv, h1, ha⟩
    · obtain ⟨a', nv', b1, b2⟩ := g2 z q1 q2
      exact ⟨a', nv', by rw [no (by simp) (fun q => c q.2) (fun q => c q.2)]; exact b1, b2⟩
/-- one more instance -/
theorem wIs_add {c1 n2 cap : Nat} {WI : List cEn} {c : Nat} {cl : pCl} {e : cEn} (h : wIs E l T m F c1 n2 cap WI) (hc : E.1[c]? = some cl) (h1 : e.1 = l.length + 2) (h2 : e.2.2.1 = cl.2.2) (h3 : e.2.2.2.1 = tot E l) (h4 : wOn T m F c1 cap (some cl.1) cl.2.1 e) (h5 : m n2 ((l.length + 2 : Nat) : Int) = (c : Nat)) : wIs E (l ++ [c]) T m F c1 n2 cap (WI ++ [e]) := by
  obtain ⟨g1, ⟨e0, g2, g3⟩, g7⟩ := h
  refine ⟨by rw [List.length_append, List.length_append, g1]; rfl, ⟨e0, by rw [List.getElem?_append_left (by omega)]; exact g2, g3⟩, fun j c' hj => ?_⟩
  by_cases q : j < l.length
  · rw [List.getElem?_append_left q] at hj
    obtain ⟨e', cl', a1, a2, a3, a4, a5, a6, a7⟩ := g7 j c' hj
    refine ⟨e', cl', by rw [List.getElem?_append_left (by omega)]; exact a1, a2, a3, a4, ?_, a6, a7⟩
    rw [List.take_append_of_le_length (by omega)]
    exact a5
  · have hj2 := (List.getElem?_eq_some_iff.mp hj).1
    rw [List.length_append, List.length_singleton] at hj2
    have hjl : j = l.length := by omega
    subst hjl
    rw [List.getElem?_append_right (Nat.le_refl _), Nat.sub_self] at hj
    have hj : some c = some c' := hj
    injection hj with hj
    subst hj
    refine ⟨e, cl, by rw [List.getElem?_append_right (by omega), show l.length + 1 - WI.length = 0 by omega]; rfl, hc, h1, h2, ?_, h4, h5⟩
    rw [List.take_append_of_le_length (Nat.le_refl _), List.take_length]
    exact h3
/-- the state behind enter -/
theorem ent_sc {c a : Nat} {I tr ce : Nat} (hk : chK E (qi A) I (qh A) (qi A).length tr ce) (hS : cSe E F Z N T m A) (hc : c < E.1.length) (hc20 : c < 20) (h22 : m 22 (c : Int) = a) (hcl : cCl T m F a (some E.1[c].1) E.1[c].2.1 E.1[c].2.2) (hkk : kOK (some E.1[c].1) E.1[c].2.1 E.1[c].2.2) (hcap : (qi A).length + 2 < zc Z) (hln : (qi A).length ≤ 299) (g1 : ∀ (b : Nat) (e : Int), ¬ (b = z1 Z ∧ e = (((qi A).length + 2 : Nat) : Int)) → ¬ (b = z2 Z ∧ e = (((qi A).length + 2 : Nat) : Int)) → ¬ (b = z4 Z ∧ 8 * (((qi A).length + 2 : Nat) : Int) ≤ e ∧ e < 8 * (((qi A).length + 2 : Nat) : Int) + 8) → ¬ (b = 36 ∧ e = 14) → ¬ (b = 39 ∧ e = (c : Int)) → ¬ (b = 41 ∧ e = 3) → m' b e = m b e) (g2 : m' (z1 Z) (((qi A).length + 2 : Nat) : Int) = a) (g3 : m' (z2 Z) (((qi A).length + 2 : Nat) : Int) = c) (g4 : ∀ e : Int, 8 * (((qi A).length + 2 : Nat) : Int) ≤ e → e < 8 * (((qi A).length + 2 : Nat) : Int) + 8 → m' (z4 Z) e = -1) (g5 : m' 36 14 = m 36 14 + 1) (g6 : m' 39 (c : Int) = m 39 (c : Int) + 1) (g7 : m' 41 3 = m 41 3 + 1) : ∃ e B TI, cSb E F (zEn Z e) N T m' (qent A c) B TI ∧ (∀ w t, B w = some t → ∀ w', vIn w' t → w' < tot E (qi A)) ∧ ∀ w, tot E (qi A) ≤ w → B w = none := by
  obtain ⟨hP, hNm, ⟨h3, h5, h8, hch⟩, B, TI, hD, hRes, hTI⟩ := hS
  obtain ⟨ne1, ne2, ne3, ne4, ne5, ne6, ne7, ne8, ne9, ne10, ne11, ne12, ne13, ne14⟩ := cRo_ne hP.1
  obtain ⟨zz1, zz2, zz3, zz4, zz5, zz6, zz7⟩ := cRo_z hP.1
  have hU := zX_uPr hP N
  have hTa : T.1 a = some (3, 9) := cCl_T hcl
  have hE? : E.1[c]? = some E.1[c] := List.getElem?_eq_getElem hc
  have hP1 : cPr E F T m' Z (qi A) := cPr_p (i := (qi A).length + 2) (a := a) (nv := 9) hP (Or.inl (Nat.le_refl _)) hTa hcap (fun b e q1 q2 q3 => g1 b e q2 q3 (fun z => q1 (by unfold kEx; simp [z.1])) (fun z => q1 (Or.inl z.1)) (fun z => q1 (Or.inr (Or.inl z.1))) (fun z => q1 (by unfold kEx; omega))) g2
  have hFc : ∀ b z, F b → m' b z = m b z := fun b z hb => by
    have h1 := hP.1.2.1 b hb
    have f1 := (hP.1.1.2 (z1 Z) (by unfold rwL; simp)).2.2.2.2.2
    have f2 := (hP.1.1.2 (z2 Z) (by unfold rwL; simp)).2.2.2.2.2
    have f4 := (hP.1.1.2 (z4 Z) (by unfold rwL; simp)).2.2.2.2.2
    exact g1 b z (fun q => f1 (q.1 ▸ hb)) (fun q => f2 (q.1 ▸ hb)) (fun q => f4 (q.1 ▸ hb)) (by omega) (by omega) (by omega)
  -- the new instance
  obtain ⟨c', k0, k1, k2, k4, hrw, h5a⟩ := cCl_rw hcl
  have hto : tot E (qi A) + E.1[c].2.2 ≤ 2500 := by
    have hvle : ∀ c, c < E.1.length → nvO E c ≤ 8 := fun c hc => by
      rw [nvO_c hc]
      exact ((hP.2.1.2.2.2.2.2.1 c _ (List.getElem?_eq_getElem hc)).2).1
    have hl : lOK E (qi A) := fun x hx => by
      obtain ⟨j, hj⟩ := List.getElem?_of_mem hx
      obtain ⟨e', cl, -, a2, -⟩ := hP.2.2.2.1.2.2 j x hj
      exact (List.getElem?_eq_some_iff.mp a2).1
    have h8q : E.2.2 ≤ 8 := by
      obtain ⟨-, ⟨e0, b1, b2, b3, b4, b5, -⟩, -⟩ := hP.2.2.2.1
      rw [← b3]
      exact b5.2.2.2.1.1
    have := tot_le h8q hvle (qi A) hl
    have := hkk.1
    omega
  have hon : wOn T m' F (z1 Z) (zc Z) (some E.1[c].1) E.1[c].2.1 ((qi A).length + 2, (a, c', k0, k1, k2), E.1[c].2.2, tot E (qi A), kNd (m k2) (m k4) (m a 3) (some E.1[c].1) E.1[c].2.1) := by
    have hrw' : cRw T m' F a c' k0 k1 k2 k4 (some E.1[c].1) E.1[c].2.1 := by
      obtain ⟨c'', l0, l1, l2, l4, hrw2, -⟩ := cCl_rw (cCl_fr hcl (fun _ q => q) (fun _ _ _ q => q) hFc)
      obtain ⟨⟨d1, d2, d3, d4, d5, d6, d7, d8⟩, b2, b3, b4', b5, b6, b7, ⟨f1, f2, f3, f4, f5, k8, y1, y2, y3, y4⟩⟩ := hrw
      have e2 : m' k2 = m k2 := funext fun z => hFc _ z f4
      refine ⟨⟨d1, by rw [hFc _ _ f1]; exact d2, d3, by rw [hFc _ _ f1]; exact d4, d5, by rw [hFc _ _ f1]; exact d6, d7, d8⟩, b2, by rw [hFc _ _ f1]; exact b3, b4', fun i q1 q2 => by rw [hFc _ _ f2]; exact b5 i q1 q2, fun t ht => ?_, fun i hi => ?_, f1, f2, f3, f4, f5, k8, by rw [hFc _ _ f1]; exact y1, y2, y3, fun i hi => by rw [hFc _ _ y3]; exact y4 i hi⟩
      · rw [hFc _ _ f1]
        show cP _ _ _ _ _ _ _
        rw [show m' k0 = m k0 from funext fun z => hFc _ z f2, show m' k1 = m k1 from funext fun z => hFc _ z f3, e2]
        exact b6 t ht
      · rw [hFc _ _ f5]
        show cP _ _ _ _ _ _ _
        rw [show m' k0 = m k0 from funext fun z => hFc _ z f2, show m' k1 = m k1 from funext fun z => hFc _ z f3, e2]
        exact b7 i hi
    obtain ⟨f1, f2, f3, f4, f5, -⟩ := hrw.2.2.2.2.2.2.2
    refine ⟨g2, ⟨k4, hrw', ?_⟩, ?_, hkk, hP.2.2.1 _ (List.getElem_mem hc), hto, hcap⟩
    · dsimp only
      rw [show m' k2 = m k2 from funext fun z => hFc _ z f4, show m' k4 = m k4 from funext fun z => hFc _ z f5, hFc _ _ f1]
    · dsimp only
      rw [hFc _ _ f1]
      exact h5a
  refine ⟨((qi A).length + 2, (a, c', k0, k1, k2), E.1[c].2.2, tot E (qi A), kNd (m k2) (m k4) (m a 3) (some E.1[c].1) E.1[c].2.1), ?_⟩
  generalize hed : (((qi A).length + 2, (a, c', k0, k1, k2), E.1[c].2.2, tot E (qi A), kNd (m k2) (m k4) (m a 3) (some E.1[c].1) E.1[c].2.1) : cEn) = ed at hon
  have ed1 : ed.1 = (qi A).length + 2 := by rw [← hed]
  have ed2 : ed.2.2.1 = E.1[c].2.2 := by rw [← hed]
  have ed3 : ed.2.2.2.1 = tot E (qi A) := by rw [← hed]
  have hWl : (zW Z).length = (qi A).length + 1 := hP.2.2.2.1.1
  have hP2 : cPr E F T m' (zEn Z ed) (qi (qent A c)) := ⟨hP1.1, hP1.2.1, hP1.2.2.1, wIs_add hP1.2.2.2.1 hE? ed1 ed2 ed3 hon g3, hP1.2.2.2.2⟩
  have el : (qi (qent A c)).length = (qi A).length + 1 := by
    show (qi A ++ [c]).length = _
    rw [List.length_append]; rfl
  have tk : ∀ k, k ≤ (qi A).length → (zW (zEn Z ed)).take (k + 1) = (zW Z).take (k + 1) := fun k hk => by
    show (zW Z ++ [ed]).take (k + 1) = _
    rw [List.take_append_of_le_length (by omega)]
  have tkl : ∀ k, k ≤ (qi A).length → (qi (qent A c)).take k = (qi A).take k := fun k hk => by
    show (qi A ++ [c]).take k = _
    rw [List.take_append_of_le_length hk]
  have hfull : (zW Z).take ((qi A).length + 1) = zW Z := by rw [List.take_of_length_le (by omega)]
  have hfull2 : (zW (zEn Z ed)).take ((qi (qent A c)).length + 1) = zW Z ++ [ed] := by
    show (zW Z ++ [ed]).take _ = _
    rw [List.take_of_length_le (by rw [List.length_append, el, hWl]; exact Nat.le_refl _)]
  have h46 : ∀ j : Nat, j < N → m' 46 (j : Int) = m 46 (j : Int) := fun j _ => g1 46 _ (fun q => ne11 q.1.symm) (fun q => ne12 q.1.symm) (fun q => ne8 q.1.symm) (by omega) (by omega) (by omega)
  have hTEk : ∀ k, k ≤ (qi A).length → tE (zX Z k N) m (zX (zEn Z ed) k N) m' := fun k hk => tE_s hP hP2 hk (by omega) (fun e he => by rw [tk k hk]; exact he) hFc h46 (Nat.le_refl _)
  have hTE : tE (zX Z (qi A).length N) m (zX (zEn Z ed) (qi (qent A c)).length N) m' := tE_s hP hP2 (Nat.le_refl _) (Nat.le_refl _) (fun e he => by
    rw [hfull2]
    rw [hfull] at he
    exact List.mem_append.mpr (Or.inl he)) hFc h46 (Nat.le_refl _)
  have hsub : ∀ i, xL (zX Z (qi A).length N) i → xL (zX (zEn Z ed) (qi (qent A c)).length N) i ∧ xV (zX (zEn Z ed) (qi (qent A c)).length N) i = xV (zX Z (qi A).length N) i ∧ xP (zX (zEn Z ed) (qi (qent A c)).length N) i = xP (zX Z (qi A).length N) i := by
    rintro i hi
    have h1 : xL (zX (zEn Z ed) (qi A).length N) i := by
      unfold zX
      rw [tk _ (Nat.le_refl _)]
      exact hi
    have h2 := zX_sub (N := N) (N' := N) hP2 (k := (qi A).length) (by omega) h1
    have e1 : xV (zX (zEn Z ed) (qi A).length N) i = xV (zX Z (qi A).length N) i := by unfold zX; rw [tk _ (Nat.le_refl _)]; rfl
    have e2 : xP (zX (zEn Z ed) (qi A).length N) i = xP (zX Z (qi A).length N) i := by unfold zX; rw [tk _ (Nat.le_refl _)]; rfl
    exact ⟨h2.1, h2.2.1.trans e1, h2.2.2.trans e2⟩
  have hA2 := zX_all hP2 (qi (qent A c)).length N (Nat.le_refl _)
  have hnew : ∀ i, xL (zX (zEn Z ed) (qi (qent A c)).length N) i → xL (zX Z (qi A).length N) i ∨ i = (qi A).length + 2 := by
    rintro i ⟨e, he, rfl⟩
    rw [hfull2] at he
    rcases List.mem_append.mp he with he | he
    · exact Or.inl ⟨e, by rw [hfull]; exact he, rfl⟩
    · rw [List.mem_singleton.mp he]
      exact Or.inr ed1
  have hnv : xV (zX (zEn Z ed) (qi (qent A c)).length N) ((qi A).length + 2) = E.1[c].2.2 ∧ xP (zX (zEn Z ed) (qi (qent A c)).length N) ((qi A).length + 2) = tot E (qi A) := by
    have := wX_at (c1 := z1 (zEn Z ed)) (b4 := z4 (zEn Z ed)) (cap := zc (zEn Z ed)) (N := N) hA2.1 (e := ed) (by rw [hfull2]; exact List.mem_append.mpr (Or.inr (List.mem_singleton.mpr rfl)))
    rw [ed1] at this
    exact ⟨this.2.2.2.2.2.1.trans ed2, this.2.2.2.2.2.2.1.trans ed3⟩
  have hold : ∀ i, xL (zX Z (qi A).length N) i → i < (qi A).length + 2 := by
    rintro i ⟨e, he, rfl⟩
    rw [hfull] at he
    rcases wIs_at hP.2.2.2.1 he with ⟨-, q1, -⟩ | ⟨j, c, cl, q0, -, -, q1, -⟩
    · omega
    · have := (List.getElem?_eq_some_iff.mp q0).1
      omega
  have r4 : ∀ e : Int, e < 8 * (((qi A).length + 2 : Nat) : Int) → m' (z4 Z) e = m (z4 Z) e := fun e he => g1 _ e (fun q => ne2 q.1.symm) (fun q => ne3 q.1.symm) (by omega) (by omega) (by omega) (by omega)
  have hBn : ∀ v, tot E (qi A) ≤ v → B v = none := fun v hv => hD.1.2 v (fun q => by
    have := (zX_dm hP N v).mp q
    omega)
  have small : ∀ a : Nat, 74 ≤ a → a ≠ z1 Z → a ≠ z2 Z → a ≠ z4 Z → ∀ z, m' a z = m a z := fun a q1 q2 q3 q4 z => g1 a z (fun q => q2 q.1) (fun q => q3 q.1) (fun q => q4 q.1) (by omega) (by omega) (by omega)
  have hO := hP.2.2.2.2.1
  have tg1 := hP.1.2.2.2.1.2
  have tg2 := hP.1.2.2.2.2.1.2
  have tg4 := hP.1.2.2.2.2.2.1.2
  have hFr : ∀ (j c' : Nat), (zF Z)[j]? = some c' → ∀ z, m' c' z = m c' z := fun j c' q => by
    have ht := hO.1.2.1 j c' q
    exact small c' ht.2.2.1 (fun z => by rw [z, tg1] at ht; have := ht.2.1; injection this with this; injection this with this; omega) (fun z => by rw [z, tg2] at ht; have := ht.2.1; injection this with this; injection this with this; omega) (fun z => by rw [z, tg4] at ht; have := ht.2.1; injection this with this; injection this with this; omega)
  have hCr : ∀ (j c' : Nat), (zC Z)[j]? = some c' → ∀ z, m' c' z = m c' z := fun j c' q => by
    have ht := hO.2.2.1 j c' q
    exact small c' ht.2.2.1 (fun z => by rw [z, tg1] at ht; have := ht.2.1; injection this with this; injection this with this; omega) (fun z => by rw [z, tg2] at ht; have := ht.2.1; injection this with this; injection this with this; omega) (fun z => by rw [z, tg4] at ht; have := ht.2.1; injection this with this; injection this with this; omega)
  have low : ∀ (a : Nat) (e : Int), a < 42 → ¬ (a = 36 ∧ e = 14) → ¬ (a = 39 ∧ e = (c : Int)) → ¬ (a = 41 ∧ e = 3) → m' a e = m a e := fun a e q1 q2 q3 q4 => g1 a e (by omega) (by omega) (by omega) q2 q3 q4
  have hall := chK_all _ hk
  obtain ⟨d1, ⟨TL, dt, dl, dv⟩, d4, d5, d6, d7⟩ := hD
  have etot : tot E (qi A) ≤ tot E (qi (qent A c)) := tot_pre (List.prefix_append _ _)
  have hBo : ∀ w t, B w = some t → ∀ w', vIn w' t → w' < tot E (qi A) := fun w t hw w' hw' => by
    have hdm : cDm (zX Z (qi A).length N) w := by
      apply Classical.byContradiction
      intro q
      rw [d1.2 w q] at hw
      cases hw
    obtain ⟨i, k, a1, a2, rfl⟩ := hdm
    rcases d1.1 i k a1 a2 with ⟨b1, -⟩ | ⟨t', b1, -, -, b4⟩
    · rw [hw] at b1
      cases b1
    · rw [hw] at b1
      injection b1 with b1
      subst b1
      exact (zX_dm hP N w').mp (b4 w' hw')
  refine ⟨B, TI, ⟨hP2, ?_, ⟨?_, ?_, h8, ?_⟩, ⟨⟨fun i n q1 q2 => ?_, fun v hv => ?_⟩, ⟨TL, ⟨?_, fun i hi => ?_, dt.2.2.1, fun e he => ⟨(dt.2.2.2 e he).1, ?_⟩⟩, dl, fun k e w q1 q2 => ?_⟩, d4, ?_, ?_, ?_⟩, hRes, hTI⟩, hBo, hBn⟩
  · obtain ⟨n1, n2, n3, n4, n5, n6⟩ := hNm
    refine ⟨?_, ?_, ?_, ?_, ?_, fun k hk => ?_⟩
    · rw [low _ _ (by omega) (by omega) (by omega) (by omega)]; exact n1
    · rw [low _ _ (by omega) (by omega) (by omega) (by omega)]; exact n2
    · rw [g5, n3]; rfl
    · rw [low _ _ (by omega) (by omega) (by omega) (by omega)]; exact n4
    · rw [low _ _ (by omega) (by omega) (by omega) (by omega)]; exact n5
    · obtain ⟨b1, b2, b3, b4⟩ := n6 k hk
      have e4 : qn (qent A c) 4 = qn A 4 + 1 := rfl
      have et : qt (qent A c) k = if k = c then qt A c + 1 else qt A k := rfl
      have eu : qu (qent A c) k = qu A k := rfl
      rw [e4, et, eu, low 40 _ (by omega) (by omega) (by omega) (by omega)]
      by_cases q : k = c
      · rw [if_pos q, q, g6]
        obtain ⟨b1', b2', b3', b4'⟩ := n6 c hc20
        exact ⟨by rw [b1']; rfl, b2', by omega, by omega⟩
      · rw [if_neg q, low 39 _ (by omega) (by omega) (by omega) (by omega)]
        exact ⟨b1, b2, by omega, by omega⟩
  · rw [g7, h3, el]; omega
  · rw [low _ _ (by omega) (by omega) (by omega) (by omega)]; exact h5
  · rw [low 36 6 (by omega) (by omega) (by omega) (by omega)]
    exact cCh_mo hTE etot (fun _ q => q) _ _ _ (fun j c' _ q => ⟨q, hFr j c' q⟩) hch
  · rcases hnew i q1 with q3 | q3
    · obtain ⟨s1, s2, s3⟩ := hsub i q3
      rw [s2] at q2
      rw [s3]
      have hi8 := (hU.2.1.2.2.2.2.2 i q3).2.2.2.1
      have hio := hold i q3
      show (_ ∧ m' (z4 Z) _ = -1) ∨ ∃ t, _ ∧ m' (z4 Z) _ ≠ -1 ∧ cTm _ m' (m' (z4 Z) _) t ∧ _
      rw [r4 _ (by omega)]
      rcases d1.1 i n q3 q2 with q | ⟨t, b1, b2, b3, b4⟩
      · exact Or.inl q
      · exact Or.inr ⟨t, b1, b2, hTE _ _ b3, fun w hw => (zX_dm hP2 N w).mpr (Nat.lt_of_lt_of_le ((zX_dm hP N w).mp (b4 w hw)) etot)⟩
    · subst q3
      rw [hnv.1] at q2
      rw [hnv.2]
      have := hkk.1
      exact Or.inl ⟨hBn _ (by omega), g4 _ (by omega) (by omega)⟩
  · by_cases q : v < tot E (qi A)
    · exact absurd ((zX_dm hP2 N v).mpr (Nat.lt_of_lt_of_le q etot)) hv
    · exact hBn v (by omega)
  · rw [low _ _ (by omega) (by omega) (by omega) (by omega)]; exact dt.1
  · show m' (yt (zU Z)) _ = _
    rw [g1 _ _ (fun q => ne4 q.1.symm) (fun q => ne5 q.1.symm) (fun q => ne6 q.1.symm) (by omega) (by omega) (by omega)]
    exact dt.2.1 i hi
  · show m' (z4 Z) _ ≠ -1
    have hsl : e < 8 * ((qi A).length + 2) := by
      obtain ⟨k, hk2⟩ := List.getElem?_of_mem he
      have hkl := (List.getElem?_eq_some_iff.mp hk2).1
      obtain ⟨i, n, a1, a2, a3, -⟩ := dv k e _ hk2 (List.getElem?_eq_getElem (by omega : k < TI.length))
      have hi8 := (hU.2.1.2.2.2.2.2 i a1).2.2.2.1
      have := hold i a1
      omega
    rw [r4 _ (by omega)]
    exact (dt.2.2.2 e he).2
  · obtain ⟨i, n, a1, a2, a3, a4⟩ := dv k e w q1 q2
    obtain ⟨s1, s2, s3⟩ := hsub i a1
    exact ⟨i, n, s1, by rw [s2]; exact a2, a3, by rw [s3]; exact a4⟩
  · exact cCc_mo (Z := Z) (Z' := zEn Z ed) _ (fun k cc _ q => ⟨q, hCr k cc q⟩) (fun c1 hc1 => by
      have hci := (hall c1 hc1).1
      refine ⟨fun j c' _ q => ⟨q, hFr j c' q⟩, tk _ hci, hTEk _ hci, tkl _ hci, ⟨?_, rfl⟩, rfl, fun i n q1 q2 _ => ?_⟩
      · have : ∀ (C : List qC), cCc E Z N m (qi A) TI B C → c1 ∈ C → c1.2.2.2.1.2.1 ≤ TI.length := by
          intro C
          induction C with
          | nil => exact fun _ h => by cases h
          | cons x r ih =>
            intro h hm
            rcases List.mem_cons.mp hm with rfl | hm
            · exact h.2.1.1
            · exact ih h.2.2.2.2 hm
        exact this _ d5 hc1
      · obtain ⟨s1, s2, s3⟩ := zX_sub (N := N) (N' := N) hP hci q1
        have hi8 := (hU.2.1.2.2.2.2.2 i s1).2.2.2.1
        have hio := hold i s1
        rw [s2] at hi8
        exact r4 _ (by omega)) d5
  · rw [low _ _ (by omega) (by omega) (by omega) (by omega)]; exact d6
  · rw [low _ _ (by omega) (by omega) (by omega) (by omega)]; exact d7
end CE
