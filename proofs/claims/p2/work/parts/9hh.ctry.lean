/-! THE CLASS'S SEARCH: tryClause -/
section CT3
variable {E : qE} {l l' TI TI' TL : List Nat} {F : Nat → Prop} {T T' : hy_T} {m m' m1 m2 : hy_m} {Z Z' : cZ} {N N' n u n' u' k n0 u0 K J : Nat} {A A' : qA} {B B' : bM} {s s' : Nat → pE} {Q : sQ}
/-- behind a clause's head -/
theorem try_ok {c cut a : Nat} {g : pE} (hp : qPr E A cut) (hc : c < E.1.length) (hu4 : qu A c ≤ qn A 4) (hu : uni (qs A) g (rn (tot E (qi A)) E.1[c].1) = some s') (hS : cSe E F Z N T m1 (qbind E (qent A c) s')) (hOk : zOk n0 u0 Z T n u) (hCt : cCt m1 (qent A c) K 0) (hT9 : T.1 a = some (3, 9)) {k4 : Nat} (h4 : m1 a 4 = k4) (hT4 : T.1 k4 = some (100, E.1[c].2.1.length)) (ha74 : a ≠ 40) (hfr : kFs F m m1) (hq : ∀ Z' T' n' u' m', zSp F T m T' m' → zOk n0 u0 Z' T' n' u' → cSe E F Z' N T' m' (qtry E A c g cut).1 → cCt m' (qtry E A c g cut).1 K 0 → (qtry E A c g cut).2 = true → Q 1 (T', n', u', m')) : 0 ≤ (c : Int) ∧ (c : Int) < 20 ∧ (0 ≤ (c : Int) ∧ (c : Int) < 20 ∧ (hy_r 0 (m1 40 (c : Int) + 1) ∧ (T.1 a = some (3, 9) ∧ (∃ t3 n3 : Nat, T.1 (hy_u m1 40 (c : Int) (m1 40 (c : Int) + 1) a 4).toNat = some (t3, n3) ∧ 99 ≤ t3 ∧ (((n3 : Int) ≤ 0 → Q 1 (T, n, u, hy_u m1 40 (c : Int) (m1 40 (c : Int) + 1))) ∧ (0 < (n3 : Int) → (0 ≤ (128 * (((qi A).length + 2 : Nat) : Int)) ∧ 0 < (128 : Int) ∧ wq_102 (128 * (((qi A).length + 2 : Nat) : Int) / 128) 0 (m1 36 6) (cut : Int) (T, n, u, hy_u m1 40 (c : Int) (m1 40 (c : Int) + 1)) (fun r4 s4 => Q 1 (s4.1, s4.2.1, s4.2.2.1, hy_u s4.2.2.2 36 6 r4))))))))) := by
  obtain ⟨hentO, hentF⟩ := qent_ok hp hc
  have hE? : E.1[c]? = some E.1[c] := List.getElem?_eq_getElem hc
  have hc20 : c < 20 := by
    have := hp.2.2.2.2.2.2.2.2.2
    omega
  have hT4' : qn A 4 ≤ 6000 := by
    have q1 := hp.2.2.2.2.2.2.2.1
    have q2 := hp.2.2.2.2.2.2.2.2.1
    omega
  have h8 : qn A 8 ≤ 600 := by
    have q1 := hp.2.2.2.2.2.1
    have q2 := hp.2.2.2.2.2.2.2.2.1
    omega
  have hq2 : (qtry E A c g cut).2 = true := by
    unfold qtry
    rw [hE?]
    dsimp only
    rw [hu]
  have hNm := hS.2.1
  obtain ⟨b1, b2, b3, b4⟩ := hNm.2.2.2.2.2 c hc20
  have b2 : m1 40 (c : Int) = (qu A c : Nat) := b2
  have hbo : qOK E (qbind E (qent A c) s') := qbind_ok (J := 0) hentO
  have hkl : ∀ c' ∈ qh (qbind E (qent A c) s'), c'.2.2.2.1.1 ≤ (qi (qbind E (qent A c) s')).length := fun c' hc' => (chK_all _ hbo.1 c' hc').1
  have fM : ∀ (z : Nat) (e : Int), ¬ (z = 40 ∧ e = (c : Int)) → hy_u m1 40 (c : Int) (m1 40 (c : Int) + 1) z e = m1 z e := fun z e q => hy_uf q
  have vM : hy_u m1 40 (c : Int) (m1 40 (c : Int) + 1) 40 (c : Int) = m1 40 (c : Int) + 1 := hy_us _ _ _ _
  have hr : hy_r 0 (m1 40 (c : Int) + 1) := by
    rw [b2]
    show -2147483648 ≤ _ ∧ _ < 2147483648
    omega
  have h36 : m1 36 6 = hy_u m1 40 (c : Int) (m1 40 (c : Int) + 1) 36 6 := (fM 36 6 (by omega)).symm
  rw [h36]
  generalize hy_u m1 40 (c : Int) (m1 40 (c : Int) + 1) = M at fM vM
  have hMm : cNm M (qmat (qbind E (qent A c) s') c) := by
    obtain ⟨n1, n2, n3, n4, n5, n6⟩ := hNm
    refine ⟨?_, ?_, ?_, ?_, ?_, fun d hd => ?_⟩
    · rw [fM _ _ (by omega)]; exact n1
    · rw [fM _ _ (by omega)]; exact n2
    · rw [fM _ _ (by omega)]; exact n3
    · rw [fM _ _ (by omega)]; exact n4
    · rw [fM _ _ (by omega)]; exact n5
    · obtain ⟨d1, d2, d3, d4⟩ := n6 d hd
      have eu : qu (qmat (qbind E (qent A c) s') c) d = upn (qu (qent A c)) c (qu (qent A c) c + 1) d := rfl
      have et : qt (qmat (qbind E (qent A c) s') c) d = qt (qbind E (qent A c) s') d := rfl
      have e4 : qn (qmat (qbind E (qent A c) s') c) 4 = qn A 4 + 1 := rfl
      have e4' : qn (qbind E (qent A c) s') 4 = qn A 4 + 1 := rfl
      rw [eu, et, e4, fM 39 _ (by omega)]
      rw [e4'] at d3 d4
      by_cases q : d = c
      · rw [q] at d1 d2 d3 d4 ⊢
        rw [upn_s, vM, b2]
        refine ⟨d1, rfl, d3, ?_⟩
        show qu A c + 1 ≤ _
        omega
      · rw [upn_o q, fM 40 _ (by omega)]
        exact ⟨d1, d2, d3, d4⟩
  have hS2 : cSe E F Z N T M (qmat (qbind E (qent A c) s') c) := cSe_o hS hkl (fun a e _ _ q => fM a e (fun z => q z.1)) rfl rfl rfl hMm
  have hP := hS2.1
  have hkf : kFs F m M := fun z e q => (fM z e (fun w => (kFs_F hP q).2.2.2.2.2.2.2.1 w.1)).trans (hfr z e q)
  have hCt2 : cCt M (qmat (qbind E (qent A c) s') c) K 0 := cCt_fr hCt (fM _ _ (by omega)) (fM _ _ (by omega)) (fM _ _ (by omega)) (fM _ _ (by omega)) rfl rfl rfl rfl
  have e4 : M a 4 = (k4 : Nat) := by rw [fM _ _ (fun z => ha74 z.1)]; exact h4
  refine ⟨by omega, by omega, by omega, by omega, hr, hT9, 100, E.1[c].2.1.length, by rw [e4, Int.toNat_natCast]; exact hT4, by decide, fun hz => ?_, fun hz => ⟨by omega, by decide, ?_⟩⟩
  · have hgs : E.1[c].2.1 = [] := List.length_eq_zero_iff.mp (by omega)
    have hq1 : (qtry E A c g cut).1 = qmat (qbind E (qent A c) s') c := by
      unfold qtry
      rw [hE?]
      dsimp only
      rw [hu]
      dsimp only
      rw [hgs]
    refine hq Z T n u M ⟨fun _ _ q => q, hkf⟩ hOk ?_ ?_ hq2
    · rw [hq1]; exact hS2
    · rw [hq1]; exact hCt2
  · have hq1 : (qtry E A c g cut).1 = qpush (qmat (qbind E (qent A c) s') c) ((qi A).length + 2, 0, cut, none) (qp A) := by
      unfold qtry
      rw [hE?]
      dsimp only
      rw [hu]
      dsimp only
      cases hgs : E.1[c].2.1 with
      | nil =>
        rw [hgs] at hz
        exact absurd hz (by decide)
      | cons y r => rfl
    obtain ⟨-, -, ⟨y3, y5, y8, ych⟩, yD⟩ := hS2
    rw [show 128 * (((qi A).length + 2 : Nat) : Int) / 128 = (((qi A).length + 2 : Nat) : Int) by omega]
    refine sp_push (A := qmat (qbind E (qent A c) s') c) (f := ((qi A).length + 2, 0, cut, none)) (L := qp A) (j := qn A 8) hbo.1 (Nat.le_refl _) hP hMm y3 y5 rfl (by omega) y8 ych yD hOk.2.1 hOk.2.2.1 ⟨rfl, rfl, rfl⟩ (fun FC T' n' u' m3 c' hT hW hn' hu' hnn g1 g2 hS3 => ?_)
    dsimp only
    have w1 : ∀ (z : Nat) (e : Int), ¬ (z = 36 ∧ e = 6) → hy_u m3 36 6 (c' : Int) z e = m3 z e := fun z e q => hy_uf q
    generalize hy_u m3 36 6 (c' : Int) = m4 at w1 hS3
    have sm : ∀ z : Nat, z < 74 → z ∉ zF Z := fun z q1 q2 => by
      have := (zF_tag hP.2.2.2.2.1 q2).2.1
      omega
    have low : ∀ (z : Nat) (e : Int), z < 74 → ¬ (z = 36 ∧ (e = 5 ∨ e = 6)) → z ≠ 37 → m4 z e = M z e := fun z e q1 q2 q3 => (w1 z e (fun w => q2 ⟨w.1, Or.inr w.2⟩)).trans (g1 z e (Or.inl q1) (sm z q1) (fun w => q2 ⟨w.1, Or.inl w.2⟩) q3)
    refine hq _ T' n' u' m4 ⟨hT, fun z e q => ?_⟩ (zOk_F hOk hT hW hn' hu' hnn) ?_ ?_ hq2
    · have hz2 := kFs_F hP q
      rw [w1 z e (fun w => hz2.2.2.2.1 w.1), g1 z e hz2.1 hz2.2.1 (fun w => hz2.2.2.2.1 w.1) hz2.2.2.2.2.1]
      exact hkf z e q
    · rw [hq1]; exact hS3
    · rw [hq1]
      exact cCt_fr hCt2 (low _ _ (by decide) (by omega) (by decide)) (low _ _ (by decide) (by omega) (by decide)) (low _ _ (by decide) (by omega) (by decide)) (low _ _ (by decide) (by omega) (by decide)) rfl rfl rfl rfl
theorem sp_101_81 {c cut a : Nat} {g : pE} {x : Int} (hK : K + 13000 < 2147480000) (hp : qPr E A cut) (hc : c < E.1.length) (hS : cSe E F Z N T m A) (hd : ∀ (a : Nat) (e : Int), ¬ (a = 36 ∧ e = 14) → ¬ (a = 39 ∧ e = (c : Int)) → m1 a e = m a e) (v14 : m1 36 14 = m 36 14 + 1) (v39 : m1 39 (c : Int) = m 39 (c : Int) + 1) (hcap : (qi A).length + 2 < zc Z) (hg : cFg (zX Z (qi A).length N) m (tot E (qi A)) (qs A) x g) (hOk : zOk n0 u0 Z T n u) (hCt : cCt m A K 0) (h22 : m 22 (c : Int) = a) (hcl : cCl T m F a (some E.1[c].1) E.1[c].2.1 E.1[c].2.2) (hkk : kOK (some E.1[c].1) E.1[c].2.1 E.1[c].2.2) (h1 : ∀ Z' T' n' u' m', zSp F T m T' m' → zOk n0 u0 Z' T' n' u' → cSe E F Z' N T' m' (qtry E A c g cut).1 → cCt m' (qtry E A c g cut).1 K 0 → (qtry E A c g cut).2 = true → Q 1 (T', n', u', m')) (h0 : ∀ Z' T' n' u' m', zSp F T m T' m' → zOk n0 u0 Z' T' n' u' → cFl E F Z' N T' m' (qtry E A c g cut).1 → cCt m' (qtry E A c g cut).1 K 0 → (qtry E A c g cut).2 = false → Q 0 (T', n', u', m')) : wq_101_81 (c : Int) x (cut : Int) (a : Int) (T, n, u, m1) Q := by
  obtain ⟨hentO, hentF⟩ := qent_ok hp hc
  have hE? : E.1[c]? = some E.1[c] := List.getElem?_eq_getElem hc
  have hc20 : c < 20 := by
    have := hp.2.2.2.2.2.2.2.2.2
    omega
  have hln : (qi A).length ≤ 299 := by
    have q1 := hp.2.2.2.2.1
    have q2 := hp.2.2.2.2.2.2.2.2.1
    omega
  have hT4' : qn A 4 ≤ 6000 := by
    have q1 := hp.2.2.2.2.2.2.2.1
    have q2 := hp.2.2.2.2.2.2.2.2.1
    omega
  have h2' : qn A 2 ≤ 300 := hp.2.2.2.2.2.2.2.2.1
  have hP := hS.1
  have hNm := hS.2.1
  have h3 := hS.2.2.1.1
  have hTa : T.1 a = some (3, 9) := cCl_T hcl
  have e413 : m1 41 3 = ((qi A).length : Int) + 2 := by rw [hd _ _ (by omega) (by omega)]; exact h3
  unfold wq_101_81 wq_119
  dsimp only
  rw [e413, show ((qi A).length : Int) + 2 + 1 - 1 = (((qi A).length + 2 : Nat) : Int) by omega]
  have w1 : ∀ (z : Nat) (e : Int), ¬ (z = 41 ∧ e = 3) → hy_u m1 41 3 (((qi A).length : Int) + 2 + 1) z e = m1 z e := fun z e q => hy_uf q
  have w3 : hy_u m1 41 3 (((qi A).length : Int) + 2 + 1) 41 3 = ((qi A).length : Int) + 2 + 1 := hy_us _ _ _ _
  generalize hy_u m1 41 3 (((qi A).length : Int) + 2 + 1) = mA at w1 w3
  have hPA : cPr E F T mA Z (qi A) := cPr_s hP (fun b e q => by
    rw [w1 b e (fun z => q (by unfold kEx; omega)), hd b e (fun z => q (Or.inl z.1)) (fun z => q (Or.inr (Or.inl z.1)))])
  refine ⟨show -2147483648 ≤ _ ∧ _ < 2147483648 by omega, show -2147483648 ≤ _ ∧ _ < 2147483648 by omega, sp_118 (i := (qi A).length + 2) hPA.1 hcap hTa (fun m2 f1 f2 f3 f4 => ?_)⟩
  obtain ⟨zz1, zz2, zz3, zz4, zz5, zz6, zz7⟩ := cRo_z hP.1
  obtain ⟨e, B, TI, hSb, hBo, hBn⟩ := ent_sc (m' := m2) hp.1 hS hc hc20 h22 hcl hkk hcap hln (fun b e q1 q2 q3 q4 q5 q6 => by
    rw [f1 b e q1 q2 q3, w1 b e q6, hd b e q4 q5]) f2 f3 f4 (by rw [f1 _ _ (by omega) (by omega) (by omega), w1 _ _ (by omega)]; exact v14) (by rw [f1 _ _ (by omega) (by omega) (by omega), w1 _ _ (by omega)]; exact v39) (by rw [f1 _ _ (by omega) (by omega) (by omega), w3, h3])
  have hP2 := hSb.1
  have hOk2 : zOk n0 u0 (zEn Z e) T n u := hOk
  have el : (qi (qent A c)).length = (qi A).length + 1 := by
    show (qi A ++ [c]).length = _
    rw [List.length_append]; rfl
  have etk : (qi (qent A c)).take (qi A).length = qi A := by
    show (qi A ++ [c]).take (qi A).length = qi A
    rw [List.take_left']
    rfl
  have m2f : ∀ (b : Nat) (e : Int), b < 42 → ¬ (b = 36 ∧ e = 14) → b ≠ 39 → ¬ (b = 41 ∧ e = 3) → m2 b e = m b e := fun b e q1 q2 q3 q4 => by
    rw [f1 b e (by omega) (by omega) (by omega), w1 b e q4, hd b e q2 (fun z => q3 z.1)]
  have ne := cRo_ne hP.1
  have m2g : ∀ (b : Nat) (e : Int), b = 46 ∨ b = 47 ∨ b = 53 → m2 b e = m b e := fun b e q => by
    have hb : b ≠ z1 Z ∧ b ≠ z2 Z ∧ b ≠ z4 Z ∧ b ≠ 36 ∧ b ≠ 39 ∧ b ≠ 41 := by
      rcases q with rfl | rfl | rfl
      · exact ⟨fun z => ne.2.2.2.2.2.2.2.2.2.2.1 z.symm, fun z => ne.2.2.2.2.2.2.2.2.2.2.2.1 z.symm, fun z => ne.2.2.2.2.2.2.2.1 z.symm, by decide, by decide, by decide⟩
      · exact ⟨fun z => zz2 z.symm, fun z => zz4 z.symm, fun z => ne.2.2.2.2.2.2.2.2.1 z.symm, by decide, by decide, by decide⟩
      · exact ⟨fun z => ne.2.2.2.2.2.2.2.2.2.2.2.2.1 z.symm, fun z => ne.2.2.2.2.2.2.2.2.2.2.2.2.2 z.symm, fun z => ne.2.2.2.2.2.2.2.2.2.1 z.symm, by decide, by decide, by decide⟩
    rw [f1 b e (fun z => hb.1 z.1) (fun z => hb.2.1 z.1) (fun z => hb.2.2.1 z.1), w1 b e (fun z => hb.2.2.2.2.2 z.1), hd b e (fun z => hb.2.2.2.1 z.1) (fun z => hb.2.2.2.2.1 z.1)]
  have kf2 : kFs F m m2 := fun b e q => by
    have hz := kFs_F hP q
    have hrw := hz.2.2.2.2.2.2.2.2.2.2.2.2
    unfold rwL at hrw
    simp only [List.mem_cons, not_or] at hrw
    rw [f1 b e (fun z => hrw.1 z.1) (fun z => hrw.2.1 z.1) (fun z => hrw.2.2.1 z.1), w1 b e (fun z => hz.2.2.2.2.2.2.2.2.1 z.1), hd b e (fun z => hz.2.2.2.1 z.1) (fun z => hz.2.2.2.2.2.2.1 z.1)]
  have hFc : ∀ b z, F b → m2 b z = m b z := fun b z hb => kf2 b z (Or.inr (Or.inr hb))
  -- the head
  obtain ⟨hd', a', c', k0, k1, k2, k4, nv, i1, i2, i3, i4, i5, i6, i7, i8, i9, i10, i11, i12, i13⟩ := ins_at hP2 N (i := (qi A).length + 2) (Or.inr (by omega)) (by omega)
  have ha' : a' = a := by
    have : ((a' : Nat) : Int) = (a : Int) := i3.symm.trans f2
    omega
  subst ha'
  obtain ⟨-, cl, j1, j2, j3⟩ := i13 c (by omega) (by
    show (qi A ++ [c])[(qi A).length + 2 - 2]? = some c
    rw [Nat.add_sub_cancel, List.getElem?_append_right (Nat.le_refl _), Nat.sub_self]
    rfl)
  have hcle : cl = E.1[c] := by
    rw [hE?] at j1
    injection j1 with j1
    exact j1.symm
  subst hcle
  obtain ⟨o1, o2, o3⟩ := i11 E.1[c].1 j2
  have epl : plc E (qi (qent A c)) ((qi A).length + 2) = tot E (qi A) := by
    unfold plc
    rw [if_neg (by omega), Nat.add_sub_cancel, etk]
  rw [epl] at o3
  have egs : gsO E (qi (qent A c)) ((qi A).length + 2) = E.1[c].2.1 := by
    show gsO E (qi A ++ [c]) ((qi A).length + 2) = E.1[c].2.1
    unfold gsO
    rw [if_neg (by omega), Nat.add_sub_cancel, List.getElem?_append_right (Nat.le_refl _), Nat.sub_self]
    show (match E.1[c]? with
      | some cl => cl.2.1
      | none => []) = _
    rw [hE?]
  rw [egs] at i4
  -- the goal
  obtain ⟨t, t1, t2, t3, t4, t5⟩ := hg
  have etot : tot E (qi A) ≤ tot E (qi (qent A c)) := tot_pre (List.prefix_append _ _)
  have hTE : tE (zX Z (qi A).length N) m (zX (zEn Z e) (qi (qent A c)).length N) m2 := tE_s hP hP2 (Nat.le_refl _) (Nat.le_refl _) (fun x hx => by
    have hWl : (zW Z).length = (qi A).length + 1 := hP.2.2.2.1.1
    show x ∈ (zW Z ++ [e]).take _
    rw [List.take_of_length_le (by rw [List.length_append, el, hWl]; exact Nat.le_refl _)]
    exact List.mem_append.mpr (Or.inl (List.mem_of_mem_take hx))) hFc (fun j _ => m2g 46 _ (Or.inl rfl)) (Nat.le_refl _)
  have hin : ∀ w, vIn w (rn (tot E (qi A)) E.1[c].1) → w < tot E (qi (qent A c)) := fun w hw => by
    have := rn_in (hkk.2.1 E.1[c].1 rfl).1 hw
    rw [epl, j3] at i9
    omega
  have hcc : m 47 10 + 2 * ((0 : Nat) : Int) ≤ ((K + 2 * (qn A 4 + qn A 2) : Nat) : Int) := hCt.2.1
  have hc5 : m 53 7 + 2 * ((0 : Nat) : Int) ≤ ((K + 2 * qn A 2 : Nat) : Int) := hCt.2.2
  have e4710 : m2 47 10 = m 47 10 := m2g 47 _ (Or.inr (Or.inl rfl))
  have e537 : m2 53 7 = m 53 7 := m2g 53 _ (Or.inr (Or.inr rfl))
  have ct3 : ∀ m3 : hy_m, (∀ (a : Nat) (e : Int), a < 41 ∨ a = 46 ∨ a = 53 ∨ (69 ≤ a ∧ a ≤ 73) ∨ F a → m3 a e = m2 a e) → (m2 47 10 ≤ m3 47 10 ∧ m3 47 10 ≤ m2 47 10 + 2) → cCt m3 (qent A c) K 0 := fun m3 q1 q2 => by
    have k4' : qn (qent A c) 4 = qn A 4 + 1 := rfl
    have k2' : qn (qent A c) 2 = qn A 2 := rfl
    refine ⟨⟨?_, ?_⟩, ?_, ?_⟩
    · rw [q1 _ _ (Or.inl (by decide)), m2f _ _ (by decide) (by omega) (by decide) (by omega)]; exact hCt.1.1
    · rw [q1 _ _ (Or.inl (by decide)), m2f _ _ (by decide) (by omega) (by decide) (by omega)]; exact hCt.1.2
    · rw [k4', k2']
      omega
    · rw [k2', q1 53 _ (Or.inr (Or.inr (Or.inl rfl))), e537]
      exact hc5
  have kf3 : ∀ m3 : hy_m, (∀ (a : Nat) (e : Int), a < 41 ∨ a = 46 ∨ a = 53 ∨ (69 ≤ a ∧ a ≤ 73) ∨ F a → m3 a e = m2 a e) → kFs F m m3 := fun m3 q1 b e q => by
    refine (q1 b e ?_).trans (kf2 b e q)
    rcases q with q | q | q
    · exact Or.inl (Nat.lt_trans q (by decide))
    · exact Or.inr (Or.inr (Or.inr (Or.inl q)))
    · exact Or.inr (Or.inr (Or.inr (Or.inr q)))
  have ht9 : T.1 ((a' : Int)).toNat = some (3, 9) := by rw [Int.toNat_natCast]; exact hTa
  rw [Int.toNat_natCast]
  have ha40 : a' ≠ 40 := by
    intro q
    have := hP2.1.2.1 a' i4.2.2.2.2.2.2.2.1
    omega
  refine ⟨hTa, show -2147483648 ≤ _ ∧ _ < 2147483648 by omega, sp_uc (A := qent A c) (O := fun w => w < tot E (qi A)) hentO.1 hSb (by rw [e4710]; omega) (hTE _ _ t1) o3 (fun w hw => Nat.lt_of_lt_of_le (t3 w hw) etot) hin (fun w t' w' _ q1 q2 => hBo w t' q1 w' q2) (fun w q => hBn w (by omega)) (fun w z q1 q2 => by
    have q1 : w < tot E (qi A) := q1
    show z < tot E (qi A)
    omega) (fun i n' j n'' q1 q2 q3 q4 q5 q6 => ?_) (fun m3 s3 y1 y2 y3 y4 y5 => ⟨fun _ => ?_, fun q => absurd q (by decide)⟩) (fun m3 y1 y2 y3 y4 y5 => ⟨fun q => absurd rfl q, fun _ => ?_⟩)⟩
  · have l1 := zX_lim (N := N) hP2 (k := (qi A).length) (by omega) q1 q2
    have l2 := zX_lim (N := N) hP2 (k := (qi A).length) (by omega) q3 q4
    rw [etk] at l1 l2
    have u1 := ((zX_uPr hP2 N).2.1.2.2.2.2.2 i q1).2.2.2.1
    refine ⟨fun z => ?_, l2.mp (by omega)⟩
    have := l1.mpr z
    omega
  · have hu : uni (qs A) g (rn (tot E (qi A)) E.1[c].1) = some s3 := by
      rw [← y4]
      exact (uni_c (s := qs A) (fun v q => t5 v q) (fun _ _ => rfl)).symm
    refine try_ok (m := m) hp hc ?_ hu y5 hOk2 (ct3 m3 y1 y3) hTa (k4 := k4) ?_ i4.2.2.2.1 ha40 (kf3 m3 y1) h1
    · have := (hNm.2.2.2.2.2 c hc20).2.2.2
      exact this
    · rw [y1 _ _ (Or.inr (Or.inr (Or.inr (Or.inr i4.2.2.2.2.2.2.2.1))))]
      exact i4.2.2.1
  · have hu : uni (qs A) g (rn (tot E (qi A)) E.1[c].1) = none := by
      rw [← y4]
      exact (uni_c (s := qs A) (fun v q => t5 v q) (fun _ _ => rfl)).symm
    have hq : qtry E A c g cut = (qent A c, false) := by
      unfold qtry
      rw [hE?]
      dsimp only
      rw [hu]
    rw [hq] at h0
    exact h0 _ T n u m3 ⟨fun _ _ q => q, kf3 m3 y1⟩ hOk2 y5 (ct3 m3 y1 y3) rfl
end CT3
