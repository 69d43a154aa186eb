/-! THE CLASS ASKS -/
def zE0 (Z : cZ) (e : cEn) : cZ := ([e], Z.2)
theorem qask_eq : qpush (qfin qno 1 0) ((0, 0, 0, none) : qF) [] = qask := by
  unfold qpush qtop qnum qask qfin qno
  refine Prod.ext (funext fun k => ?_) rfl
  show (if k = 8 then 0 + 1 else if k = 0 then 1 else if k = 1 then 0 else if k = 7 ∨ k = 8 then 0 else 0) = if k = 0 ∨ k = 8 then 1 else 0
  by_cases q8 : k = 8
  · rw [if_pos q8, if_pos (Or.inr q8)]
  · rw [if_neg q8]
    by_cases q0 : k = 0
    · rw [if_pos q0, if_pos (Or.inl q0)]
    · rw [if_neg q0]
      have e : (if k = 0 ∨ k = 8 then 1 else 0 : Nat) = 0 := if_neg (fun z => z.elim q0 q8)
      rw [e]
      split
      · rfl
      · split <;> rfl
section CAS
variable {F F' : Nat → Prop} {T T' : hy_T} {m m' : hy_m} {Z Z' : cZ} {PL : List pCl} {PH : List (List pCl)} {l TI : List Nat} {N N' n n' u n0 u0 K nv : Nat} {gs : List pE} {A : qA} {B : bM} {tx : List Int}
/-- Arrays.fill of a whole row -/
theorem sp_308 {a n : Nat} {v : Int} {Q : Int → hy_m → Prop} (hT : T.1 a = some (100, n)) (hn : (n : Int) < 2147483647) (hq : Q 0 (mFill m a 0 n v)) : wq_308 (a : Int) v T m Q := by
  unfold wq_308 wq_308_5
  rw [Int.toNat_natCast]
  refine ⟨100, n, hT, by decide, ?_⟩
  refine wL1_rule (Nat.lt_wfRel.wf) (fun x2 m' => 0 ≤ x2 ∧ x2 ≤ (n : Int) ∧ m' = mFill m a 0 x2 v) (fun x2 _ => ((n : Int) - x2).toNat) ?_ ⟨Int.le_refl _, by omega, ?_⟩
  · rintro P x2 m' ⟨h3, h4, rfl⟩ hP
    unfold wf_308_5
    rw [Int.toNat_natCast]
    refine ⟨fun q => ?_, fun q => ⟨n, hT, by omega, by omega, show -2147483648 ≤ _ ∧ _ < 2147483648 by omega, hP _ _ ⟨by omega, by omega, ?_⟩ (show ((n : Int) - (x2 + 1)).toNat < ((n : Int) - x2).toNat by omega)⟩⟩
    · rw [show x2 = (n : Int) by omega]
      exact hq
    · funext z e
      by_cases c : z = a ∧ e = x2
      · rw [c.1, c.2, hy_us, mFill_s (by omega)]
      · rw [hy_uf c]
        by_cases c2 : z = a ∧ 0 ≤ e ∧ e < x2
        · rw [c2.1, mFill_s c2.2, mFill_s (by omega)]
        · rw [mFill_o c2, mFill_o (by omega)]
  · funext z e
    rw [mFill_o (by omega)]
set_option maxHeartbeats 2000000 in
/-- begin -/
theorem sp_86 {a : Nat} {Q : sQ} (hB : cB0 F K T m Z) (hPo : cPo T m F 21 22 PL) (h30 : ∀ cl ∈ PL, aM cl.1 + aMs cl.2.1 ≤ 30) (hcl : cCl T m F a none gs nv) (hkk : kOK none gs nv) (ha30 : aMs gs ≤ 30) (h39 : T.1 39 = some (100, 20) ∧ T.1 40 = some (100, 20)) (hOk : zOk n0 u0 Z T n u) (hq : ∀ Z' T' n' u' m', zSp F T m T' m' → zOk n0 u0 Z' T' n' u' → cAl (PL, gs, nv) F K Z' T' m' qask → Q 0 (T', n', u', m')) : wq_86 (a : Int) (T, n, u, m) Q := by
  obtain ⟨hR, hO, hG, h47, h53⟩ := hB
  have hW := hOk.2.1
  obtain ⟨ne1, ne2, ne3, ne4, ne5, ne6, ne7, ne8, ne9, ne10, ne11, ne12, ne13, ne14⟩ := cRo_ne hR
  obtain ⟨zz1, zz2, zz3, zz4, zz5, zz6, zz7⟩ := cRo_z hR
  obtain ⟨v10, v11, v6, v5, v8, v3, v46, v7, vb⟩ := cFin_v (m := m) (b := z4 Z) (st := 0) (er := 0) ⟨by omega, by omega⟩
  have hzc := hR.2.2.1
  have h4 := hR.2.2.2.2.2.1
  have hTa : T.1 a = some (3, 9) := by
    obtain ⟨cc, k0, k1, k2, k4, k7, k8, hK, -⟩ := hcl
    exact hK.1
  unfold wq_86 wq_87
  dsimp only
  refine sp_88 (b := z4 Z) h4.1 h4.2 (by omega) (by omega) ?_
  have f0 : ∀ (b : Nat) (e : Int), ¬ (b = 36 ∧ (e = 5 ∨ e = 6 ∨ e = 8 ∨ e = 10 ∨ e = 11)) → ¬ (b = 41 ∧ (e = 3 ∨ e = 6 ∨ e = 7)) → ¬ (b = z4 Z ∧ 0 ≤ e ∧ e < 8) → cFin m (z4 Z) 0 0 b e = m b e := fun b e q1 q2 q3 => cFin_o q1 q2 q3
  generalize cFin m (z4 Z) 0 0 = M0 at v10 v11 v6 v5 v8 v3 v46 v7 vb f0
  refine sp_308 (a := 39) h39.1 (by decide) ?_
  have f1 : ∀ (b : Nat) (e : Int), ¬ (b = 36 ∧ 10 ≤ e ∧ e ≤ 16) → hy_u (hy_u (hy_u (hy_u (hy_u (hy_u (hy_u M0 36 10 1) 36 11 0) 36 12 0) 36 13 0) 36 14 0) 36 15 0) 36 16 0 b e = M0 b e := fun b e q => by rw [hy_uf (by omega), hy_uf (by omega), hy_uf (by omega), hy_uf (by omega), hy_uf (by omega), hy_uf (by omega), hy_uf (by omega)]
  have w10 : hy_u (hy_u (hy_u (hy_u (hy_u (hy_u (hy_u M0 36 10 1) 36 11 0) 36 12 0) 36 13 0) 36 14 0) 36 15 0) 36 16 0 36 10 = 1 := by rw [hy_uk (by decide), hy_uk (by decide), hy_uk (by decide), hy_uk (by decide), hy_uk (by decide), hy_uk (by decide), hy_us]
  have w0 : ∀ e : Int, 11 ≤ e → e ≤ 16 → hy_u (hy_u (hy_u (hy_u (hy_u (hy_u (hy_u M0 36 10 1) 36 11 0) 36 12 0) 36 13 0) 36 14 0) 36 15 0) 36 16 0 36 e = 0 := fun e q1 q2 => by
    have : e = 11 ∨ e = 12 ∨ e = 13 ∨ e = 14 ∨ e = 15 ∨ e = 16 := by omega
    rcases this with rfl | rfl | rfl | rfl | rfl | rfl
    · rw [hy_uk (by decide), hy_uk (by decide), hy_uk (by decide), hy_uk (by decide), hy_uk (by decide), hy_us]
    · rw [hy_uk (by decide), hy_uk (by decide), hy_uk (by decide), hy_uk (by decide), hy_us]
    · rw [hy_uk (by decide), hy_uk (by decide), hy_uk (by decide), hy_us]
    · rw [hy_uk (by decide), hy_uk (by decide), hy_us]
    · rw [hy_uk (by decide), hy_us]
    · rw [hy_us]
  generalize hy_u (hy_u (hy_u (hy_u (hy_u (hy_u (hy_u M0 36 10 1) 36 11 0) 36 12 0) 36 13 0) 36 14 0) 36 15 0) 36 16 0 = M1 at f1 w10 w0
  refine sp_308 (a := 40) h39.2 (by decide) ?_
  have f2 : ∀ (b : Nat) (e : Int), ¬ ((b = 39 ∨ b = 40) ∧ 0 ≤ e ∧ e < 20) → mFill (mFill M1 39 0 (20 : Nat) 0) 40 0 (20 : Nat) 0 b e = M1 b e := fun b e q => by rw [mFill_o (by omega), mFill_o (by omega)]
  have w39 : ∀ e : Int, 0 ≤ e → e < 20 → mFill (mFill M1 39 0 (20 : Nat) 0) 40 0 (20 : Nat) 0 39 e = 0 ∧ mFill (mFill M1 39 0 (20 : Nat) 0) 40 0 (20 : Nat) 0 40 e = 0 := fun e q1 q2 => ⟨by rw [mFill_o (by omega), mFill_s (by omega)], mFill_s (by omega)⟩
  generalize mFill (mFill M1 39 0 (20 : Nat) 0) 40 0 (20 : Nat) 0 = M2 at f2 w39
  have bj := (hR.1.2 (yj (zU Z)) (by unfold rwL; simp)).1
  have bm := (hR.1.2 (ym (zU Z)) (by unfold rwL; simp)).1
  have bv := (hR.1.2 (zV Z).2 (by unfold rwL; simp)).1
  have hRn := hR.1.1
  unfold rwL at hRn
  simp only [List.nodup_cons, List.mem_cons, List.not_mem_nil, or_false, not_or, List.nodup_nil, and_true, not_false_eq_true] at hRn
  obtain ⟨⟨n1, n2, n3, n4, n5, n6, n7, n8, n9, n10⟩, ⟨p1, p2, p3, p4, p5, p6, p7, p8, p9⟩, ⟨q1, q2, q3, q4, q5, q6, q7, q8⟩, -⟩ := hRn
  have m2 : ∀ (b : Nat) (e : Int), ¬ (b = 36 ∧ 5 ≤ e ∧ e ≤ 16) → b ≠ 39 → b ≠ 40 → ¬ (b = 41 ∧ (e = 3 ∨ e = 6 ∨ e = 7)) → ¬ (b = z4 Z ∧ 0 ≤ e ∧ e < 8) → M2 b e = m b e := fun b e y1 y2 y3 y4 y5 => by
    rw [f2 b e (by omega), f1 b e (by omega), f0 b e (by omega) y4 y5]
  have rows : ∀ (M : hy_m), (∀ (b : Nat) (e : Int), ¬ (b = 36 ∧ 5 ≤ e ∧ e ≤ 16) → b ≠ 39 → b ≠ 40 → ¬ (b = 41 ∧ (e = 3 ∨ e = 6 ∨ e = 7)) → b ≠ z1 Z → b ≠ z2 Z → b ≠ z4 Z → M b e = m b e) → cRo F T M Z := fun M hM => cRo_f hR (fun _ _ q => q) (fun b e q => by
    rcases q with q | q | q | q | q | q
    · exact hM b e (by omega) (by omega) (by omega) (by omega) (by omega) (by omega) (by omega)
    · exact hM b e (by omega) (by omega) (by omega) (by omega) (fun z => zz2 (z.symm.trans q)) (fun z => zz4 (z.symm.trans q)) (fun z => ne9 (z.symm.trans q))
    · exact hM b e (by omega) (by omega) (by omega) (by omega) (fun z => ne13 (z.symm.trans q)) (fun z => ne14 (z.symm.trans q)) (fun z => ne10 (z.symm.trans q))
    · rw [q]
      exact hM _ e (by omega) (by omega) (by omega) (by omega) (fun z => n3 z.symm) (fun z => p2 z.symm) (fun z => q1 z.symm)
    · rw [q]
      exact hM _ e (by omega) (by omega) (by omega) (by omega) (fun z => n7 z.symm) (fun z => p6 z.symm) (fun z => q5 z.symm)
    · rw [q]
      exact hM _ e (by omega) (by omega) (by omega) (by omega) (fun z => n10 z.symm) (fun z => p9 z.symm) (fun z => q8 z.symm)) hR.2.1 (fun b hb => (hR.1.2 b hb).2.2.2.2.2)
  have hR2 : cRo F T M2 Z := rows M2 (fun b e y1 y2 y3 y4 y5 y6 y7 => m2 b e y1 y2 y3 y4 (fun z => y7 z.1))
  refine sp_118 (i := 0) hR2 (by omega) hTa (fun M4 g1 g2 g3 g4 => ?_)
  have m4 : ∀ (b : Nat) (e : Int), ¬ (b = 36 ∧ 5 ≤ e ∧ e ≤ 16) → b ≠ 39 → b ≠ 40 → ¬ (b = 41 ∧ (e = 3 ∨ e = 6 ∨ e = 7)) → ¬ (b = z1 Z ∧ e = 0) → ¬ (b = z2 Z ∧ e = 0) → ¬ (b = z4 Z ∧ 0 ≤ e ∧ e < 8) → M4 b e = m b e := fun b e y1 y2 y3 y4 y5 y6 y7 => by
    rw [g1 b e (fun z => y5 ⟨z.1, z.2⟩) (fun z => y6 ⟨z.1, z.2⟩) (fun z => y7 ⟨z.1, by have := z.2.1; omega, by have := z.2.2; omega⟩)]
    exact m2 b e y1 y2 y3 y4 y7
  have lo4 : ∀ (b : Nat) (e : Int), b < 42 → M4 b e = M2 b e := fun b e q => g1 b e (by omega) (by omega) (by omega)
  have hR4 : cRo F T M4 Z := rows M4 (fun b e y1 y2 y3 y4 y5 y6 y7 => m4 b e y1 y2 y3 y4 (fun z => y5 z.1) (fun z => y6 z.1) (fun z => y7 z.1))
  have hF4 : ∀ b z, F b → M4 b z = m b z := fun b z hb => by
    have hf := hR.2.1 b hb
    exact m4 b z (by omega) (by omega) (by omega) (by omega) (fun q => (hR.1.2 (z1 Z) (by unfold rwL; simp)).2.2.2.2.2 (q.1 ▸ hb)) (fun q => (hR.1.2 (z2 Z) (by unfold rwL; simp)).2.2.2.2.2 (q.1 ▸ hb)) (fun q => (hR.1.2 (z4 Z) (by unfold rwL; simp)).2.2.2.2.2 (q.1 ▸ hb))
  have hcl4 : cCl T M4 F a none gs nv := cCl_fr hcl (fun _ q => q) (fun _ _ _ q => q) hF4
  obtain ⟨c', k0, k1, k2, k4, hrw, h5a⟩ := cCl_rw hcl4
  have haH : aH (none : Option pE) + aMs gs ≤ 30 := by
    show 0 + aMs gs ≤ 30
    omega
  have hon : wOn T M4 F (z1 Z) (zc Z) none gs (0, (a, c', k0, k1, k2), nv, 0, kNd (M4 k2) (M4 k4) (M4 a 3) none gs) := ⟨g2, ⟨k4, hrw, rfl⟩, h5a, hkk, haH, by have := hkk.1; show 0 + nv ≤ 2500; omega, by show 0 < zc Z; omega⟩
  generalize hed : ((0, (a, c', k0, k1, k2), nv, 0, kNd (M4 k2) (M4 k4) (M4 a 3) none gs) : cEn) = ed at hon
  have ed1 : ed.1 = 0 := by rw [← hed]
  have ed2 : ed.2.2.1 = nv := by rw [← hed]
  have ed3 : ed.2.2.2.1 = 0 := by rw [← hed]
  have hO4 : cOb F T M4 (zE0 Z ed) := cOb_m hO (fun e => m4 _ _ (by omega) (by omega) (by omega) (by omega) (by omega) (by omega) (by omega)) (fun e => m4 _ _ (by omega) (by omega) (by omega) (by omega) (by omega) (by omega) (by omega))
  have hP4 : cPr (PL, gs, nv) F T M4 (zE0 Z ed) (qi (qfin qno 1 0)) := by
    refine ⟨hR4, cPo_fr hPo (fun _ q => q) (fun _ _ q => q) (fun b e q => ?_), h30, ⟨rfl, ⟨ed, rfl, ed1, ed2, ed3, hon, g3⟩, fun j c q => by cases q⟩, hO4, ?_⟩
    · rcases q with q | q | q
      · exact hF4 b e q
      · exact m4 b e (by omega) (by omega) (by omega) (by omega) (by omega) (by omega) (by omega)
      · exact m4 b e (by omega) (by omega) (by omega) (by omega) (by omega) (by omega) (by omega)
    · obtain ⟨y1, y2, nv0, y4⟩ := hG
      refine ⟨y1, fun i i1 i2 => ?_, nv0, y4⟩
      by_cases c0 : i = 0
      · rw [c0]
        exact ⟨a, 9, g2, hTa⟩
      · obtain ⟨a', nv', b1, b2⟩ := y2 i i1 i2
        exact ⟨a', nv', by
          show M4 (z1 Z) i = _
          rw [m4 _ _ (by omega) (by omega) (by omega) (by omega) (fun z => c0 z.2) (fun z => ne1 z.1) (fun z => ne2 z.1)]; exact b1, b2⟩
  have hN4 : cNm M4 (qfin qno 1 0) := by
    refine ⟨?_, ?_, ?_, ?_, ?_, fun c hc => ?_⟩
    · rw [lo4 _ _ (by decide), f2 _ _ (by omega), w0 _ (by omega) (by omega)]; rfl
    · rw [lo4 _ _ (by decide), f2 _ _ (by omega), w0 _ (by omega) (by omega)]; rfl
    · rw [lo4 _ _ (by decide), f2 _ _ (by omega), w0 _ (by omega) (by omega)]; rfl
    · rw [lo4 _ _ (by decide), f2 _ _ (by omega), w0 _ (by omega) (by omega)]; rfl
    · rw [lo4 _ _ (by decide), f2 _ _ (by omega), w0 _ (by omega) (by omega)]; rfl
    · obtain ⟨b1, b2⟩ := w39 (c : Int) (by omega) (by omega)
      rw [lo4 39 _ (by decide), lo4 40 _ (by decide)]
      exact ⟨b1, b2, Nat.zero_le _, Nat.zero_le _⟩
  have e5 : M4 36 5 = 0 := by rw [lo4 _ _ (by decide), f2 _ _ (by omega), f1 _ _ (by omega)]; exact v5
  have e6 : M4 36 6 = 0 := by rw [lo4 _ _ (by decide), f2 _ _ (by omega), f1 _ _ (by omega)]; exact v6
  have e8 : M4 36 8 = 0 := by rw [lo4 _ _ (by decide), f2 _ _ (by omega), f1 _ _ (by omega)]; exact v8
  have e3 : M4 41 3 = 2 := by rw [lo4 _ _ (by decide), f2 _ _ (by omega), f1 _ _ (by omega)]; exact v3
  have e46 : M4 41 6 = 0 := by rw [lo4 _ _ (by decide), f2 _ _ (by omega), f1 _ _ (by omega)]; exact v46
  have e7 : M4 41 7 = 0 := by rw [lo4 _ _ (by decide), f2 _ _ (by omega), f1 _ _ (by omega)]; exact v7
  have e10 : M4 36 10 = 1 := by rw [lo4 _ _ (by decide), f2 _ _ (by omega)]; exact w10
  have e11 : M4 36 11 = 0 := by rw [lo4 _ _ (by decide), f2 _ _ (by omega), w0 _ (by omega) (by omega)]
  have hD4 : ∃ B TI, cDy (PL, gs, nv) (zE0 Z ed) 1 M4 (qfin qno 1 0) B TI ∧ Res B (qs (qfin qno 1 0)) ∧ TI.length = qn (qfin qno 1 0) 7 := by
    refine ⟨fun _ => none, [], ⟨⟨fun i n q1 q2 => Or.inl ⟨rfl, ?_⟩, fun _ _ => rfl⟩, ⟨[], ⟨?_, fun i hi => absurd hi (Nat.not_lt_zero _), List.nodup_nil, fun e he => by cases he⟩, rfl, fun k e w q => by cases q⟩, (fun w hw => by cases hw), trivial, ?_, e7⟩, fun x => ⟨fun _ => rfl, (fun t e => by cases e)⟩, rfl⟩
    · have hi0 : i = 0 := by
        obtain ⟨e, he, rfl⟩ := q1
        have he : e ∈ [ed] := he
        rw [List.mem_singleton.mp he]
        exact ed1
      have h8 := ((zX_uPr hP4 1).2.1.2.2.2.2.2 i q1).2.2.2.1
      have q2 : n < xV (zX (zE0 Z ed) (qi (qfin qno 1 0)).length 1) i := q2
      show M4 (z4 Z) _ = -1
      exact g4 _ (by omega) (by omega)
    · show M4 41 6 = ((0 : Nat) : Int)
      rw [e46]; rfl
    · show M4 36 8 = ((0 : Nat) : Int)
      rw [e8]; rfl
  have hOk4 : zOk n0 u0 (zE0 Z ed) T n u := hOk
  refine sp_push (A := qfin qno 1 0) (f := (0, 0, 0, none)) (L := []) (j := 0) (N := 1) (I := 0) (ni := 0) (tr := 0) trivial (Nat.le_refl _) hP4 hN4 (by rw [e3]; rfl) (by rw [e5]; rfl) rfl (by decide) (Nat.zero_le _) rfl hD4 hW hOk.2.2.1 ⟨rfl, rfl, rfl⟩ (fun FC T' n' u' m5 c hT hW' hn' hu' hnn y1 y2 hS5 => ?_)
  rw [qask_eq] at hS5
  dsimp only
  have w1 : ∀ (z : Nat) (e : Int), ¬ (z = 36 ∧ e = 6) → hy_u m5 36 6 (c : Int) z e = m5 z e := fun z e q => hy_uf q
  generalize hy_u m5 36 6 (c : Int) = m6 at w1 hS5
  have sm : ∀ z : Nat, z < 74 → z ∉ zF (zE0 Z ed) := fun z q1 q2 => by
    have := (zF_tag hO4 q2).2.1
    omega
  have low : ∀ (z : Nat) (e : Int), z < 74 → ¬ (z = 36 ∧ (e = 5 ∨ e = 6)) → z ≠ 37 → m6 z e = M4 z e := fun z e q1 q2 q3 => (w1 z e (fun w => q2 ⟨w.1, Or.inr w.2⟩)).trans (y1 z e (Or.inl q1) (sm z q1) (fun w => q2 ⟨w.1, Or.inl w.2⟩) q3)
  refine hq _ T' n' u' m6 ⟨hT, fun z e q => ?_⟩ (zOk_F hOk4 hT hW' hn' hu' hnn) ⟨hS5, ⟨?_, ?_⟩, ?_, ?_⟩
  · have hz2 := kFs_F hP4 q
    have hrw := hz2.2.2.2.2.2.2.2.2.2.2.2.2
    unfold rwL at hrw
    simp only [List.mem_cons, not_or] at hrw
    rw [w1 z e (fun w => hz2.2.2.2.1 w.1), y1 z e hz2.1 hz2.2.1 (fun w => hz2.2.2.2.1 w.1) hz2.2.2.2.2.1]
    exact m4 z e (fun w => hz2.2.2.2.1 w.1) hz2.2.2.2.2.2.2.1 hz2.2.2.2.2.2.2.2.1 (fun w => hz2.2.2.2.2.2.2.2.2.1 w.1) (fun w => hrw.1 w.1) (fun w => hrw.2.1 w.1) (fun w => hrw.2.2.1 w.1)
  · rw [low _ _ (by decide) (by omega) (by decide), e10]; rfl
  · rw [low _ _ (by decide) (by omega) (by decide), e11]; rfl
  · have k2 : qn qask 2 = 0 := rfl
    have k4 : qn qask 4 = 0 := rfl
    rw [low _ _ (by decide) (by omega) (by decide), m4 47 _ (by omega) (by omega) (by omega) (by omega) (fun z => zz2 z.1.symm) (fun z => zz4 z.1.symm) (fun z => ne9 z.1.symm), k2, k4]
    omega
  · have k2 : qn qask 2 = 0 := rfl
    rw [low _ _ (by decide) (by omega) (by decide), m4 53 _ (by omega) (by omega) (by omega) (by omega) (fun z => ne13 z.1.symm) (fun z => ne14 z.1.symm) (fun z => ne10 z.1.symm), k2]
    omega
end CAS
