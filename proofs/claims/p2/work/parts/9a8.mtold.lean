/-! WHAT THE MODEL TELLS OF ITS PROGRAM: overlaps, ways -/
def stv (PL : List pCl) (p : Nat → Bool) : Nat → Nat → Nat
  | 0, _ => 0
  | s + 1, k => if stv PL p s k = 0 ∧ clB PL (lvl PL p s).1 k = true then s + 1 else stv PL p s k
theorem stv_i (PL : List pCl) (p : Nat → Bool) (k : Nat) : ∀ s, (stv PL p s k = 0 ∧ (lvl PL p s).2 k = false ∧ ∀ s', s' < s → clB PL (lvl PL p s').1 k = false) ∨ ∃ s', s' < s ∧ stv PL p s k = s' + 1 ∧ (lvl PL p s).2 k = true ∧ clB PL (lvl PL p s').1 k = true ∧ ∀ r, r < s' → clB PL (lvl PL p r).1 k = false
  | 0 => Or.inl ⟨rfl, rfl, fun s' h => absurd h (Nat.not_lt_zero _)⟩
  | s + 1 => by
    have e2 : (lvl PL p (s + 1)).2 k = ((lvl PL p s).2 k || clB PL (lvl PL p s).1 k) := rfl
    have e1 : stv PL p (s + 1) k = if stv PL p s k = 0 ∧ clB PL (lvl PL p s).1 k = true then s + 1 else stv PL p s k := rfl
    rcases stv_i PL p k s with ⟨h1, h2, h3⟩ | ⟨s', h0, h1, h2, h3, h4⟩
    · by_cases c : clB PL (lvl PL p s).1 k = true
      · rw [if_pos ⟨h1, c⟩] at e1
        rw [c, Bool.or_true] at e2
        exact Or.inr ⟨s, Nat.lt_succ_self s, e1, e2, c, h3⟩
      · rw [if_neg (fun z => c z.2), h1] at e1
        have c' := Bool.eq_false_iff.mpr c
        rw [c', h2] at e2
        refine Or.inl ⟨e1, e2, fun s' hs => ?_⟩
        by_cases q : s' = s
        · rw [q]
          exact c'
        · exact h3 s' (by omega)
    · rw [if_neg (fun z => by omega)] at e1
      rw [h2, Bool.true_or] at e2
      exact Or.inr ⟨s', by omega, e1.trans h1, e2, h3, h4⟩
theorem stv_l {PL : List pCl} {p : Nat → Bool} {s k : Nat} (hs : 1 ≤ s) : stv PL p s k = s ↔ (lvl PL p s).1 k = true := by
  obtain ⟨s, rfl⟩ : ∃ r, s = r + 1 := ⟨s - 1, by omega⟩
  have e1 : stv PL p (s + 1) k = if stv PL p s k = 0 ∧ clB PL (lvl PL p s).1 k = true then s + 1 else stv PL p s k := rfl
  have e2 : (lvl PL p (s + 1)).1 k = (clB PL (lvl PL p s).1 k && !(lvl PL p s).2 k) := rfl
  rcases stv_i PL p k s with ⟨h1, h2, h3⟩ | ⟨s', h0, h1, h2, h3, h4⟩
  · rw [e2, h2]
    by_cases c : clB PL (lvl PL p s).1 k = true
    · rw [e1, if_pos ⟨h1, c⟩, c]
      exact ⟨fun _ => rfl, fun _ => rfl⟩
    · rw [e1, if_neg (fun z => c z.2), h1, Bool.eq_false_iff.mpr c]
      exact ⟨fun q => absurd q.symm (Nat.succ_ne_zero _), fun q => by cases q⟩
  · rw [e2, h2, e1, if_neg (fun z => by omega), h1, Bool.not_true, Bool.and_false]
    exact ⟨fun q => by omega, fun q => by cases q⟩
theorem rcI_uq {PL : List pCl} {p : Nat → Bool} {d : Nat} {r r' : Int} (h : rcI PL p d r) (h' : rcI PL p d r') : r = r' := by
  rcases h with ⟨a1, a2⟩ | ⟨c, a0, a1, a2, a3⟩
  · rcases h' with ⟨b1, b2⟩ | ⟨c', b0, b1, b2, b3⟩
    · rw [a1, b1]
    · rw [a2 c' b0] at b2
      cases b2
  · rcases h' with ⟨b1, b2⟩ | ⟨c', b0, b1, b2, b3⟩
    · rw [b2 c a0] at a2
      cases a2
    · have : c = c' := by
        rcases Nat.lt_trichotomy c c' with q | q | q
        · rw [b3 c q] at a2
          cases a2
        · exact q
        · rw [a3 c' q] at b2
          cases b2
      rw [a1, b1, this]
theorem stv_r {PL : List pCl} {p : Nat → Bool} {d : Nat} : rcI PL p d (if (stv PL p 20 d : Int) = 0 then -9 else (stv PL p 20 d : Int)) := by
  rcases stv_i PL p d 20 with ⟨h1, h2, h3⟩ | ⟨s', h0, h1, h2, h3, h4⟩
  · rw [h1, if_pos (show ((0 : Nat) : Int) = 0 from rfl)]
    exact Or.inl ⟨rfl, h3⟩
  · rw [h1, if_neg (by omega)]
    exact Or.inr ⟨s', h0, by omega, h3, h4⟩
section MTN
variable {m m' : hy_m} {Q : Int → hy_m → Prop} {PL : List pCl} {ss : List Nat} {t t' : pE} {n n' : Int} {nv s i : Nat}
theorem hd_1 {h : pE} {gs : List pE} (hk : kOK (some h) gs nv) (hn : mN m h n) : ∃ k : Nat, m 78 n = k ∧ eKy h = kC (m 77 n) k ∧ k ≤ 3 ∧ nmOK (m 77 n) ∧ (k = 0 → fk h = 0) ∧ (k ≠ 0 → ∃ x, mN m x (m 79 (3 * n)) ∧ eK nv x false ∧ fk h = eKd x ∧ fy h = eKy x) := by
  obtain ⟨k, b, rfl, n1, n2, n3, n4⟩ := kOK_h hk
  have e7 : m 77 n = k := hn.2.2.1
  refine ⟨eN b, hn.2.2.2.1, by rw [e7]; rfl, n2, by rw [e7]; exact n1, fun q => by rw [n3 q]; rfl, fun q => ?_⟩
  obtain ⟨x, rr, rfl, hx⟩ := n4 q
  have := hn.2.2.2.2.2.2.2.2.1
  rw [show 3 * n + 0 = 3 * n by omega] at this
  exact ⟨x, this, hx, rfl, rfl⟩
/-- overlaps -/
theorem sp_225 {x1 : Int} (hp : mPo m PL ss) (h0 : ¬ (0 ≤ x1 ∧ x1 < PL.length) → Q (-1) m) (hq : ∀ i cl, x1 = (i : Nat) → PL[i]? = some cl → Q ((ovS PL (eKy cl.1) PL.length : Nat) : Int) m) : wq_225 x1 m Q := by
  have h20 := hp.2.1
  unfold wq_225
  refine sp_205 hp (fun a1 a2 => ⟨fun _ => ?_, fun q => absurd q (by decide)⟩) (fun q => ⟨fun q => absurd rfl q, fun _ => h0 q⟩)
  obtain ⟨i, rfl⟩ : ∃ i : Nat, x1 = i := ⟨x1.toNat, by omega⟩
  have hi : i < PL.length := by omega
  obtain ⟨s, -, s1, s2, s3, s4, s5⟩ := mPo_i hp hi
  obtain ⟨g1, g2, g3, g4⟩ := clR_g s3 (by omega)
  have hq := hq i _ rfl (List.getElem?_eq_getElem hi)
  have hh := g4 _ rfl
  have hcb := kOK_cb s4
  obtain ⟨kx, z1, z2, z3, z4, z5, z6⟩ := hd_1 s4 hh
  refine sp_206 (by omega) s2 ⟨by omega, by omega, ?_⟩
  have hxr := mN_r hh
  generalize hn0 : m 81 (s : Int) = n0 at *
  generalize hh0 : PL[i].1 = h0' at *
  clear hn0
  rw [ovS_sm PL _ _ h20, ← sm_dbl] at hq
  unfold wq_225_26
  refine wL2_rule (Nat.lt_wfRel.wf) (fun x3 x4 m' => m' = m ∧ ∃ d : Nat, x4 = d ∧ d ≤ PL.length ∧ x3 = sm (fun i => cntB (fun j => decide (i < j) && prB PL (eKy h0') i j) PL.length) d ∧ x3 ≤ 20 * (d : Int)) (fun _ x4 _ => 30 - x4.toNat) ?_ ⟨rfl, 0, rfl, Nat.zero_le _, rfl, by decide⟩
  rintro P26 x3 x4 m' ⟨e1, d, rfl, hd, rfl, hb⟩ hP26
  unfold wf_225_26
  rw [e1, hp.1]
  refine ⟨by decide, by decide, fun q => ?_, fun q => ⟨show -2147483648 ≤ _ ∧ _ < 2147483648 by omega, ?_⟩⟩
  · rw [show d = PL.length by omega]
    exact hq
  have hl : d < PL.length := by omega
  obtain ⟨sd, -, d1, d2, d3, d4, d5⟩ := mPo_i hp hl
  obtain ⟨-, -, -, gd4⟩ := clR_g d3 (by omega)
  have hhd := gd4 _ rfl
  unfold wq_225_43
  refine wL2_rule (Nat.lt_wfRel.wf) (fun x3 x5 m' => m' = m ∧ ∃ j : Nat, x5 = j ∧ d < j ∧ j ≤ PL.length ∧ x3 = ((sm (fun i => cntB (fun j => decide (i < j) && prB PL (eKy h0') i j) PL.length) d + cntB (fun j => decide (d < j) && prB PL (eKy h0') d j) j : Nat) : Int)) (fun _ x5 _ => 30 - x5.toNat) ?_ ⟨rfl, d + 1, by omega, by omega, by omega, by rw [(cntB_z (d + 1)).mpr (fun v hv => by rw [decide_eq_false (show ¬ d < v by omega), Bool.false_and]), Nat.add_zero]⟩
  rintro P43 x3 x5 m' ⟨e1', j, rfl, hdj, hj, rfl⟩ hP
  have hle := cntB_le (fun j => decide (d < j) && prB PL (eKy h0') d j) j
  unfold wf_225_43
  rw [e1', hp.1]
  refine ⟨by decide, by decide, fun q2 => ⟨show -2147483648 ≤ _ ∧ _ < 2147483648 by omega, hP26 _ _ _ ⟨rfl, d + 1, by omega, by omega, ?_, ?_⟩ ?_⟩, fun q2 => ?_⟩
  · rw [show j = PL.length by omega]
    rfl
  · omega
  · show 30 - _ < 30 - _
    omega
  have hjl : j < PL.length := by omega
  obtain ⟨sj, -, j1, j2, j3, j4, j5⟩ := mPo_i hp hjl
  obtain ⟨-, -, -, gj4⟩ := clR_g j3 (by omega)
  have hhj := gj4 _ rfl
  have hst : cntB (fun j => decide (d < j) && prB PL (eKy h0') d j) (j + 1) = cntB (fun j => decide (d < j) && prB PL (eKy h0') d j) j + (if prB PL (eKy h0') d j = true then 1 else 0) := by
    show _ + (if (decide (d < j) && prB PL (eKy h0') d j) = true then 1 else 0) = _
    rw [decide_eq_true hdj, Bool.true_and]
  have hpr : prB PL (eKy h0') d j = (decide (eKy PL[d].1 = eKy h0') && decide (eKy PL[j].1 = eKy h0') && cm (fk PL[d].1) (fy PL[d].1) (fk PL[j].1) (fy PL[j].1)) := by
    unfold prB
    rw [List.getElem?_eq_getElem hl, List.getElem?_eq_getElem hjl]
  have no : prB PL (eKy h0') d j = false → ∀ z : Int, z = ((sm (fun i => cntB (fun j => decide (i < j) && prB PL (eKy h0') i j) PL.length) d + cntB (fun j => decide (d < j) && prB PL (eKy h0') d j) j : Nat) : Int) → hy_r 0 ((j : Int) + 1) ∧ P43 z ((j : Int) + 1) m := fun e z hz => ⟨show -2147483648 ≤ _ ∧ _ < 2147483648 by omega, hP _ _ _ ⟨rfl, j + 1, by omega, by omega, by omega, by rw [hst, e, hz]; rfl⟩ (by
    show 30 - _ < 30 - _
    omega)⟩
  have ok : prB PL (eKy h0') d j = true → ∀ z : Int, z = ((sm (fun i => cntB (fun j => decide (i < j) && prB PL (eKy h0') i j) PL.length) d + cntB (fun j => decide (d < j) && prB PL (eKy h0') d j) j : Nat) : Int) + 1 → hy_r 0 z ∧ hy_r 0 ((j : Int) + 1) ∧ P43 z ((j : Int) + 1) m := fun e z hz => ⟨show -2147483648 ≤ _ ∧ _ < 2147483648 by omega, show -2147483648 ≤ _ ∧ _ < 2147483648 by omega, hP _ _ _ ⟨rfl, j + 1, by omega, by omega, by omega, by rw [hst, e, if_pos rfl, hz]; omega⟩ (by
    show 30 - _ < 30 - _
    omega)⟩
  refine sp_206 (by omega) d2 ⟨by omega, by omega, sp_206 (by omega) j2 ⟨by omega, by omega, sp_211 hh hhd hcb (kOK_cb d4) ?_⟩⟩
  by_cases e3 : eKy h0' = eKy PL[d].1
  · rw [if_pos e3]
    refine ⟨fun q => absurd q (by decide), fun _ => sp_211 hh hhj hcb (kOK_cb j4) ?_⟩
    by_cases e4 : eKy h0' = eKy PL[j].1
    · rw [if_pos e4]
      refine ⟨fun q => absurd q (by decide), fun _ => ?_⟩
      rw [decide_eq_true e3.symm, decide_eq_true e4.symm] at hpr
      have hpr : prB PL (eKy h0') d j = cm (fk PL[d].1) (fy PL[d].1) (fk PL[j].1) (fy PL[j].1) := hpr
      obtain ⟨kd, y1, y2, y3, y4, y5, y6⟩ := hd_1 d4 hhd
      obtain ⟨kj, w1, w2, w3, w4, w5, w6⟩ := hd_1 j4 hhj
      have ed : kx = kd := by
        rw [z2, y2] at e3
        exact (kC_inj z4 y4 z3 y3 e3).2
      have ej : kx = kj := by
        rw [z2, w2] at e4
        exact (kC_inj z4 w4 z3 w3 e4).2
      rw [z1]
      refine ⟨hxr.1, hxr.2, fun q3 => ok ?_ _ rfl, fun q3 => ?_⟩
      · rw [hpr, y5 (by omega)]
        rfl
      · obtain ⟨xd, a1, a2, a3, a4⟩ := y6 (by omega)
        obtain ⟨xj, b1, b2, b3, b4⟩ := w6 (by omega)
        have rd := mN_r hhd
        have rj := mN_r hhj
        refine ⟨by omega, by omega, by omega, by omega, sp_224 a1 b1 a2 b2 ?_⟩
        rw [← a3, ← a4, ← b3, ← b4, ← hpr]
        by_cases e5 : prB PL (eKy h0') d j = true
        · rw [if_pos e5]
          exact ⟨fun q => absurd q (by decide), fun _ => ok e5 _ rfl⟩
        · rw [if_neg e5]
          exact ⟨fun _ => ⟨show -2147483648 ≤ _ ∧ _ < 2147483648 by omega, no (Bool.eq_false_iff.mpr e5) _ (by omega)⟩, fun q => absurd rfl q⟩
    · rw [if_neg e4]
      refine ⟨fun _ => no ?_ _ rfl, fun q => absurd rfl q⟩
      rw [hpr, decide_eq_false (show ¬ eKy PL[j].1 = eKy h0' from fun z => e4 z.symm), Bool.and_false, Bool.false_and]
  · rw [if_neg e3]
    refine ⟨fun _ => no ?_ _ rfl, fun q => absurd rfl q⟩
    rw [hpr, decide_eq_false (fun z => e3 z.symm), Bool.false_and, Bool.false_and]
theorem usr_cal (hc : cbl t) (h : usr t = true) : cal t false = eKy t := by
  obtain ⟨k, a, rfl, -, -⟩ := hc
  have h : decide (bI k (eN a) = 0) = true := h
  rw [decide_eq_true_eq] at h
  show (if bI k (eN a) = 0 then kC k (eN a) else _) = _
  rw [if_pos h]
  rfl
theorem usr_ky (hc : cbl t) (hc' : cbl t') (h : usr t = true) (e : eKy t = eKy t') : usr t' = true := by
  obtain ⟨k, a, a', rfl, rfl, e3⟩ := (ky_eq hc hc').mp e
  have h : decide (bI k (eN a) = 0) = true := h
  show decide (bI k (eN a') = 0) = true
  rw [← e3]
  exact h
theorem ky_pos (hc : cbl t) : eKy t ≠ 0 := by
  obtain ⟨k, a, rfl, h1, h2⟩ := hc
  have := (kC_r h1 h2).1
  show kC k (eN a) ≠ 0
  omega
/-- mentions -/
theorem sp_226 {h : pE} {gs : List pE} (hn : mN m t n) (hc : cbl t) (hu : usr t = true) (hcl : clR m s (some h) gs nv) (hk : kOK (some h) gs nv) (hs : s ≤ 27) (hq : Q (if eKy t ∈ gs.map (fun g => cal g false) then 1 else 0) m) : wq_226 (s : Int) n m Q := by
  obtain ⟨g1, g2, g3, g4⟩ := clR_g hcl hs
  have h5 := hk.2.2.2.1
  unfold wq_226 wq_226_2
  refine wL1_rule (Nat.lt_wfRel.wf) (fun x3 m' => m' = m ∧ ∃ g : Nat, x3 = g ∧ g ≤ gs.length ∧ eKy t ∉ (gs.take g).map (fun g => cal g false)) (fun x3 _ => 30 - x3.toNat) ?_ ⟨rfl, 0, rfl, Nat.zero_le _, by simp⟩
  rintro P2 x3 m1 ⟨e1, g, rfl, hg, hnin⟩ hP2
  unfold wf_226_2
  rw [e1, g1]
  refine ⟨by omega, by omega, fun q => ?_, fun q => ⟨by omega, by omega, ?_⟩⟩
  · rw [List.take_of_length_le (by omega)] at hnin
    rw [if_neg hnin] at hq
    exact hq
  have hgl : g < gs.length := by omega
  have hgn := g3 g hgl
  have hgo := hk.2.2.1 _ (List.getElem_mem hgl)
  have hmem : cal gs[g] false ∈ gs.map (fun g => cal g false) := List.mem_map.mpr ⟨_, List.getElem_mem hgl, rfl⟩
  have htk : (gs.take (g + 1)).map (fun g => cal g false) = (gs.take g).map (fun g => cal g false) ++ [cal gs[g] false] := by
    rw [List.take_add_one, List.getElem?_eq_getElem hgl, List.map_append]
    rfl
  generalize gs[g] = t0 at *
  unfold wq_226_24
  refine wL1_g (fun k x4 m' => m' = m ∧ ((x4 = -9 ∧ eKy t ≠ cal t0 false ∧ k = 0) ∨ (∃ t', mN m t' x4 ∧ eK nv t' false ∧ eCa t' = true ∧ cal t' false = cal t0 false ∧ k = eM t' + 1))) ?_ ⟨rfl, Or.inr ⟨t0, hgn, hgo.1, gOK_eC hgo, rfl, rfl⟩⟩
  rintro P24 k x4 m2 ⟨e2, hx⟩ hP24
  unfold wf_226_24
  rw [e2]
  rcases hx with ⟨rfl, hne, -⟩ | ⟨t', hn', hk', hca, hcal, hkk⟩
  · refine ⟨fun _ => ⟨show -2147483648 ≤ _ ∧ _ < 2147483648 by omega, hP2 _ _ ⟨rfl, g + 1, by omega, by omega, ?_⟩ ?_⟩, fun q => absurd rfl q⟩
    · rw [htk]
      intro z
      rcases List.mem_append.mp z with z | z
      · exact hnin z
      · exact hne (List.mem_singleton.mp z)
    · show 30 - _ < 30 - _
      omega
  · have r := mN_r hn'
    have hc' := eCa_c hk' hca
    refine ⟨fun q => by omega, fun _ => sp_211 hn hn' hc hc' ?_⟩
    by_cases e : eKy t = eKy t'
    · rw [if_pos e]
      refine ⟨fun q => absurd q (by decide), fun _ => ?_⟩
      have : eKy t = cal t0 false := by
        rw [e, ← usr_cal hc' (usr_ky hc hc' hu e), hcal]
      rw [if_pos (this ▸ hmem)] at hq
      exact hq
    · rw [if_neg e]
      refine ⟨fun _ => sp_216 hn' hk' hc' (fun he => ?_) (fun x r' hus hx hkx hcx hlt hcc => ?_), fun q => absurd rfl q⟩
      · refine hP24 0 _ _ ⟨rfl, Or.inl ⟨rfl, ?_, rfl⟩⟩ (by omega)
        rw [← hcal, he]
        split
        · exact e
        · exact ky_pos hc
      · exact hP24 (eM x + 1) _ _ ⟨rfl, Or.inr ⟨x, hx, hkx, hcx, hcc.symm.trans hcal, rfl⟩⟩ (by omega)
theorem nB_u (hc : cbl t) (h : nB t) : usr t = true := by
  obtain ⟨k, a, rfl, h1, h2⟩ := hc
  have := h k a rfl
  show decide (bI k (eN a) = 0) = true
  refine decide_eq_true (Decidable.byContradiction fun q => ?_)
  rw [(bI_b k (eN a)).mpr q] at this
  cases this
end MTN
