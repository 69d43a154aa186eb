/-! JOIN, 3 -/
/-- behind join: the roots come to the same -/
def jPo (X : cX) (U : uX) (f : Int) (m0 : hy_m) (B0 : bM) (l0 : List Nat) (m : hy_m) (B : bM) (JL : List (Int × Int)) (tf tt : pE) (x y : Int) (m' : hy_m) : Prop := ∃ (B' : bM) (JL' : List (Int × Int)) (SL' : List Int), uC X U m0 B0 l0 m' B' JL' ∧ uQ X U f B0 m' B' SL' ∧ uMo X m m' B B' JL JL' ∧ mrg (cTm X m0) (cBs X (m' (xb4 X))) (jLs JL') x y ∧ ∀ v, Sol B v → jEq X m0 v JL → sb v tf = sb v tt → Sol B' v ∧ jEq X m0 v JL'
section CJQ
variable {X : cX} {U : uX} {T : hy_T} {m0 m m' : hy_m} {Q : Int → hy_m → Prop} {x y f : Int} {tf tt : pE} {B0 B : bM} {l0 : List Nat} {JL : List (Int × Int)} {SL : List Int}
theorem uQ_k (h1 : m' 47 5 = m 47 5) (h2 : m' (ys U) = m (ys U)) (h3 : m' (xb4 X) = m (xb4 X)) (h : uQ X U f B0 m B SL) : uQ X U f B0 m' B SL := by
  unfold uQ
  rw [h1, h2, h3]
  exact h
/-- the case of a variable -/
theorem sp_149v {w : Nat} (hs : uSep X U) (hO : cOr X) (hw : cW X T m0) (hU : uW X U T m0) (hc : uC X U m0 B0 l0 m B JL) (hq : uQ X U f B0 m B SL) (rf : cTm X m x (.var w)) (hfr : B w = none) (rt : cFo X m B y tt) (hor : ∀ w : Nat, tt = .var w → y < x) (h1 : ∀ m', jPo X U f m0 B0 l0 m B JL (.var w) tt x y m' → Q 1 m') : wq_122 x y T m (fun _ m7 => (eKd tt ≠ 4 → (Q 1 m7)) ∧ (eKd tt = 4 → ((x < f → (wq_149_118 x T m7 Q)) ∧ (f ≤ x → ((y < f → (Q 1 m7)) ∧ (f ≤ y → (wq_149_118 x T m7 Q))))))) := by
  obtain ⟨i, n, hi, rfl, hn8, hn, rfl⟩ := cTm_v rf
  have hwm := cW_fx hs hc.1.1 hw
  have hUm := uW_fx hs hc.1.1 hU
  have hcap := hw.2.2.1
  have hbm : m (xb4 X) (8 * (i : Int) + (n : Int)) = -1 := by
    rcases hc.2.1.1 i n hi hn with q | ⟨u, q1, -⟩
    · exact q.2
    · rw [hfr] at q1
      cases q1
  have hv : ∀ z : Nat, tt = .var z → z < xP X i + n := by
    intro z e
    have hlt := hor z e
    rw [e] at rt
    obtain ⟨i2, n2, hi2, e2, hn28, hn2, rfl⟩ := cTm_v rt.1
    have hii : i2 < i ∨ (i2 = i ∧ n2 < n) := by omega
    rcases hii with hii | ⟨rfl, hii⟩
    · have := hO i2 i hi2 hi hii
      omega
    · omega
  have hz : ∀ z : Nat, tt = .var z → B0 z = none := by
    intro z e
    have hbz : B z = none := by
      rcases rt.2.2 with ⟨w', e', h⟩ | h
      · rw [e] at e'
        injection e' with e'
        rw [e']
        exact h
      · exact absurd e (h z)
    cases e' : B0 z with
    | none => rfl
    | some u =>
      rw [hc.2.2.2.2.2.2.2.2.1 z u e'] at hbz
      cases hbz
  obtain ⟨nb, htr, -⟩ := hc.2.2.2.2.2.2.2.2.2
  have hcb := uC_bi hs hO hw hc hi hn hfr hbm rt.1 rt.2.1 hv
  have st : cBs X (cBi X U m i n y (xb4 X)) (128 * (i : Int) + (n : Int)) y := ⟨i, n, hi, hn, rfl, by rw [cBi_b hs, if_pos rfl], cTm_ne rt.1⟩
  have ty0 := cTm_fx hs hc.1.1.sy rt.1
  have mg : ∀ (b : Int → Int), b = cBi X U m i n y (xb4 X) → mrg (cTm X m0) (cBs X b) (jLs JL) (128 * (i : Int) + (n : Int)) y := by
    intro b e
    subst e
    exact ⟨y, y, tt, 1, 0, ⟨y, Or.inl st, rfl⟩, rfl, ty0, ty0⟩
  have cmp : ∀ v, Sol B v → jEq X m0 v JL → sb v (.var (xP X i + n)) = sb v tt → Sol (bU B (xP X i + n) tt) v ∧ jEq X m0 v JL := fun v a1 a2 a3 => ⟨(Sol_U hfr v).mpr ⟨a1, a3⟩, a2⟩
  have ab : ∀ v t, B v = some t → bU B (xP X i + n) tt v = some t := by
    intro v t e
    rw [bU_o (fun q => by rw [q, hfr] at e; cases e)]
    exact e
  refine sp_122 hwm hUm hs htr hi hn hbm ?_
  -- no suspect
  have p1 : ((∀ (k : Int) (a : pE), tt = .mulL k a → eN a = 0) ∨ (f ≤ 128 * (i : Int) + (n : Int) ∧ y < f)) → Q 1 (cBi X U m i n y) := fun hk => h1 _ ⟨bU B (xP X i + n) tt, JL, SL, hcb, uQ_bi hs hO hw hq hi hn hz hk, ⟨ab, ⟨[], (List.append_nil _).symm⟩, fun a b h => cBi_st hs hbm h⟩, mg _ rfl, cmp⟩
  -- one more suspect
  obtain ⟨n1, n2, n3, n4, n5⟩ := hs.ne
  have hn41 := hs.n41
  have hn47 := hs.n47
  have eb : ∀ k x, uSu U (cBi X U m i n y) k x (xb4 X) = cBi X U m i n y (xb4 X) := fun k x => uSu_o (fun q => n3.2.1 q.symm) hn47.2.2.2.2.2.2
  have p2 : wq_149_118 (128 * (i : Int) + (n : Int)) T (cBi X U m i n y) Q := by
    obtain ⟨-, hl⟩ := SL_lt hw hq hi hn hfr
    refine sp_149_118 hs (uW_fx hs cBi_fx hUm) (k := SL.length) ?_ hl hcap (h1 _ ⟨bU B (xP X i + n) tt, JL, SL ++ [128 * (i : Int) + (n : Int)], ?_, uQ_su hs hO hw hq hi hn hz hfr, ⟨ab, ⟨[], (List.append_nil _).symm⟩, fun a b h => ?_⟩, mg _ (eb _ _), cmp⟩)
    · rw [cBi_o (fun q => hn47.2.2.2.2.2.2 q.symm) (fun q => hn47.2.2.2.2.2.1 q.symm) (by decide)]
      exact hq.1
    · refine uC_k hs uSu_fx ?_ (uSu_o (fun q => n3.1 q.symm) hn47.2.2.2.2.2.1) (eb _ _) (uSu_o n1.2.1 hn47.1) (uSu_o n2.1 hn47.2.1) ?_ ⟨uSu_o (fun q => n3.2.2 q.symm) hn47.2.2.2.2.1, ?_, fun e _ => congrFun (eb _ _) e⟩ hcb
      · rw [uSu_o (fun q => hn41.2.2.1 q.symm) (by decide)]
      · unfold uSu
        rw [hy_uk (by decide), hy_ua (fun q => hn47.2.2.1 q.symm)]
      · unfold uSu
        rw [hy_uk (by decide), hy_ua (fun q => hn47.2.2.1 q.symm)]
    · rw [eb]
      exact cBi_st hs hbm h
  refine ⟨fun hk => p1 (Or.inl (fun k a e => ?_)), fun _ => ⟨fun _ => p2, fun q1 => ⟨fun q2 => p1 (Or.inr ⟨q1, q2⟩), fun _ => p2⟩⟩⟩
  rw [e] at hk
  have hk : (if eN a = 0 then (3 : Int) else 4) ≠ 4 := hk
  by_cases c : eN a = 0
  · exact c
  · rw [if_neg c] at hk
    exact absurd rfl hk
theorem eKd_1 {t : pE} (h : eKd t = 1) : ∃ w : Nat, t = .var w := by
  cases t with
  | var w => exact ⟨w, rfl⟩
  | num z => exact absurd h (by show ¬ (2 : Int) = 1; decide)
  | mulL k a =>
    have h : (if eN a = 0 then (3 : Int) else 4) = 1 := h
    split at h <;> exact absurd h (by decide)
  | add a r => exact absurd h (by show ¬ (0 : Int) = 1; decide)
  | sub a r => exact absurd h (by show ¬ (0 : Int) = 1; decide)
  | neg a => exact absurd h (by show ¬ (0 : Int) = 1; decide)
  | mulR a q => exact absurd h (by show ¬ (0 : Int) = 1; decide)
set_option maxHeartbeats 4000000 in
theorem sp_149_83 (hs : uSep X U) (hO : cOr X) (hw : cW X T m0) (hU : uW X U T m0) (hcn : cCn X m0) (hc : uC X U m0 B0 l0 m B JL) (hq : uQ X U f B0 m B SL) (rf : cFo X m B x tf) (rt : cFo X m B y tt) (hxj : ∀ z, (x, z) ∉ JL) (hyj : ∀ z, (y, z) ∉ JL) (hne : x ≠ y) (hor : ∀ w : Nat, tt = .var w → (∃ w' : Nat, tf = .var w') ∧ y < x) (h1 : ∀ m', jPo X U f m0 B0 l0 m B JL tf tt x y m' → Q 1 m') (h0 : (∀ v, sb v tf ≠ sb v tt) → Q 0 m) : wq_149_83 f y x (eKd tf) (eKd tt) T m Q := by
  have hwm := cW_fx hs hc.1.1 hw
  have hUm := uW_fx hs hc.1.1 hU
  have hcap := hw.2.2.1
  unfold wq_149_83
  refine ⟨fun hk => ?_, fun hk => ?_⟩
  · have nf : ∀ w : Nat, tf ≠ .var w := fun w e => hk (by rw [e]; rfl)
    have nt : ∀ w : Nat, tt ≠ .var w := fun w e => by
      obtain ⟨w', e'⟩ := (hor w e).1
      exact nf w' e'
    have tx0 := cTm_fx hs hc.1.1.sy rf.1
    have ty0 := cTm_fx hs hc.1.1.sy rt.1
    have same : tf = tt → Q 1 m := fun e => h1 _ ⟨B, JL, SL, hc, hq, uMo.rfl', ⟨x, y, tf, 0, 0, rfl, rfl, tx0, by rw [e]; exact ty0⟩, fun v a1 a2 _ => ⟨a1, a2⟩⟩
    rcases cTm_sh rf.1 nf with ⟨z1, rfl⟩ | ⟨k1, b1, rfl, l1, d1, o1⟩
    · rcases cTm_sh rt.1 nt with ⟨z2, rfl⟩ | ⟨k2, b2, rfl, l2, d2, o2⟩
      · refine ⟨fun q => absurd rfl q, fun _ => sp_130 hwm rf.1 (fun r1 a1 _ => sp_130 hwm rt.1 (fun r2 a2 _ => ?_))⟩
        have a1 := a1 _ rfl
        have a2 := a2 _ rfl
        refine ⟨fun e => ⟨fun _ => same ?_, fun q => absurd q (by show ¬ (2 : Int) = 4; decide)⟩, fun e => h0 (fun v q => ?_)⟩
        · rw [← a1, ← a2, e]
        · have q : (.num z1 : pE) = .num z2 := q
          injection q with q
          exact e (by rw [a1, a2, q])
      · have df : ∀ v, sb v (.num z1) ≠ sb v (.mulL k2 b2) := fun v q => by
          have q : (.num z1 : pE) = .mulL k2 (sb v b2) := q
          cases q
        refine ⟨fun _ => h0 df, fun q => ?_⟩
        have q : (2 : Int) = if eN b2 = 0 then 3 else 4 := q
        split at q <;> exact absurd q (by decide)
    · rcases cTm_sh rt.1 nt with ⟨z2, rfl⟩ | ⟨k2, b2, rfl, l2, d2, o2⟩
      · have df : ∀ v, sb v (.mulL k1 b1) ≠ sb v (.num z2) := fun v q => by
          have q : (.mulL k1 (sb v b1) : pE) = .num z2 := q
          cases q
        refine ⟨fun _ => h0 df, fun q => ?_⟩
        have q : (if eN b1 = 0 then (3 : Int) else 4) = 2 := q
        split at q <;> exact absurd q (by decide)
      · have df : ¬ (k1 = k2 ∧ eN b1 = eN b2) → ∀ v, sb v (.mulL k1 b1) ≠ sb v (.mulL k2 b2) := fun hn v q => by
          have q : (.mulL k1 (sb v b1) : pE) = .mulL k2 (sb v b2) := q
          injection q with q1 q2
          refine hn ⟨q1, ?_⟩
          rw [← isL_N v b1 l1, ← isL_N v b2 l2, q2]
        have ek : eKd (.mulL k1 b1) = if eN b1 = 0 then 3 else 4 := rfl
        have ek2 : eKd (.mulL k2 b2) = if eN b2 = 0 then 3 else 4 := rfl
        refine ⟨fun q => h0 (df (fun e => q (by rw [ek, ek2, e.2]))), fun _ => sp_130 hwm rf.1 (fun r1 _ a1 => sp_130 hwm rt.1 (fun r2 _ a2 => ?_))⟩
        obtain ⟨a1, -, -⟩ := a1 _ _ rfl
        obtain ⟨a2, -, -⟩ := a2 _ _ rfl
        refine ⟨fun e => ?_, fun e => h0 (df (fun q => e (by rw [a1, a2, q.1, q.2])))⟩
        rw [a1, a2] at e
        obtain ⟨rfl, eN12⟩ := kC_inj o1 o2 d1 d2 e
        by_cases hz : eN b1 = 0
        · refine ⟨fun _ => same ?_, fun q => ?_⟩
          · rw [isL0 l1 hz, isL0 l2 (by omega)]
          · rw [ek, if_pos hz] at q
            exact absurd q (by decide)
        · refine ⟨fun q => absurd (by rw [ek, if_neg hz]) q, fun _ => ?_⟩
          obtain ⟨g1, g2⟩ := JL_lt (y := y) hcn hc.2.2.2.2.1 hc.2.2.2.2.2.1 hxj tx0 hz
          have g3 := cTm_rg hw rf.1
          have h3 := hc.2.2.2.2.2.2.1
          have hn47 := hs.n47
          obtain ⟨n1, n2, n3, n4, n5⟩ := hs.ne
          have T1 := hUm.1.2
          have T2 := hUm.2.1.2
          have r1 : hy_u m (yj U) x y 47 2 = yq U := by rw [hy_ua (fun q => hn47.1 q.symm)]; exact hUm.2.1.1
          have r2 : hy_u m (yj U) x y 47 3 = JL.length := by rw [hy_ua (fun q => hn47.1 q.symm)]; exact h3
          have r3 : hy_u (hy_u m (yj U) x y) (yq U) (JL.length : Int) x 47 3 = JL.length := by rw [hy_ua (fun q => hn47.2.1 q.symm)]; exact r2
          rw [hUm.1.1, hUm.2.1.1, Int.toNat_natCast, Int.toNat_natCast, r1, r2, Int.toNat_natCast, r3, h3]
          have cj := uC_jo hs hw hcn hc hxj hyj hne rf.1 rt.1 rf.2.1 rt.2.1 eN12 hz
          have eb : uJo U m JL.length x y (xb4 X) = m (xb4 X) := uJo_o (fun q => n1.2.2.2.1 q.symm) (fun q => n2.2.2.1 q.symm) hn47.2.2.2.2.2.2
          have fin : Q 1 (uJo U m JL.length x y) := h1 _ ⟨B, JL ++ [(x, y)], SL, cj, uQ_k (by unfold uJo; rw [hy_uk (by decide), hy_ua (fun q => hn47.2.1 q.symm), hy_ua (fun q => hn47.1 q.symm)]) (uJo_o (fun q => n1.2.1 q.symm) (fun q => n2.1 q.symm) hn47.2.2.1) eb hq, ⟨fun _ _ e => e, ⟨_, rfl⟩, fun a b h => by rw [eb]; exact h⟩, ⟨y, y, _, 1, 0, ⟨y, Or.inr (List.mem_append.mpr (Or.inr (List.mem_singleton.mpr rfl))), rfl⟩, rfl, ty0, ty0⟩, fun v a1 a2 a3 => ⟨a1, fun p q hpq tp tq hp hq' => ?_⟩⟩
          · exact ⟨100, _, T2, by omega, fun q => by omega, fun _ => ⟨100, _, T1, by omega, fun q => by omega, fun _ => ⟨_, T1, g3.1, g3.2.1, _, T2, by omega, by omega, show -2147483648 ≤ _ ∧ _ < 2147483648 by omega, fin⟩⟩⟩
          · rcases List.mem_append.mp hpq with hpq | hpq
            · exact a2 p q hpq tp tq hp hq'
            · have hpq := List.mem_singleton.mp hpq
              injection hpq with e1 e2
              subst e1
              subst e2
              rw [cTm_uq hp tx0, cTm_uq hq' ty0]
              exact a3
  · obtain ⟨w, rfl⟩ := eKd_1 hk
    refine sp_149v hs hO hw hU hc hq rf.1 ?_ rt (fun w e => (hor w e).2) h1
    rcases rf.2.2 with ⟨w', e, h⟩ | h
    · injection e with e
      rw [e]
      exact h
    · exact absurd rfl (h w)
end CJQ
