/-! JOIN, 4 -/
section CJR
variable {X : cX} {U : uX} {T : hy_T} {m0 m m' : hy_m} {Q : Int → hy_m → Prop} {x y f : Int} {ta tb tf tt : pE} {B0 B : bM} {l0 : List Nat} {JL : List (Int × Int)} {SL : List Int} {v : Nat → pE}
theorem uC_T (hs : uSep X U) (hc : uC X U m0 B0 l0 m B JL) (x y : Int) (h : st1 (cBs X (m (xb4 X))) (jLs JL) x y) : ∃ t, cTm X m0 y t := by
  rcases h with ⟨i, n, hi, hn, rfl, rfl, hne⟩ | h
  · rcases hc.2.1.1 i n hi hn with q | ⟨t, q1, q2, q3, q4⟩
    · exact absurd q.2 hne
    · exact ⟨t, cTm_fx hs hc.1.1.sy q3⟩
  · obtain ⟨k, a, b, g1, g2, -⟩ := hc.2.2.2.2.1 x y h
    exact ⟨_, g2⟩
theorem uC_B (hs : uSep X U) (hw : cW X T m0) (hc : uC X U m0 B0 l0 m B JL) (hv : Sol B v) (x y : Int) (tx ty : pE) (h : cBs X (m (xb4 X)) x y) (hx : cTm X m0 x tx) (hy : cTm X m0 y ty) : sb v tx = sb v ty := by
  obtain ⟨i, n, hi, hn, rfl, rfl, hne⟩ := h
  have h8 := (hw.2.2.2.2.2 i hi).2.2.2.1
  by_cases c : ∃ w : Nat, tx = .var w
  · obtain ⟨w, rfl⟩ := c
    obtain ⟨i', n', hi', e, hn8, hn', rfl⟩ := cTm_v hx
    have c : i' = i ∧ n' = n := by omega
    obtain ⟨rfl, rfl⟩ := c
    rcases hc.2.1.1 i' n' hi hn with q | ⟨t, q1, q2, q3, q4⟩
    · exact absurd q.2 hne
    · rw [cTm_uq hy (cTm_fx hs hc.1.1.sy q3)]
      exact hv _ t q1
  · rcases cTm_n hx (fun w e => c ⟨w, e⟩) with q | ⟨i', n', hi', e, q1, q2⟩
    · omega
    · omega
/-- steps leave the value alone -/
theorem uC_path (hs : uSep X U) (hw : cW X T m0) (hc : uC X U m0 B0 l0 m B JL) (hv : Sol B v) (hj : jEq X m0 v JL) {k : Nat} (hp : stp (cBs X (m (xb4 X))) (jLs JL) k x y) (hx : cTm X m0 x ta) (hy : cTm X m0 y tb) : sb v ta = sb v tb :=
  jo_path (C := cTm X m0) (fun _ _ _ h h' => cTm_uq h h') (uC_T hs hc) (uC_B hs hw hc hv) (fun a b t t' h h1 h2 => hj a b h t t' h1 h2) k x y ta tb hp hx hy
theorem mrg_sw {C : Int → pE → Prop} {Bd J : Int → Int → Prop} (h : mrg C Bd J x y) : mrg C Bd J y x := by
  obtain ⟨r, r', t, n, n', h1, h2, h3, h4⟩ := h
  exact ⟨r', r, t, n', n, h2, h1, h4, h3⟩
theorem mrg_up {C : Int → pE → Prop} {Bd J : Int → Int → Prop} {r r' : Int} {k k' : Nat} (h : mrg C Bd J r r') (h1 : stp Bd J k x r) (h2 : stp Bd J k' y r') : mrg C Bd J x y := by
  obtain ⟨z, z', t, n, n', a1, a2, a3, a4⟩ := h
  exact ⟨z, z', t, k + n, k' + n', stp_tr k n _ _ _ h1 a1, stp_tr k' n' _ _ _ h2 a2, a3, a4⟩
theorem mrg_mo {C : Int → pE → Prop} {Bd J Bd' J' : Int → Int → Prop} (h1 : ∀ x y, Bd x y → Bd' x y) (h2 : ∀ x y, J x y → J' x y) (h : mrg C Bd J x y) : mrg C Bd' J' x y := by
  obtain ⟨z, z', t, n, n', a1, a2, a3, a4⟩ := h
  exact ⟨z, z', t, n, n', stp_mono h1 h2 n _ _ a1, stp_mono h1 h2 n' _ _ a2, a3, a4⟩
theorem uMo.J {B' : bM} {JL' : List (Int × Int)} (h : uMo X m m' B B' JL JL') (x y : Int) (hj : jLs JL x y) : jLs JL' x y := by
  obtain ⟨-, ⟨e, rfl⟩, -⟩ := h
  exact List.mem_append.mpr (Or.inl hj)
theorem jPo_sw (h : jPo X U f m0 B0 l0 m B JL ta tb x y m') : jPo X U f m0 B0 l0 m B JL tb ta y x m' := by
  obtain ⟨B', JL', SL', h1, h2, h3, h4, h5⟩ := h
  exact ⟨B', JL', SL', h1, h2, h3, mrg_sw h4, fun v a1 a2 a3 => h5 v a1 a2 a3.symm⟩
theorem jPo_up {r r' : Int} {k k' : Nat} (h : jPo X U f m0 B0 l0 m B JL tf tt r r' m') (p1 : stp (cBs X (m (xb4 X))) (jLs JL) k x r) (p2 : stp (cBs X (m (xb4 X))) (jLs JL) k' y r') (he : ∀ v, Sol B v → jEq X m0 v JL → sb v ta = sb v tb → sb v tf = sb v tt) : jPo X U f m0 B0 l0 m B JL ta tb x y m' := by
  obtain ⟨B', JL', SL', h1, h2, h3, h4, h5⟩ := h
  exact ⟨B', JL', SL', h1, h2, h3, mrg_up h4 (stp_mono h3.2.2 h3.J k _ _ p1) (stp_mono h3.2.2 h3.J k' _ _ p2), fun v a1 a2 a3 => h5 v a1 a2 (he v a1 a2 a3)⟩
theorem JL_le (hcn : cCn X m0) (hc : uC X U m0 B0 l0 m B JL) : JL.length ≤ 59 * xcap X := by
  have := hcn _ hc.2.2.2.2.2.1 (fun z hz => by
    obtain ⟨⟨p, w⟩, h1, h2⟩ := List.mem_map.mp hz
    have h2 : p = z := h2
    subst h2
    obtain ⟨k', a', b', g1, g2, g3, g4⟩ := hc.2.2.2.2.1 p w h1
    exact ⟨k', a', g1, g4⟩)
  rw [List.length_map] at this
  exact this
set_option maxHeartbeats 4000000 in
/-- join -/
theorem sp_149 (hs : uSep X U) (hO : cOr X) (hw : cW X T m0) (hU : uW X U T m0) (hcn : cCn X m0) (hc1 : 0 < xcap X) (hc : uC X U m0 B0 l0 m B JL) (hq : uQ X U f B0 m B SL) (hx : cTm X m0 x ta) (hy : cTm X m0 y tb) (dx : ∀ w, vIn w ta → cDm X w) (dy : ∀ w, vIn w tb → cDm X w) (h1 : ∀ m', jPo X U f m0 B0 l0 m B JL ta tb x y m' → Q 1 m') (h0 : (∀ v, Sol B v → jEq X m0 v JL → sb v ta ≠ sb v tb) → Q 0 m) : wq_149 x y f T m Q := by
  have hwm := cW_fx hs hc.1.1 hw
  have hUm := uW_fx hs hc.1.1 hU
  have hl := JL_le hcn hc
  unfold wq_149
  refine sp_150 hwm hUm hO hc.2.1 hc.2.2.1 hc.2.2.2.1 (by omega) (cTm_fx hs hc.1.1 hx) dx (fun r1 t1 ⟨f1, j1, k1, p1⟩ => ?_)
  refine sp_150 hwm hUm hO hc.2.1 hc.2.2.1 hc.2.2.2.1 (by omega) (cTm_fx hs hc.1.1 hy) dy (fun r2 t2 ⟨f2, j2, k2, p2⟩ => ?_)
  have z1 := cTm_fx hs hc.1.1.sy f1.1
  have z2 := cTm_fx hs hc.1.1.sy f2.1
  have q1 : ∀ v, Sol B v → jEq X m0 v JL → sb v ta = sb v t1 := fun v a1 a2 => uC_path hs hw hc a1 a2 p1 hx z1
  have q2 : ∀ v, Sol B v → jEq X m0 v JL → sb v tb = sb v t2 := fun v a1 a2 => uC_path hs hw hc a1 a2 p2 hy z2
  -- from the second to the first
  have A : ∀ m', jPo X U f m0 B0 l0 m B JL t2 t1 r2 r1 m' → Q 1 m' := fun m' h => h1 m' (jPo_up (jPo_sw h) p1 p2 (fun v a1 a2 a3 => by rw [← q1 v a1 a2, ← q2 v a1 a2, a3]))
  have A0 : (∀ v, sb v t2 ≠ sb v t1) → Q 0 m := fun h => h0 (fun v a1 a2 a3 => h v (by rw [← q1 v a1 a2, ← q2 v a1 a2, a3]))
  -- from the first to the second
  have C : ∀ m', jPo X U f m0 B0 l0 m B JL t1 t2 r1 r2 m' → Q 1 m' := fun m' h => h1 m' (jPo_up h p1 p2 (fun v a1 a2 a3 => by rw [← q1 v a1 a2, ← q2 v a1 a2, a3]))
  have C0 : (∀ v, sb v t1 ≠ sb v t2) → Q 0 m := fun h => h0 (fun v a1 a2 a3 => h v (by rw [← q1 v a1 a2, ← q2 v a1 a2, a3]))
  refine ⟨fun hne => sp_129 hwm f2.1 (sp_129 hwm f1.1 ⟨fun h4 => ?_, fun h4 => ⟨fun h3 => ?_, fun h3 => ⟨fun hle => ?_, fun hlt => ?_⟩⟩⟩), fun e => ?_⟩
  · exact sp_149_83 hs hO hw hU hcn hc hq f2 f1 j2 j1 hne (fun w e => absurd (by rw [e]; rfl) h4) A A0
  · have := sp_149_83 (Q := Q) hs hO hw hU hcn hc hq f1 f2 j1 j2 (fun e => hne e.symm) (fun w e => absurd (by rw [e]; rfl) h3) C C0
    rw [h4] at this
    exact this
  · exact sp_149_83 hs hO hw hU hcn hc hq f2 f1 j2 j1 hne (fun w e => ⟨eKd_1 h3, by omega⟩) A A0
  · have := sp_149_83 (Q := Q) hs hO hw hU hcn hc hq f1 f2 j1 j2 (fun e => hne e.symm) (fun w e => ⟨eKd_1 h4, hlt⟩) C C0
    rw [h4] at this
    exact this
  · subst e
    exact h1 m ⟨B, JL, SL, hc, hq, uMo.rfl', ⟨r2, r2, t2, k1, k2, p1, p2, z2, z2⟩, fun v a1 a2 _ => ⟨a1, a2⟩⟩
end CJR
