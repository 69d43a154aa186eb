/-! UNIFY OF THE CLASS, but for the search for loops -/
/-- behind unify's loops -/
def uE (X : cX) (U : uX) (m0 : hy_m) (B0 : bM) (l0 : List Nat) (m : hy_m) (B : bM) : Prop := (uFx X U m0 m ∧ uKp X U m0 m) ∧ cBd X m B ∧ (∀ w y : Nat, B w = some (.var y) → y < w) ∧ (∀ v t, B0 v = some t → B v = some t) ∧ (∃ nb : List Nat, cTr X U m (l0 ++ nb) ∧ ∀ e, e ∈ nb ↔ ∃ i n : Nat, xL X i ∧ n < xV X i ∧ e = 8 * i + n ∧ B0 (xP X i + n) = none ∧ B (xP X i + n) ≠ none ∧ (i : Int) < m0 41 7) ∧ ∀ z : Int, 0 ≤ z → z < ((128 * xcap X : Nat) : Int) → m (yj U) z = 0
section CUO
variable {X : cX} {U : uX} {T : hy_T} {m0 m m' : hy_m} {Q : Int → hy_m → Prop} {x y f : Int} {ta tb : pE} {B0 B B' : bM} {l0 : List Nat} {JL JL' : List (Int × Int)} {SL : List Int} {i : Nat}
theorem sp_148_127 {x4 : Int} (hs : uSep X U) (hw : cW X T m0) (hU : uW X U T m0) (hcn : cCn X m0) (hc : uC X U m0 B0 l0 m B JL) (hq : uQ X U f B0 m B SL) (hE : ∀ m', uE X U m0 B0 l0 m' B → uQ X U f B0 m' B SL → (x4 = 0 → Q 0 m') ∧ (x4 ≠ 0 → wq_151 T m' (fun r1 m1 => (r1 ≠ 0 → (Q 0 m1)) ∧ (r1 = 0 → (Q 1 m1))))) : wq_148_127 x4 0 T m Q := by
  have hcap := hw.2.2.1
  have hl := JL_le hcn hc
  obtain ⟨n1, n2, n3, n4, n5⟩ := hs.ne
  have hn41 := hs.n41
  have hn47 := hs.n47
  unfold wq_148_127
  refine wL1_rule (Nat.lt_wfRel.wf) (fun x5 m' => ∃ d : Nat, x5 = d ∧ d ≤ JL.length ∧ (∀ a, a ≠ yj U → m' a = m a) ∧ ∀ z : Int, m' (yj U) z = 0 ∨ (m' (yj U) z = m (yj U) z ∧ ∀ (k : Nat) (w : Int), k < d → JL[k]? ≠ some (z, w))) (fun x5 _ => 20000 - x5.toNat) ?_ ⟨0, rfl, Nat.zero_le _, fun _ _ => rfl, fun z => Or.inr ⟨rfl, fun k w h => absurd h (Nat.not_lt_zero _)⟩⟩
  rintro P x5 m' ⟨d, rfl, hd, h1, h2⟩ hP
  have fx : uFx X U m m' := fun a e q1 _ _ => by rw [h1 a (fun q => q1 (by unfold uRw; rw [q]; simp))]
  have hUm := uW_fx hs (hc.1.1.tr fx) hU
  have e3 : m' 47 3 = JL.length := by rw [h1 47 (fun q => hn47.1 q.symm)]; exact hc.2.2.2.2.2.2.1
  unfold wf_148_127
  rw [e3, hUm.2.1.1, hUm.1.1, Int.toNat_natCast, Int.toNat_natCast]
  refine ⟨fun hle => ?_, fun hlt => ?_⟩
  · have hdl : d = JL.length := by omega
    obtain ⟨c1, c2, c3, c4, c5, c6, c7, c8, c9, nb, c10, c11⟩ := hc
    have eb := h1 (xb4 X) (fun q => n1.2.2.2.1 q.symm)
    refine hE m' ⟨⟨c1.1.tr fx, c1.2.tr ⟨h1 (ym U) (fun q => n1.2.2.2.2 q.symm), by rw [h1 47 (fun q => hn47.1 q.symm)], fun e _ => congrFun eb e⟩⟩, cBd_fx hs fx eb c2, c3, c9, ⟨nb, cTr_k (by rw [h1 41 (fun q => hn41.1 q.symm)]) (h1 (yt U) (fun q => n1.2.2.1 q.symm)) eb c10, c11⟩, fun z z0 z1 => ?_⟩ (uQ_k (by rw [h1 47 (fun q => hn47.1 q.symm)]) (h1 (ys U) (fun q => n1.2.1 q.symm)) eb hq)
    rcases h2 z with h | ⟨h, h'⟩
    · exact h
    · rw [h]
      rcases c4.1 z z0 z1 with g | g
      · exact g.1
      · obtain ⟨k', hk'⟩ := List.getElem?_of_mem g.2
        exact absurd hk' (h' k' _ (by rw [hdl]; exact (List.getElem?_eq_some_iff.mp hk').1))
  · have hdl : d < JL.length := by omega
    have hg : JL[d]? = some (JL[d].1, JL[d].2) := List.getElem?_eq_getElem hdl
    have hqd : m' (yq U) (d : Int) = JL[d].1 := by
      rw [h1 (yq U) (fun q => n1.1 q.symm)]
      exact hc.2.2.2.2.2.2.2.1 d _ _ hg
    have gr := (hc.2.2.2.1.2 d _ _ hg).1
    rw [hqd]
    refine ⟨_, hUm.2.1.2, by omega, by omega, _, hUm.1.2, gr.1, gr.2, show -2147483648 ≤ _ ∧ _ < 2147483648 by omega, hP _ _ ⟨d + 1, by omega, hdl, fun a ha => ?_, fun z => ?_⟩ ?_⟩
    · funext e
      rw [hy_ua ha, h1 a ha]
    · by_cases c : z = JL[d].1
      · rw [c, hy_us]
        exact Or.inl rfl
      · rw [hy_uk c]
        rcases h2 z with h | ⟨h, h'⟩
        · exact Or.inl h
        · refine Or.inr ⟨h, fun k w hk e => ?_⟩
          by_cases ck : k < d
          · exact h' k w ck e
          · have ck : k = d := by omega
            subst ck
            rw [hg] at e
            injection e with e
            injection e with e1 e2
            exact c e1.symm
    · show 20000 - _ < 20000 - _
      omega
/-- all arguments are merged: the solutions are those of the equation -/
theorem uLv_sol (hs : uSep X U) (hw : cW X T m0) (hc : uC X U m0 B0 l0 m B JL) (hx : cTm X m0 x ta) (hy : cTm X m0 y tb) (hv : uLv X m0 B0 ta tb x y m B JL JL.length) (v : Nat → pE) : Sol B v ↔ Sol B0 v ∧ sb v ta = sb v tb := by
  refine ⟨fun h => ⟨fun w t e => h w t (hc.2.2.2.2.2.2.2.2.1 w t e), ?_⟩, fun h => (hv.2.2.2 v h.1 h.2).1⟩
  have hC : ∀ (z : Int) (t t' : pE), cTm X m0 z t → cTm X m0 z t' → t = t' := fun _ _ _ a b => cTm_uq a b
  have hj := jo_eq (C := cTm X m0) (s := v) hC (uC_T hs hc) (uC_B hs hw hc h) (fun p q hpq => by
    obtain ⟨k', hk'⟩ := List.getElem?_of_mem hpq
    obtain ⟨k, a, b, g1, g2, g3, g4, g5, g6⟩ := hv.2.1 k' p q (List.getElem?_eq_some_iff.mp hk').1 hk'
    refine ⟨k, a, b, g1, g2, g3, g4, g5, fun j hj => g6 j hj ?_⟩
    rcases cTm_sh g1 (fun w e => by cases e) with ⟨z, e⟩ | ⟨k2, b2, e, e1, e2, e3⟩
    · cases e
    · injection e with _ e
      rw [← e] at e2
      omega)
  exact jo_mrg hC (uC_T hs hc) (uC_B hs hw hc h) hj hx hy hv.2.2.1
set_option maxHeartbeats 4000000 in
theorem sp_148_22 {x4 : Int} (hs : uSep X U) (hO : cOr X) (hw : cW X T m0) (hU : uW X U T m0) (hcn : cCn X m0) (hc1 : 0 < xcap X) (hx : cTm X m0 x ta) (hy : cTm X m0 y tb) (hI : uIv X U f m0 B0 l0 ta tb x y x4 m 0) (h0 : ∀ m' B, uE X U m0 B0 l0 m' B → uDd B0 ta tb → Q 0 m') (hE : ∀ m' B SL, uE X U m0 B0 l0 m' B → uQ X U f B0 m' B SL → (∀ v, Sol B v ↔ Sol B0 v ∧ sb v ta = sb v tb) → wq_151 T m' (fun r1 m1 => (r1 ≠ 0 → (Q 0 m1)) ∧ (r1 = 0 → (Q 1 m1)))) : wq_148_22 f x4 0 T m Q := by
  have hcap := hw.2.2.1
  unfold wq_148_22
  refine wL2_rule (Nat.lt_wfRel.wf) (fun x4 x5 m => ∃ i : Nat, x5 = i ∧ uIv X U f m0 B0 l0 ta tb x y x4 m i) (fun _ x5 _ => 20000 - x5.toNat) ?_ ⟨0, rfl, hI⟩
  clear hI
  rintro P x4 x5 m ⟨i, rfl, B, JL, SL, hc, hq, hh⟩ hP
  have hwm := cW_fx hs hc.1.1 hw
  have hUm := uW_fx hs hc.1.1 hU
  have hl := JL_le hcn hc
  have h3 := hc.2.2.2.2.2.2.1
  unfold wf_148_22
  refine ⟨fun z => sp_148_127 hs hw hU hcn hc hq (fun m' e1 e2 => ⟨fun _ => ?_, fun q => absurd z q⟩), fun z => ?_⟩
  · rcases hh with hh | hh
    · exact h0 m' B e1 hh.2
    · exact absurd z hh.1
  · rcases hh with hh | ⟨-, hv⟩
    · exact absurd hh.1 z
    · rw [h3]
      refine ⟨fun hle => ?_, fun hlt => ?_⟩
      · have hil : i = JL.length := by have := hv.1; omega
        subst hil
        exact sp_148_127 hs hw hU hcn hc hq (fun m' e1 e2 => ⟨fun q => absurd q z, fun _ => hE m' B SL e1 e2 (uLv_sol hs hw hc hx hy hv)⟩)
      · have hil : i < JL.length := by omega
        have hg : JL[i]? = some (JL[i].1, JL[i].2) := List.getElem?_eq_getElem hil
        have hqd := hc.2.2.2.2.2.2.2.1 i _ _ hg
        rw [hUm.2.1.1, Int.toNat_natCast, hqd]
        obtain ⟨k, a, b, g1, g2, g3, g4⟩ := hc.2.2.2.2.1 JL[i].1 JL[i].2 (List.mem_of_getElem? hg)
        obtain ⟨-, -, -, ⟨t1, a1, a2, a3⟩, t2, b1, b2, b3⟩ := hc.2.2.2.1.2 i _ _ hg
        have u1 := cTm_uq a1 (cTm_fx hs hc.1.1 g1)
        have u2 := cTm_uq b1 (cTm_fx hs hc.1.1 g2)
        subst u1
        subst u2
        have sh : ∀ {p : Int} {c : pE}, cTm X m0 p (.mulL k c) → isL c ∧ eN c ≤ 3 := by
          intro p c hp
          rcases cTm_sh hp (fun w e => by cases e) with ⟨z, e⟩ | ⟨k2, b2, e, e1, e2, e3⟩
          · cases e
          · injection e with _ e
            rw [e]
            exact ⟨e1, e2⟩
        have la := sh g1
        have lb := sh g2
        refine ⟨_, hUm.2.1.2, by omega, by omega, sp_130 hwm (cTm_fx hs hc.1.1 g1) (fun r2 _ e2 => ?_)⟩
        obtain ⟨e2, -, -⟩ := e2 _ _ rfl
        rw [e2]
        refine sp_26 la.2 (sp_148_62 hs hO hw hU hcn hc1 hc hq z hv hg g1 g2 la.1 lb.1 g3 la.2 a3 b3 (fun x4' m' h' => hP _ _ _ ⟨i + 1, by omega, h'⟩ ?_))
        show 20000 - _ < 20000 - _
        omega
/-- unify, up to the search for loops -/
theorem sp_148p {s : Nat → pE} (hs : uSep X U) (hO : cOr X) (hw : cW X T m) (hU : uW X U T m) (hcn : cCn X m) (hc1 : 0 < xcap X) (hB : cBd X m B) (hR : Res B s) (ht : cTr X U m l0) (hz : ∀ z : Int, 0 ≤ z → z < ((128 * xcap X : Nat) : Int) → m (yj U) z = 0) (hx : cTm X m x ta) (hy : cTm X m y tb) (dx : ∀ w, vIn w ta → cDm X w) (dy : ∀ w, vIn w tb → cDm X w) (h0 : ∀ m' B', uE X U m B l0 m' B' → uDd B ta tb → Q 0 m') (hE : ∀ m' B' SL, uE X U m B l0 m' B' → uQ X U f B m' B' SL → (∀ v, Sol B' v ↔ Sol B v ∧ sb v ta = sb v tb) → wq_151 T m' (fun r1 m1 => (r1 ≠ 0 → (Q 0 m1)) ∧ (r1 = 0 → (Q 1 m1)))) : wq_148 x y f T m Q := by
  have hn41 := hs.n41
  have hn47 := hs.n47
  have hn46 := hs.1.2.2
  have fx : uFx X U m (hy_u (hy_u m 47 3 0) 47 5 0) := (uFx.f47 (by simp)).tr (uFx.f47 (by simp))
  have eo : ∀ a, a ≠ 47 → hy_u (hy_u m 47 3 0) 47 5 0 a = m a := fun a ha => funext fun e => by rw [hy_ua ha, hy_ua ha]
  have eb := eo (xb4 X) hn47.2.2.2.2.2.2
  have e7 : hy_u (hy_u m 47 3 0) 47 5 0 41 7 = m 41 7 := by rw [eo 41 (by decide)]
  have hc : uC X U (hy_u (hy_u m 47 3 0) 47 5 0) B l0 (hy_u (hy_u m 47 3 0) 47 5 0) B [] := by
    refine ⟨⟨uFx.rfl', rfl, rfl, fun _ _ => rfl⟩, cBd_fx hs fx eb hB, fun w z e => ((hR w).2 _ e).2 z rfl, ⟨fun z z0 z1 => Or.inl ⟨?_, fun _ h => by cases h⟩, fun k p q e => by cases e⟩, fun p q h => (by cases h), List.nodup_nil, ?_, fun k p q e => (by cases e), fun _ _ e => e, [], ?_, fun e => ⟨fun h => (by cases h), fun ⟨_, _, _, _, _, h1, h2, _⟩ => absurd h1 h2⟩⟩
    · rw [eo _ hn47.1]
      exact hz z z0 z1
    · rw [hy_uk (by decide), hy_us]
      rfl
    · rw [List.append_nil]
      exact cTr_k (by rw [eo 41 (by decide)]) (eo _ hn47.2.2.2.2.2.1) eb ht
  have hq : uQ X U f B (hy_u (hy_u m 47 3 0) 47 5 0) B [] := by
    refine ⟨by rw [hy_us]; rfl, fun k z e => (by cases e), List.nodup_nil, fun z h => (by cases h), fun i n _ _ h1 k a h2 => ?_, fun w z h1 h2 => ?_⟩
    · rw [h1] at h2
      cases h2
    · rw [h1] at h2
      cases h2
  have hcn' : cCn X (hy_u (hy_u m 47 3 0) 47 5 0) := fun L h1 h2 => hcn L h1 (fun z hz => by
    obtain ⟨k, a, g1, g2⟩ := h2 z hz
    exact ⟨k, a, cTm_fx hs fx.sy g1, g2⟩)
  have ue : ∀ {m' B'}, uE X U (hy_u (hy_u m 47 3 0) 47 5 0) B l0 m' B' → uE X U m B l0 m' B' := by
    intro m' B' ⟨c1, c2, c3, c4, ⟨nb, c5, c6⟩, c7⟩
    rw [e7] at c6
    exact ⟨⟨fx.tr c1.1, uKp.tr ⟨eo _ hn47.2.2.2.2.1, by rw [hy_uk (by decide), hy_uk (by decide)], fun e _ => congrFun eb e⟩ c1.2⟩, c2, c3, c4, ⟨nb, c5, c6⟩, c7⟩
  have hw' := cW_fx hs fx hw
  have hU' := uW_fx hs fx hU
  have hx' := cTm_fx hs fx hx
  have hy' := cTm_fx hs fx hy
  unfold wq_148
  refine sp_149 hs hO hw' hU' hcn' hc1 hc hq hx' hy' dx dy (fun m' hm' => ?_) (fun hno => ?_)
  · obtain ⟨B', JL', SL', c1, c2, c3, c4, c5⟩ := hm'
    exact sp_148_22 hs hO hw' hU' hcn' hc1 hx' hy' ⟨B', JL', SL', c1, c2, Or.inr ⟨by decide, Nat.zero_le _, fun k p q hk => absurd hk (Nat.not_lt_zero _), c4, fun v a1 a2 => c5 v a1 (fun p q h => (by cases h)) a2⟩⟩ (fun m' B e => h0 m' B (ue e)) (fun m' B SL e => hE m' B SL (ue e))
  · exact sp_148_22 hs hO hw' hU' hcn' hc1 hx' hy' ⟨B, [], [], hc, hq, Or.inl ⟨rfl, fun v a1 a2 => hno v a1 (fun p q h => (by cases h)) a2⟩⟩ (fun m' B e => h0 m' B (ue e)) (fun m' B SL e => hE m' B SL (ue e))
end CUO
