/-! UNIFY OF THE CLASS: joined compounds, one after the other -/
def jAr (X : cX) (m0 : hy_m) (Bd J : Int → Int → Prop) (d : Nat) (p q : Int) : Prop := ∃ (k : Int) (a b : pE), cTm X m0 p (.mulL k a) ∧ cTm X m0 q (.mulL k b) ∧ isL a ∧ isL b ∧ eN a = eN b ∧ ∀ j, j < eN a → j < d → ∃ x y, cTm X m0 x (eAr a j) ∧ cTm X m0 y (eAr b j) ∧ mrg (cTm X m0) Bd J x y
def uLv (X : cX) (m0 : hy_m) (B0 : bM) (ta tb : pE) (x y : Int) (m : hy_m) (B : bM) (JL : List (Int × Int)) (i : Nat) : Prop := i ≤ JL.length ∧ (∀ (k : Nat) (p q : Int), k < i → JL[k]? = some (p, q) → jAr X m0 (cBs X (m (xb4 X))) (jLs JL) 3 p q) ∧ mrg (cTm X m0) (cBs X (m (xb4 X))) (jLs JL) x y ∧ ∀ v, Sol B0 v → sb v ta = sb v tb → Sol B v ∧ jEq X m0 v JL
def uDd (B0 : bM) (ta tb : pE) : Prop := ∀ v, Sol B0 v → sb v ta ≠ sb v tb
def uIv (X : cX) (U : uX) (f : Int) (m0 : hy_m) (B0 : bM) (l0 : List Nat) (ta tb : pE) (x y : Int) (x4 : Int) (m : hy_m) (i : Nat) : Prop := ∃ (B : bM) (JL : List (Int × Int)) (SL : List Int), uC X U m0 B0 l0 m B JL ∧ uQ X U f B0 m B SL ∧ ((x4 = 0 ∧ uDd B0 ta tb) ∨ (x4 ≠ 0 ∧ uLv X m0 B0 ta tb x y m B JL i))
section CUN
variable {X : cX} {U : uX} {T : hy_T} {m0 m m' : hy_m} {Q : Int → hy_m → Prop} {x y f : Int} {ta tb : pE} {B0 B B' : bM} {l0 : List Nat} {JL JL' : List (Int × Int)} {SL : List Int} {i : Nat}
theorem jAr_mo {Bd J Bd' J' : Int → Int → Prop} {d : Nat} {p q : Int} (h1 : ∀ x y, Bd x y → Bd' x y) (h2 : ∀ x y, J x y → J' x y) (h : jAr X m0 Bd J d p q) : jAr X m0 Bd' J' d p q := by
  obtain ⟨k, a, b, g1, g2, g3, g4, g5, g6⟩ := h
  refine ⟨k, a, b, g1, g2, g3, g4, g5, fun j hj hd => ?_⟩
  obtain ⟨x, y, e1, e2, e3⟩ := g6 j hj hd
  exact ⟨x, y, e1, e2, mrg_mo h1 h2 e3⟩
theorem uMo.at' {k : Nat} {p : Int × Int} (h : uMo X m m' B B' JL JL') (hk : JL[k]? = some p) : JL'[k]? = some p := by
  obtain ⟨-, ⟨e, rfl⟩, -⟩ := h
  rw [List.getElem?_append_left (List.getElem?_eq_some_iff.mp hk).1]
  exact hk
theorem uLv_st (h : uLv X m0 B0 ta tb x y m B JL i) (hm : uMo X m m' B B' JL JL') (hc : ∀ v, Sol B0 v → sb v ta = sb v tb → Sol B v → jEq X m0 v JL → Sol B' v ∧ jEq X m0 v JL') : uLv X m0 B0 ta tb x y m' B' JL' i := by
  obtain ⟨h1, h2, h3, h4⟩ := h
  refine ⟨?_, fun k p q hk e => jAr_mo hm.2.2 hm.J (h2 k p q hk ?_), mrg_mo hm.2.2 hm.J h3, fun v a1 a2 => hc v a1 a2 (h4 v a1 a2).1 (h4 v a1 a2).2⟩
  · obtain ⟨-, ⟨e, rfl⟩, -⟩ := hm
    rw [List.length_append]
    omega
  · obtain ⟨-, ⟨e', rfl⟩, -⟩ := hm
    rw [List.getElem?_append_left (by omega)] at e
    exact e
set_option maxHeartbeats 4000000 in
theorem sp_148_62 {P22 : Int → Int → hy_m → Prop} {x4 k p q : Int} {a b : pE} (hs : uSep X U) (hO : cOr X) (hw : cW X T m0) (hU : uW X U T m0) (hcn : cCn X m0) (hc1 : 0 < xcap X) (hc : uC X U m0 B0 l0 m B JL) (hq : uQ X U f B0 m B SL) (h4 : x4 ≠ 0) (hv : uLv X m0 B0 ta tb x y m B JL i) (hJ : JL[i]? = some (p, q)) (hp : cTm X m0 p (.mulL k a)) (hp2 : cTm X m0 q (.mulL k b)) (la : isL a) (lb : isL b) (hN : eN a = eN b) (h3 : eN a ≤ 3) (da : ∀ w, vIn w a → cDm X w) (db : ∀ w, vIn w b → cDm X w) (hP : ∀ x4 m, uIv X U f m0 B0 l0 ta tb x y x4 m (i + 1) → P22 x4 ((i : Int) + 1) m) : wq_148_62 P22 f x4 (i : Int) p (eN a : Int) 0 T m Q := by
  have hcap := hw.2.2.1
  unfold wq_148_62
  refine wL2_rule (Nat.lt_wfRel.wf) (fun x4 x8 m => ∃ d : Nat, x8 = d ∧ d ≤ eN a ∧ ∃ (B : bM) (JL : List (Int × Int)) (SL : List Int), uC X U m0 B0 l0 m B JL ∧ uQ X U f B0 m B SL ∧ JL[i]? = some (p, q) ∧ ((x4 = 0 ∧ uDd B0 ta tb) ∨ (x4 ≠ 0 ∧ uLv X m0 B0 ta tb x y m B JL i ∧ jAr X m0 (cBs X (m (xb4 X))) (jLs JL) d p q))) (fun _ x8 _ => 4 - x8.toNat) ?_ ⟨0, rfl, Nat.zero_le _, B, JL, SL, hc, hq, hJ, Or.inr ⟨h4, hv, k, a, b, hp, hp2, la, lb, hN, fun j _ hd => absurd hd (Nat.not_lt_zero _)⟩⟩
  clear hc hq hJ hv h4
  rintro P x4 x8 m ⟨d, rfl, hd, B, JL, SL, hc, hq, hJ, hh⟩ hP2
  have hwm := cW_fx hs hc.1.1 hw
  have hUm := uW_fx hs hc.1.1 hU
  have hl := JL_le hcn hc
  have hi := (List.getElem?_eq_some_iff.mp hJ).1
  have rg : hy_r 0 ((i : Int) + 1) := show -2147483648 ≤ _ ∧ _ < 2147483648 by omega
  unfold wf_148_62
  refine ⟨fun h0 => ⟨rg, hP _ _ ⟨B, JL, SL, hc, hq, ?_⟩⟩, fun h0 => ?_⟩
  · rcases hh with hh | hh
    · exact Or.inl hh
    · exact absurd h0 hh.1
  · rcases hh with hh | ⟨-, hv, hj⟩
    · exact absurd hh.1 h0
    · refine ⟨fun hle => ⟨rg, hP _ _ ⟨B, JL, SL, hc, hq, Or.inr ⟨h0, hi, fun k' p' q' hk e => ?_, hv.2.2⟩⟩⟩, fun hlt => ?_⟩
      · by_cases c : k' < i
        · exact hv.2.1 k' p' q' c e
        · have c : k' = i := by omega
          subst c
          rw [hJ] at e
          injection e with e
          injection e with e1 e2
          subst e1
          subst e2
          obtain ⟨k2, a2, b2, g1, g2, g3, g4, g5, g6⟩ := hj
          have e := cTm_uq g1 hp
          injection e with e1 e2
          subst e2
          exact ⟨k2, a2, b2, g1, g2, g3, g4, g5, fun j hj _ => g6 j hj (by omega)⟩
      · have hdl : d < eN a := by omega
        have T1 := hUm.1.2
        have gp := cTm_rg hw hp
        refine sp_132 hwm (cTm_fx hs hc.1.1 hp) hdl (fun r1 hr1 _ => ?_)
        rw [hUm.1.1, Int.toNat_natCast]
        have hjq : m (yj U) p = q := by
          rcases hc.2.2.2.1.1 p gp.1 gp.2.1 with z | z
          · exact absurd (List.mem_of_getElem? hJ) (z.2 q)
          · obtain ⟨k', hk'⟩ := List.getElem?_of_mem z.2
            have := (hc.2.2.2.1.2 i p q hJ).2.1 k' _ hk'
            subst this
            rw [hJ] at hk'
            injection hk' with e
            injection e with e1 e2
            exact e2.symm
        rw [hjq]
        refine ⟨_, T1, gp.1, gp.2.1, sp_132 hwm (cTm_fx hs hc.1.1 hp2) (by omega) (fun r3 hr3 _ => ?_)⟩
        have z1 := cTm_fx hs hc.1.1.sy hr1
        have z3 := cTm_fx hs hc.1.1.sy hr3
        refine sp_149 hs hO hw hU hcn hc1 hc hq z1 z3 (fun w h => da w (vIn_ar w a d la hdl h)) (fun w h => db w (vIn_ar w b d lb (by omega) h)) (fun m' hm' => ?_) (fun hno => ?_)
        · obtain ⟨B', JL', SL', c1, c2, c3, c4, c5⟩ := hm'
          refine ⟨show -2147483648 ≤ _ ∧ _ < 2147483648 by omega, hP2 _ _ _ ⟨d + 1, by omega, by omega, B', JL', SL', c1, c2, c3.at' hJ, Or.inr ⟨by decide, uLv_st hv c3 (fun v a1 a2 a3 a4 => c5 v a3 a4 ?_), ?_⟩⟩ ?_⟩
          · have e := a4 p q (List.mem_of_getElem? hJ) _ _ hp hp2
            have e : (.mulL k (sb v a) : pE) = .mulL k (sb v b) := e
            injection e with _ e
            exact (ar_eq v a b la lb hN).mpr e d hdl
          · obtain ⟨k2, a2, b2, g1, g2, g3, g4, g5, g6⟩ := jAr_mo c3.2.2 c3.J hj
            have e := cTm_uq g1 hp
            injection e with e1 e2
            subst e2
            have e' := cTm_uq g2 hp2
            injection e' with e1' e2'
            subst e2'
            refine ⟨k2, a2, b2, g1, g2, g3, g4, g5, fun j hj' hd' => ?_⟩
            by_cases c : j = d
            · subst c
              exact ⟨r1, r3, z1, z3, c4⟩
            · exact g6 j hj' (by omega)
          · show 4 - _ < 4 - _
            omega
        · refine ⟨show -2147483648 ≤ _ ∧ _ < 2147483648 by omega, hP2 _ _ _ ⟨d + 1, by omega, by omega, B, JL, SL, hc, hq, hJ, Or.inl ⟨rfl, fun v a1 a2 => ?_⟩⟩ ?_⟩
          · obtain ⟨a3, a4⟩ := hv.2.2.2 v a1 a2
            have e := a4 p q (List.mem_of_getElem? hJ) _ _ hp hp2
            have e : (.mulL k (sb v a) : pE) = .mulL k (sb v b) := e
            injection e with _ e
            exact hno v a3 a4 ((ar_eq v a b la lb hN).mpr e d hdl)
          · show 4 - _ < 4 - _
            omega
end CUN
