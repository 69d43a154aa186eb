/-! UNIFY -/
theorem vIn_rn {p nv : Nat} : ∀ (u : pE) (b : Bool) (w : Nat), eK nv u b → vIn w (rn p u) → ∃ n, n < nv ∧ w = p + n
  | .var v, b, w, h, hv => ⟨v, h.2, (show p + v = w from hv).symm⟩
  | .num _, _, _, _, hv => hv.elim
  | .mulL k a, b, w, h, hv => vIn_rn a true w h.2.2.2.2.2 hv
  | .add a r, b, w, h, hv => by
    rcases hv with hv | hv
    · exact vIn_rn a false w h.2.1 hv
    · exact vIn_rn r true w h.2.2 hv
  | .sub _ _, _, _, h, _ => h.elim
  | .neg _, _, _, h, _ => h.elim
  | .mulR _ _, _, _, h, _ => h.elim
/-- what unify needs of the store -/
def uPr (X : cX) (U : uX) (T : hy_T) (m : hy_m) : Prop := uSep X U ∧ cW X T m ∧ uW X U T m ∧ cOr X ∧ cGW X m ∧ cCn X m ∧ 4 ≤ xcap X ∧ cNd X m ∧ cVr X m ∧ (∀ z : Int, 0 ≤ z → z < ((128 * xcap X : Nat) : Int) → m (yj U) z = 0) ∧ (∀ z : Int, m (ym U) z ≤ m 47 10) ∧ 0 ≤ m 47 10
/-- behind it -/
def uZ (X : cX) (U : uX) (m0 : hy_m) (B0 : bM) (l0 : List Nat) (m : hy_m) (B : bM) : Prop := uFx X U m0 m ∧ cBd X m B ∧ (∀ w y : Nat, B w = some (.var y) → y < w) ∧ (∀ v t, B0 v = some t → B v = some t) ∧ (∃ nb : List Nat, cTr X U m (l0 ++ nb) ∧ ∀ e, e ∈ nb ↔ ∃ i n : Nat, xL X i ∧ n < xV X i ∧ e = 8 * i + n ∧ B0 (xP X i + n) = none ∧ B (xP X i + n) ≠ none ∧ (i : Int) < m0 41 7) ∧ (∀ z : Int, 0 ≤ z → z < ((128 * xcap X : Nat) : Int) → m (yj U) z = 0) ∧ (∀ z : Int, m (ym U) z ≤ m 47 10) ∧ m0 47 10 ≤ m 47 10 ∧ m 47 10 ≤ m0 47 10 + 2 ∧ uKb X m0 m
section CUH
variable {X : cX} {U : uX} {T : hy_T} {m m' m1 : hy_m} {B B' : bM} {f x y : Int} {SL : List Int} {Q : Int → hy_m → Prop} {l0 : List Nat} {ta tb : pE}
theorem uPr_fx (hp : uPr X U T m) (h : uFx X U m m') (h1 : ∀ z : Int, 0 ≤ z → z < ((128 * xcap X : Nat) : Int) → m' (yj U) z = 0) (h2 : ∀ z : Int, m' (ym U) z ≤ m' 47 10) (h3 : 0 ≤ m' 47 10) : uPr X U T m' := by
  obtain ⟨hs, hw, hU, hO, hG, hC, h4, hN, hV, hz, hm, hm0⟩ := hp
  exact ⟨hs, cW_fx hs h hw, uW_fx hs h hU, hO, cGW_fx hs h hG, cCn_fx hs h hC, h4, cNd_fx hs h hN, cVr_fx hs h hV, h1, h2, h3⟩
theorem uE_Z (hp : uPr X U T m) (h : uE X U m B l0 m' B') : uZ X U m B l0 m' B' := by
  obtain ⟨hs, hw, hU, hO, hG, hC, h4, hN, hV, hz, hm, hm0⟩ := hp
  obtain ⟨⟨c1, k1, k2, k3⟩, c2, c3, c4, c5, c6⟩ := h
  exact ⟨c1, c2, c3, c4, c5, c6, fun z => by rw [k1, k2]; exact hm z, by rw [k2]; exact Int.le_refl _, by rw [k2]; omega, k3⟩
theorem lFx_fx (h : lFx U m m') : uFx X U m m' := fun a e q1 _ q3 => h.1 a e (fun q => q1 (by unfold uRw; rw [q]; simp)) (fun q => q1 (by unfold uRw; rw [q]; simp)) (fun q => q3 ⟨q.1, by rcases q.2 with q | q | q <;> simp [q]⟩)
theorem uE_L (hs : uSep X U) (h : uE X U m B l0 m' B') (hl : lFx U m' m1) : uZ X U m B l0 m1 B' := by
  obtain ⟨⟨c1, k1, k2, k3⟩, c2, c3, c4, ⟨nb, c5, c5'⟩, c6⟩ := h
  have hn47 := hs.n47
  have hn41 := hs.n41
  obtain ⟨n1, n2, n3, n4, n5, n6⟩ := hs.ne
  have row : ∀ a, a ≠ yp U → a ≠ ym U → a ≠ 47 → m1 a = m' a := fun a q1 q2 q3 => funext fun e => hl.1 a e q1 q2 (fun q => q3 q.1)
  have e1 := row (xb4 X) (fun q => n4.2.2.2.2.2 q.symm) (fun q => n6 q.symm) hn47.2.2.2.2.2.2
  refine ⟨c1.tr (lFx_fx hl), cBd_fx hs (lFx_fx hl) e1 c2, c3, c4, ⟨nb, cTr_k ?_ (row _ (fun q => n4.2.2.2.2.1 q.symm) (fun q => n5 q.symm) hn47.2.2.2.2.2.1) e1 c5, c5'⟩, ?_, hl.2.2, ?_, ?_, fun e q => (congrFun e1 e).trans (k3 e q)⟩
  · rw [row 41 (fun q => hn41.2.2.2.1 q.symm) (fun q => hn41.2.2.2.2 q.symm) (by decide)]
  · rw [row (yj U) n4.1 n1.2.2.2.2 hn47.1]
    exact c6
  · rw [hl.2.1, k2]
    omega
  · rw [hl.2.1, k2]
    exact Int.le_refl _
/-- unify -/
theorem sp_148 {s : Nat → pE} {O : Nat → Prop} (hp : uPr X U T m) (hm1 : m 47 10 < 2147483000) (hB : cBd X m B) (hR : Res B s) (ht : cTr X U m l0) (hx : cTm X m x ta) (hy : cTm X m y tb) (dx : ∀ w, vIn w ta → cDm X w) (dy : ∀ w, vIn w tb → cDm X w)
    (o1 : ∀ w t w', O w → B w = some t → vIn w' t → O w') (o2 : ∀ w, ¬ O w → B w = none) (o3 : ∀ w z, cDm X w → cDm X z → O w → z < w → O z) (o4 : ∀ i n j n' : Nat, xL X i → n < xV X i → xL X j → n' < xV X j → f ≤ 128 * (i : Int) + (n : Int) → 128 * (j : Int) < f → ¬ O (xP X i + n) ∧ O (xP X j + n'))
    (h1 : ∀ m' B' s', uZ X U m B l0 m' B' → Res B' s' → (∀ v, Sol B' v ↔ Sol B v ∧ sb v ta = sb v tb) → Q 1 m') (h0 : ∀ m' B', uZ X U m B l0 m' B' → (∀ v, Sol B v → sb v ta ≠ sb v tb) → Q 0 m') : wq_148 x y f T m Q := by
  have hp' := hp
  obtain ⟨hs, hw, hU, hO, hG, hC, h4, hN, hV, hz, hm, hm0⟩ := hp
  refine sp_148p hs hO hw hU hC (by omega) hB hR ht hz hx hy dx dy (fun m' B' e1 e2 => h0 m' B' (uE_Z hp' e1) e2) (fun m' B' SL e1 e2 e3 => ?_)
  have hZ := uE_Z hp' e1
  have fx := hZ.1
  have k1 := e1.1.2.1
  have k2 := e1.1.2.2.1
  have hB' := hZ.2.1
  have ho' := hZ.2.2.1
  have hab := hZ.2.2.2.1
  refine sp_151 hs (cW_fx hs fx hw) (uW_fx hs fx hU) hO (cGW_fx hs fx hG) h4 (cNd_fx hs fx hN) (cVr_fx hs fx hV) hB' ho' e2 hZ.2.2.2.2.2.2.1 (by omega) (by omega) (fun m1 g1 g2 => ⟨fun q => absurd rfl q, fun _ => ?_⟩) (fun m1 g1 g2 => ⟨fun _ => h0 m1 B' (uE_L hs e1 g1) (fun v a1 a2 => g2 v ((e3 v).mpr ⟨a1, a2⟩)), fun q => absurd q (by decide)⟩)
  have bd : ∀ w t, B' w = some t → ∃ i n : Nat, xL X i ∧ n < xV X i ∧ w = xP X i + n ∧ cTm X m' (m' (xb4 X) (8 * (i : Int) + (n : Int))) t ∧ ∀ a, vIn a t → cDm X a := by
    intro w t hwt
    by_cases c : cDm X w
    · obtain ⟨i, n, a1, a2, rfl⟩ := c
      rcases hB'.1 i n a1 a2 with ⟨q, _⟩ | ⟨t', q1, q2, q3, q4⟩
      · rw [q] at hwt
        cases hwt
      · rw [q1] at hwt
        injection hwt with hwt
        exact ⟨i, n, a1, a2, rfl, hwt ▸ q3, hwt ▸ q4⟩
    · rw [hB'.2 w c] at hwt
      cases hwt
  have acc : ∀ w, Acc (bEd B') w := by
    refine acc_all (O := O) hR hab o1 o2 (fun w z b1 b2 => ?_) (fun w t b1 b2 b3 => ?_)
    · have hzw := ho' w z b2
      obtain ⟨i, n, a1, a2, rfl, a3, a4⟩ := bd _ _ b2
      exact ⟨e2.2.2.2.2.2 _ z b1 b2, hzw, fun hOw => o3 _ z ⟨i, n, a1, a2, rfl⟩ (a4 z rfl) hOw hzw⟩
    · obtain ⟨i, n, a1, a2, rfl, a3, a4⟩ := bd _ _ b2
      rcases cTm_sh a3 b3 with ⟨z, rfl⟩ | ⟨k, b, rfl, lb, -, -⟩
      · exact Or.inl (fun w' q => q)
      · by_cases c0 : eN b = 0
        · refine Or.inl (fun w' q => ?_)
          obtain ⟨j, q1, _⟩ := vIn_ex lb q
          omega
        · rcases e2.2.2.2.2.1 i n a1 a2 b1 k b b2 c0 with q | ⟨q1, q2⟩
          · exact Or.inr (Or.inl (g2 i n a1 a2 q))
          · by_cases c1 : ∃ w', vIn w' (.mulL k b)
            · refine Or.inr (Or.inr ?_)
              rcases a3 with ⟨j, _, _, q, _⟩ | ⟨j, n', u, hj, ej, hn', hcq, heK, et⟩
              · cases q
              · have hjf : 128 * (j : Int) < f := by omega
                have hv : ∀ w', vIn w' (.mulL k b) → ∃ v, v < xV X j ∧ w' = xP X j + v := fun w' q => vIn_rn u false w' heK (et ▸ q)
                obtain ⟨w', q⟩ := c1
                obtain ⟨v, v1, v2⟩ := hv w' q
                refine ⟨(o4 i n j v a1 a2 hj v1 q1 hjf).1, fun w'' q'' => ?_⟩
                obtain ⟨v', v1', v2'⟩ := hv w'' q''
                rw [v2']
                exact (o4 i n j v' a1 a2 hj v1' q1 hjf).2
            · exact Or.inl (fun w'' q'' => c1 ⟨w'', q''⟩)
  obtain ⟨s', hs'⟩ := Res_of acc ho'
  exact h1 m1 B' s' (uE_L hs e1 g1) hs' e3
end CUH
