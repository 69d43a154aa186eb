/-! JOIN -/
theorem uFx.sy {X : cX} {U : uX} {m m' : hy_m} (h : uFx X U m m') : uFx X U m' m := fun a e q1 q2 q3 => (h a e q1 q2 q3).symm
/-- how many compounds there are -/
def cCn (X : cX) (m : hy_m) : Prop := ∀ L : List Int, L.Nodup → (∀ x ∈ L, ∃ (k : Int) (a : pE), cTm X m x (.mulL k a) ∧ eN a ≠ 0) → L.length ≤ 59 * xcap X
def jCo (X : cX) (m : hy_m) (JL : List (Int × Int)) : Prop := ∀ x y : Int, (x, y) ∈ JL → ∃ (k : Int) (a b : pE), cTm X m x (.mulL k a) ∧ cTm X m y (.mulL k b) ∧ eN a = eN b ∧ eN a ≠ 0
def jEq (X : cX) (m : hy_m) (v : Nat → pE) (JL : List (Int × Int)) : Prop := ∀ x y : Int, (x, y) ∈ JL → ∀ tx ty, cTm X m x tx → cTm X m y ty → sb v tx = sb v ty
/-- marks stay as they are -/
def uKb (X : cX) (m0 m : hy_m) : Prop := ∀ e : Int, m0 (xb4 X) e ≠ -1 → m (xb4 X) e = m0 (xb4 X) e
def uKp (X : cX) (U : uX) (m0 m : hy_m) : Prop := m (ym U) = m0 (ym U) ∧ m 47 10 = m0 47 10 ∧ uKb X m0 m
theorem uKp.tr {X : cX} {U : uX} {m m' m'' : hy_m} (h : uKp X U m m') (h' : uKp X U m' m'') : uKp X U m m'' := ⟨h'.1.trans h.1, h'.2.1.trans h.2.1, fun e q => by
  have a := h.2.2 e q
  exact (h'.2.2 e (by rw [a]; exact q)).trans a⟩
def uC (X : cX) (U : uX) (m0 : hy_m) (B0 : bM) (l0 : List Nat) (m : hy_m) (B : bM) (JL : List (Int × Int)) : Prop := (uFx X U m0 m ∧ uKp X U m0 m) ∧ cBd X m B ∧ (∀ w y : Nat, B w = some (.var y) → y < w) ∧ jOK X m (m (yj U)) JL ∧ jCo X m0 JL ∧ (JL.map Prod.fst).Nodup ∧ m 47 3 = JL.length ∧ (∀ (k : Nat) (x y : Int), JL[k]? = some (x, y) → m (yq U) (k : Int) = x) ∧ (∀ v t, B0 v = some t → B v = some t) ∧ ∃ nb : List Nat, cTr X U m (l0 ++ nb) ∧ ∀ e, e ∈ nb ↔ ∃ i n : Nat, xL X i ∧ n < xV X i ∧ e = 8 * i + n ∧ B0 (xP X i + n) = none ∧ B (xP X i + n) ≠ none ∧ (i : Int) < m0 41 7
/-- suspects -/
def uQ (X : cX) (U : uX) (f : Int) (B0 : bM) (m : hy_m) (B : bM) (SL : List Int) : Prop := m 47 5 = SL.length ∧ (∀ (k : Nat) (x : Int), SL[k]? = some x → m (ys U) (k : Int) = x) ∧ SL.Nodup ∧ (∀ x ∈ SL, ∃ i n : Nat, xL X i ∧ n < xV X i ∧ x = 128 * (i : Int) + (n : Int) ∧ B (xP X i + n) ≠ none) ∧ (∀ i n : Nat, xL X i → n < xV X i → B0 (xP X i + n) = none → ∀ k a, B (xP X i + n) = some (.mulL k a) → eN a ≠ 0 → 128 * (i : Int) + (n : Int) ∈ SL ∨ (f ≤ 128 * (i : Int) + (n : Int) ∧ m (xb4 X) (8 * (i : Int) + (n : Int)) < f)) ∧ ∀ w z : Nat, B0 w = none → B w = some (.var z) → B0 z = none
section CJO
variable {X : cX} {U : uX} {T : hy_T} {m0 m m' : hy_m} {Q : Int → hy_m → Prop} {x y f : Int} {t : pE} {B0 B : bM} {l0 : List Nat} {JL : List (Int × Int)} {SL : List Int} {i n : Nat}
theorem jOK_fx (hs : uSep X U) (h : uFx X U m m') (hj : m' (yj U) = m (yj U)) (hJ : jOK X m (m (yj U)) JL) : jOK X m' (m' (yj U)) JL := by
  refine ⟨by rw [hj]; exact hJ.1, fun k x y e => ?_⟩
  obtain ⟨d1, d2, d3, ⟨t1, a1, a2, a3⟩, t2, b1, b2, b3⟩ := hJ.2 k x y e
  exact ⟨d1, d2, d3, ⟨t1, cTm_fx hs h a1, a2, a3⟩, t2, cTm_fx hs h b1, b2, b3⟩
theorem cTr_k {l : List Nat} (h1 : m' 41 6 = m 41 6) (h2 : m' (yt U) = m (yt U)) (h3 : m' (xb4 X) = m (xb4 X)) (h : cTr X U m l) : cTr X U m' l := by
  unfold cTr
  rw [h1, h2, h3]
  exact h
theorem uC_k (hs : uSep X U) (h : uFx X U m m') (h1 : m' 41 6 = m 41 6) (h2 : m' (yt U) = m (yt U)) (h3 : m' (xb4 X) = m (xb4 X)) (h4 : m' (yj U) = m (yj U)) (h5 : m' (yq U) = m (yq U)) (h6 : m' 47 3 = m 47 3) (hk : uKp X U m m') (hc : uC X U m0 B0 l0 m B JL) : uC X U m0 B0 l0 m' B JL := by
  obtain ⟨c1, c2, c3, c4, c5, c6, c7, c8, c9, nb, c10, c11⟩ := hc
  exact ⟨⟨c1.1.tr h, c1.2.tr hk⟩, cBd_fx hs h h3 c2, c3, jOK_fx hs h h4 c4, c5, c6, by rw [h6]; exact c7, by rw [h5]; exact c8, c9, nb, cTr_k h1 h2 h3 c10, c11⟩
theorem uSep.ne (h : uSep X U) : (yj U ≠ yq U ∧ yj U ≠ ys U ∧ yj U ≠ yt U ∧ yj U ≠ xb4 X ∧ yj U ≠ ym U) ∧ (yq U ≠ ys U ∧ yq U ≠ yt U ∧ yq U ≠ xb4 X ∧ yq U ≠ ym U) ∧ (ys U ≠ yt U ∧ ys U ≠ xb4 X ∧ ys U ≠ ym U) ∧ (yj U ≠ yp U ∧ yq U ≠ yp U ∧ ys U ≠ yp U ∧ yp U ≠ ym U ∧ yp U ≠ yt U ∧ yp U ≠ xb4 X) ∧ ym U ≠ yt U ∧ ym U ≠ xb4 X := by
  have := h.2.2.2
  simp only [List.nodup_cons, List.mem_cons, not_or] at this
  obtain ⟨⟨a1, a2, a3, a4, a5, a6, -⟩, ⟨b1, b2, b3, b4, b5, -⟩, ⟨c1, c2, c3, c4, -⟩, ⟨d1, d2, d3, -⟩, ⟨e1, e2, -⟩, -⟩ := this
  exact ⟨⟨a1, a2, a5, a6, a4⟩, ⟨b1, b4, b5, b3⟩, ⟨c3, c4, c2⟩, ⟨a3, b2, c1, d1, d2, d3⟩, e1, e2⟩
theorem uSep.n41 (h : uSep X U) : yj U ≠ 41 ∧ yq U ≠ 41 ∧ ys U ≠ 41 ∧ yp U ≠ 41 ∧ ym U ≠ 41 := by
  refine ⟨fun q => h.1.1 ?_, fun q => h.1.1 ?_, fun q => h.1.1 ?_, fun q => h.1.1 ?_, fun q => h.1.1 ?_⟩ <;> (unfold uRw; rw [q]; simp)
theorem uSep.n47 (h : uSep X U) : yj U ≠ 47 ∧ yq U ≠ 47 ∧ ys U ≠ 47 ∧ yp U ≠ 47 ∧ ym U ≠ 47 ∧ yt U ≠ 47 ∧ xb4 X ≠ 47 := by
  refine ⟨fun q => h.1.2.1 ?_, fun q => h.1.2.1 ?_, fun q => h.1.2.1 ?_, fun q => h.1.2.1 ?_, fun q => h.1.2.1 ?_, fun q => h.1.2.1 ?_, fun q => h.1.2.1 ?_⟩ <;> (unfold uRw; rw [q]; simp)
theorem cBi_kp (hs : uSep X U) (hf : m (xb4 X) (8 * (i : Int) + (n : Int)) = -1) : uKp X U m (cBi X U m i n y) := by
  obtain ⟨n1, n2, n3, n4, n5, n6⟩ := hs.ne
  have hn47 := hs.n47
  refine ⟨cBi_o n6 n5 hs.n41.2.2.2.2, ?_, fun e q => ?_⟩
  · rw [cBi_o (fun q => hn47.2.2.2.2.2.2 q.symm) (fun q => hn47.2.2.2.2.2.1 q.symm) (by decide)]
  · have h1 : e ≠ 8 * (i : Int) + (n : Int) := fun q2 => q (by rw [q2]; exact hf)
    have h2 : xb4 X ≠ 41 := fun q2 => hs.1.1 (by unfold uRw; rw [q2]; simp)
    have h3 : xb4 X ≠ yt U := by
      have h4 := hs.2.2.2
      intro q3
      rw [q3] at h4
      simp at h4
    unfold cBi
    split
    · rw [hy_ua h2, hy_ua h3, hy_uk h1]
    · rw [hy_uk h1]
theorem uC_bi (hs : uSep X U) (hO : cOr X) (hw : cW X T m0) (hc : uC X U m0 B0 l0 m B JL) (hi : xL X i) (hn : n < xV X i) (hb : B (xP X i + n) = none) (hf : m (xb4 X) (8 * (i : Int) + (n : Int)) = -1) (hy : cTm X m y t) (hD : ∀ w, vIn w t → cDm X w) (hv : ∀ z : Nat, t = .var z → z < xP X i + n) : uC X U m0 B0 l0 (cBi X U m i n y) (bU B (xP X i + n) t) JL := by
  obtain ⟨c1, c2, c3, c4, c5, c6, c7, c8, c9, nb, c10, c11⟩ := hc
  have h8 : ∀ j, xL X j → xV X j ≤ 8 := fun j hj => (hw.2.2.2.2.2 j hj).2.2.2.1
  obtain ⟨n1, n2, n3, n4, n5⟩ := hs.ne
  have hn41 := hs.n41
  have hn47 := hs.n47
  have e7 : m 41 7 = m0 41 7 := c1.1 41 7 hs.1.1 (fun q => absurd q.2 (by decide)) (fun q => absurd q.1 (by decide))
  have hcap : i < xcap X := (hw.2.2.2.2.2 i hi).1
  have hb0 : B0 (xP X i + n) = none := by
    cases e : B0 (xP X i + n) with
    | none => rfl
    | some u => rw [c9 _ u e] at hb; cases hb
  have htr := cBi_tr hs c10 hcap (Nat.lt_of_lt_of_le hn (h8 i hi)) hf (cTm_ne hy)
  refine ⟨⟨c1.1.tr cBi_fx, c1.2.tr (cBi_kp hs hf)⟩, cBi_bd hs hO h8 c2 hi hn hy hD, fun w z e => ?_, jOK_fx hs cBi_fx (cBi_o n1.2.2.2.1 n1.2.2.1 hn41.1) c4, c5, c6, ?_, ?_, fun v u e => ?_, if (i : Int) < m 41 7 then nb ++ [8 * i + n] else nb, ?_, fun e => ⟨fun he => ?_, fun he => ?_⟩⟩
  · by_cases q : w = xP X i + n
    · subst q
      rw [bU_s] at e
      injection e with e
      exact hv z e
    · rw [bU_o q] at e
      exact c3 w z e
  · rw [cBi_o (fun q => hn47.2.2.2.2.2.2 q.symm) (fun q => hn47.2.2.2.2.2.1 q.symm) (by decide)]
    exact c7
  · rw [cBi_o n2.2.2.1 n2.2.1 hn41.2.1]
    exact c8
  · rw [bU_o (fun q => by rw [q, hb0] at e; cases e)]
    exact c9 v u e
  · split
    · rename_i q
      rw [if_pos q, List.append_assoc] at htr
      exact htr
    · rename_i q
      rw [if_neg q] at htr
      exact htr
  · have old : e ∈ nb → ∃ i' n' : Nat, xL X i' ∧ n' < xV X i' ∧ e = 8 * i' + n' ∧ B0 (xP X i' + n') = none ∧ bU B (xP X i + n) t (xP X i' + n') ≠ none ∧ (i' : Int) < m0 41 7 := by
      intro hm
      obtain ⟨i', n', g1, g2, g3, g4, g5, g6⟩ := (c11 e).mp hm
      refine ⟨i', n', g1, g2, g3, g4, ?_, g6⟩
      by_cases q : xP X i' + n' = xP X i + n
      · rw [q, bU_s]
        exact fun q => by cases q
      · rw [bU_o q]
        exact g5
    split at he
    · rename_i q
      rcases List.mem_append.mp he with he | he
      · exact old he
      · refine ⟨i, n, hi, hn, List.mem_singleton.mp he, hb0, ?_, by omega⟩
        rw [bU_s]
        exact fun q => by cases q
    · exact old he
  · obtain ⟨i', n', g1, g2, g3, g4, g5, g6⟩ := he
    by_cases q : xP X i' + n' = xP X i + n
    · obtain ⟨rfl, rfl⟩ := cOr_uq hO g1 hi g2 hn q
      rw [if_pos (by omega)]
      exact List.mem_append.mpr (Or.inr (List.mem_singleton.mpr g3))
    · rw [bU_o q] at g5
      have hm := (c11 e).mpr ⟨i', n', g1, g2, g3, g4, g5, g6⟩
      split
      · exact List.mem_append.mpr (Or.inl hm)
      · exact hm
theorem bU_ne {w z : Nat} (h : B z ≠ none) : bU B w t z ≠ none := by
  by_cases q : z = w
  · rw [q, bU_s]
    exact fun q => by cases q
  · rw [bU_o q]
    exact h
theorem bU_z {w : Nat} (hz : ∀ z : Nat, t = .var z → B0 z = none) (h : ∀ w z : Nat, B0 w = none → B w = some (.var z) → B0 z = none) (w' z : Nat) (h0 : B0 w' = none) (e : bU B w t w' = some (.var z)) : B0 z = none := by
  by_cases q : w' = w
  · rw [q, bU_s] at e
    injection e with e
    exact hz z e
  · rw [bU_o q] at e
    exact h w' z h0 e
/-- a binding that leads to no loop -/
theorem uQ_bi (hs : uSep X U) (hO : cOr X) (hw : cW X T m0) (hq : uQ X U f B0 m B SL) (hi : xL X i) (hn : n < xV X i) (hz : ∀ z : Nat, t = .var z → B0 z = none) (hk : (∀ (k : Int) (a : pE), t = .mulL k a → eN a = 0) ∨ (f ≤ 128 * (i : Int) + (n : Int) ∧ y < f)) : uQ X U f B0 (cBi X U m i n y) (bU B (xP X i + n) t) SL := by
  obtain ⟨c1, c2, c3, c4, c5, c6⟩ := hq
  obtain ⟨n1, n2, n3, n4, n5⟩ := hs.ne
  have hn41 := hs.n41
  have hn47 := hs.n47
  have h8 : ∀ j, xL X j → xV X j ≤ 8 := fun j hj => (hw.2.2.2.2.2 j hj).2.2.2.1
  refine ⟨?_, ?_, c3, fun x hx => ?_, fun i' n' g1 g2 g3 k a e hne => ?_, bU_z hz c6⟩
  · rw [cBi_o (fun q => hn47.2.2.2.2.2.2 q.symm) (fun q => hn47.2.2.2.2.2.1 q.symm) (by decide)]
    exact c1
  · rw [cBi_o n3.2.1 n3.1 hn41.2.2.1]
    exact c2
  · obtain ⟨i', n', g1, g2, g3, g4⟩ := c4 x hx
    exact ⟨i', n', g1, g2, g3, bU_ne g4⟩
  · have w1 := h8 i hi
    have w2 := h8 i' g1
    by_cases q : xP X i' + n' = xP X i + n
    · obtain ⟨rfl, rfl⟩ := cOr_uq hO g1 hi g2 hn q
      rw [bU_s] at e
      injection e with e
      rcases hk with hk | hk
      · exact absurd (hk k a e) hne
      · right
        rw [cBi_b hs, if_pos rfl]
        exact hk
    · rw [bU_o q] at e
      rw [cBi_b hs, if_neg (fun e => q (by have c : i' = i ∧ n' = n := by omega
                                           rw [c.1, c.2]))]
      exact c5 i' n' g1 g2 g3 k a e hne
end CJO
