/-! JOIN, 2 -/
theorem cTm_sh {X : cX} {m : hy_m} {x : Int} {t : pE} (h : cTm X m x t) (hn : ∀ w : Nat, t ≠ .var w) : (∃ z, t = .num z) ∨ ∃ (k : Int) (b : pE), t = .mulL k b ∧ isL b ∧ eN b ≤ 3 ∧ nmOK k := by
  rcases h with ⟨j, hj, e, rfl, hr⟩ | ⟨i, n, u, hi, e, hn', hu, hk, rfl⟩
  · exact Or.inl ⟨_, rfl⟩
  · cases u with
    | var v => exact absurd rfl (hn _)
    | num z => exact Or.inl ⟨z, rfl⟩
    | mulL k a =>
      refine Or.inr ⟨k, _, rfl, isL_sb _ a _ hk.2.2.2.2.2, ?_, hk.2.1⟩
      rw [eN_sb _ a _ hk.2.2.2.2.2]
      exact hk.2.2.1
    | add a r => exact absurd hk.1 (by decide)
    | sub a r => exact hk.elim
    | neg a => exact hk.elim
    | mulR a q => exact hk.elim
def uMo (X : cX) (m m' : hy_m) (B B' : bM) (JL JL' : List (Int × Int)) : Prop := (∀ v t, B v = some t → B' v = some t) ∧ (∃ e, JL' = JL ++ e) ∧ ∀ a b, cBs X (m (xb4 X)) a b → cBs X (m' (xb4 X)) a b
theorem uMo.rfl' {X : cX} {m : hy_m} {B : bM} {JL : List (Int × Int)} : uMo X m m B B JL JL := ⟨fun _ _ e => e, ⟨[], (List.append_nil _).symm⟩, fun _ _ e => e⟩
theorem uMo.tr {X : cX} {m m' m'' : hy_m} {B B' B'' : bM} {JL JL' JL'' : List (Int × Int)} (h : uMo X m m' B B' JL JL') (h' : uMo X m' m'' B' B'' JL' JL'') : uMo X m m'' B B'' JL JL'' := by
  obtain ⟨a1, ⟨e, rfl⟩, a3⟩ := h
  obtain ⟨b1, ⟨e', rfl⟩, b3⟩ := h'
  exact ⟨fun v t q => b1 v t (a1 v t q), ⟨e ++ e', List.append_assoc ..⟩, fun a b q => b3 a b (a3 a b q)⟩
section CJP
variable {X : cX} {U : uX} {T : hy_T} {m0 m m' : hy_m} {Q : Int → hy_m → Prop} {x y f : Int} {t : pE} {B0 B : bM} {l0 : List Nat} {JL : List (Int × Int)} {SL : List Int} {i n : Nat}
/-- one more suspect -/
def uSu (U : uX) (m : hy_m) (k : Nat) (x : Int) : hy_m := hy_u (hy_u m (ys U) (k : Int) x) 47 5 ((k : Int) + 1)
theorem uSu_fx {k : Nat} : uFx X U m (uSu U m k x) := (uFx.row (by unfold uRw; simp)).tr (uFx.f47 (by simp))
theorem uSu_o {k a : Nat} (h1 : a ≠ ys U) (h2 : a ≠ 47) : uSu U m k x a = m a := by
  funext e
  unfold uSu
  rw [hy_ua h2, hy_ua h1]
theorem SL_lt (hw : cW X T m0) (hq : uQ X U f B0 m B SL) (hi : xL X i) (hn : n < xV X i) (hb : B (xP X i + n) = none) : 128 * (i : Int) + (n : Int) ∉ SL ∧ SL.length < 8 * xcap X := by
  have h8 : ∀ j, xL X j → xV X j ≤ 8 := fun j hj => (hw.2.2.2.2.2 j hj).2.2.2.1
  have hc : ∀ j, xL X j → j < xcap X := fun j hj => (hw.2.2.2.2.2 j hj).1
  have w1 := h8 i hi
  have hx : 128 * (i : Int) + (n : Int) ∉ SL := by
    intro q
    obtain ⟨i', n', g1, g2, g3, g4⟩ := hq.2.2.2.1 _ q
    have w2 := h8 i' g1
    have c : i' = i ∧ n' = n := by omega
    obtain ⟨rfl, rfl⟩ := c
    exact g4 hb
  refine ⟨hx, ?_⟩
  have := (nd_snoc hq.2.2.1 hx).length_le_of_subset (l₂ := (List.range (8 * xcap X)).map (fun e => ((128 * (e / 8) + e % 8 : Nat) : Int))) (fun z hz => by
    have key : ∀ i' n' : Nat, xL X i' → n' < xV X i' → z = 128 * (i' : Int) + (n' : Int) → z ∈ (List.range (8 * xcap X)).map (fun e => ((128 * (e / 8) + e % 8 : Nat) : Int)) := by
      intro i' n' g1 g2 g3
      have w2 := h8 i' g1
      have w3 := hc i' g1
      refine List.mem_map.mpr ⟨8 * i' + n', List.mem_range.mpr (by omega), ?_⟩
      omega
    rcases List.mem_append.mp hz with hz | hz
    · obtain ⟨i', n', g1, g2, g3, g4⟩ := hq.2.2.2.1 _ hz
      exact key i' n' g1 g2 g3
    · exact key i n hi hn (List.mem_singleton.mp hz))
  rw [List.length_append, List.length_singleton, List.length_map, List.length_range] at this
  omega
theorem uQ_su (hs : uSep X U) (hO : cOr X) (hw : cW X T m0) (hq : uQ X U f B0 m B SL) (hi : xL X i) (hn : n < xV X i) (hz : ∀ z : Nat, t = .var z → B0 z = none) (hb : B (xP X i + n) = none) : uQ X U f B0 (uSu U (cBi X U m i n y) SL.length (128 * (i : Int) + (n : Int))) (bU B (xP X i + n) t) (SL ++ [128 * (i : Int) + (n : Int)]) := by
  obtain ⟨hx, hl⟩ := SL_lt hw hq hi hn hb
  obtain ⟨c1, c2, c3, c4, c5, c6⟩ := hq
  obtain ⟨n1, n2, n3, n4, n5⟩ := hs.ne
  have hn41 := hs.n41
  have hn47 := hs.n47
  have h8 : ∀ j, xL X j → xV X j ≤ 8 := fun j hj => (hw.2.2.2.2.2 j hj).2.2.2.1
  refine ⟨?_, fun k z e => ?_, nd_snoc c3 hx, fun x hx => ?_, fun i' n' g1 g2 g3 k a e hne => ?_, bU_z hz c6⟩
  · unfold uSu
    rw [hy_us, List.length_append, List.length_singleton]
    omega
  · unfold uSu
    rw [hy_ua hn47.2.2.1]
    by_cases q : k = SL.length
    · subst q
      rw [List.getElem?_append_right (Nat.le_refl _), Nat.sub_self] at e
      have e : some (128 * (i : Int) + (n : Int)) = some z := e
      injection e with e
      rw [hy_us, e]
    · have hk : k < SL.length := by
        have := (List.getElem?_eq_some_iff.mp e).1
        rw [List.length_append, List.length_singleton] at this
        omega
      rw [List.getElem?_append_left hk] at e
      rw [hy_uk (by omega), cBi_o n3.2.1 n3.1 hn41.2.2.1]
      exact c2 k z e
  · rcases List.mem_append.mp hx with hx | hx
    · obtain ⟨i', n', g1, g2, g3, g4⟩ := c4 x hx
      exact ⟨i', n', g1, g2, g3, bU_ne g4⟩
    · refine ⟨i, n, hi, hn, List.mem_singleton.mp hx, ?_⟩
      rw [bU_s]
      exact fun q => by cases q
  · have w1 := h8 i hi
    have w2 := h8 i' g1
    by_cases q : xP X i' + n' = xP X i + n
    · obtain ⟨rfl, rfl⟩ := cOr_uq hO g1 hi g2 hn q
      exact Or.inl (List.mem_append.mpr (Or.inr (List.mem_singleton.mpr rfl)))
    · rw [bU_o q] at e
      have ne : ¬ (8 * (i' : Int) + (n' : Int) = 8 * (i : Int) + (n : Int)) := by
        intro e
        have c : i' = i ∧ n' = n := by omega
        exact q (by rw [c.1, c.2])
      rw [uSu_o (fun q => n3.2.1 q.symm) hn47.2.2.2.2.2.2, cBi_b hs, if_neg ne]
      rcases c5 i' n' g1 g2 g3 k a e hne with r | r
      · exact Or.inl (List.mem_append.mpr (Or.inl r))
      · exact Or.inr r
theorem sp_149_118 {k : Nat} (hs : uSep X U) (hU : uW X U T m) (h5 : m 47 5 = k) (hk : k < 8 * xcap X) (hc : xcap X ≤ 302) (hq : Q 1 (uSu U m k x)) : wq_149_118 x T m Q := by
  unfold wq_149_118
  have T4 := hU.2.2.1.2
  have hn47 := hs.n47
  rw [hU.2.2.1.1, Int.toNat_natCast, h5]
  have e : hy_u m (ys U) (k : Int) x 47 5 = k := by rw [hy_ua (fun q => hn47.2.2.1 q.symm)]; exact h5
  rw [e]
  exact ⟨100, _, T4, by omega, fun q => by omega, fun _ => ⟨_, T4, by omega, by omega, show -2147483648 ≤ _ ∧ _ < 2147483648 by omega, hq⟩⟩
/-- one more joined compound -/
def uJo (U : uX) (m : hy_m) (k : Nat) (x y : Int) : hy_m := hy_u (hy_u (hy_u m (yj U) x y) (yq U) (k : Int) x) 47 3 ((k : Int) + 1)
theorem uJo_fx {k : Nat} : uFx X U m (uJo U m k x y) := ((uFx.row (by unfold uRw; simp)).tr (uFx.row (by unfold uRw; simp))).tr (uFx.f47 (by simp))
theorem uJo_o {k a : Nat} (h1 : a ≠ yj U) (h2 : a ≠ yq U) (h3 : a ≠ 47) : uJo U m k x y a = m a := by
  funext e
  unfold uJo
  rw [hy_ua h3, hy_ua h2, hy_ua h1]
theorem JL_lt (hcn : cCn X m0) (hco : jCo X m0 JL) (hnd : (JL.map Prod.fst).Nodup) (hx : ∀ z, (x, z) ∉ JL) {k : Int} {a : pE} (hk : cTm X m0 x (.mulL k a)) (ha : eN a ≠ 0) : JL.length + 1 ≤ 59 * xcap X ∧ ((JL ++ [(x, y)]).map Prod.fst).Nodup := by
  have hm : x ∉ JL.map Prod.fst := by
    intro q
    obtain ⟨⟨p, z⟩, h1, h2⟩ := List.mem_map.mp q
    have h2 : p = x := h2
    subst h2
    exact hx z h1
  have nd := nd_snoc hnd hm
  refine ⟨?_, ?_⟩
  · have := hcn _ nd (fun z hz => by
      rcases List.mem_append.mp hz with hz | hz
      · obtain ⟨⟨p, w⟩, h1, h2⟩ := List.mem_map.mp hz
        have h2 : p = z := h2
        subst h2
        obtain ⟨k', a', b', g1, g2, g3, g4⟩ := hco p w h1
        exact ⟨k', a', g1, g4⟩
      · rw [List.mem_singleton.mp hz]
        exact ⟨k, a, hk, ha⟩)
    rw [List.length_append, List.length_map, List.length_singleton] at this
    exact this
  · rw [List.map_append]
    exact nd
theorem cTm_rg {z k : Int} {c : pE} (hw : cW X T m0) (hz : cTm X m z (.mulL k c)) : 0 ≤ z ∧ z < ((128 * xcap X : Nat) : Int) ∧ z ≠ 0 := by
  rcases cTm_n hz (fun w q => by cases q) with q | ⟨i, n, hi, rfl, q1, q2⟩
  · rcases hz with ⟨j, hj, e, e2, hr⟩ | ⟨i, n, u, hi, e, -⟩
    · cases e2
    · omega
  · have := (hw.2.2.2.2.2 i hi).1
    omega
theorem uJo_kp {k : Nat} (hs : uSep X U) : uKp X U m (uJo U m k x y) := by
  obtain ⟨n1, n2, n3, n4, n5⟩ := hs.ne
  have hn47 := hs.n47
  refine ⟨uJo_o (fun q => n1.2.2.2.2 q.symm) (fun q => n2.2.2.2 q.symm) hn47.2.2.2.2.1, ?_, fun e _ => congrFun (uJo_o (fun q => n1.2.2.2.1 q.symm) (fun q => n2.2.2.1 q.symm) hn47.2.2.2.2.2.2) e⟩
  unfold uJo
  rw [hy_uk (by decide), hy_ua (fun q => hn47.2.1 q.symm), hy_ua (fun q => hn47.1 q.symm)]
theorem uC_jo {k : Int} {a b : pE} (hs : uSep X U) (hw : cW X T m0) (hcn : cCn X m0) (hc : uC X U m0 B0 l0 m B JL) (hx : ∀ z, (x, z) ∉ JL) (hy : ∀ z, (y, z) ∉ JL) (hne : x ≠ y) (tx : cTm X m x (.mulL k a)) (ty : cTm X m y (.mulL k b)) (dx : ∀ w, vIn w (.mulL k a) → cDm X w) (dy : ∀ w, vIn w (.mulL k b) → cDm X w) (hN : eN a = eN b) (h0 : eN a ≠ 0) : uC X U m0 B0 l0 (uJo U m JL.length x y) B (JL ++ [(x, y)]) := by
  obtain ⟨c1, c2, c3, c4, c5, c6, c7, c8, c9, nb, c10, c11⟩ := hc
  obtain ⟨n1, n2, n3, n4, n5⟩ := hs.ne
  have hn41 := hs.n41
  have hn47 := hs.n47
  have tx0 := cTm_fx hs c1.1.sy tx
  have ty0 := cTm_fx hs c1.1.sy ty
  obtain ⟨l1, l2⟩ := JL_lt (y := y) hcn c5 c6 hx tx0 h0
  have rj : ∀ e, uJo U m JL.length x y (yj U) e = if e = x then y else m (yj U) e := by
    intro e
    unfold uJo
    rw [hy_ua hn47.1, hy_ua n1.1]
    by_cases q : e = x
    · rw [if_pos q, q, hy_us]
    · rw [if_neg q, hy_uk q]
  have nv : ∀ (c : pE) (w : Nat), (.mulL k c : pE) ≠ .var w := fun c w q => by cases q
  have gx := cTm_rg hw tx
  have gy := cTm_rg hw ty
  have mem : ∀ p q : Int, (p, q) ∈ JL ++ [(x, y)] ↔ (p, q) ∈ JL ∨ (p = x ∧ q = y) := by
    intro p q
    rw [List.mem_append, List.mem_singleton]
    refine ⟨fun h => h.imp (fun h => h) (fun h => ?_), fun h => h.imp (fun h => h) (fun h => by rw [h.1, h.2])⟩
    injection h with h1 h2
    exact ⟨h1, h2⟩
  have idx : ∀ (k' : Nat) (p q : Int), (JL ++ [(x, y)])[k']? = some (p, q) → (k' < JL.length ∧ JL[k']? = some (p, q)) ∨ (k' = JL.length ∧ p = x ∧ q = y) := by
    intro k' p q e
    by_cases c : k' < JL.length
    · rw [List.getElem?_append_left c] at e
      exact Or.inl ⟨c, e⟩
    · have hk := (List.getElem?_eq_some_iff.mp e).1
      rw [List.length_append, List.length_singleton] at hk
      have c' : k' = JL.length := by omega
      subst c'
      rw [List.getElem?_append_right (Nat.le_refl _), Nat.sub_self] at e
      have e : some (x, y) = some (p, q) := e
      injection e with e
      injection e with e1 e2
      exact Or.inr ⟨rfl, e1.symm, e2.symm⟩
  have tfx : ∀ {z : Int} {t : pE}, cTm X m z t → cTm X (uJo U m JL.length x y) z t := fun h => cTm_fx hs uJo_fx h
  refine ⟨⟨c1.1.tr uJo_fx, c1.2.tr (uJo_kp hs)⟩, cBd_fx hs uJo_fx (uJo_o (fun q => n1.2.2.2.1 q.symm) (fun q => n2.2.2.1 q.symm) hn47.2.2.2.2.2.2) c2, c3, ⟨fun z z0 z1 => ?_, fun k' p q e => ?_⟩, fun p q h => ?_, l2, ?_, fun k' p q e => ?_, c9, nb, ?_, c11⟩
  · rw [rj]
    by_cases q : z = x
    · rw [if_pos q]
      exact Or.inr ⟨gy.2.2, (mem _ _).mpr (Or.inr ⟨q, rfl⟩)⟩
    · rw [if_neg q]
      rcases c4.1 z z0 z1 with h | h
      · refine Or.inl ⟨h.1, fun w hw => ?_⟩
        rcases (mem _ _).mp hw with hw | hw
        · exact h.2 w hw
        · exact q hw.1
      · exact Or.inr ⟨h.1, (mem _ _).mpr (Or.inl h.2)⟩
  · rcases idx k' p q e with ⟨hk, e1⟩ | ⟨hk, rfl, rfl⟩
    · obtain ⟨d1, d2, d3, ⟨t1, a1, a2, a3⟩, t2, b1, b2, b3⟩ := c4.2 k' p q e1
      refine ⟨d1, fun k2 q2 e2 => ?_, fun k2 q2 e2 => ?_, ⟨t1, tfx a1, a2, a3⟩, t2, tfx b1, b2, b3⟩
      · rcases idx k2 p q2 e2 with ⟨hk2, e2⟩ | ⟨hk2, rfl, rfl⟩
        · exact d2 k2 q2 e2
        · exact absurd (List.mem_of_getElem? e1) (hx q)
      · rcases idx k2 q q2 e2 with ⟨hk2, e2⟩ | ⟨hk2, -, -⟩
        · exact d3 k2 q2 e2
        · omega
    · refine ⟨⟨gx.1, gx.2.1⟩, fun k2 q2 e2 => ?_, fun k2 q2 e2 => ?_, ⟨_, tfx tx, nv a, dx⟩, _, tfx ty, nv b, dy⟩
      · rcases idx k2 p q2 e2 with ⟨hk2, e2⟩ | ⟨hk2, -, -⟩
        · exact absurd (List.mem_of_getElem? e2) (hx q2)
        · omega
      · rcases idx k2 q q2 e2 with ⟨hk2, e2⟩ | ⟨hk2, h1, -⟩
        · exact absurd (List.mem_of_getElem? e2) (hy q2)
        · exact absurd h1.symm hne
  · rcases (mem _ _).mp h with h | ⟨rfl, rfl⟩
    · exact c5 p q h
    · exact ⟨k, a, b, tx0, ty0, hN, h0⟩
  · unfold uJo
    rw [hy_us, List.length_append, List.length_singleton]
    omega
  · unfold uJo
    rw [hy_ua hn47.2.1]
    rcases idx k' p q e with ⟨hk, e⟩ | ⟨hk, rfl, rfl⟩
    · rw [hy_uk (by omega), hy_ua (fun q => n1.1 q.symm)]
      exact c8 k' p q e
    · rw [hk, hy_us]
  · exact cTr_k (by rw [uJo_o (fun q => hn41.1 q.symm) (fun q => hn41.2.1 q.symm) (by decide)]) (uJo_o (fun q => n1.2.2.1 q.symm) (fun q => n2.2.1 q.symm) hn47.2.2.2.2.2.1) (uJo_o (fun q => n1.2.2.2.1 q.symm) (fun q => n2.2.2.1 q.symm) hn47.2.2.2.2.2.2) c10
end CJP
