/-! THE CLASS'S READER: its state -/
def qb (q : Bool) : Int := if q = true then 1 else 0
/-- a set of variables -/
def mK (x : Int) (o : Nat → Nat) : Prop := ∃ k : Nat, x = k ∧ k < 256 ∧ ∀ v, v < 8 → (k.testBit v = true ↔ 0 < o v)
def cV (m : hy_m) (vs : List Int) : Prop := m 4 10 = vs.length ∧ vs.length ≤ 8 ∧ ∀ i (hi : i < vs.length), m 9 (i : Int) = nC vs[i] ∧ wOK vs[i]
/-- what was read, with a goal or the head (at node y0) under way: its variables oc -/
def cL (m : hy_m) (qy : Bool) (vs : List Int) (hd : Option pE) (gs : List pE) (u d : Nat) (K : List (pE × Int)) (y0 : Int) (oc : Nat → Nat) : Prop :=
  m 4 15 = qb qy ∧ m 4 4 = u ∧ m 4 14 = d ∧ cV m vs ∧ (∀ i (hi : i < gs.length), (gs[i], m 8 (i : Int)) ∈ K) ∧
  ((!qy && hd.isNone) = true → m 4 5 = y0 ∧ m 4 7 = 0 ∧ gs = []) ∧
  ((!qy && hd.isNone) = false → (∀ h, hd = some h → (h, m 4 5) ∈ K) ∧ (hd = none → m 4 5 = -9) ∧ m 4 7 = (gs.length : Int) + 1 ∧ m 8 (gs.length : Int) = y0 ∧ gs.length ≤ 4 ∧ mK (m 11 (gs.length : Int)) oc) ∧
  (∀ v : Nat, v < vs.length → m 10 (v : Int) = ((oH hd v + oL gs v + oc v : Nat) : Int)) ∧ (∀ v, vs.length ≤ v → oH hd v + oL gs v + oc v = 0) ∧ (∀ i (hi : i < gs.length), mK (m 11 (i : Int)) (oE gs[i])) ∧ gs.length ≤ 5
/-- what was read, with nothing under way -/
def cDn (m : hy_m) (c : Nat) (K : List (pE × Int)) (hd : Option pE) (gs : List pE) (nv : Nat) : Prop :=
  (∀ i : Int, 0 ≤ i → i < 8 → m 5 i = 1) ∧ m 4 4 = c ∧ 8 ≤ c ∧ (∀ q ∈ K, cT m (cA c []) q.1 q.2) ∧ m 4 7 = gs.length ∧ gs.length ≤ 5 ∧ m 4 10 = nv ∧ nv ≤ 8 ∧ (∀ h, hd = some h → (h, m 4 5) ∈ K) ∧ (hd = none → m 4 5 = -9) ∧ (∀ i (hi : i < gs.length), (gs[i], m 8 (i : Int)) ∈ K) ∧
  (∀ v : Nat, v < nv → m 10 (v : Int) = ((oH hd v + oL gs v : Nat) : Int)) ∧ (∀ v, nv ≤ v → oH hd v + oL gs v = 0) ∧ (∀ i (hi : i < gs.length), mK (m 11 (i : Int)) (oE gs[i]))
def cSt (m : hy_m) (qy : Bool) (s : pS) : Prop := match s with
  | (md, vs, hd, gs, t, nm, stk, p) => m 4 16 = md ∧ stk.length ≤ p ∧ (∀ v, oH hd v + oL gs v + (if md = 3 then oE t v else 0) + oF stk v ≤ p) ∧
    ((md = 0 ∧ m 4 17 = -9 ∧ stk = [] ∧ ∃ c K, cDn m c K hd gs vs.length ∧ cV m vs ∧ m 4 15 = qb qy ∧ m 4 14 = 0 ∧ gs.length ≤ 4 ∧ ((!qy && hd.isNone) = true → gs = []) ∧ c ≤ 8 + p) ∨
    ((md = 1 ∨ md = 2) ∧ m 4 17 = -9 ∧ stk ≠ [] ∧ ∃ c css K y0, cN m y0 stk css none c K ∧ cL m qy vs hd gs c stk.length K y0 (oF stk) ∧ c + (if md = 2 then 1 else 0) ≤ 8 + p) ∨
    (md = 3 ∧ nm = false ∧ m 4 17 = -9 ∧ ∃ c css K y0 n, cN m y0 stk css (some n) c K ∧ cT m (cA c css.flatten) t n ∧ cL m qy vs hd gs c stk.length K y0 (fun v => oE t v + oF stk v) ∧ c ≤ 8 + p) ∨
    (md = 3 ∧ nm = true ∧ ∃ (c : Nat) (css : List (List Int)) (K : List (pE × Int)) (y0 k : Int), t = eA k ∧ nmOK k ∧ m 4 17 = c ∧ cN m y0 stk css (some (c : Int)) c K ∧ m 6 (c : Int) = kC k 0 ∧ m 5 (c : Int) = 3 ∧ cL m qy vs hd gs (c + 1) stk.length K y0 (oF stk) ∧ c + 1 ≤ 8 + p))
/-- rows of the reader -/
def cFm (m m' : hy_m) : Prop := ∀ (a : Nat) (e : Int), ¬ (5 ≤ a ∧ a ≤ 13 ∨ a = 4 ∧ (e = 4 ∨ e = 5 ∨ e = 7 ∨ e = 10 ∨ 14 ≤ e ∧ e ≤ 17)) → m' a e = m a e
theorem hy_uf {m : hy_m} {a b : Nat} {e v j : Int} (h : ¬ (b = a ∧ j = e)) : hy_u m a e v b j = m b j := if_neg h
/-- behind one part -/
def aO (m m' : hy_m) (tx : List Int) (qy : Bool) (s : pS) (p : Nat) (r : Int) : Prop := cFm m m' ∧ m' 4 15 = m 4 15 ∧
  ((r = 1 ∧ ∃ s', pSt tx qy s = .inl s' ∧ cSt m' qy s') ∨ (r = 0 ∧ pSt tx qy s = .inr (.inl p) ∧ ∀ i : Int, 0 ≤ i → i < 8 → m' 5 i = m 5 i) ∨ (r = 1 ∧ m' 4 16 = 4 ∧ ∃ hd gs nv c K, pSt tx qy s = .inr (.inr (hd, gs, nv, pnx tx p)) ∧ cDn m' c K hd gs nv ∧ c ≤ 8 + p))
/-- the present part -/
def cCu (m : hy_m) (tx : List Int) (p : Nat) : Prop := p ≤ tx.length ∧ m 2 3 = p ∧ m 2 2 = pK (pk1 tx p) ∧ m 2 5 = ((p + (tk (tx.drop p)).2 : Nat) : Int) ∧ (pk1 tx p = 1 ∨ pk1 tx p = 2 → m 2 4 = nC (pwd tx p)) ∧ (pk1 tx p = 3 → m 2 4 = pin tx p)
section CD
variable {m m' : hy_m} {tx : List Int} {Q : Int → hy_m → Prop} {qy : Bool} {vs : List Int} {hd : Option pE} {gs : List pE} {u d c p : Nat} {K : List (pE × Int)} {y0 : Int} {oc : Nat → Nat} {stk : List pF} {css : List (List Int)}
theorem pK_iff {tx : List Int} {p : Nat} : (pK (pk1 tx p) = 1 ↔ pk1 tx p = 1) ∧ (pK (pk1 tx p) = 2 ↔ pk1 tx p = 2) ∧ (pK (pk1 tx p) = 3 ↔ pk1 tx p = 3) ∧ (pK (pk1 tx p) = 91 ↔ pk1 tx p = 8) ∧ (pK (pk1 tx p) = 93 ↔ pk1 tx p = 9) ∧ (pK (pk1 tx p) = 40 ↔ pk1 tx p = 6) ∧ (pK (pk1 tx p) = 41 ↔ pk1 tx p = 7) ∧ (pK (pk1 tx p) = 44 ↔ pk1 tx p = 5) ∧ (pK (pk1 tx p) = 46 ↔ pk1 tx p = 4) ∧ (pK (pk1 tx p) = 124 ↔ pk1 tx p = 10) ∧ (pK (pk1 tx p) = 4 ↔ pk1 tx p = 11) ∧ (pK (pk1 tx p) = 0 ↔ pk1 tx p = 0) := by
  have hr : 0 ≤ pk1 tx p ∧ pk1 tx p ≤ 12 := by
    unfold pk1
    cases tx.drop p with
    | nil => decide
    | cons c r =>
      unfold tk
      dsimp only
      unfold sgn
      repeat' split
      all_goals (dsimp only; omega)
  generalize pk1 tx p = k at hr
  unfold pK
  have : k = 0 ∨ k = 1 ∨ k = 2 ∨ k = 3 ∨ k = 4 ∨ k = 5 ∨ k = 6 ∨ k = 7 ∨ k = 8 ∨ k = 9 ∨ k = 10 ∨ k = 11 ∨ k = 12 := by omega
  rcases this with rfl | rfl | rfl | rfl | rfl | rfl | rfl | rfl | rfl | rfl | rfl | rfl | rfl <;> decide
theorem cL_fr (h : cL m qy vs hd gs u d K y0 oc) (hf : ∀ (a : Nat) (e : Int), (a = 4 ∧ (e = 4 ∨ e = 5 ∨ e = 7 ∨ e = 10 ∨ e = 14 ∨ e = 15)) ∨ a = 8 ∨ a = 9 ∨ a = 10 ∨ a = 11 → m' a e = m a e) : cL m' qy vs hd gs u d K y0 oc := by
  obtain ⟨h1, h2, h3, h4, h5, h6, h7, h8, h9, h10, h11⟩ := h
  have e5 : m' 4 5 = m 4 5 := hf _ _ (by omega)
  have e7 : m' 4 7 = m 4 7 := hf _ _ (by omega)
  have e8 : ∀ e, m' 8 e = m 8 e := fun e => hf _ _ (by omega)
  have e11 : ∀ e, m' 11 e = m 11 e := fun e => hf _ _ (by omega)
  refine ⟨by rw [hf _ _ (by omega)]; exact h1, by rw [hf _ _ (by omega)]; exact h2, by rw [hf _ _ (by omega)]; exact h3, ⟨by rw [hf _ _ (by omega)]; exact h4.1, h4.2.1, fun i hi => by rw [hf _ _ (by omega)]; exact h4.2.2 i hi⟩, fun i hi => by rw [e8]; exact h5 i hi, by rw [e5, e7]; exact h6, by rw [e5, e7, e8, e11]; exact h7, fun v hv => by rw [hf _ _ (by omega)]; exact h8 v hv, h9, fun i hi => by rw [e11]; exact h10 i hi, h11⟩
theorem cL_u {u' d' : Nat} (h : cL m qy vs hd gs u d K y0 oc) (hf : ∀ (a : Nat) (e : Int), (a = 4 ∧ (e = 5 ∨ e = 7 ∨ e = 10 ∨ e = 15)) ∨ a = 8 ∨ a = 9 ∨ a = 10 ∨ a = 11 → m' a e = m a e) (hu : m' 4 4 = u') (hd' : m' 4 14 = d') : cL m' qy vs hd gs u' d' K y0 oc := by
  obtain ⟨h1, h2, h3, h4, h5, h6, h7, h8, h9, h10, h11⟩ := h
  have e5 : m' 4 5 = m 4 5 := hf _ _ (by omega)
  have e7 : m' 4 7 = m 4 7 := hf _ _ (by omega)
  have e8 : ∀ e, m' 8 e = m 8 e := fun e => hf _ _ (by omega)
  have e11 : ∀ e, m' 11 e = m 11 e := fun e => hf _ _ (by omega)
  refine ⟨by rw [hf _ _ (by omega)]; exact h1, hu, hd', ⟨by rw [hf _ _ (by omega)]; exact h4.1, h4.2.1, fun i hi => by rw [hf _ _ (by omega)]; exact h4.2.2 i hi⟩, fun i hi => by rw [e8]; exact h5 i hi, by rw [e5, e7]; exact h6, by rw [e5, e7, e8, e11]; exact h7, fun v hv => by rw [hf _ _ (by omega)]; exact h8 v hv, h9, fun i hi => by rw [e11]; exact h10 i hi, h11⟩
theorem mK_or {x : Int} {o : Nat → Nat} {i : Nat} (h : mK x o) (hi : i < 8) : mK (iO x (iSl 1 (i : Int))) (fun v => (if i = v then 1 else 0) + o v) := by
  obtain ⟨k, rfl, h2, h3⟩ := h
  have hp : 2 ^ i < 256 := Nat.pow_lt_pow_right (by decide) hi
  have e1 : iSl 1 (i : Int) = ((2 ^ i : Nat) : Int) := by
    have := iSl_n (a := 1) (k := i) (by omega) (by omega)
    rw [Nat.one_mul] at this
    exact this
  rw [e1, iO_n (by omega) (by omega)]
  refine ⟨k ||| 2 ^ i, rfl, Nat.or_lt_two_pow (n := 8) h2 hp, fun v hv => ?_⟩
  rw [Nat.testBit_or, Nat.testBit_two_pow, Bool.or_eq_true, h3 v hv, decide_eq_true_eq]
  dsimp only
  by_cases e : i = v
  · rw [if_pos e]
    exact ⟨fun _ => by omega, fun _ => Or.inr e⟩
  · rw [if_neg e]
    exact ⟨fun q => by omega, fun q => Or.inl (by omega)⟩
/-- the text of a variable's name -/
theorem sp_83 {w : Int} (h : cL m qy vs hd gs u d K y0 oc) (hw : wOK w) (hub : ∀ v, oH hd v + oL gs v + oc v ≤ 1000) (h1 : ∀ i m', lix vs w = some i → i < 8 → cL m' qy vs hd gs u d K y0 (fun v => (if i = v then 1 else 0) + oc v) → (∀ (a : Nat) (e : Int), ¬ (a = 4 ∧ e = 10) → a ≠ 9 → a ≠ 10 → a ≠ 11 → m' a e = m a e) → Q (i : Int) m') (h2 : ∀ m', lix vs w = none → vs.length < 8 → cL m' qy (vs ++ [w]) hd gs u d K y0 (fun v => (if vs.length = v then 1 else 0) + oc v) → (∀ (a : Nat) (e : Int), ¬ (a = 4 ∧ e = 10) → a ≠ 9 → a ≠ 10 → a ≠ 11 → m' a e = m a e) → Q (vs.length : Int) m') (h3 : lix vs w = none → ¬ vs.length < 8 → Q (-9) m) : wq_83 (nC w) m Q := by
  obtain ⟨l1, l2, l3, l4, l5, l6, l7, l8, l9, l10, l11⟩ := h
  obtain ⟨v1, v2, v3⟩ := l4
  have h47 : 0 ≤ m 4 7 ∧ m 4 7 ≤ 5 ∧ (m 4 7 ≤ 0 ↔ (!qy && hd.isNone) = true) ∧ ((!qy && hd.isNone) = false → m 4 7 - 1 = (gs.length : Int)) := by
    cases hh : (!qy && hd.isNone) with
    | true =>
      have := (l6 hh).2.1
      refine ⟨by omega, by omega, ⟨fun _ => rfl, fun _ => by omega⟩, fun q => by cases q⟩
    | false =>
      have g := l7 hh
      refine ⟨by omega, by omega, ⟨fun q => by omega, fun q => by cases q⟩, fun _ => by omega⟩
  have fin : ∀ (i : Nat) (vs' : List Int) (m1 : hy_m), i < 8 → vs'.length ≤ 8 → (∀ v, vs'.length ≤ v → oH hd v + oL gs v + ((if i = v then 1 else 0) + oc v) = 0) → cV m1 vs' → (∀ (a : Nat) (e : Int), ¬ (a = 4 ∧ e = 10) → a ≠ 9 → ¬ (a = 10 ∧ e = i) → m1 a e = m a e) → m1 10 (i : Int) = ((oH hd i + oL gs i + oc i : Nat) : Int) → (∀ v : Nat, v < vs'.length → v ≠ i → v < vs.length) → (∀ m', cL m' qy vs' hd gs u d K y0 (fun v => (if i = v then 1 else 0) + oc v) → (∀ (a : Nat) (e : Int), ¬ (a = 4 ∧ e = 10) → a ≠ 9 → a ≠ 10 → a ≠ 11 → m' a e = m a e) → Q (i : Int) m') → wq_83_68 (i : Int) m1 Q := by
    intro i vs' m1 hi hl hz hV hf h10 hvs hQ
    have hubi := hub i
    unfold wq_83_68
    have f47 : m1 4 7 = m 4 7 := hf _ _ (by omega) (by omega) (by omega)
    have f11 : ∀ e, m1 11 e = m 11 e := fun e => hf _ _ (by omega) (by omega) (by omega)
    rw [h10, f47, f11]
    have u10 : ∀ M : hy_m, (∀ e : Int, M 10 e = hy_u m1 10 (i : Int) (((oH hd i + oL gs i + oc i : Nat) : Int) + 1) 10 e) → ∀ v : Nat, v < vs'.length → M 10 (v : Int) = ((oH hd v + oL gs v + ((if i = v then 1 else 0) + oc v) : Nat) : Int) := by
      intro M hM v hv
      rw [hM]
      by_cases e : i = v
      · subst e
        rw [hy_us, if_pos rfl]
        omega
      · rw [hy_uk (by omega), if_neg e, hf _ _ (by omega) (by omega) (by omega), l8 v (hvs v hv (fun q => e q.symm))]
        omega
    refine ⟨by omega, by omega, by omega, by omega, show -2147483648 ≤ _ ∧ _ < 2147483648 by omega, fun hle => ?_, fun hgt => ⟨by omega, by omega, by omega, by omega, ?_⟩⟩
    · have hh := h47.2.2.1.mp hle
      have g := l6 hh
      refine hQ _ ⟨?_, ?_, ?_, ?_, fun j hj => ?_, fun _ => ⟨?_, ?_, g.2.2⟩, (fun q => by rw [hh] at q; cases q), u10 _ (fun e => rfl), hz, fun j hj => ?_, l11⟩ (fun a e q1 q2 q3 q4 => ?_)
      · rw [hy_ua (by decide), hf _ _ (by omega) (by omega) (by omega)]; exact l1
      · rw [hy_ua (by decide), hf _ _ (by omega) (by omega) (by omega)]; exact l2
      · rw [hy_ua (by decide), hf _ _ (by omega) (by omega) (by omega)]; exact l3
      · exact ⟨by rw [hy_ua (by decide)]; exact hV.1, hV.2.1, fun j hj => by rw [hy_ua (by decide)]; exact hV.2.2 j hj⟩
      · rw [hy_ua (by decide), hf _ _ (by omega) (by omega) (by omega)]; exact l5 j hj
      · rw [hy_ua (by decide), hf _ _ (by omega) (by omega) (by omega)]; exact g.1
      · rw [hy_ua (by decide), hf _ _ (by omega) (by omega) (by omega)]; exact g.2.1
      · rw [hy_ua (by decide), f11]; exact l10 j hj
      · rw [hy_ua (by omega), hf _ _ q1 q2 (by omega)]
    · have hh : (!qy && hd.isNone) = false := by
        cases q : (!qy && hd.isNone) with
        | true => exact absurd (h47.2.2.1.mpr q) (by omega)
        | false => rfl
      have g := l7 hh
      rw [h47.2.2.2 hh]
      have hr : ∀ (a : Nat) (e : Int), ¬ (a = 4 ∧ e = 10) → a ≠ 9 → a ≠ 10 → ¬ (a = 11 ∧ e = gs.length) → hy_u (hy_u m1 10 (i : Int) (((oH hd i + oL gs i + oc i : Nat) : Int) + 1)) 11 (gs.length : Int) (iO (m 11 (gs.length : Int)) (iSl 1 (i : Int))) a e = m a e := by
        intro a e q1 q2 q3 q4
        unfold hy_u
        rw [if_neg q4, if_neg (fun z => q3 z.1), hf _ _ q1 q2 (by omega)]
      refine hQ _ ⟨?_, ?_, ?_, ?_, fun j hj => ?_, (fun q => by rw [hh] at q; cases q), fun _ => ⟨?_, ?_, ?_, ?_, g.2.2.2.2.1, ?_⟩, u10 _ (fun e => hy_ua (by decide)), hz, fun j hj => ?_, l11⟩ (fun a e q1 q2 q3 q4 => hr a e q1 q2 q3 (by omega))
      · rw [hr _ _ (by omega) (by omega) (by omega) (by omega)]; exact l1
      · rw [hr _ _ (by omega) (by omega) (by omega) (by omega)]; exact l2
      · rw [hr _ _ (by omega) (by omega) (by omega) (by omega)]; exact l3
      · exact ⟨by rw [hy_ua (by decide), hy_ua (by decide)]; exact hV.1, hV.2.1, fun j hj => by rw [hy_ua (by decide), hy_ua (by decide)]; exact hV.2.2 j hj⟩
      · rw [hr _ _ (by omega) (by omega) (by omega) (by omega)]; exact l5 j hj
      · rw [hr _ _ (by omega) (by omega) (by omega) (by omega)]; exact g.1
      · rw [hr _ _ (by omega) (by omega) (by omega) (by omega)]; exact g.2.1
      · rw [hr _ _ (by omega) (by omega) (by omega) (by omega)]; exact g.2.2.1
      · rw [hr _ _ (by omega) (by omega) (by omega) (by omega)]; exact g.2.2.2.1
      · rw [hy_us]
        exact mK_or g.2.2.2.2.2 hi
      · rw [hr _ _ (by omega) (by omega) (by omega) (by omega)]; exact l10 j hj
  unfold wq_83 wq_83_2
  refine wL1_rule (Nat.lt_wfRel.wf) (fun x m' => ∃ k : Nat, k ≤ vs.length ∧ x = (k : Int) ∧ m' = m ∧ ∀ i (hi : i < vs.length), i < k → vs[i] ≠ w) (fun x _ => 20 - x.toNat) ?_ ⟨0, Nat.zero_le _, rfl, rfl, fun i _ hi => absurd hi (Nat.not_lt_zero _)⟩
  rintro P x m' ⟨k, hk, rfl, rfl, hne⟩ hP
  unfold wf_83_2
  rw [v1]
  refine ⟨fun hle => ?_, fun hlt => ⟨by omega, by omega, fun heq => ?_, fun hn => ⟨show -2147483648 ≤ _ ∧ _ < 2147483648 by omega, hP _ _ ⟨k + 1, by omega, by omega, rfl, fun i hi hik => ?_⟩ ?_⟩⟩⟩
  · have hkl : k = vs.length := by omega
    subst hkl
    have hnone := lix_none vs w (fun i hi => hne i hi hi)
    unfold wq_83_27
    rw [v1]
    refine ⟨fun h8 => ⟨fun q => absurd rfl q, fun _ => ⟨by omega, by omega, by omega, by omega, show -2147483648 ≤ _ ∧ _ < 2147483648 by omega, ?_⟩⟩, fun h8 => h3 hnone (by omega)⟩
    have hr : ∀ (a : Nat) (e : Int), ¬ (a = 4 ∧ e = 10) → ¬ (a = 9 ∧ e = vs.length) → ¬ (a = 10 ∧ e = vs.length) → hy_u (hy_u (hy_u m' 9 (vs.length : Int) (nC w)) 10 (vs.length : Int) 0) 4 10 ((vs.length : Int) + 1) a e = m' a e := by
      intro a e q1 q2 q3
      unfold hy_u
      rw [if_neg q1, if_neg q3, if_neg q2]
    have z0 := l9 vs.length (Nat.le_refl _)
    refine fin vs.length (vs ++ [w]) _ (by omega) (by simp; omega) (fun v hv => ?_) ⟨?_, by simp; omega, fun i hi => ?_⟩ (fun a e q1 q2 q3 => hr a e q1 (by omega) q3) ?_ (fun v hv hv2 => by simp at hv; omega) (fun M hM hM2 => h2 M hnone (by omega) hM hM2)
    · have hv : vs.length + 1 ≤ v := by simpa using hv
      rw [if_neg (by omega)]
      have := l9 v (by omega)
      omega
    · rw [hy_us]; simp
    · by_cases e : i = vs.length
      · subst e
        rw [hy_ua (by decide), hy_ua (by decide), hy_us]
        simp [hw]
      · have hi' : i < vs.length := by simp at hi; omega
        rw [hr _ _ (by omega) (by omega) (by omega), List.getElem_append_left hi']
        exact v3 i hi'
    · rw [hy_ua (by decide), hy_us]
      omega
  · have hkl : k < vs.length := by omega
    rw [(v3 k hkl).1] at heq
    have heq := nC_inj (Or.inr (Or.inr (v3 k hkl).2)) (Or.inr (Or.inr hw)) heq
    have hsome := lix_some vs w k hne hkl heq
    unfold wq_83_27
    rw [v1]
    refine ⟨fun _ => ⟨fun _ => ?_, fun q => by omega⟩, fun q => by omega⟩
    refine fin k vs _ (by omega) v2 (fun v hv => ?_) ⟨v1, v2, v3⟩ (fun a e _ _ _ => rfl) (l8 k hkl) (fun v hv _ => hv) (fun M hM hM2 => h1 k M hsome (by omega) hM hM2)
    rw [if_neg (by omega)]
    have := l9 v hv
    omega
  · have hkl : k < vs.length := by omega
    rw [(v3 k hkl).1] at hn
    by_cases e : i = k
    · subst e
      exact fun q => hn (by rw [q])
    · exact hne i hi (by omega)
  · show 20 - _ < 20 - _
    omega
end CD
