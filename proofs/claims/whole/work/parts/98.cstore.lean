/-! TERMS AND BINDINGS OF THE CLASS -/
/-- cells of instances (clause, number of nodes, kinds, keys, arguments); how many variables; the first of them; which are alive; the rows of clauses and of bindings; room -/
abbrev cX : Type := (Nat → Nat × Nat × Nat × Nat × Nat) × (Nat → Nat) × (Nat → Nat) × (Nat → Prop × (Nat → Prop)) × Nat × Nat × Nat × Nat
def xA (X : cX) (i : Nat) : Nat := (X.1 i).1
def xC (X : cX) (i : Nat) : Nat := (X.1 i).2.1
def xK0 (X : cX) (i : Nat) : Nat := (X.1 i).2.2.1
def xK1 (X : cX) (i : Nat) : Nat := (X.1 i).2.2.2.1
def xK2 (X : cX) (i : Nat) : Nat := (X.1 i).2.2.2.2
def xV (X : cX) (i : Nat) : Nat := X.2.1 i
def xP (X : cX) (i : Nat) : Nat := X.2.2.1 i
def xL (X : cX) (i : Nat) : Prop := (X.2.2.2.1 i).1
/-- nodes of an instance's terms -/
def xG (X : cX) (i n : Nat) : Prop := (X.2.2.2.1 i).2 n
def xc1 (X : cX) : Nat := X.2.2.2.2.1
def xb4 (X : cX) : Nat := X.2.2.2.2.2.1
def xcap (X : cX) : Nat := X.2.2.2.2.2.2.1
/-- computed integers: from here on they are not in use -/
def xN (X : cX) : Nat := X.2.2.2.2.2.2.2
def cW (X : cX) (T : hy_T) (m : hy_m) : Prop := m 41 1 = xc1 X ∧ T.1 (xc1 X) = some (113, xcap X) ∧ xcap X ≤ 302 ∧ m 41 4 = xb4 X ∧ T.1 (xb4 X) = some (100, 8 * xcap X) ∧ ∀ i, xL X i → i < xcap X ∧ m (xc1 X) (i : Int) = xA X i ∧ cK T m (xA X i) (xC X i) (xK0 X i) (xK1 X i) (xK2 X i) ∧ xV X i ≤ 8 ∧ xP X i + xV X i ≤ 2500 ∧ ∀ n z j : Nat, xG X i n → m (xK0 X i) (n : Int) = 4 → (j : Int) < m (xK1 X i) (n : Int) % 4 → m (xK2 X i) (3 * (n : Int) + (j : Int)) = z → xG X i z
def cTm (X : cX) (m : hy_m) (x : Int) (t : pE) : Prop := (∃ j : Nat, (j < 301 ∧ j < xN X) ∧ x = -2 - (j : Int) ∧ t = .num (m 46 (j : Int)) ∧ hy_r 0 (m 46 (j : Int))) ∨ (∃ (i n : Nat) (u : pE), xL X i ∧ x = 128 * (i : Int) + (n : Int) ∧ (n < 128 ∧ xG X i n) ∧ cQ m (xC X i) (xK0 X i) (xK1 X i) (xK2 X i) u (n : Int) ∧ eK (xV X i) u false ∧ t = rn (xP X i) u)
/-- the variables -/
def cDm (X : cX) (v : Nat) : Prop := ∃ i n, xL X i ∧ n < xV X i ∧ v = xP X i + n
/-- later instances have later variables -/
def cOr (X : cX) : Prop := ∀ i j, xL X i → xL X j → i < j → xP X i + xV X i ≤ xP X j
def cBd (X : cX) (m : hy_m) (B : bM) : Prop := (∀ i n, xL X i → n < xV X i → (B (xP X i + n) = none ∧ m (xb4 X) (8 * (i : Int) + (n : Int)) = -1) ∨ ∃ t, B (xP X i + n) = some t ∧ m (xb4 X) (8 * (i : Int) + (n : Int)) ≠ -1 ∧ cTm X m (m (xb4 X) (8 * (i : Int) + (n : Int))) t ∧ ∀ w, vIn w t → cDm X w) ∧ ∀ v, ¬ cDm X v → B v = none
theorem and_128 {x : Nat} (h : x < 2 ^ 31) : iA (x : Int) (-128) = ((128 * (x / 128) : Nat) : Int) := by
  have e : (iI (x : Int) &&& iI (-128)).toBitVec.toNat = 128 * (x / 128) := by
    rw [Int32.toBitVec_and, BitVec.toNat_and, iI_bn, Nat.mod_eq_of_lt (by omega)]
    have c : (iI (-128)).toBitVec.toNat = 4294967168 := by decide
    rw [c, and_sp 7]
    show (x % 128 &&& 4294967168 % 128) + 128 * (x / 128 &&& 4294967168 / 128) = _
    rw [show 4294967168 % 128 = 0 from rfl, Nat.and_zero, show (4294967168 : Nat) / 128 = 2 ^ 25 - 1 from rfl, Nat.and_two_pow_sub_one_eq_mod, Nat.mod_eq_of_lt (by omega), Nat.zero_add]
  unfold iA
  exact iT_n e (by omega)
theorem r128 {i n : Nat} (hi : i < 302) (hn : n < 128) : iA (128 * (i : Int) + (n : Int)) 127 = n ∧ iSr (128 * (i : Int) + (n : Int)) 7 = i ∧ iA (128 * (i : Int) + (n : Int)) (-128) = 128 * (i : Int) := by
  refine ⟨?_, ?_, ?_⟩
  · have := iA_m (128 * (i : Int) + (n : Int)) (k := 7) (by decide)
    rw [show ((2 ^ 7 - 1 : Nat) : Int) = 127 from rfl, show ((2 ^ 7 : Nat) : Int) = 128 from rfl] at this
    rw [this]
    omega
  · have := iSr_n (x := 128 * (i : Int) + (n : Int)) (k := 7) (show -2147483648 ≤ _ ∧ _ < 2147483648 by omega) (by decide)
    rw [show ((2 ^ 7 : Nat) : Int) = 128 from rfl] at this
    have e : iSr (128 * (i : Int) + (n : Int)) 7 = iSr (128 * (i : Int) + (n : Int)) ((7 : Nat) : Int) := rfl
    rw [e, this]
    omega
  · have := and_128 (x := 128 * i + n) (by omega)
    rw [show ((128 * i + n : Nat) : Int) = 128 * (i : Int) + (n : Int) by omega] at this
    rw [this]
    omega
section CST
variable {X : cX} {T : hy_T} {m m' : hy_m} {Q : Int → hy_m → Prop} {x : Int} {t : pE} {B : bM} {s : Nat → pE}
theorem sp_127 {i : Nat} (h : cW X T m) (hi : xL X i) (hq : Q (xA X i : Int) m) : wq_127 (i : Int) T m Q := by
  obtain ⟨h1, h2, h3, h4, h5, h6⟩ := h
  obtain ⟨g1, g2, g3, g4, g5⟩ := h6 i hi
  unfold wq_127
  rw [h1, Int.toNat_natCast]
  refine ⟨fun q => by omega, fun _ => ⟨113, _, h2, by omega, fun q => by omega, fun q => ⟨113, _, h2, by omega, by omega, q, ?_⟩⟩⟩
  rw [g2]
  exact hq
theorem sp_129 (h : cW X T m) (hx : cTm X m x t) (hq : Q (eKd t) m) : wq_129 x T m Q := by
  unfold wq_129
  rcases hx with ⟨j, hj, rfl, rfl, hr⟩ | ⟨i, n, u, hi, rfl, hn, hu, hk, rfl⟩
  · exact ⟨fun q => by omega, fun _ => hq⟩
  · obtain ⟨g1, g2, g3, g4, g5⟩ := h.2.2.2.2.2 i hi
    have hc := h.2.2.1
    obtain ⟨e1, e2, -⟩ := r128 (i := i) (n := n) (by omega) hn.1
    rw [e1, e2]
    refine ⟨fun _ => sp_127 h hi ⟨?_, sp_40 g3 ?_⟩, fun q => by omega⟩
    · rw [Int.toNat_natCast]
      exact g3.1
    · obtain ⟨q1, q2⟩ := cQ_kd hu
      rw [if_pos q1, q2, ← eKd_rn (xP X i) u _ hk]
      exact hq
/-- the value of an integer, the key of a name -/
theorem sp_130 (h : cW X T m) (hx : cTm X m x t) (hq : ∀ z : Int, (∀ v, t = .num v → z = v) → (∀ k b, t = .mulL k b → z = kC k (eN b) ∧ nmOK k ∧ eN b ≤ 3) → Q z m) : wq_130 x T m Q := by
  unfold wq_130
  rcases hx with ⟨j, hj, rfl, rfl, hr⟩ | ⟨i, n, u, hi, rfl, hn, hu, hk, rfl⟩
  · refine ⟨fun q => by omega, fun _ => ?_⟩
    unfold wq_131
    rw [show (-2 : Int) - (-2 - (j : Int)) = (j : Int) by omega]
    refine ⟨show -2147483648 ≤ _ ∧ _ < 2147483648 by omega, fun q => by omega, fun _ => ⟨show -2147483648 ≤ _ ∧ _ < 2147483648 by omega, fun q => by omega, fun _ => ⟨by omega, by omega, hq _ (fun v e => ?_) (fun k b e => by cases e)⟩⟩⟩
    injection e
  · obtain ⟨g1, g2, g3, g4, g5⟩ := h.2.2.2.2.2 i hi
    have hc := h.2.2.1
    obtain ⟨e1, e2, -⟩ := r128 (i := i) (n := n) (by omega) hn.1
    rw [e1, e2]
    refine ⟨fun _ => sp_127 h hi ⟨?_, sp_41 g3 ?_⟩, fun q => by omega⟩
    · rw [Int.toNat_natCast]
      exact g3.1
    · obtain ⟨q1, q2⟩ := cQ_kd hu
      rw [if_pos q1]
      refine hq _ (fun v e => ?_) (fun k b e => ?_)
      · cases u with
        | num w =>
          have e : (.num w : pE) = .num v := e
          injection e with e
          subst e
          rcases hu with hu | hu
          · exact hu.2.2.2.2
          · exact absurd hu.1 (by decide)
        | var w => cases e
        | mulL k a => cases e
        | add a r => cases e
        | sub a r => cases e
        | neg a => cases e
        | mulR a k => cases e
      · cases u with
        | mulL k' a =>
          have e : (.mulL k' (sb (fun v => .var (xP X i + v)) a) : pE) = .mulL k b := e
          injection e with c1 c2
          subst c1
          subst c2
          rw [eN_sb _ a _ hk.2.2.2.2.2]
          exact ⟨hu.2.2.2.1, hk.2.1, hk.2.2.1⟩
        | var w => cases e
        | num w => cases e
        | add a r => cases e
        | sub a r => cases e
        | neg a => cases e
        | mulR a k => cases e
theorem cP_ar {kd ks ar : Int → Int} {A : Int → Prop} {n : Int} : ∀ (a : pE) (i j nv : Nat), cP kd ks ar A a (i : Int) n → eK nv a true → j < eN a → cP kd ks ar A (eAr a j) (-1) (ar (3 * n + ((i + j : Nat) : Int)))
  | .num _, _, _, _, _, _, hj => absurd hj (Nat.not_lt_zero _)
  | .add a r, i, 0, nv, h, _, _ => h.2.2.1
  | .add a r, i, j + 1, nv, h, hk, hj => by
    have h2 := h.2.2.2
    rw [show (i : Int) + 1 = ((i + 1 : Nat) : Int) by omega] at h2
    have := cP_ar r (i + 1) j nv h2 hk.2.2 (Nat.lt_of_succ_lt_succ hj)
    rw [show i + 1 + j = i + (j + 1) by omega] at this
    exact this
  | .var _, _, _, _, _, hk, _ => absurd hk.1 (by decide)
  | .mulL _ _, _, _, _, _, hk, _ => absurd hk.1 (by decide)
  | .sub _ _, _, _, _, _, hk, _ => hk.elim
  | .neg _, _, _, _, _, hk, _ => hk.elim
  | .mulR _ _, _, _, _, _, hk, _ => hk.elim
/-- argumentOf -/
theorem sp_132 {k : Int} {b : pE} {j : Nat} (h : cW X T m) (hx : cTm X m x (.mulL k b)) (hj : j < eN b) (hq : ∀ y, cTm X m y (eAr b j) → 0 ≤ y → Q y m) : wq_132 x (j : Int) T m Q := by
  unfold wq_132
  rcases hx with ⟨j, hj, rfl, e, hr⟩ | ⟨i, n, u, hi, rfl, hn, hu, hk, e⟩
  · cases e
  · obtain ⟨g1, g2, g3, g4, g5⟩ := h.2.2.2.2.2 i hi
    have hc := h.2.2.1
    obtain ⟨e1, e2, e3⟩ := r128 (i := i) (n := n) (by omega) hn.1
    cases u with
    | mulL k' a =>
      have e : (.mulL k b : pE) = .mulL k' (sb (fun v => .var (xP X i + v)) a) := e
      injection e with c1 c2
      subst c1
      subst c2
      have hka := hk.2.2.2.2.2
      rw [eN_sb _ a _ hka] at hj
      obtain ⟨q1, q2⟩ := eAr_sb (fun v => .var (xP X i + v)) a _ j hka hj
      have har := cP_ar a 0 j _ hu.2.2.2.2.2.2.2 hka hj
      rw [Nat.zero_add] at har
      have hA := cP_A har
      have h3 : eN a ≤ 3 := hk.2.2.1
      obtain ⟨z, hz⟩ := Int.eq_ofNat_of_zero_le hA.1
      have hc8 := g3.2.2.2.2.2.2.2
      have hz2 : z < 127 := by have := hA.2; omega
      rw [e1, e2, e3]
      refine sp_127 h hi ⟨by rw [Int.toNat_natCast]; exact g3.1, sp_42 g3 hu.2.1 (by omega) ?_⟩
      rw [hz]
      have eo : iO (128 * (i : Int)) (z : Int) = 128 * (i : Int) + (z : Int) := by
        have := iO_n (a := 128 * i) (b := z) (by omega) (by omega)
        rw [show ((128 * i : Nat) : Int) = 128 * (i : Int) by omega] at this
        rw [this, Nat.or_comm]
        have o := or_add (a := i) (b := z) (k := 7) (by omega)
        rw [show i * 2 ^ 7 = 128 * i by omega] at o
        rw [o]
        omega
      rw [eo]
      rw [q1] at hq
      have hG : xG X i z := g5.2 n z j hn.2 (by
        rw [show m (xK0 X i) (n : Int) = _ from hu.2.2.2.2.1, if_neg (by omega)]) (by
        rw [show m (xK1 X i) (n : Int) = kC k (eN a) from hu.2.2.2.1]
        unfold kC
        omega) hz
      refine hq _ (Or.inr ⟨i, z, eAr a j, hi, rfl, ⟨by omega, hG⟩, ?_, q2, rfl⟩) (by omega)
      rw [← hz]
      exact har
    | var v => cases e
    | num j => cases e
    | add a r => cases e
    | sub a r => cases e
    | neg a => cases e
    | mulR a k => cases e
/-- a ref of a variable -/
theorem cTm_v {w : Nat} (h : cTm X m x (.var w)) : ∃ i n : Nat, xL X i ∧ x = 128 * (i : Int) + (n : Int) ∧ n < 8 ∧ n < xV X i ∧ w = xP X i + n := by
  rcases h with ⟨j, hj, rfl, e, hr⟩ | ⟨i, n, u, hi, rfl, hn, hu, hk, e⟩
  · cases e
  · cases u with
    | var v =>
      have e : (.var w : pE) = .var (xP X i + v) := e
      injection e with e
      have hvn : @LT.lt Nat _ v (xV X i) := hk.2
      have e : w = xP X i + v := e
      have h8 : @LT.lt Nat _ v 8 := hu.2.2.2.1
      have hnv : (n : Int) = ((v : Nat) : Int) := hu.2.2.1
      have hnv : @Eq Nat n v := by omega
      subst hnv
      exact ⟨i, n, hi, rfl, h8, hvn, e⟩
    | num j => cases e
    | mulL k a => cases e
    | add a r => cases e
    | sub a r => cases e
    | neg a => cases e
    | mulR a k => cases e
theorem cTm_n (h : cTm X m x t) (hn : ∀ w : Nat, t ≠ .var w) : x < 0 ∨ ∃ i n : Nat, xL X i ∧ x = 128 * (i : Int) + (n : Int) ∧ 8 ≤ n ∧ n < 128 := by
  rcases h with ⟨j, hj, rfl, e, hr⟩ | ⟨i, n, u, hi, rfl, hn', hu, hk, e⟩
  · exact Or.inl (by omega)
  · right
    refine ⟨i, n, hi, rfl, ?_, hn'.1⟩
    cases u with
    | var v => exact absurd e (hn _)
    | num j =>
      rcases hu with hu | hu
      · have := hu.2.2.1
        omega
      · exact absurd hu.1 (by decide)
    | mulL k a =>
      have := hu.2.2.1
      omega
    | add a r => exact absurd hk.1 (by decide)
    | sub a r => exact hk.elim
    | neg a => exact hk.elim
    | mulR a k => exact hk.elim
/-- where find comes to -/
def cFo (X : cX) (m : hy_m) (B : bM) (y : Int) (t : pE) : Prop := cTm X m y t ∧ (∀ w, vIn w t → cDm X w) ∧ ((∃ w : Nat, t = .var w ∧ B w = none) ∨ ∀ w : Nat, t ≠ .var w)
theorem sp_124 (h : cW X T m) (hO : cOr X) (hB : cBd X m B) (hR : Res B s) (hx : cTm X m x t) (hD : ∀ w, vIn w t → cDm X w) (hq : ∀ y t', cFo X m B y t' → (∀ v, Sol B v → sb v t = sb v t') → Q y m) : wq_124 x T m Q := by
  have hcap := h.2.2.1
  unfold wq_124 wq_124_4
  refine wL2_rule (Nat.lt_wfRel.wf) (fun x y m' => m' = m ∧ ∃ (k : Nat) (t' : pE), y = k ∧ cTm X m x t' ∧ (∀ w, vIn w t' → cDm X w) ∧ (∀ v, Sol B v → sb v t = sb v t') ∧ k ≤ 8 * xcap X ∧ ∀ i n : Nat, n < 8 → x = 128 * (i : Int) + (n : Int) → 8 * i + n + k < 8 * xcap X) (fun _ y _ => 3000 - y.toNat) ?_ ⟨rfl, 0, t, rfl, hx, hD, fun _ _ => rfl, Nat.zero_le _, fun i n hn e => ?_⟩
  · rintro P x y m' ⟨rfl, k, t', rfl, h1, h2, h3, h4, h5⟩ hP
    unfold wf_124_4
    rw [h.2.2.2.1, Int.toNat_natCast]
    have T4 := h.2.2.2.2.1
    by_cases hv : ∃ w : Nat, t' = .var w
    · obtain ⟨w, rfl⟩ := hv
      obtain ⟨i, n, hi, rfl, hn8, hnv, rfl⟩ := cTm_v h1
      obtain ⟨g1, g2, g3, g4, g5⟩ := h.2.2.2.2.2 i hi
      obtain ⟨e1, e2, -⟩ := r128 (i := i) (n := n) (by omega) (by omega)
      have hk := h5 i n hn8 rfl
      rw [e1, e2, show (i : Int) * 8 + (n : Int) = 8 * (i : Int) + (n : Int) by omega]
      refine ⟨100, _, T4, by omega, fun q => by omega, fun _ => ⟨fun q => by omega, fun _ => ⟨fun q => by omega, fun _ => ⟨100, _, T4, by omega, show -2147483648 ≤ _ ∧ _ < 2147483648 by omega, fun q => by omega, fun _ => ⟨_, T4, by omega, by omega, fun hne => ⟨_, T4, by omega, by omega, show -2147483648 ≤ _ ∧ _ < 2147483648 by omega, ?_⟩, fun he => ?_⟩⟩⟩⟩⟩
      · rcases hB.1 i n hi hnv with q | ⟨u, q1, q2, q3, q4⟩
        · exact absurd q.2 hne
        · refine hP _ _ _ ⟨rfl, k + 1, u, by omega, q3, q4, fun v hv => (h3 v hv).trans (hv _ u q1), by omega, fun i' n' hn' e' => ?_⟩ ?_
          · -- a variable that is bound to a variable: an earlier one
            have hu : ∃ w' : Nat, u = .var w' := by
              by_cases hq' : ∃ w' : Nat, u = .var w'
              · exact hq'
              · rcases cTm_n q3 (fun w' e => hq' ⟨w', e⟩) with hneg | ⟨i2, n2, -, e2', h8, h128⟩
                · omega
                · omega
            obtain ⟨w', rfl⟩ := hu
            obtain ⟨i2, n2, hi2, e2', hn28, hn2v, rfl⟩ := cTm_v q3
            have hii : i2 = i' ∧ n2 = n' := by omega
            obtain ⟨rfl, rfl⟩ := hii
            have hlt := ((hR _).2 _ q1).2 _ rfl
            have : i2 < i ∨ i2 = i ∧ n2 < n := by
              by_cases c1 : i2 < i
              · exact Or.inl c1
              · by_cases c2 : i2 = i
                · subst c2
                  exact Or.inr ⟨rfl, by omega⟩
                · have := hO i i2 hi hi2 (by omega)
                  omega
            omega
          · show 3000 - _ < 3000 - _
            omega
      · rcases hB.1 i n hi hnv with q | ⟨u, q1, q2, q3, q4⟩
        · exact hq _ _ ⟨h1, h2, Or.inl ⟨_, rfl, q.1⟩⟩ h3
        · exact absurd he q2
    · have hn : ∀ w : Nat, t' ≠ .var w := fun w e => hv ⟨w, e⟩
      have fin := hq x t' ⟨h1, h2, Or.inr hn⟩ h3
      rcases cTm_n h1 hn with hneg | ⟨i, n, hi, rfl, h8, h128⟩
      · exact ⟨100, _, T4, by omega, fun _ => fin, fun _ => ⟨fun _ => fin, fun q => by omega⟩⟩
      · obtain ⟨g1, -⟩ := h.2.2.2.2.2 i hi
        obtain ⟨e1, e2, -⟩ := r128 (i := i) (n := n) (by omega) h128
        rw [e1]
        exact ⟨100, _, T4, by omega, fun _ => fin, fun _ => ⟨fun q => by omega, fun _ => ⟨fun _ => fin, fun q => by omega⟩⟩⟩
  · rcases hx with ⟨j, hj, e', -⟩ | ⟨i', n', u, hi, e', hn', -⟩
    · omega
    · obtain ⟨g1, -⟩ := h.2.2.2.2.2 i' hi
      omega
end CST
