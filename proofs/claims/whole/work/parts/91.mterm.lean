/-! TERMS OF THE MODEL -/
def mF (v : Nat) : Int := 2305843009213693952 + (v : Int)
def mI (i : Int) : Int := 4611686018427387904 + i % 4294967296
def mQ (n p : Nat) : Int := 4096 * (p : Int) + (n : Int)
/-- variables of an instance -/
def rn (p : Nat) (t : pE) : pE := sb (fun v => .var (p + v)) t
/-- the j-th of a list -/
def eAr : pE → Nat → pE
  | .add x _, 0 => x
  | .add _ r, j + 1 => eAr r j
  | t, _ => t
theorem eN_sb (s : Nat → pE) : ∀ (a : pE) (nv : Nat), eK nv a true → eN (sb s a) = eN a
  | .num _, _, _ => rfl
  | .add a r, nv, h => by
    show eN (sb s r) + 1 = eN r + 1
    rw [eN_sb s r nv h.2.2]
  | .var _, _, h => absurd h.1 (by decide)
  | .mulL _ _, _, h => absurd h.1 (by decide)
  | .sub _ _, _, h => h.elim
  | .neg _, _, h => h.elim
  | .mulR _ _, _, h => h.elim
theorem eAr_sb (s : Nat → pE) : ∀ (a : pE) (nv j : Nat), eK nv a true → j < eN a → eAr (sb s a) j = sb s (eAr a j) ∧ eK nv (eAr a j) false
  | .num _, _, _, _, hj => absurd hj (Nat.not_lt_zero _)
  | .add a r, nv, 0, h, _ => ⟨rfl, h.2.1⟩
  | .add a r, nv, j + 1, h, hj => eAr_sb s r nv j h.2.2 (Nat.lt_of_succ_lt_succ hj)
  | .var _, _, _, h, _ => absurd h.1 (by decide)
  | .mulL _ _, _, _, h, _ => absurd h.1 (by decide)
  | .sub _ _, _, _, h, _ => h.elim
  | .neg _, _, _, h, _ => h.elim
  | .mulR _ _, _, _, h, _ => h.elim
/-- a term of the model stands for a tree; G: nodes of instances (by place) -/
def mTm (G : Nat → Nat → Prop) (m : hy_m) (x : Int) (t : pE) : Prop :=
  (∃ v : Nat, v < 2500 ∧ x = mF v ∧ t = .var v) ∨ (∃ i : Int, hy_r 0 i ∧ x = mI i ∧ t = .num i) ∨
  (∃ (n p nv : Nat) (u : pE), x = mQ n p ∧ n < 3584 ∧ nv ≤ 8 ∧ p + nv ≤ 2500 ∧ rP m (fun z => 0 ≤ z ∧ z < 3584) u (-1) (n : Int) ∧ eK nv u false ∧ t = rn p u ∧ G n p)
/-- parts of nodes of an instance are nodes of it -/
def gC (G : Nat → Nat → Prop) (m : hy_m) : Prop := ∀ (n p j : Nat), G n p → (j : Int) < m 78 (n : Int) → G (m 79 (3 * (n : Int) + (j : Int))).toNat p
theorem and_pw (k x : Nat) : x &&& 2 ^ k = 2 ^ k * (x / 2 ^ k % 2) := by
  rw [and_sp k, Nat.mod_self, Nat.and_zero, Nat.div_self (Nat.two_pow_pos k), Nat.and_one_is_mod, Nat.zero_add]
theorem and61 {x : Nat} (h : x < 9223372036854775808) : (jA (x : Int) 2305843009213693952 = 0 ↔ x / 2305843009213693952 % 2 = 0) := by
  have := jA_n (a := x) (b := 2305843009213693952) (by omega) (by omega)
  have e : jA (x : Int) 2305843009213693952 = ((x &&& 2 ^ 61 : Nat) : Int) := this
  have e2 : x &&& 2 ^ 61 = 2305843009213693952 * (x / 2305843009213693952 % 2) := and_pw 61 x
  rw [e, e2]
  omega
theorem and62 {x : Nat} (h : x < 9223372036854775808) : (jA (x : Int) 4611686018427387904 = 0 ↔ x / 4611686018427387904 % 2 = 0) := by
  have := jA_n (a := x) (b := 4611686018427387904) (by omega) (by omega)
  have e : jA (x : Int) 4611686018427387904 = ((x &&& 2 ^ 62 : Nat) : Int) := this
  have e2 : x &&& 2 ^ 62 = 4611686018427387904 * (x / 4611686018427387904 % 2) := and_pw 62 x
  rw [e, e2]
  omega
section MT2
variable {G : Nat → Nat → Prop} {m : hy_m} {Q : Int → hy_m → Prop} {x : Int} {t : pE}
theorem sp_230F {v : Nat} (hv : v < 2500) (hq : Q 1 m) : wq_230 (mF v) m Q := by
  have h1 := and61 (x := 2305843009213693952 + v) (by omega)
  have h2 := and62 (x := 2305843009213693952 + v) (by omega)
  have e : mF v = ((2305843009213693952 + v : Nat) : Int) := by unfold mF; omega
  unfold wq_230
  rw [e]
  refine ⟨fun q => absurd (h1.mp q) (by omega), fun _ => ⟨fun q => absurd (h2.mpr (by omega)) q, fun _ => hq⟩⟩
theorem sp_230I {i : Int} (hq : Q 0 m) : wq_230 (mI i) m Q := by
  have hr := Int.emod_nonneg i (b := 4294967296) (by decide)
  have hr2 := Int.emod_lt_of_pos i (b := 4294967296) (by decide)
  obtain ⟨u, hu⟩ := Int.eq_ofNat_of_zero_le hr
  have h1 := and61 (x := 4611686018427387904 + u) (by omega)
  have e : mI i = ((4611686018427387904 + u : Nat) : Int) := by unfold mI; omega
  unfold wq_230
  rw [e]
  refine ⟨fun _ => hq, fun q => absurd (h1.mpr (by omega)) q⟩
theorem sp_230Q {n p : Nat} (hn : n < 3584) (hp : p ≤ 2500) (hq : Q 0 m) : wq_230 (mQ n p) m Q := by
  have h1 := and61 (x := 4096 * p + n) (by omega)
  have e : mQ n p = ((4096 * p + n : Nat) : Int) := by unfold mQ; omega
  unfold wq_230
  rw [e]
  refine ⟨fun _ => hq, fun q => absurd (h1.mpr (by omega)) q⟩
theorem sp_231F {v : Nat} (hv : v < 2500) (hq : Q 0 m) : wq_231 (mF v) m Q := by
  have h2 := and62 (x := 2305843009213693952 + v) (by omega)
  have e : mF v = ((2305843009213693952 + v : Nat) : Int) := by unfold mF; omega
  unfold wq_231
  rw [e]
  refine ⟨fun _ => hq, fun q => absurd (h2.mpr (by omega)) q⟩
theorem sp_231I {i : Int} (hq : Q 1 m) : wq_231 (mI i) m Q := by
  have hr := Int.emod_nonneg i (b := 4294967296) (by decide)
  have hr2 := Int.emod_lt_of_pos i (b := 4294967296) (by decide)
  obtain ⟨u, hu⟩ := Int.eq_ofNat_of_zero_le hr
  have h2 := and62 (x := 4611686018427387904 + u) (by omega)
  have e : mI i = ((4611686018427387904 + u : Nat) : Int) := by unfold mI; omega
  unfold wq_231
  rw [e]
  refine ⟨fun q => absurd (h2.mp q) (by omega), fun _ => hq⟩
theorem sp_231Q {n p : Nat} (hn : n < 3584) (hp : p ≤ 2500) (hq : Q 0 m) : wq_231 (mQ n p) m Q := by
  have h2 := and62 (x := 4096 * p + n) (by omega)
  have e : mQ n p = ((4096 * p + n : Nat) : Int) := by unfold mQ; omega
  unfold wq_231
  rw [e]
  refine ⟨fun _ => hq, fun q => absurd (h2.mpr (by omega)) q⟩
theorem sp_232Q {n p : Nat} (hn : n < 3584) (hq : Q (n : Int) m) : wq_232 (mQ n p) m Q := by
  have e : mQ n p % 4096 = (n : Int) := by unfold mQ; omega
  unfold wq_232
  rw [e]
  exact ⟨by unfold mQ; omega, by decide, show -2147483648 ≤ _ ∧ _ < 2147483648 by omega, hq⟩
theorem sp_233Q {n p : Nat} (hn : n < 3584) (hp : p ≤ 2500) (hq : Q (p : Int) m) : wq_233 (mQ n p) m Q := by
  have e : mQ n p / 4096 = (p : Int) := by unfold mQ; omega
  unfold wq_233
  rw [e]
  exact ⟨by unfold mQ; omega, by decide, show -2147483648 ≤ _ ∧ _ < 2147483648 by omega, hq⟩
theorem jA_F {v : Nat} (hv : v < 2500) : jA (mF v) 65535 = v := by
  have := jA_m (mF v) (k := 16) (by decide)
  rw [show ((2 ^ 16 - 1 : Nat) : Int) = 65535 from rfl, show ((2 ^ 16 : Nat) : Int) = 65536 from rfl] at this
  rw [this]
  unfold mF
  omega
theorem jO_F {v : Nat} (hv : v < 2500) : jO 2305843009213693952 (v : Int) = mF v := by
  have := jO_n (a := 2305843009213693952) (b := v) (by omega) (by omega)
  have e : jO 2305843009213693952 (v : Int) = ((2305843009213693952 ||| v : Nat) : Int) := this
  rw [e, Nat.or_comm]
  have := or_add (a := 1) (b := v) (k := 61) (by omega)
  rw [show (1 : Nat) * 2 ^ 61 = 2305843009213693952 from rfl] at this
  rw [this]
  unfold mF
  omega
/-- isFree, isComputed -/
theorem sp_230 (h : mTm G m x t) (h1 : ∀ v : Nat, v < 2500 → x = mF v → t = .var v → Q 1 m) (h0 : (∀ v : Nat, v < 2500 → x ≠ mF v) → Q 0 m) : wq_230 x m Q := by
  rcases h with ⟨v, hv, rfl, rfl⟩ | ⟨i, hi, rfl, rfl⟩ | ⟨n, p, nv, u, rfl, hn, hnv, hp, hr, hk, rfl, hG⟩
  · exact sp_230F hv (h1 v hv rfl rfl)
  · refine sp_230I (h0 (fun v hv e => ?_))
    have hr := Int.emod_nonneg i (b := 4294967296) (by decide)
    unfold mI mF at e
    omega
  · refine sp_230Q hn (by omega) (h0 (fun v hv e => ?_))
    unfold mQ mF at e
    omega
/-- kindOf -/
theorem eKd_rn (p : Nat) (u : pE) (nv : Nat) (h : eK nv u false) : eKd (rn p u) = eKd u := by
  cases u with
  | var v => rfl
  | num i => rfl
  | mulL k a =>
    show (if eN (sb _ a) = 0 then (3 : Int) else 4) = if eN a = 0 then 3 else 4
    rw [eN_sb _ a nv h.2.2.2.2.2]
  | add a r => exact absurd h.1 (by decide)
  | sub a r => exact h.elim
  | neg a => exact h.elim
  | mulR a k => exact h.elim
theorem rP_kd {A : Int → Prop} {n : Int} (h : rP m A t (-1) n) : m 76 n = eKd t := by
  cases t with
  | var v => exact h.2.2.1
  | num i =>
    rcases h with h | h
    · exact h.2.2.1
    · exact absurd h.1 (by decide)
  | mulL k a => exact h.2.2.2.2.1
  | add a r => exact absurd h.1 (by decide)
  | sub a r => exact h.elim
  | neg a => exact h.elim
  | mulR a k => exact h.elim
theorem sp_238 (h : mTm G m x t) (hq : Q (eKd t) m) : wq_238 x m Q := by
  unfold wq_238
  rcases h with ⟨v, hv, rfl, rfl⟩ | ⟨i, hi, rfl, rfl⟩ | ⟨n, p, nv, u, rfl, hn, hnv, hp, hr, hk, rfl, hG⟩
  · exact sp_230F hv ⟨fun q => absurd q (by decide), fun _ => hq⟩
  · exact sp_230I ⟨fun _ => sp_231I ⟨fun q => absurd q (by decide), fun _ => hq⟩, fun q => absurd rfl q⟩
  · refine sp_230Q hn (by omega) ⟨fun _ => sp_231Q hn (by omega) ⟨fun _ => sp_232Q hn ⟨by omega, by omega, ?_⟩, fun q => absurd rfl q⟩, fun q => absurd rfl q⟩
    rw [rP_kd hr, ← eKd_rn p u nv hk]
    exact hq
theorem iW_I {i : Int} (h : hy_r 0 i) : iW (mI i) = i := by
  have h : -2147483648 ≤ i ∧ i < 2147483648 := h
  unfold iW mI iI
  rw [Int32.toInt_ofInt]
  unfold Int.bmod
  have e : (4611686018427387904 + i % 4294967296) % ((Int32.size : Nat) : Int) = i % 4294967296 := by
    show (4611686018427387904 + i % 4294967296) % 4294967296 = _
    omega
  rw [e]
  show (if i % 4294967296 < (4294967296 + 1) / 2 then i % 4294967296 else i % 4294967296 - 4294967296) = i
  split <;> omega
theorem sp_239 {i : Int} (h : mTm G m x (.num i)) (hi : hy_r 0 i) (hq : Q i m) : wq_239 x m Q := by
  unfold wq_239
  rcases h with ⟨v, hv, rfl, e⟩ | ⟨j, hj, rfl, e⟩ | ⟨n, p, nv, u, rfl, hn, hnv, hp, hr, hk, e, hG⟩
  · cases e
  · cases e
    refine sp_231I ⟨fun q => absurd q (by decide), fun _ => ?_⟩
    rw [iW_I hi]
    exact hq
  · refine sp_231Q hn (by omega) ⟨fun _ => sp_232Q hn ⟨by omega, by omega, ?_⟩, fun q => absurd rfl q⟩
    have hu : u = .num i := by
      cases u with
      | num j => exact e.symm
      | var v => cases e
      | mulL k a => cases e
      | add a r => cases e
      | sub a r => cases e
      | neg a => cases e
      | mulR a k => cases e
    subst hu
    rcases hr with hr | hr
    · rw [hr.2.2.2.1]
      exact ⟨hi, hq⟩
    · exact absurd hr.1 (by decide)
/-- the arguments of a node -/
theorem rP_ar {A : Int → Prop} {n : Int} : ∀ (a : pE) (i j nv : Nat), rP m A a (i : Int) n → eK nv a true → j < eN a → rP m A (eAr a j) (-1) (m 79 (3 * n + ((i + j : Nat) : Int)))
  | .num _, _, _, _, _, _, hj => absurd hj (Nat.not_lt_zero _)
  | .add a r, i, 0, nv, h, _, _ => h.2.2.1
  | .add a r, i, j + 1, nv, h, hk, hj => by
    have h2 := h.2.2.2
    rw [show (i : Int) + 1 = ((i + 1 : Nat) : Int) by omega] at h2
    have := rP_ar r (i + 1) j nv h2 hk.2.2 (Nat.lt_of_succ_lt_succ hj)
    rw [show i + 1 + j = i + (j + 1) by omega] at this
    exact this
  | .var _, _, _, _, _, hk, _ => absurd hk.1 (by decide)
  | .mulL _ _, _, _, _, _, hk, _ => absurd hk.1 (by decide)
  | .sub _ _, _, _, _, _, hk, _ => hk.elim
  | .neg _, _, _, _, _, hk, _ => hk.elim
  | .mulR _ _, _, _, _, _, hk, _ => hk.elim
theorem sp_236 {k : Int} {b : pE} {j : Nat} (hg : gC G m) (h : mTm G m x (.mulL k b)) (hj : j < eN b) (hq : ∀ y, mTm G m y (eAr b j) → (∃ n p : Nat, y = mQ n p) → Q y m) : wq_236 x (j : Int) m Q := by
  rcases h with ⟨v, hv, rfl, e⟩ | ⟨i, hi, rfl, e⟩ | ⟨n, p, nv, u, rfl, hn, hnv, hp, hr, hk, e, hG⟩
  · cases e
  · cases e
  · cases u with
    | mulL k' a =>
      have e : (.mulL k b : pE) = .mulL k' (sb (fun v => .var (p + v)) a) := e
      injection e with e1 e2
      subst e1
      subst e2
      have hka := hk.2.2.2.2.2
      rw [eN_sb _ a nv hka] at hj
      obtain ⟨q1, q2⟩ := eAr_sb (fun v => .var (p + v)) a nv j hka hj
      have har := rP_ar a 0 j nv hr.2.2.2.2.2.2 hka hj
      rw [Nat.zero_add] at har
      have hA := rP_A har
      have h3 : eN a ≤ 3 := hk.2.2.1
      have hG' := hg n p j hG (by rw [hr.2.2.2.1]; omega)
      obtain ⟨z, hz⟩ := Int.eq_ofNat_of_zero_le hA.1
      rw [hz] at har hA hG'
      have hz2 : z < 3584 := by have := hA.2; omega
      unfold wq_236
      refine sp_232Q hn ⟨by omega, by omega, sp_233Q hn (by omega) ?_⟩
      rw [hz]
      unfold wq_234
      refine ⟨show -9223372036854775808 ≤ _ ∧ _ < 9223372036854775808 by omega, ?_⟩
      rw [q1] at hq
      exact hq _ (Or.inr (Or.inr ⟨z, p, nv, eAr a j, rfl, hz2, hnv, hp, har, q2, rfl, by rw [Int.toNat_natCast] at hG'; exact hG'⟩)) ⟨z, p, rfl⟩
    | var v => cases e
    | num j => cases e
    | add a r => cases e
    | sub a r => cases e
    | neg a => cases e
    | mulR a k => cases e
end MT2
