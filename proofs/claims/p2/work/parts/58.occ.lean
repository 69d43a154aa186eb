/-! OCCURRENCES OF VARIABLES: in trees, and among the nodes of a slot -/
def oE : pE → Nat → Nat
  | .var w, v => if w = v then 1 else 0
  | .mulL _ a, v => oE a v
  | .add a r, v => oE a v + oE r v
  | _, _ => 0
def oL : List pE → Nat → Nat
  | [], _ => 0
  | a :: r, v => oE a v + oL r v
theorem oE_L : ∀ (l : List pE) (v : Nat), oE (eL l) v = oL l v
  | [], _ => rfl
  | a :: r, v => by
    show oE a v + oE (eL r) v = oE a v + oL r v
    rw [oE_L r v]
theorem oL_app : ∀ (l r : List pE) (v : Nat), oL (l ++ r) v = oL l v + oL r v
  | [], r, v => by
    show oL r v = 0 + oL r v
    omega
  | a :: l, r, v => by
    show oE a v + oL (l ++ r) v = oE a v + oL l v + oL r v
    rw [oL_app l r v]
    omega
theorem oE_C (k : Int) (l : List pE) (v : Nat) : oE (eC k l) v = oL l v := oE_L l v
theorem oE_I (t : pE) : ∀ (l : List pE) (v : Nat), oE (eI t l) v = oL l v + oE t v
  | [], v => by
    show oE t v = 0 + oE t v
    omega
  | a :: r, v => by
    show oE (eC 2 [a, eI t r]) v = _
    rw [oE_C]
    show oE a v + (oE (eI t r) v + 0) = oE a v + oL r v + oE t v
    rw [oE_I t r v]
    omega
def oF : List pF → Nat → Nat
  | [], _ => 0
  | f :: r, v => oL f.2.2 v + oF r v
def oK : List (pE × Int) → Nat → Nat
  | [], _ => 0
  | q :: r, v => oE q.1 v + oK r v
def vC (m : hy_m) (sl : Nat) : Nat → Nat → Nat
  | 0, _ => 0
  | c + 1, v => vC m sl c v + (if m 76 (128 * (sl : Int) + (c : Int)) = 1 ∧ m 77 (128 * (sl : Int) + (c : Int)) = (v : Int) then 1 else 0)
theorem vC_eq {m m' : hy_m} {sl : Nat} : ∀ (c : Nat), (∀ n : Int, 128 * (sl : Int) ≤ n → n < 128 * (sl : Int) + c → (m' 76 n = 1 ↔ m 76 n = 1) ∧ m' 77 n = m 77 n) → ∀ v, vC m' sl c v = vC m sl c v
  | 0, _, _ => rfl
  | c + 1, h, v => by
    have g := h (128 * (sl : Int) + (c : Int)) (by omega) (by omega)
    have ih := vC_eq c (fun n h1 h2 => h n h1 (by omega)) v
    unfold vC
    rw [ih, g.2]
    simp only [g.1]
/-- parts of the slot's nodes are nodes -/
def mPg (m : hy_m) (sl : Nat) : Prop := ∀ e : Int, 384 * (sl : Int) ≤ e → e < 384 * (sl : Int) + 384 → 0 ≤ m 79 e ∧ m 79 e < 3584
def mU (m : hy_m) (sl c : Nat) (K : List (pE × Int)) (stk : List pF) : Prop := (∀ v, vC m sl c v = oK K v + oF stk v) ∧ mPg m sl
section OC
variable {m m' : hy_m} {sl c : Nat} {K : List (pE × Int)} {stk : List pF}
theorem mPg_fr (h : mPg m sl) (hf : ∀ e, m' 79 e = m 79 e) : mPg m' sl := fun e h1 h2 => by
  rw [hf e]
  exact h e h1 h2
theorem mU_fr (h : mU m sl c K stk) (hf : ∀ a e, a = 76 ∨ a = 77 ∨ a = 79 → m' a e = m a e) : mU m' sl c K stk := by
  refine ⟨fun v => (vC_eq c (fun n _ _ => ?_) v).trans (h.1 v), mPg_fr h.2 (fun e => hf 79 e (by omega))⟩
  rw [hf 76 n (by omega), hf 77 n (by omega)]
  exact ⟨Iff.rfl, rfl⟩
theorem mU_nd (k w : Int) (h : mU m sl c K stk) : (∀ v, vC (mNd m sl c k w) sl (c + 1) v = oK K v + oF stk v + (if k = 1 ∧ w = (v : Int) then 1 else 0)) ∧ mPg (mNd m sl c k w) sl := by
  have hr := mNd_r m sl c k w
  have hv := mNd_v m sl c k w
  refine ⟨fun v => ?_, mPg_fr h.2 (fun e => hr _ _ (by omega) (by omega))⟩
  unfold vC
  rw [hv.1, hv.2.1, vC_eq c (fun n h1 h2 => ?_) v, h.1 v]
  rw [hr 76 n (by omega) (by omega), hr 77 n (by omega) (by omega)]
  exact ⟨Iff.rfl, rfl⟩
theorem mU_nd0 {k : Int} (w : Int) (h : mU m sl c K stk) (hk : k ≠ 1) : mU (mNd m sl c k w) sl (c + 1) K stk := by
  have g := mU_nd k w h
  refine ⟨fun v => ?_, g.2⟩
  rw [g.1 v, if_neg (fun q => hk q.1)]
  omega
theorem mU_add {t : pE} {r : Int} (h : mU m sl c K stk) (ht : ∀ v, oE t v = 0) : mU m sl c ((t, r) :: K) stk := by
  refine ⟨fun v => ?_, h.2⟩
  rw [h.1 v]
  show _ = oE t v + oK K v + oF stk v
  rw [ht v]
  omega
theorem mU_var {i : Nat} {r : Int} (h : mU m sl c K stk) : mU (mNd m sl c 1 (i : Int)) sl (c + 1) ((.var i, r) :: K) stk := by
  have g := mU_nd 1 (i : Int) h
  refine ⟨fun v => ?_, g.2⟩
  rw [g.1 v]
  show _ = (if i = v then 1 else 0) + oK K v + oF stk v
  by_cases e : i = v
  · rw [if_pos ⟨rfl, by omega⟩, if_pos e]
    omega
  · rw [if_neg (fun q => e (by omega)), if_neg e]
    omega
theorem mU_gv {b x : Int} {a : Nat} (h : mU m sl c K stk) (hb : m 76 b ≠ 1) (hx : 0 ≤ x ∧ x < 3584) : mU (mGv m b a x) sl c K stk := by
  have hr : ∀ (b' : Nat) (e : Int), ¬ (b' = 79 ∧ e = 3 * b + a) → ¬ ((b' = 78 ∨ b' = 76) ∧ e = b) → mGv m b a x b' e = m b' e := by
    intro b' e h1 h2
    unfold mGv hy_u
    rw [if_neg (by omega), if_neg (by omega), if_neg h1]
  have h6 : mGv m b a x 76 b = 4 := by
    unfold mGv
    rw [hy_us]
  have h9 : mGv m b a x 79 (3 * b + a) = x := by
    unfold mGv
    rw [hy_ua (by decide), hy_ua (by decide), hy_us]
  refine ⟨fun v => (vC_eq c (fun n h1 h2 => ?_) v).trans (h.1 v), fun e h1 h2 => ?_⟩
  · rw [hr 77 n (by omega) (by omega)]
    refine ⟨?_, rfl⟩
    by_cases e : n = b
    · subst e
      rw [h6]
      exact ⟨fun q => absurd q (by decide), fun q => absurd q hb⟩
    · rw [hr 76 n (by omega) (by omega)]
  · by_cases q : e = 3 * b + a
    · rw [q, h9]
      exact hx
    · rw [hr 79 e (by omega) (by omega)]
      exact h.2 e h1 h2
theorem rP_A {A : Int → Prop} {t : pE} {n : Int} (h : rP m A t (-1) n) : A n := by
  cases t with
  | var v => exact h.2.1
  | num i =>
    rcases h with h | h
    · exact h.2.1
    · exact absurd h.1 (by decide)
  | mulL k a => exact h.2.1
  | add a r => exact absurd h.1 (by decide)
  | sub a r => exact h.elim
  | neg a => exact h.elim
  | mulR a k => exact h.elim
end OC
