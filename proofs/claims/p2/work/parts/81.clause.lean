/-! CLAUSES OF THE CLASS: what their cells hold -/
def cnt1 (o : Nat → Nat) : Nat → Nat
  | 0 => 0
  | n + 1 => cnt1 o n + (if o n = 1 then 1 else 0)
def cntP (o : Nat → Nat) : Nat → Nat
  | 0 => 0
  | n + 1 => cntP o n + (if 0 < o n then 1 else 0)
theorem pcn_s (n x : Nat) : pcn (n + 1) x = pcn n x + (if x.testBit n = true then 1 else 0) := by
  rw [pcn_add n 1 x]
  show pcn n x + (x / 2 ^ n % 2 + 0) = _
  have e : x.testBit n = true ↔ x / 2 ^ n % 2 = 1 := by rw [Nat.testBit_eq_decide_div_mod_eq, decide_eq_true_eq]
  by_cases h : x.testBit n = true
  · rw [if_pos h, e.mp h]
  · rw [if_neg h]
    have : ¬ x / 2 ^ n % 2 = 1 := fun q => h (e.mpr q)
    omega
theorem pcn_0 : ∀ n, pcn n 0 = 0
  | 0 => rfl
  | n + 1 => by
    show 0 % 2 + pcn n (0 / 2) = 0
    rw [show 0 / 2 = 0 from rfl, pcn_0 n]
theorem mK_pcn {x : Nat} {o : Nat → Nat} (h : mK (x : Int) o) : pcn 32 x = cntP o 8 := by
  obtain ⟨k, e, h2, h3⟩ := h
  have e : x = k := by omega
  subst e
  have : ∀ n, n ≤ 8 → pcn n x = cntP o n := by
    intro n
    induction n with
    | zero => intro _; rfl
    | succ n ih =>
      intro hn
      rw [pcn_s, ih (by omega)]
      show _ = cntP o n + (if 0 < o n then 1 else 0)
      by_cases hb : 0 < o n
      · rw [if_pos hb, if_pos ((h3 n (by omega)).mpr hb)]
      · rw [if_neg hb, if_neg (fun q => hb ((h3 n (by omega)).mp q))]
  have e32 : pcn 32 x = pcn 8 x + pcn 24 (x / 256) := pcn_add 8 24 x
  rw [e32, show x / 256 = 0 by omega, pcn_0, this 8 (Nat.le_refl _), Nat.add_zero]
theorem mK_or2 {x y : Int} {o o' : Nat → Nat} (h : mK x o) (h' : mK y o') : mK (iO x y) (fun v => o' v + o v) := by
  obtain ⟨k, rfl, h2, h3⟩ := h
  obtain ⟨k', rfl, h2', h3'⟩ := h'
  rw [iO_n (by omega) (by omega)]
  refine ⟨k ||| k', rfl, Nat.or_lt_two_pow (n := 8) h2 h2', fun v hv => ?_⟩
  rw [Nat.testBit_or, Bool.or_eq_true, h3 v hv, h3' v hv]
  dsimp only
  omega
/-- a term that can be called -/
def eCa : pE → Bool
  | .mulL k _ => decide (k ≠ 1) && decide (k ≠ 2)
  | _ => false
/-- the user predicate that a goal calls, also within call and not: its key; 0 for none -/
def cal : pE → Bool → Int
  | .mulL k a, false => if bI k (eN a) = 0 then kC k (eN a) else if bI k (eN a) = 4 ∨ bI k (eN a) = 5 then cal a true else 0
  | .add x _, true => if eCa x = true then cal x false else 0
  | _, _ => 0
/-- the cells of a clause's terms -/
def cK (T : hy_T) (m : hy_m) (a c k0 k1 k2 : Nat) : Prop := T.1 a = some (3, 9) ∧ m a 0 = k0 ∧ T.1 k0 = some (100, c) ∧ m a 1 = k1 ∧ T.1 k1 = some (101, c) ∧ m a 2 = k2 ∧ T.1 k2 = some (100, 3 * c) ∧ c ≤ 127
abbrev cQ (m : hy_m) (c k0 k1 k2 : Nat) (t : pE) (n : Int) : Prop := cP (m k0) (m k1) (m k2) (fun z => 0 ≤ z ∧ z < c) t (-1) n
section CK
variable {T : hy_T} {m : hy_m} {Q : Int → hy_m → Prop} {a c k0 k1 k2 : Nat} {n : Int} {t : pE}
theorem sp_40 (h : cK T m a c k0 k1 k2) (hq : Q (if 0 ≤ n ∧ n < c then m k0 n else 0) m) : wq_40 (a : Int) n T m Q := by
  obtain ⟨h1, h2, h3, h4, h5, h6, h7, h8⟩ := h
  unfold wq_40
  rw [Int.toNat_natCast, h2, Int.toNat_natCast]
  refine ⟨fun q => ?_, fun q => ⟨h1, 100, c, h3, by omega, fun q2 => ?_, fun q2 => ⟨h1, c, h3, q, q2, ?_⟩⟩⟩
  · rw [if_neg (by omega)] at hq; exact hq
  · rw [if_neg (by omega)] at hq; exact hq
  · rw [if_pos ⟨q, q2⟩] at hq; exact hq
theorem sp_41 (h : cK T m a c k0 k1 k2) (hq : Q (if 0 ≤ n ∧ n < c then m k1 n else 0) m) : wq_41 (a : Int) n T m Q := by
  obtain ⟨h1, h2, h3, h4, h5, h6, h7, h8⟩ := h
  unfold wq_41
  rw [Int.toNat_natCast, h4, Int.toNat_natCast]
  refine ⟨fun q => ?_, fun q => ⟨h1, 101, c, h5, by omega, fun q2 => ?_, fun q2 => ⟨h1, c, h5, q, q2, ?_⟩⟩⟩
  · rw [if_neg (by omega)] at hq; exact hq
  · rw [if_neg (by omega)] at hq; exact hq
  · rw [if_pos ⟨q, q2⟩] at hq; exact hq
theorem sp_42 {j : Nat} (h : cK T m a c k0 k1 k2) (hn : 0 ≤ n ∧ n < c) (hj : j < 3) (hq : Q (m k2 (3 * n + (j : Int))) m) : wq_42 (a : Int) n (j : Int) T m Q := by
  obtain ⟨h1, h2, h3, h4, h5, h6, h7, h8⟩ := h
  unfold wq_42
  rw [Int.toNat_natCast, h6, Int.toNat_natCast, show n * 3 + (j : Int) = 3 * n + (j : Int) by omega]
  exact ⟨show -2147483648 ≤ _ ∧ _ < 2147483648 by omega, fun q => by omega, fun _ => ⟨h1, 100, 3 * c, h7, by omega, show -2147483648 ≤ _ ∧ _ < 2147483648 by omega, fun q => by omega, fun q => ⟨h1, 3 * c, h7, by omega, q, hq⟩⟩⟩
/-- the kind of a tree -/
def eKd : pE → Int
  | .var _ => 1
  | .num _ => 2
  | .mulL _ a => if eN a = 0 then 3 else 4
  | _ => 0
theorem cQ_kd (h : cQ m c k0 k1 k2 t n) : (0 ≤ n ∧ n < c) ∧ m k0 n = eKd t := by
  cases t with
  | var v => exact ⟨h.2.1, h.2.2.2.2⟩
  | num i =>
    rcases h with h | h
    · exact ⟨h.2.1, h.2.2.2.1⟩
    · exact absurd h.1 (by decide)
  | mulL k a => exact ⟨h.2.1, h.2.2.2.2.1⟩
  | add a r => exact absurd h.1 (by decide)
  | sub a r => exact h.elim
  | neg a => exact h.elim
  | mulR a k => exact h.elim
theorem sp_24 {nv : Nat} (ht : eK nv t false) (hq : Q (if eCa t = true then 1 else 0) m) {key : Int} (hk : ∀ k a, t = .mulL k a → key = kC k (eN a)) : wq_24 (eKd t) key m Q := by
  unfold wq_24 wq_24_13
  cases t with
  | var v =>
    have hq : Q 0 m := hq
    exact ⟨fun _ => ⟨fun _ => hq, fun q => absurd q (show ¬ (1 : Int) = 4 by decide)⟩, fun q => absurd q (show ¬ (1 : Int) = 3 by decide)⟩
  | num i =>
    have hq : Q 0 m := hq
    exact ⟨fun _ => ⟨fun _ => hq, fun q => absurd q (show ¬ (2 : Int) = 4 by decide)⟩, fun q => absurd q (show ¬ (2 : Int) = 3 by decide)⟩
  | mulL k a =>
    obtain ⟨-, e1, e2, e3, e4, -⟩ := ht
    rw [hk k a rfl]
    have hq : Q (if (decide (k ≠ 1) && decide (k ≠ 2)) = true then 1 else 0) m := hq
    show (¬ (if eN a = 0 then (3 : Int) else 4) = 3 → _) ∧ _
    by_cases h0 : eN a = 0
    · have : eKd (.mulL k a) = 3 := if_pos h0
      rw [this, if_pos h0]
      refine ⟨fun q => absurd rfl q, fun _ => ⟨fun q => ?_, fun q => ⟨fun _ => ?_, fun q => absurd q (by decide)⟩⟩⟩
      · have h1 : k ≠ 1 := fun e => q (by rw [e, h0]; exact kC_nil)
        have h2 : k ≠ 2 := fun e => by have := e4 e; omega
        rw [if_pos (by simp [h1, h2])] at hq
        exact hq
      · rw [h0, ← kC_nil] at q
        obtain ⟨rfl, -⟩ := kC_inj e1 (Or.inl rfl) (by omega) (by omega) q
        rw [if_neg (by simp)] at hq
        exact hq
    · have : eKd (.mulL k a) = 4 := if_neg h0
      rw [this, if_neg h0]
      refine ⟨fun _ => ⟨fun q => absurd rfl q, fun _ => ⟨fun q => ?_, fun q => ?_⟩⟩, fun q => absurd q (by decide)⟩
      · have e186 : kC 2 2 = 186 := by decide
        rw [← e186] at q
        obtain ⟨rfl, -⟩ := kC_inj e1 (Or.inr (Or.inl rfl)) e2 (by omega) q
        rw [if_neg (by simp)] at hq
        exact hq
      · have h1 : k ≠ 1 := fun e => h0 (e3 e)
        have h2 : k ≠ 2 := fun e => q (by rw [e, e4 e]; decide)
        rw [if_pos (by simp [h1, h2])] at hq
        exact hq
  | add a r => exact absurd ht.1 (by decide)
  | sub a r => exact ht.elim
  | neg a => exact ht.elim
  | mulR a k => exact ht.elim
theorem bI_4 {k : Int} {n : Nat} (h : bI k n = 4 ∨ bI k n = 5) : n = 1 := by
  unfold bI at h
  split at h
  · repeat' split at h
    all_goals omega
  · rfl
  · repeat' split at h
    all_goals omega
  · omega
theorem eM_pos {k : Int} {a : pE} (h : eN a ≠ 0) : eM a + 1 ≤ eM (.mulL k a) := by
  show eM a + 1 ≤ (if eN a = 0 then 0 else if eN a = 3 then 2 else 1) + eM a
  rw [if_neg h]
  split <;> omega
/-- calledFrom -/
theorem sp_49 {nv : Nat} (h : cK T m a c k0 k1 k2) (ht : cQ m c k0 k1 k2 t n) (hk : eK nv t false) (hc : eCa t = true) (hm : eM t ≤ 100) (hq : Q (cal t false) m) : wq_49 (a : Int) n T m Q := by
  unfold wq_49 wq_49_4
  refine wL2_rule (Nat.lt_wfRel.wf) (fun x y m' => m' = m ∧ ∃ (d : Nat) (t' : pE), y = d ∧ cQ m c k0 k1 k2 t' x ∧ eK nv t' false ∧ eCa t' = true ∧ d + eM t' ≤ 100 ∧ cal t' false = cal t false) (fun _ y _ => 200 - y.toNat) ?_ ⟨rfl, 0, t, rfl, ht, hk, hc, by omega, rfl⟩
  rintro P x y m' ⟨rfl, d, t', rfl, g1, g2, g3, g4, g5⟩ hP
  cases t' with
  | mulL k b =>
    obtain ⟨g11, g12, g13, g14, g15, g16, g17, g18⟩ := g1
    have hxr : 0 ≤ x ∧ x < c := g12
    unfold wf_49_4
    rw [Int.toNat_natCast]
    refine ⟨fun q => by omega, fun _ => ⟨h.1, sp_41 h ?_⟩⟩
    rw [if_pos hxr, g14]
    refine sp_23 g17 g16 ?_
    have hcal : cal (.mulL k b) false = if bI k (eN b) = 0 then kC k (eN b) else if bI k (eN b) = 4 ∨ bI k (eN b) = 5 then cal b true else 0 := rfl
    rw [hcal] at g5
    have inner : bI k (eN b) = 4 ∨ bI k (eN b) = 5 → wq_49_47 P (a : Int) x (d : Int) T m' Q := by
      intro h45
      have hn1 := bI_4 h45
      rw [if_neg (by omega), if_pos h45] at g5
      cases b with
      | add w r =>
        have hcal2 : cal (.add w r) true = if eCa w = true then cal w false else 0 := rfl
        rw [hcal2] at g5
        have hw : cQ m' c k0 k1 k2 w (m' k2 (3 * x + ((0 : Nat) : Int))) := by
          have := g18.2.2.1
          rw [show 3 * x + 0 = 3 * x + ((0 : Nat) : Int) by omega] at this
          exact this
        have hwk : eK nv w false := g2.2.2.2.2.2.2.1
        have hmw : eM w + 1 ≤ eM (.mulL k (.add w r)) := by
          have := eM_pos (k := k) (a := .add w r) (by omega)
          have : eM (.add w r) = eM w + eM r := rfl
          omega
        obtain ⟨q1, q2⟩ := cQ_kd hw
        unfold wq_49_47
        rw [Int.toNat_natCast]
        refine ⟨h.1, sp_42 (j := 0) h hxr (by omega) ⟨h.1, sp_40 h ?_⟩⟩
        rw [if_pos q1, q2]
        refine ⟨h.1, sp_41 h ?_⟩
        rw [if_pos q1]
        refine sp_24 hwk ?_ (fun k' b' e => ?_)
        · by_cases hca : eCa w = true
          · rw [if_pos hca]
            rw [if_pos hca] at g5
            refine ⟨fun _ => ⟨show -2147483648 ≤ _ ∧ _ < 2147483648 by omega, hP _ _ _ ⟨rfl, d + 1, w, by omega, hw, hwk, hca, by omega, g5⟩ ?_⟩, fun q => absurd q (by decide)⟩
            show 200 - _ < 200 - _
            omega
          · rw [if_neg hca]
            rw [if_neg hca] at g5
            rw [← g5] at hq
            exact ⟨fun q => absurd rfl q, fun _ => hq⟩
        · subst e
          exact hw.2.2.2.1
      | var v => exact absurd hn1 (by show ¬ 0 = 1; decide)
      | num i => exact absurd hn1 (by show ¬ 0 = 1; decide)
      | mulL k' a' => exact absurd hn1 (by show ¬ 0 = 1; decide)
      | sub a' r => exact g18.elim
      | neg a' => exact g18.elim
      | mulR a' k' => exact g18.elim
    refine ⟨fun hne => ⟨fun h4 => inner (Or.inl h4), fun n4 => ⟨fun h5 => inner (Or.inr h5), fun n5 => ?_⟩⟩, fun he => ?_⟩
    · rw [if_neg hne, if_neg (by omega)] at g5
      rw [← g5] at hq
      exact hq
    · rw [if_pos he] at g5
      rw [← g5] at hq
      exact hq
  | var v => cases g3
  | num i => cases g3
  | add a' r => cases g3
  | sub a' r => cases g3
  | neg a' => cases g3
  | mulR a' k' => cases g3
end CK
