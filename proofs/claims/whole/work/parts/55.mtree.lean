/-! TREES IN THE MODEL'S ROWS: kind 76, word 77, arity 78, part 79 -/
def eN : pE → Nat
  | .add _ r => eN r + 1
  | _ => 0
theorem eN_L : ∀ l : List pE, eN (eL l) = l.length
  | [] => rfl
  | a :: r => by
    show eN (eL r) + 1 = r.length + 1
    rw [eN_L r]
/-- node n stands for the tree (j = -1), or its arguments from j on are these; nodes are all of A -/
def rP (m : hy_m) (A : Int → Prop) : pE → Int → Int → Prop
  | .var v, j, n => j = -1 ∧ A n ∧ m 76 n = 1 ∧ m 77 n = (v : Nat) ∧ m 78 n = 0
  | .num i, j, n => (j = -1 ∧ A n ∧ m 76 n = 2 ∧ m 77 n = i ∧ m 78 n = 0) ∨ (0 ≤ j ∧ i = 0)
  | .mulL k a, j, n => j = -1 ∧ A n ∧ m 77 n = k ∧ m 78 n = (eN a : Nat) ∧ m 76 n = (if eN a = 0 then 3 else 4) ∧ eN a ≤ 3 ∧ rP m A a 0 n
  | .add a r, j, n => 0 ≤ j ∧ j < 3 ∧ rP m A a (-1) (m 79 (3 * n + j)) ∧ rP m A r (j + 1) n
  | _, _, _ => False
theorem rP_mono {m : hy_m} {A B : Int → Prop} (h : ∀ n, A n → B n) : ∀ (t : pE) (j n : Int), rP m A t j n → rP m B t j n
  | .var v, j, n, hr => ⟨hr.1, h _ hr.2.1, hr.2.2⟩
  | .num i, j, n, hr => by
    rcases hr with hr | hr
    · exact Or.inl ⟨hr.1, h _ hr.2.1, hr.2.2⟩
    · exact Or.inr hr
  | .mulL k a, j, n, hr => ⟨hr.1, h _ hr.2.1, hr.2.2.1, hr.2.2.2.1, hr.2.2.2.2.1, hr.2.2.2.2.2.1, rP_mono h a 0 n hr.2.2.2.2.2.2⟩
  | .add a r, j, n, hr => ⟨hr.1, hr.2.1, rP_mono h a _ _ hr.2.2.1, rP_mono h r _ _ hr.2.2.2⟩
  | .sub _ _, _, _, hr => hr.elim
  | .neg _, _, _, hr => hr.elim
  | .mulR _ _, _, _, hr => hr.elim
/-- the rows agree at the nodes of A -/
def rEq (m m' : hy_m) (A : Int → Prop) : Prop := ∀ n, A n → m' 76 n = m 76 n ∧ m' 77 n = m 77 n ∧ m' 78 n = m 78 n ∧ ∀ j : Int, 0 ≤ j → j < 3 → m' 79 (3 * n + j) = m 79 (3 * n + j)
theorem rP_eq {m m' : hy_m} {A : Int → Prop} (h : rEq m m' A) : ∀ (t : pE) (j n : Int), (0 ≤ j → A n) → rP m A t j n → rP m' A t j n
  | .var v, j, n, _, hr => by
    have g := h n hr.2.1
    exact ⟨hr.1, hr.2.1, by rw [g.1]; exact hr.2.2.1, by rw [g.2.1]; exact hr.2.2.2.1, by rw [g.2.2.1]; exact hr.2.2.2.2⟩
  | .num i, j, n, _, hr => by
    rcases hr with hr | hr
    · have g := h n hr.2.1
      exact Or.inl ⟨hr.1, hr.2.1, by rw [g.1]; exact hr.2.2.1, by rw [g.2.1]; exact hr.2.2.2.1, by rw [g.2.2.1]; exact hr.2.2.2.2⟩
    · exact Or.inr hr
  | .mulL k a, j, n, _, hr => by
    have g := h n hr.2.1
    exact ⟨hr.1, hr.2.1, by rw [g.2.1]; exact hr.2.2.1, by rw [g.2.2.1]; exact hr.2.2.2.1, by rw [g.1]; exact hr.2.2.2.2.1, hr.2.2.2.2.2.1, rP_eq h a 0 n (fun _ => hr.2.1) hr.2.2.2.2.2.2⟩
  | .add a r, j, n, hA, hr => by
    have g := h n (hA hr.1)
    refine ⟨hr.1, hr.2.1, ?_, rP_eq h r (j + 1) n (fun _ => hA hr.1) hr.2.2.2⟩
    rw [g.2.2.2 j hr.1 hr.2.1]
    exact rP_eq h a (-1) _ (fun q => by omega) hr.2.2.1
  | .sub _ _, _, _, _, hr => hr.elim
  | .neg _, _, _, _, hr => hr.elim
  | .mulR _ _, _, _, _, hr => hr.elim
/-- the arguments of a compound, one by one -/
theorem rP_L {m : hy_m} {A : Int → Prop} {n : Int} : ∀ (l : List pE) (j : Nat), j + l.length ≤ 3 → (∀ i (hi : i < l.length), rP m A l[i] (-1) (m 79 (3 * n + ((j + i : Nat) : Int)))) → rP m A (eL l) j n
  | [], j, _, _ => Or.inr ⟨by omega, rfl⟩
  | a :: r, j, hj, h => by
    refine ⟨by omega, by simp only [List.length_cons] at hj; omega, ?_, ?_⟩
    · have := h 0 (by simp)
      rw [show ((j + 0 : Nat) : Int) = (j : Int) by omega] at this
      exact this
    · have := rP_L (m := m) (A := A) (n := n) r (j + 1) (by simp only [List.length_cons] at hj; omega) (fun i hi => by
        have := h (i + 1) (by simp only [List.length_cons]; omega)
        rw [show ((j + (i + 1) : Nat) : Int) = ((j + 1 + i : Nat) : Int) by omega] at this
        exact this)
      rw [show ((j + 1 : Nat) : Int) = (j : Int) + 1 by omega] at this
      exact this
theorem rP_C {m : hy_m} {A : Int → Prop} {n k : Int} {l : List pE} (hA : A n) (h7 : m 77 n = k) (h8 : m 78 n = l.length) (h6 : m 76 n = if l.length = 0 then 3 else 4) (hl : l.length ≤ 3) (h : ∀ i (hi : i < l.length), rP m A l[i] (-1) (m 79 (3 * n + (i : Int)))) : rP m A (eC k l) (-1) n := by
  refine ⟨rfl, hA, h7, by rw [eN_L]; exact h8, by rw [eN_L]; exact h6, by rw [eN_L]; exact hl, ?_⟩
  exact rP_L l 0 (by omega) (fun i hi => by
    rw [show ((0 + i : Nat) : Int) = (i : Int) by omega]
    exact h i hi)
/-- the cells of a list that isn't closed: the last one waits for its second part -/
def rI (m : hy_m) (A : Int → Prop) : List pE → List Int → Prop
  | [], [] => True
  | a :: r, c :: cs => m 76 c = 4 ∧ m 77 c = 2 ∧ rP m A a (-1) (m 79 (3 * c)) ∧ (match cs with
    | [] => m 78 c = 1
    | d :: _ => m 78 c = 2 ∧ m 79 (3 * c + 1) = d) ∧ rI m A r cs
  | _, _ => False
/-- a list is closed: its cells become nodes of A -/
theorem rI_close {m m' : hy_m} {A B : Int → Prop} {t : pE} (hAB : ∀ n, A n → B n) (hE : rEq m m' A) : ∀ (l : List pE) (cs : List Int) (c0 : Int), l ≠ [] → rI m A l cs → (∀ c ∈ cs, B c) → (∀ c ∈ cs, m' 76 c = m 76 c ∧ m' 77 c = m 77 c ∧ m' 79 (3 * c) = m 79 (3 * c)) → (∀ c ∈ cs, m' 78 c = 2) → (∀ i (hi : i + 1 < cs.length), m' 79 (3 * cs[i] + 1) = m 79 (3 * cs[i] + 1)) → (∀ c, cs.getLast? = some c → rP m' B t (-1) (m' 79 (3 * c + 1))) → cs.head? = some c0 → rP m' B (eI t l) (-1) c0
  | [], _, _, h, _, _, _, _, _, _, _ => absurd rfl h
  | a :: r, [], _, _, h, _, _, _, _, _, _ => h.elim
  | a :: r, c :: cs, c0, _, hI, hB, hS, h2, hN, hT, hc => by
    cases hc
    obtain ⟨i1, i2, i3, i4, i5⟩ := hI
    obtain ⟨s1, s2, s3⟩ := hS c (List.mem_cons_self ..)
    have hitem : rP m' B a (-1) (m' 79 (3 * c + ((0 : Nat) : Int))) := by
      rw [show (3 * c + ((0 : Nat) : Int)) = 3 * c by omega, s3]
      exact rP_mono hAB a _ _ (rP_eq hE a (-1) _ (fun q => by omega) i3)
    have hrest : rP m' B (eI t r) (-1) (m' 79 (3 * c + 1)) := by
      cases r with
      | nil =>
        cases cs with
        | nil => exact hT c rfl
        | cons d cs => exact i5.elim
      | cons b r =>
        cases cs with
        | nil => exact i5.elim
        | cons d cs =>
          have hn := hN 0 (by simp)
          have e : m' 79 (3 * c + 1) = d := by
            have : m' 79 (3 * c + 1) = m 79 (3 * c + 1) := hn
            rw [this]
            exact i4.2
          rw [e]
          refine rI_close hAB hE (b :: r) (d :: cs) d (by simp) i5 (fun x hx => hB x (List.mem_cons_of_mem _ hx)) (fun x hx => hS x (List.mem_cons_of_mem _ hx)) (fun x hx => h2 x (List.mem_cons_of_mem _ hx)) (fun i hi => ?_) (fun x hx => hT x (by rw [List.getLast?_cons_cons]; exact hx)) rfl
          have := hN (i + 1) (by simp only [List.length_cons] at hi ⊢; omega)
          simpa using this
    show rP m' B (eC 2 [a, eI t r]) (-1) c
    refine rP_C (hB c (List.mem_cons_self ..)) (by rw [s2]; exact i2) (by rw [h2 c (List.mem_cons_self ..)]; rfl) (by rw [s1, i1]; rfl) (by show 2 ≤ 3; omega) (fun i hi => ?_)
    match i, hi with
    | 0, _ => exact hitem
    | 1, _ => exact hrest
