/-! TEXT AND ITS PARTS, pure -/
def hd (l : List Int) : Int := match l with
  | [] => 0
  | c :: _ => c
def cSm (c : Int) : Bool := decide (97 ≤ c) && decide (c ≤ 122)
def cLg (c : Int) : Bool := decide (65 ≤ c) && decide (c ≤ 90)
def cDg (c : Int) : Bool := decide (48 ≤ c) && decide (c ≤ 57)
def cWd (c : Int) : Bool := cSm c || (cLg c || cDg c)
def cSp (c : Int) : Bool := decide (c = 32)
def pkM (l : List Int) : Int := l.foldl (fun f c => 128 * f + c) 0
def pkI (l : List Int) : Int := l.foldl (fun f c => 10 * f + c - 48) 0
theorem hd_drop {l : List Int} {k : Nat} (h : k < l.length) : l.drop k = hd (l.drop k) :: l.drop (k + 1) := by
  rw [List.drop_eq_getElem_cons h]
  rfl
theorem hd_none {l : List Int} {k : Nat} (h : l.length ≤ k) : hd (l.drop k) = 0 := by
  rw [List.drop_eq_nil_of_le h]
  rfl
theorem tw_hd {p : Int → Bool} (hp : p 0 = false) : ∀ (l : List Int) (k : Nat), k ≤ (l.takeWhile p).length → (p (hd (l.drop k)) = true ↔ k < (l.takeWhile p).length)
  | [], k, hk => by
    have : k = 0 := by simpa using hk
    subst this
    show p 0 = true ↔ _
    rw [hp]
    simp
  | c :: r, k, hk => by
    rw [List.takeWhile_cons] at hk ⊢
    cases hc : p c with
    | true =>
      rw [hc] at hk
      cases k with
      | zero =>
        show p c = true ↔ _
        simp [hc]
      | succ k =>
        have := tw_hd hp r k (by simpa using hk)
        rw [List.drop_succ_cons]
        simpa using this
    | false =>
      rw [hc] at hk
      have : k = 0 := by simpa using hk
      subst this
      show p c = true ↔ _
      simp [hc]
theorem tw_le {p : Int → Bool} : ∀ (l : List Int), (l.takeWhile p).length ≤ l.length
  | [] => Nat.le_refl _
  | c :: r => by
    rw [List.takeWhile_cons]
    cases p c with
    | true => simpa using tw_le r
    | false => simp
theorem take_hd {l : List Int} {k : Nat} (h : k < l.length) : l.take (k + 1) = l.take k ++ [hd (l.drop k)] := by
  have := hd_drop h
  have e : l[k] = hd (l.drop k) := by
    rw [List.drop_eq_getElem_cons h]
    rfl
  rw [← e, List.take_succ_eq_append_getElem h]
theorem pkM_s (l : List Int) (c : Int) : pkM (l ++ [c]) = 128 * pkM l + c := by
  unfold pkM
  rw [List.foldl_append]
  rfl
theorem pkI_s (l : List Int) (c : Int) : pkI (l ++ [c]) = 10 * pkI l + c - 48 := by
  unfold pkI
  rw [List.foldl_append]
  rfl
theorem hd_mem {l : List Int} {k : Nat} (h : k < l.length) : hd (l.drop k) ∈ l := by
  have : hd (l.drop k) ∈ l.drop k := by
    rw [hd_drop h]
    exact List.mem_cons_self ..
  exact List.mem_of_mem_drop this
theorem pkM_b {l : List Int} (h : ∀ c ∈ l, 32 ≤ c ∧ c ≤ 126) : ∀ k : Nat, k ≤ 6 → 0 ≤ pkM (l.take k) ∧ pkM (l.take k) < 4398046511104 ∧ (k ≤ 5 → pkM (l.take k) < 34359738368) ∧ (k ≤ 4 → pkM (l.take k) < 268435456) ∧ (k ≤ 3 → pkM (l.take k) < 2097152) ∧ (k ≤ 2 → pkM (l.take k) < 16384) ∧ (k ≤ 1 → pkM (l.take k) < 128) ∧ (k = 0 → pkM (l.take k) = 0)
  | 0, _ => by
    show 0 ≤ pkM [] ∧ _
    have : pkM [] = 0 := rfl
    simp [this]
  | k + 1, hk => by
    have ih := pkM_b h k (by omega)
    by_cases hl : k < l.length
    · have hc := h _ (hd_mem hl)
      rw [take_hd hl, pkM_s]
      omega
    · have : l.take (k + 1) = l.take k := by
        rw [List.take_of_length_le (by omega), List.take_of_length_le (by omega)]
      rw [this]
      have h0 : k = 0 → pkM (l.take k) = 0 := ih.2.2.2.2.2.2.2
      omega
theorem pkI_b {l : List Int} (h : ∀ c ∈ l, cDg c = true) : ∀ k : Nat, k ≤ 6 → 0 ≤ pkI (l.take k) ∧ pkI (l.take k) < 1000000 ∧ (k ≤ 5 → pkI (l.take k) < 100000) ∧ (k ≤ 4 → pkI (l.take k) < 10000) ∧ (k ≤ 3 → pkI (l.take k) < 1000) ∧ (k ≤ 2 → pkI (l.take k) < 100) ∧ (k ≤ 1 → pkI (l.take k) < 10) ∧ (k = 0 → pkI (l.take k) = 0)
  | 0, _ => by
    show 0 ≤ pkI [] ∧ _
    have : pkI [] = 0 := rfl
    simp [this]
  | k + 1, hk => by
    have ih := pkI_b h k (by omega)
    by_cases hl : k < l.length
    · have hc := h _ (hd_mem hl)
      unfold cDg at hc
      rw [Bool.and_eq_true, decide_eq_true_eq, decide_eq_true_eq] at hc
      rw [take_hd hl, pkI_s]
      omega
    · have : l.take (k + 1) = l.take k := by
        rw [List.take_of_length_le (by omega), List.take_of_length_le (by omega)]
      rw [this]
      have h0 : k = 0 → pkI (l.take k) = 0 := ih.2.2.2.2.2.2.2
      omega
theorem take_tw {p : Int → Bool} : ∀ (l : List Int) (k : Nat), k ≤ (l.takeWhile p).length → l.take k = (l.takeWhile p).take k
  | [], k, _ => rfl
  | c :: r, k, hk => by
    rw [List.takeWhile_cons] at hk ⊢
    cases hc : p c with
    | true =>
      rw [hc] at hk
      cases k with
      | zero => rfl
      | succ k =>
        have := take_tw r k (by simpa using hk)
        simpa using this
    | false =>
      rw [hc] at hk
      have : k = 0 := by simpa using hk
      subst this
      rfl
theorem tw_all {p : Int → Bool} : ∀ (l : List Int) (c : Int), c ∈ l.takeWhile p → p c = true
  | [], c, h => by cases h
  | a :: r, c, h => by
    rw [List.takeWhile_cons] at h
    cases hc : p a with
    | true =>
      rw [hc] at h
      rcases List.mem_cons.mp h with rfl | h
      · exact hc
      · exact tw_all r c h
    | false =>
      rw [hc] at h
      cases h
/-- a part: its sign (the model's numbers), its letters, what is left -/
def sgn (c : Int) : Int := if c = 46 then 4 else if c = 44 then 5 else if c = 40 then 6 else if c = 41 then 7 else if c = 91 then 8 else if c = 93 then 9 else if c = 124 then 10 else 12
def tk (l : List Int) : Int × Nat := match l with
  | [] => (0, 0)
  | c :: r => if cSm c = true then (if ((c :: r).takeWhile cWd).length ≤ 6 then 1 else 12, ((c :: r).takeWhile cWd).length)
    else if cLg c = true then (if ((c :: r).takeWhile cWd).length ≤ 4 then 2 else 12, ((c :: r).takeWhile cWd).length)
    else if cDg c = true then (if ((c :: r).takeWhile cDg).length ≤ 6 then 3 else 12, ((c :: r).takeWhile cDg).length)
    else if c = 58 ∧ hd r = 45 then (11, 2) else (sgn c, 1)
/-- spaces are passed over -/
def sk (tx : List Int) (p : Nat) : Nat := p + ((tx.drop p).takeWhile cSp).length
theorem sk_le {tx : List Int} {p : Nat} (h : p ≤ tx.length) : p ≤ sk tx p ∧ sk tx p ≤ tx.length := by
  have := tw_le (p := cSp) (tx.drop p)
  rw [List.length_drop] at this
  unfold sk
  omega
theorem tk_le : ∀ (l : List Int), (tk l).2 ≤ l.length
  | [] => Nat.le_refl _
  | c :: r => by
    unfold tk
    dsimp only
    split
    · exact tw_le _
    · split
      · exact tw_le _
      · split
        · exact tw_le _
        · split
          · rename_i h
            cases r with
            | nil => exact absurd h.2 (by decide)
            | cons d r =>
              show 2 ≤ r.length + 1 + 1
              omega
          · show 1 ≤ r.length + 1
            omega
theorem tk_pos : ∀ (l : List Int), l ≠ [] → 1 ≤ (tk l).2
  | [], h => absurd rfl h
  | c :: r, _ => by
    have tw1 : ∀ p : Int → Bool, p c = true → 1 ≤ ((c :: r).takeWhile p).length := fun p hp => by
      rw [List.takeWhile_cons, hp]
      show 1 ≤ (r.takeWhile p).length + 1
      omega
    unfold tk
    dsimp only
    split
    · rename_i h
      exact tw1 _ (by unfold cWd; rw [h]; rfl)
    · split
      · rename_i h
        exact tw1 _ (by unfold cWd; rw [h]; simp)
      · split
        · rename_i h
          exact tw1 _ h
        · split
          · show 1 ≤ 2
            omega
          · exact Nat.le_refl 1
