/-! NAMES: the class's number of a name, out of the model's -/
def rv : Nat → Int → Int → Int
  | 0, _, acc => acc
  | n + 1, k, acc => if k = 0 then acc else rv n (k / 128) (128 * acc + k % 128)
theorem rv_0 (n : Nat) (acc : Int) : rv n 0 acc = acc := by
  cases n with
  | zero => rfl
  | succ n => exact if_pos rfl
theorem pkM_nn : ∀ r : List Int, (∀ c ∈ r, 1 ≤ c ∧ c < 128) → 0 ≤ pkM r.reverse
  | [], _ => by
    show (0 : Int) ≤ 0
    omega
  | a :: r, h => by
    have h1 := h a (List.mem_cons_self ..)
    have ih := pkM_nn r (fun c hc => h c (List.mem_cons_of_mem _ hc))
    rw [List.reverse_cons, pkM_s]
    omega
theorem rv_pk : ∀ (r : List Int) (n : Nat) (acc : Int), (∀ c ∈ r, 1 ≤ c ∧ c < 128) → r.length ≤ n → rv n (pkM r.reverse) acc = acc * p7 r.length + pkC r.reverse
  | [], n, acc, _, _ => by
    show rv n 0 acc = acc * 1 + 0
    rw [rv_0]
    omega
  | a :: r, 0, _, _, hn => by simp at hn
  | a :: r, n + 1, acc, h, hn => by
    have h1 := h a (List.mem_cons_self ..)
    have hr := fun c hc => h c (List.mem_cons_of_mem _ hc)
    have ih := rv_pk r n (128 * acc + a) hr (by simpa using hn)
    have hnn := pkM_nn r hr
    rw [List.reverse_cons, pkM_s, pkC_s]
    show (if 128 * pkM r.reverse + a = 0 then acc else rv n ((128 * pkM r.reverse + a) / 128) (128 * acc + (128 * pkM r.reverse + a) % 128)) = acc * p7 (r.length + 1) + _
    rw [if_neg (by omega), show (128 * pkM r.reverse + a) / 128 = pkM r.reverse by omega, show (128 * pkM r.reverse + a) % 128 = a by omega, ih, p7_s, List.length_reverse, Int.add_mul, ← Int.mul_assoc acc 128, Int.mul_comm acc 128]
    omega
theorem rv_w {l : List Int} {n : Nat} (h : ∀ c ∈ l, 1 ≤ c ∧ c < 128) (hn : l.length ≤ n) : rv n (pkM l) 0 = pkC l := by
  have := rv_pk l.reverse n 0 (fun c hc => h c (List.mem_reverse.mp hc)) (by rw [List.length_reverse]; exact hn)
  rw [List.reverse_reverse] at this
  rw [this]
  omega
theorem pkC_nn : ∀ l : List Int, (∀ c ∈ l, 1 ≤ c ∧ c < 128) → 0 ≤ pkC l
  | [], _ => Int.le_refl 0
  | a :: r, h => by
    have h1 := h a (List.mem_cons_self ..)
    have ih := pkC_nn r (fun c hc => h c (List.mem_cons_of_mem _ hc))
    show 0 ≤ a + 128 * pkC r
    omega
theorem pkC_inj : ∀ l l' : List Int, (∀ c ∈ l, 1 ≤ c ∧ c < 128) → (∀ c ∈ l', 1 ≤ c ∧ c < 128) → pkC l = pkC l' → l = l'
  | [], [], _, _, _ => rfl
  | [], a :: r, _, h, e => by
    have h1 := h a (List.mem_cons_self ..)
    have := pkC_nn r (fun c hc => h c (List.mem_cons_of_mem _ hc))
    have e : 0 = a + 128 * pkC r := e
    omega
  | a :: r, [], h, _, e => by
    have h1 := h a (List.mem_cons_self ..)
    have := pkC_nn r (fun c hc => h c (List.mem_cons_of_mem _ hc))
    have e : a + 128 * pkC r = 0 := e
    omega
  | a :: r, b :: s, h, h', e => by
    have h1 := h a (List.mem_cons_self ..)
    have h2 := h' b (List.mem_cons_self ..)
    have e : a + 128 * pkC r = b + 128 * pkC s := e
    have e1 : a = b := by omega
    have e2 : pkC r = pkC s := by omega
    rw [e1, pkC_inj r s (fun c hc => h c (List.mem_cons_of_mem _ hc)) (fun c hc => h' c (List.mem_cons_of_mem _ hc)) e2]
/-- a word: letters and digits, a letter first -/
def wOK (k : Int) : Prop := ∃ l : List Int, l ≠ [] ∧ l.length ≤ 6 ∧ (∀ c ∈ l, 48 ≤ c ∧ c ≤ 122) ∧ (65 ≤ hd l ∧ hd l ≤ 90 ∨ 97 ≤ hd l ∧ hd l ≤ 122) ∧ k = pkM l
def nmOK (k : Int) : Prop := k = 1 ∨ k = 2 ∨ wOK k
def nC (k : Int) : Int := if k = 1 then 11995 else if k = 2 then 46 else rv 6 k 0
theorem wOK_l {l : List Int} (h : ∀ c ∈ l, 48 ≤ c ∧ c ≤ 122) : ∀ c ∈ l, 1 ≤ c ∧ c < 128 := fun c hc => by
  have := h c hc
  omega
theorem pkM_lo {l : List Int} (hl : l ≠ []) (h : ∀ c ∈ l, 48 ≤ c ∧ c ≤ 122) : 48 ≤ pkM l := by
  rcases List.eq_nil_or_concat l with e | ⟨r, b, e⟩
  · exact absurd e hl
  · rw [List.concat_eq_append] at e
    subst e
    have hb := h b (by simp)
    have := pkM_nn r.reverse (fun c hc => wOK_l h c (by rw [List.mem_reverse] at hc; simp [hc]))
    rw [List.reverse_reverse] at this
    rw [pkM_s]
    omega
theorem nC_w {l : List Int} (hl : l ≠ []) (hn : l.length ≤ 6) (h : ∀ c ∈ l, 48 ≤ c ∧ c ≤ 122) : nC (pkM l) = pkC l := by
  have := pkM_lo hl h
  unfold nC
  rw [if_neg (by omega), if_neg (by omega), rv_w (wOK_l h) hn]
theorem pkC_hd {l : List Int} (hl : l ≠ []) (h : ∀ c ∈ l, 48 ≤ c ∧ c ≤ 122) : pkC l % 128 = hd l ∧ 0 < pkC l := by
  obtain ⟨a, r, rfl⟩ := List.exists_cons_of_ne_nil hl
  have h1 := h a (List.mem_cons_self ..)
  have := pkC_nn r (fun c hc => wOK_l h c (List.mem_cons_of_mem _ hc))
  show (a + 128 * pkC r) % 128 = a ∧ 0 < a + 128 * pkC r
  omega
theorem nC_inj {k k' : Int} (h : nmOK k) (h' : nmOK k') (e : nC k = nC k') : k = k' := by
  have one : nC 1 = 11995 := rfl
  have two : nC 2 = 46 := rfl
  have wd : ∀ k, wOK k → nC k ≠ 11995 ∧ nC k ≠ 46 := by
    rintro k ⟨l, a1, a2, a3, a4, rfl⟩
    rw [nC_w a1 a2 a3]
    have := (pkC_hd a1 a3).1
    omega
  rcases h with rfl | rfl | h
  · rcases h' with rfl | rfl | h'
    · rfl
    · rw [one, two] at e
      omega
    · exact absurd (e.symm.trans one) (wd k' h').1
  · rcases h' with rfl | rfl | h'
    · rw [one, two] at e
      omega
    · rfl
    · exact absurd (e.symm.trans two) (wd k' h').2
  · rcases h' with rfl | rfl | h'
    · exact absurd (e.trans one) (wd k h).1
    · exact absurd (e.trans two) (wd k h).2
    · obtain ⟨l, a1, a2, a3, a4, rfl⟩ := h
      obtain ⟨l', b1, b2, b3, b4, rfl⟩ := h'
      rw [nC_w a1 a2 a3, nC_w b1 b2 b3] at e
      rw [pkC_inj l l' (wOK_l a3) (wOK_l b3) e]
theorem nC_r {k : Int} (h : nmOK k) : 0 < nC k ∧ nC k < 4398046511104 := by
  rcases h with rfl | rfl | ⟨l, a1, a2, a3, a4, rfl⟩
  · decide
  · decide
  · rw [nC_w a1 a2 a3]
    refine ⟨(pkC_hd a1 a3).2, ?_⟩
    have := (pkC_b (l := l) (fun c hc => by have := a3 c hc; omega) 6).2
    rw [List.take_of_length_le a2] at this
    exact this
theorem wOK_ne {k : Int} (h : wOK k) : k ≠ 1 ∧ k ≠ 2 := by
  obtain ⟨l, a1, a2, a3, a4, rfl⟩ := h
  have := pkM_lo a1 a3
  omega
/-- the key of a name with n arguments -/
def kC (k : Int) (n : Nat) : Int := 4 * nC k + (n : Int)
theorem kC_inj {k k' : Int} {n n' : Nat} (h : nmOK k) (h' : nmOK k') (hn : n ≤ 3) (hn' : n' ≤ 3) (e : kC k n = kC k' n') : k = k' ∧ n = n' := by
  unfold kC at e
  exact ⟨nC_inj h h' (by omega), by omega⟩
theorem kC_r {k : Int} {n : Nat} (h : nmOK k) (hn : n ≤ 3) : 0 < kC k n ∧ kC k n < 17592186044416 := by
  have := nC_r h
  unfold kC
  omega
theorem kC_a {k : Int} {n : Nat} (hn : n ≤ 3) : jA (kC k n) 3 = n := by
  have := jA_m (kC k n) (k := 2) (by omega)
  rw [show ((2 ^ 2 - 1 : Nat) : Int) = 3 from rfl, show ((2 ^ 2 : Nat) : Int) = 4 from rfl] at this
  rw [this]
  unfold kC
  omega
theorem wOK_lit {k : Int} (l : List Int) (h1 : (l.length ≠ 0 ∧ l.length ≤ 6) ∧ (65 ≤ hd l ∧ hd l ≤ 90 ∨ 97 ≤ hd l ∧ hd l ≤ 122) ∧ k = pkM l) (h2 : ∀ c ∈ l, 48 ≤ c ∧ c ≤ 122) : wOK k := ⟨l, fun e => h1.1.1 (by rw [e]; rfl), h1.1.2, h2, h1.2.1, h1.2.2⟩
/-- the built in predicates, by number -/
def bI (k : Int) (n : Nat) : Int := match n with
  | 0 => if k = 245152485 then 1 else if k = 215512300 then 2 else if k = 1637108 then 3 else 0
  | 1 => if k = 209221228 then 4 else if k = 1816564 then 5 else 0
  | 2 => if k = 242775781 then 6 else if k = 228162035 then 7 else if k = 13555 then 8 else 0
  | _ => 0
theorem bI_b (k : Int) (n : Nat) : bBi k n = true ↔ bI k n ≠ 0 := by
  unfold bBi bI
  split
  · simp only [Bool.or_eq_true, decide_eq_true_eq]
    split
    · simp [*]
    · split
      · simp [*]
      · split
        · simp [*]
        · simp [*]
  · simp only [Bool.or_eq_true, decide_eq_true_eq]
    split
    · simp [*]
    · split
      · simp [*]
      · simp [*]
  · simp only [Bool.or_eq_true, decide_eq_true_eq]
    split
    · simp [*]
    · split
      · simp [*]
      · split
        · simp [*]
        · simp [*]
  · simp
theorem wOK_true : nmOK 245152485 := Or.inr (Or.inr (wOK_lit [116, 114, 117, 101] (by decide) (by decide)))
theorem wOK_fail : nmOK 215512300 := Or.inr (Or.inr (wOK_lit [102, 97, 105, 108] (by decide) (by decide)))
theorem wOK_cut : nmOK 1637108 := Or.inr (Or.inr (wOK_lit [99, 117, 116] (by decide) (by decide)))
theorem wOK_call : nmOK 209221228 := Or.inr (Or.inr (wOK_lit [99, 97, 108, 108] (by decide) (by decide)))
theorem wOK_not : nmOK 1816564 := Or.inr (Or.inr (wOK_lit [110, 111, 116] (by decide) (by decide)))
theorem wOK_same : nmOK 242775781 := Or.inr (Or.inr (wOK_lit [115, 97, 109, 101] (by decide) (by decide)))
theorem wOK_less : nmOK 228162035 := Or.inr (Or.inr (wOK_lit [108, 101, 115, 115] (by decide) (by decide)))
theorem wOK_is : nmOK 13555 := Or.inr (Or.inr (wOK_lit [105, 115] (by decide) (by decide)))
theorem wOK_add : nmOK 1602148 := Or.inr (Or.inr (wOK_lit [97, 100, 100] (by decide) (by decide)))
theorem wOK_sub : nmOK 1899234 := Or.inr (Or.inr (wOK_lit [115, 117, 98] (by decide) (by decide)))
theorem wOK_mul : nmOK 1800940 := Or.inr (Or.inr (wOK_lit [109, 117, 108] (by decide) (by decide)))
theorem kC_true : kC 245152485 0 = 854975952 := by decide
theorem kC_fail : kC 215512300 0 = 912901016 := by decide
theorem kC_cut : kC 1637108 0 = 7662476 := by decide
theorem kC_call : kC 209221228 1 = 913097613 := by decide
theorem kC_not : kC 1816564 1 = 7659449 := by decide
theorem kC_same : kC 242775781 2 = 854442958 := by decide
theorem kC_less : kC 228162035 2 = 972278706 := by decide
theorem kC_is : kC 13555 2 = 59302 := by decide
theorem kC_nil : kC 1 0 = 47980 := by decide
theorem kC_dot (n : Nat) : kC 2 n = 184 + n := by
  show 4 * 46 + (n : Int) = 184 + n
  omega
/-- builtinOf -/
theorem sp_23 {m : hy_m} {Q : Int → hy_m → Prop} {k : Int} {n : Nat} (h : nmOK k) (hn : n ≤ 3) (hq : Q (bI k n) m) : wq_23 (kC k n) m Q := by
  have iff : ∀ {k' : Int} {n' : Nat} {c : Int}, nmOK k' → n' ≤ 3 → kC k' n' = c → (kC k n = c ↔ (k = k' ∧ n = n')) := by
    intro k' n' c h1 h2 h3
    rw [← h3]
    refine ⟨fun e => kC_inj h h1 hn h2 e, ?_⟩
    rintro ⟨rfl, rfl⟩
    rfl
  have i1 := iff wOK_true (by omega) kC_true
  have i2 := iff wOK_fail (by omega) kC_fail
  have i3 := iff wOK_cut (by omega) kC_cut
  have i4 := iff wOK_call (by omega) kC_call
  have i5 := iff wOK_not (by omega) kC_not
  have i6 := iff wOK_same (by omega) kC_same
  have i7 := iff wOK_less (by omega) kC_less
  have i8 := iff wOK_is (by omega) kC_is
  unfold wq_23
  refine ⟨fun n1 => ⟨fun n2 => ⟨fun n3 => ⟨fun n4 => ⟨fun n5 => ⟨fun n6 => ⟨fun n7 => ⟨fun n8 => ?_, fun e => ?_⟩, fun e => ?_⟩, fun e => ?_⟩, fun e => ?_⟩, fun e => ?_⟩, fun e => ?_⟩, fun e => ?_⟩, fun e => ?_⟩
  · have : bI k n = 0 := by
      rw [Ne, i1] at n1
      rw [Ne, i2] at n2
      rw [Ne, i3] at n3
      rw [Ne, i4] at n4
      rw [Ne, i5] at n5
      rw [Ne, i6] at n6
      rw [Ne, i7] at n7
      rw [Ne, i8] at n8
      unfold bI
      split
      · rw [if_neg (fun e => n1 ⟨e, rfl⟩), if_neg (fun e => n2 ⟨e, rfl⟩), if_neg (fun e => n3 ⟨e, rfl⟩)]
      · rw [if_neg (fun e => n4 ⟨e, rfl⟩), if_neg (fun e => n5 ⟨e, rfl⟩)]
      · rw [if_neg (fun e => n6 ⟨e, rfl⟩), if_neg (fun e => n7 ⟨e, rfl⟩), if_neg (fun e => n8 ⟨e, rfl⟩)]
      · rfl
    rw [this] at hq
    exact hq
  · obtain ⟨rfl, rfl⟩ := i8.mp e; exact hq
  · obtain ⟨rfl, rfl⟩ := i7.mp e; exact hq
  · obtain ⟨rfl, rfl⟩ := i6.mp e; exact hq
  · obtain ⟨rfl, rfl⟩ := i5.mp e; exact hq
  · obtain ⟨rfl, rfl⟩ := i4.mp e; exact hq
  · obtain ⟨rfl, rfl⟩ := i3.mp e; exact hq
  · obtain ⟨rfl, rfl⟩ := i2.mp e; exact hq
  · obtain ⟨rfl, rfl⟩ := i1.mp e; exact hq
theorem sp_26 {m : hy_m} {Q : Int → hy_m → Prop} {k : Int} {n : Nat} (hn : n ≤ 3) (hq : Q (n : Int) m) : wq_26 (kC k n) m Q := by
  unfold wq_26
  rw [kC_a hn]
  exact ⟨show -2147483648 ≤ _ ∧ _ < 2147483648 by omega, hq⟩
/-- letters of a word of the text -/
theorem tk_word {tx : List Int} {p : Nat} (hp : pk1 tx p = 1 ∨ pk1 tx p = 2) : wOK (pwd tx p) ∧ nC (pwd tx p) = pkC ((tx.drop p).take (tk (tx.drop p)).2) := by
  unfold pwd
  unfold pk1 at hp
  generalize hl : tx.drop p = l at hp ⊢
  cases l with
  | nil =>
    have : (tk []).1 = 0 := rfl
    omega
  | cons c r =>
    have key : ∀ n : Nat, ((c :: r).takeWhile cWd).length = n → n ≤ 6 → (65 ≤ c ∧ c ≤ 90 ∨ 97 ≤ c ∧ c ≤ 122) → wOK (pkM ((c :: r).take n)) ∧ nC (pkM ((c :: r).take n)) = pkC ((c :: r).take n) := by
      intro n hn h6 hc
      have e : (c :: r).take n = (c :: r).takeWhile cWd := by
        rw [take_tw (p := cWd) _ _ (by omega), List.take_of_length_le (by omega)]
      have hcw : cWd c = true := by
        unfold cWd cSm cLg cDg
        simp only [Bool.or_eq_true, Bool.and_eq_true, decide_eq_true_eq]
        omega
      have hcons : (c :: r).takeWhile cWd = c :: r.takeWhile cWd := by
        rw [List.takeWhile_cons, hcw]
        rfl
      have hne : (c :: r).takeWhile cWd ≠ [] := by rw [hcons]; simp
      have hall : ∀ x ∈ (c :: r).takeWhile cWd, 48 ≤ x ∧ x ≤ 122 := by
        intro x hx
        have := tw_all _ x hx
        unfold cWd cSm cLg cDg at this
        simp only [Bool.or_eq_true, Bool.and_eq_true, decide_eq_true_eq] at this
        omega
      rw [e]
      refine ⟨⟨_, hne, by omega, hall, ?_, rfl⟩, nC_w hne (by omega) hall⟩
      rw [hcons]
      exact hc
    by_cases h1 : cSm c = true
    · have e : tk (c :: r) = (if ((c :: r).takeWhile cWd).length ≤ 6 then 1 else 12, ((c :: r).takeWhile cWd).length) := by
        unfold tk
        dsimp only
        rw [if_pos h1]
      rw [e] at hp ⊢
      dsimp only at hp ⊢
      unfold cSm at h1
      simp only [Bool.and_eq_true, decide_eq_true_eq] at h1
      by_cases h6 : ((c :: r).takeWhile cWd).length ≤ 6
      · exact key _ rfl h6 (by omega)
      · rw [if_neg h6] at hp
        omega
    · by_cases h2 : cLg c = true
      · have e : tk (c :: r) = (if ((c :: r).takeWhile cWd).length ≤ 4 then 2 else 12, ((c :: r).takeWhile cWd).length) := by
          unfold tk
          dsimp only
          rw [if_neg h1, if_pos h2]
        rw [e] at hp ⊢
        dsimp only at hp ⊢
        unfold cLg at h2
        simp only [Bool.and_eq_true, decide_eq_true_eq] at h2
        by_cases h6 : ((c :: r).takeWhile cWd).length ≤ 4
        · exact key _ rfl (by omega) (by omega)
        · rw [if_neg h6] at hp
          omega
      · exfalso
        unfold tk at hp
        dsimp only at hp
        rw [if_neg h1, if_neg h2] at hp
        by_cases h3 : cDg c = true
        · rw [if_pos h3] at hp
          dsimp only at hp
          split at hp <;> omega
        · rw [if_neg h3] at hp
          unfold sgn at hp
          repeat' split at hp
          all_goals (dsimp only at hp; omega)
