/-! THE MODEL'S NODES IN USE -/
/-- nodes of a tree -/
def nds (ar : Int → Int) : pE → Int → Int → List Int
  | .var _, _, n => [n]
  | .num _, j, n => if j = -1 then [n] else []
  | .mulL _ a, _, n => n :: nds ar a 0 n
  | .add a r, j, n => nds ar a (-1) (ar (3 * n + j)) ++ nds ar r (j + 1) n
  | _, _, _ => []
section ND
variable {m : hy_m} {A : Int → Prop}
theorem nds_root {t : pE} {n : Int} (h : rP m A t (-1) n) : n ∈ nds (m 79) t (-1) n := by
  cases t with
  | var v => exact List.mem_singleton.mpr rfl
  | num i => exact (by show n ∈ (if (-1 : Int) = -1 then [n] else []); rw [if_pos rfl]; exact List.mem_singleton.mpr rfl)
  | mulL k a => exact List.mem_cons_self ..
  | add a r => exact absurd h.1 (by decide)
  | sub a r => exact h.elim
  | neg a => exact h.elim
  | mulR a k => exact h.elim
theorem nds_A : ∀ (t : pE) (j n : Int), rP m A t j n → ∀ x ∈ nds (m 79) t j n, A x
  | .var v, j, n, h, x, hx => by rw [List.mem_singleton.mp hx]; exact h.2.1
  | .num i, j, n, h, x, hx => by
    have hx : x ∈ (if j = -1 then [n] else []) := hx
    rcases h with h | h
    · rw [if_pos h.1] at hx
      rw [List.mem_singleton.mp hx]
      exact h.2.1
    · rw [if_neg (by omega)] at hx
      cases hx
  | .mulL k a, j, n, h, x, hx => by
    rcases List.mem_cons.mp hx with rfl | hx
    · exact h.2.1
    · exact nds_A a 0 n h.2.2.2.2.2.2 x hx
  | .add a r, j, n, h, x, hx => by
    rcases List.mem_append.mp hx with hx | hx
    · exact nds_A a _ _ h.2.2.1 x hx
    · exact nds_A r _ _ h.2.2.2 x hx
  | .sub _ _, _, _, h, _, _ => h.elim
  | .neg _, _, _, h, _, _ => h.elim
  | .mulR _ _, _, _, h, _, _ => h.elim
/-- the arguments are among them -/
theorem nds_arg : ∀ (a : pE) (i n : Int), rP m A a i n → 0 ≤ i → ∀ j : Int, i ≤ j → j < i + (eN a : Nat) → m 79 (3 * n + j) ∈ nds (m 79) a i n
  | .var v, i, n, h, hi, j, h1, h2 => by have := h.1; omega
  | .num z, i, n, h, hi, j, h1, h2 => by
    have : eN (.num z : pE) = 0 := rfl
    omega
  | .mulL k a, i, n, h, hi, j, h1, h2 => by have := h.1; omega
  | .add a r, i, n, h, hi, j, h1, h2 => by
    have e : (eN (.add a r) : Nat) = eN r + 1 := rfl
    rw [e] at h2
    show _ ∈ nds (m 79) a (-1) (m 79 (3 * n + i)) ++ nds (m 79) r (i + 1) n
    by_cases q : j = i
    · rw [q]
      exact List.mem_append.mpr (Or.inl (nds_root h.2.2.1))
    · exact List.mem_append.mpr (Or.inr (nds_arg r (i + 1) n h.2.2.2 (by omega) j (by omega) (by omega)))
  | .sub _ _, _, _, h, _, _, _, _ => h.elim
  | .neg _, _, _, h, _, _, _, _ => h.elim
  | .mulR _ _, _, _, h, _, _, _, _ => h.elim
theorem nds_cl : ∀ (t : pE) (j n : Int), rP m A t j n → ∀ x ∈ nds (m 79) t j n, ∀ i : Int, 0 ≤ i → i < m 78 x → m 79 (3 * x + i) ∈ nds (m 79) t j n
  | .var v, j, n, h, x, hx, i, h1, h2 => by
    rw [List.mem_singleton.mp hx, h.2.2.2.2] at h2
    omega
  | .num k, j, n, h, x, hx, i, h1, h2 => by
    have hx : x ∈ (if j = -1 then [n] else []) := hx
    rcases h with h | h
    · rw [if_pos h.1] at hx
      rw [List.mem_singleton.mp hx, h.2.2.2.2] at h2
      omega
    · rw [if_neg (by omega)] at hx
      cases hx
  | .mulL k a, j, n, h, x, hx, i, h1, h2 => by
    refine List.mem_cons_of_mem _ ?_
    rcases List.mem_cons.mp hx with rfl | hx
    · rw [h.2.2.2.1] at h2
      exact nds_arg a 0 x h.2.2.2.2.2.2 (by omega) i h1 (by omega)
    · exact nds_cl a 0 n h.2.2.2.2.2.2 x hx i h1 h2
  | .add a r, j, n, h, x, hx, i, h1, h2 => by
    rcases List.mem_append.mp hx with hx | hx
    · exact List.mem_append.mpr (Or.inl (nds_cl a _ _ h.2.2.1 x hx i h1 h2))
    · exact List.mem_append.mpr (Or.inr (nds_cl r _ _ h.2.2.2 x hx i h1 h2))
  | .sub _ _, _, _, h, _, _, _, _, _ => h.elim
  | .neg _, _, _, h, _, _, _, _, _ => h.elim
  | .mulR _ _, _, _, h, _, _, _, _, _ => h.elim
/-- arguments besides the first; operations -/
def fAr (m : hy_m) (x : Int) : Nat := (m 78 x).toNat - 1
def fOp (m : hy_m) (x : Int) : Nat := if ari (m 77 x) = true ∧ m 78 x = 2 then 1 else 0
theorem nds_sA : ∀ (t : pE) (j n : Int), rP m A t j n → ((nds (m 79) t j n).map (fAr m)).sum ≤ eM t
  | .var v, j, n, h => by
    show fAr m n + 0 ≤ 0
    unfold fAr
    rw [h.2.2.2.2]
    exact Nat.le_refl _
  | .num k, j, n, h => by
    show ((if j = -1 then [n] else []).map (fAr m)).sum ≤ 0
    rcases h with h | h
    · rw [if_pos h.1]
      show fAr m n + 0 ≤ 0
      unfold fAr
      rw [h.2.2.2.2]
      exact Nat.le_refl _
    · rw [if_neg (by omega)]
      exact Nat.le_refl _
  | .mulL k a, j, n, h => by
    have := nds_sA a 0 n h.2.2.2.2.2.2
    show fAr m n + ((nds (m 79) a 0 n).map (fAr m)).sum ≤ (if eN a = 0 then 0 else if eN a = 3 then 2 else 1) + eM a
    have h3 := h.2.2.2.2.2.1
    have e : fAr m n ≤ (if eN a = 0 then 0 else if eN a = 3 then 2 else 1) := by
      unfold fAr
      rw [h.2.2.2.1]
      split
      · omega
      · split <;> omega
    omega
  | .add a r, j, n, h => by
    have h1 := nds_sA a _ _ h.2.2.1
    have h2 := nds_sA r _ _ h.2.2.2
    show ((nds (m 79) a (-1) (m 79 (3 * n + j)) ++ nds (m 79) r (j + 1) n).map (fAr m)).sum ≤ eM a + eM r
    rw [List.map_append, List.sum_append]
    omega
  | .sub _ _, _, _, h => h.elim
  | .neg _, _, _, h => h.elim
  | .mulR _ _, _, _, h => h.elim
theorem nds_sO : ∀ (t : pE) (j n : Int), rP m A t j n → ((nds (m 79) t j n).map (fOp m)).sum ≤ aM t
  | .var v, j, n, h => by
    show fOp m n + 0 ≤ 0
    unfold fOp
    rw [h.2.2.2.2, if_neg (fun q => absurd q.2 (by decide))]
    exact Nat.le_refl _
  | .num k, j, n, h => by
    show ((if j = -1 then [n] else []).map (fOp m)).sum ≤ 0
    rcases h with h | h
    · rw [if_pos h.1]
      show fOp m n + 0 ≤ 0
      unfold fOp
      rw [h.2.2.2.2, if_neg (fun q => absurd q.2 (by decide))]
      exact Nat.le_refl _
    · rw [if_neg (by omega)]
      exact Nat.le_refl _
  | .mulL k a, j, n, h => by
    have := nds_sO a 0 n h.2.2.2.2.2.2
    show fOp m n + ((nds (m 79) a 0 n).map (fOp m)).sum ≤ (if ari k = true ∧ eN a = 2 then 1 else 0) + aM a
    have e : fOp m n ≤ (if ari k = true ∧ eN a = 2 then 1 else 0) := by
      unfold fOp
      rw [h.2.2.2.1, h.2.2.1]
      by_cases c : ari k = true ∧ eN a = 2
      · rw [if_pos c]
        split <;> omega
      · rw [if_neg c, if_neg (fun q => c ⟨q.1, by have := q.2; omega⟩)]
        exact Nat.le_refl _
    omega
  | .add a r, j, n, h => by
    have h1 := nds_sO a _ _ h.2.2.1
    have h2 := nds_sO r _ _ h.2.2.2
    show ((nds (m 79) a (-1) (m 79 (3 * n + j)) ++ nds (m 79) r (j + 1) n).map (fOp m)).sum ≤ aM a + aM r
    rw [List.map_append, List.sum_append]
    omega
  | .sub _ _, _, _, h => h.elim
  | .neg _, _, _, h => h.elim
  | .mulR _ _, _, _, h => h.elim
/-- nodes of goals, one after the other -/
def ndG (ar go : Int → Int) : List pE → Int → List Int
  | [], _ => []
  | g :: r, i => nds ar g (-1) (go i) ++ ndG ar go r (i + 1)
/-- nodes of a slot: rows of arguments, heads, goals -/
def zNd (R : (Int → Int) × (Int → Int) × (Int → Int)) (sl : Nat) (hd : Option pE) (gs : List pE) : List Int := (match hd with
  | some h => nds R.1 h (-1) (R.2.1 (sl : Int))
  | none => []) ++ ndG R.1 R.2.2 gs (5 * (sl : Int))
def mR (m : hy_m) : (Int → Int) × (Int → Int) × (Int → Int) := (m 79, m 81, m 83)
theorem ndG_all : ∀ (gs : List pE) (i : Int), (∀ k (hk : k < gs.length), rP m A gs[k] (-1) (m 83 (i + (k : Int)))) → (∀ x ∈ ndG (m 79) (m 83) gs i, A x ∧ ∀ j : Int, 0 ≤ j → j < m 78 x → m 79 (3 * x + j) ∈ ndG (m 79) (m 83) gs i) ∧ (∀ k (_ : k < gs.length), m 83 (i + (k : Int)) ∈ ndG (m 79) (m 83) gs i) ∧ 2 * ((ndG (m 79) (m 83) gs i).map (fAr m)).sum + gs.length ≤ eMs gs ∧ ((ndG (m 79) (m 83) gs i).map (fOp m)).sum ≤ aMs gs
  | [], i, _ => ⟨(fun x hx => by cases hx), (fun k hk => absurd hk (Nat.not_lt_zero _)), Nat.le_refl _, Nat.le_refl _⟩
  | g :: r, i, h => by
    have h0 : rP m A g (-1) (m 83 i) := by
      have := h 0 (Nat.succ_pos _)
      rw [show i + ((0 : Nat) : Int) = i by omega] at this
      exact this
    obtain ⟨a1, a2, a3, a4⟩ := ndG_all r (i + 1) (fun k hk => by
      have := h (k + 1) (by simp only [List.length_cons]; omega)
      rw [show i + ((k + 1 : Nat) : Int) = i + 1 + (k : Int) by omega] at this
      exact this)
    have b3 := nds_sA g _ _ h0
    have b4 := nds_sO g _ _ h0
    refine ⟨fun x hx => ?_, fun k hk => ?_, ?_, ?_⟩
    · rcases List.mem_append.mp hx with hx | hx
      · exact ⟨nds_A g _ _ h0 x hx, fun j j1 j2 => List.mem_append.mpr (Or.inl (nds_cl g _ _ h0 x hx j j1 j2))⟩
      · exact ⟨(a1 x hx).1, fun j j1 j2 => List.mem_append.mpr (Or.inr ((a1 x hx).2 j j1 j2))⟩
    · cases k with
      | zero =>
        rw [show i + ((0 : Nat) : Int) = i by omega]
        exact List.mem_append.mpr (Or.inl (nds_root h0))
      | succ k =>
        rw [show i + ((k + 1 : Nat) : Int) = i + 1 + (k : Int) by omega]
        exact List.mem_append.mpr (Or.inr (a2 k (by simp only [List.length_cons] at hk; omega)))
    · show 2 * ((nds (m 79) g (-1) (m 83 i) ++ ndG (m 79) (m 83) r (i + 1)).map (fAr m)).sum + (r.length + 1) ≤ 2 * eM g + 1 + eMs r
      rw [List.map_append, List.sum_append]
      omega
    · show ((nds (m 79) g (-1) (m 83 i) ++ ndG (m 79) (m 83) r (i + 1)).map (fOp m)).sum ≤ aM g + aMs r
      rw [List.map_append, List.sum_append]
      omega
/-- a slot: its nodes are closed, and few -/
theorem zNd_all {sl nv : Nat} {hd : Option pE} {gs : List pE} (h : clR m sl hd gs nv) (hsl : sl < 28) (hk : kOK hd gs nv) (ha : aH hd + aMs gs ≤ 30) : (∀ x ∈ zNd (mR m) sl hd gs, (0 ≤ x ∧ x < 3584) ∧ ∀ j : Int, 0 ≤ j → j < m 78 x → m 79 (3 * x + j) ∈ zNd (mR m) sl hd gs) ∧ (∀ k (_ : k < gs.length), m 83 (5 * (sl : Int) + (k : Int)) ∈ zNd (mR m) sl hd gs) ∧ (∀ t, hd = some t → m 81 (sl : Int) ∈ zNd (mR m) sl hd gs) ∧ ((zNd (mR m) sl hd gs).map (fAr m)).sum ≤ 59 ∧ ((zNd (mR m) sl hd gs).map (fOp m)).sum ≤ 30 := by
  obtain ⟨c, hc, -, -, -, -, -, hg, hh, -⟩ := h
  have hA : ∀ x, nA sl c [] x → 0 ≤ x ∧ x < 3584 := fun x q => by
    have q1 := q.1
    have q2 := q.2.1
    omega
  obtain ⟨a1, a2, a3, a4⟩ := ndG_all gs (5 * (sl : Int)) hg
  have hs := hk.2.2.2.2
  cases hd with
  | none =>
    refine ⟨fun x hx => ⟨hA x (a1 x hx).1, (a1 x hx).2⟩, a2, (fun t q => by cases q), ?_, ?_⟩
    · have hs : 0 + eMs gs ≤ 119 := hs
      show ((ndG (m 79) (m 83) gs (5 * (sl : Int))).map (fAr m)).sum ≤ 59
      omega
    · have ha : 0 + aMs gs ≤ 30 := ha
      show ((ndG (m 79) (m 83) gs (5 * (sl : Int))).map (fOp m)).sum ≤ 30
      omega
  | some t =>
    have ht := hh t rfl
    have b3 := nds_sA t _ _ ht
    have b4 := nds_sO t _ _ ht
    refine ⟨fun x hx => ?_, fun k hk => List.mem_append.mpr (Or.inr (a2 k hk)), fun t' q => ?_, ?_, ?_⟩
    · rcases List.mem_append.mp hx with hx | hx
      · exact ⟨hA x (nds_A t _ _ ht x hx), fun j j1 j2 => List.mem_append.mpr (Or.inl (nds_cl t _ _ ht x hx j j1 j2))⟩
      · exact ⟨hA x (a1 x hx).1, fun j j1 j2 => List.mem_append.mpr (Or.inr ((a1 x hx).2 j j1 j2))⟩
    · exact List.mem_append.mpr (Or.inl (nds_root ht))
    · have hs : 2 * eM t + 1 + eMs gs ≤ 119 := hs
      show ((nds (m 79) t (-1) (m 81 (sl : Int)) ++ ndG (m 79) (m 83) gs (5 * (sl : Int))).map (fAr m)).sum ≤ 59
      rw [List.map_append, List.sum_append]
      omega
    · have ha : aM t + aMs gs ≤ 30 := ha
      show ((nds (m 79) t (-1) (m 81 (sl : Int)) ++ ndG (m 79) (m 83) gs (5 * (sl : Int))).map (fOp m)).sum ≤ 30
      rw [List.map_append, List.sum_append]
      omega
end ND
/-- nodes with their places: those of some lists -/
def gL (I : List (List Int × Nat)) (n p : Nat) : Prop := ∃ q ∈ I, (n : Int) ∈ q.1 ∧ p = q.2
section NE
variable {m : hy_m} {I : List (List Int × Nat)}
def cds (I : List (List Int × Nat)) : List Int := I.flatMap (fun q => q.1.map (fun n => 4096 * (q.2 : Int) + n))
theorem cds_sum (f : Int → Nat) (K : Nat) : ∀ I : List (List Int × Nat), (∀ q ∈ I, (∀ x ∈ q.1, 0 ≤ x ∧ x < 3584) ∧ (q.1.map f).sum ≤ K) → ((cds I).map (fun x => f (x % 4096))).sum ≤ K * I.length
  | [], _ => Nat.zero_le _
  | q :: I, h => by
    have h1 := cds_sum f K I (fun q hq => h q (List.mem_cons_of_mem _ hq))
    obtain ⟨h2, h3⟩ := h q (List.mem_cons_self ..)
    show ((q.1.map (fun n => 4096 * (q.2 : Int) + n) ++ cds I).map (fun x => f (x % 4096))).sum ≤ _
    rw [List.map_append, List.sum_append, List.map_map]
    have e : q.1.map ((fun x => f (x % 4096)) ∘ fun n => 4096 * (q.2 : Int) + n) = q.1.map f := by
      refine List.map_congr_left (fun x hx => ?_)
      have := h2 x hx
      show f ((4096 * (q.2 : Int) + x) % 4096) = f x
      rw [show (4096 * (q.2 : Int) + x) % 4096 = x by omega]
    rw [e, List.length_cons, Nat.mul_succ]
    omega
theorem gL_gC (h : ∀ q ∈ I, ∀ x ∈ q.1, (0 ≤ x ∧ x < 3584) ∧ ∀ j : Int, 0 ≤ j → j < m 78 x → m 79 (3 * x + j) ∈ q.1) : gC (gL I) m := by
  rintro n p j ⟨q, hq, hn, rfl⟩ hj
  have h1 := (h q hq (n : Int) hn).2 (j : Int) (by omega) hj
  have h2 := (h q hq _ h1).1.1
  exact ⟨q, hq, by rw [Int.toNat_of_nonneg h2]; exact h1, rfl⟩
theorem gL_W (h : ∀ q ∈ I, (∀ x ∈ q.1, 0 ≤ x ∧ x < 3584) ∧ (q.1.map (fAr m)).sum ≤ 59) : mGW (gL I) m (59 * I.length) := by
  intro xs h1 h2
  refine Nat.le_trans (sm_sub (fun x => (m 78 (x % 4096)).toNat - 1) xs (cds I) h1 (fun x hx => ?_)) (cds_sum (fAr m) 59 I h)
  obtain ⟨n, p, rfl, hn, q, hq, hnq, rfl⟩ := h2 x hx
  exact List.mem_flatMap.mpr ⟨q, hq, List.mem_map.mpr ⟨(n : Int), hnq, rfl⟩⟩
theorem oI_ari {k : Int} {n : Nat} (h : oI k n ≠ -9) : ari k = true ∧ n = 2 := by
  unfold oI at h
  by_cases c : n = 2
  · rw [if_pos c] at h
    refine ⟨?_, c⟩
    unfold ari
    by_cases c1 : k = 1602148
    · rw [decide_eq_true c1]; rfl
    · by_cases c2 : k = 1899234
      · rw [decide_eq_true c2]; simp
      · by_cases c3 : k = 1800940
        · rw [decide_eq_true c3]; simp
        · rw [if_neg c1, if_neg c2, if_neg c3] at h
          exact absurd rfl h
  · rw [if_neg c] at h
    exact absurd rfl h
theorem gL_A (h : ∀ q ∈ I, (∀ x ∈ q.1, 0 ≤ x ∧ x < 3584) ∧ (q.1.map (fOp m)).sum ≤ 30) (hI : I.length ≤ 302) : mAW (gL I) m := by
  intro L h1 h2
  have e : ∀ x ∈ L, x ∈ cds I ∧ fOp m (x % 4096) = 1 := by
    intro x hx
    obtain ⟨k, b, ht, ho⟩ := h2 x hx
    obtain ⟨o1, o2⟩ := oI_ari ho
    rcases ht with ⟨v, hv, rfl, e⟩ | ⟨i, hi, rfl, e⟩ | ⟨n, p, nv, u, rfl, hn, hnv, hp, hr, hk, e, q, hq, hnq, rfl⟩
    · cases e
    · cases e
    · refine ⟨List.mem_flatMap.mpr ⟨q, hq, List.mem_map.mpr ⟨(n : Int), hnq, rfl⟩⟩, ?_⟩
      cases u with
      | mulL k' a =>
        have e : (.mulL k b : pE) = .mulL k' (sb (fun v => .var (q.2 + v)) a) := e
        injection e with e1 e2
        subst e1
        subst e2
        rw [eN_sb _ a nv hk.2.2.2.2.2] at o2
        unfold fOp mQ
        rw [show (4096 * (q.2 : Int) + (n : Int)) % 4096 = (n : Int) by omega, hr.2.2.1, hr.2.2.2.1, if_pos ⟨o1, by omega⟩]
      | _ => cases e
  have h3 := sm_sub (fun x => fOp m (x % 4096)) L (cds I) h1 (fun x hx => (e x hx).1)
  have h4 := cds_sum (fOp m) 30 I h
  have h5 : L.map (fun x => fOp m (x % 4096)) = L.map (fun _ => 1) := List.map_congr_left (fun x hx => (e x hx).2)
  rw [h5, sm_one] at h3
  omega
end NE
