/-! THE CLASS'S NODES IN USE -/
section CN0
variable {kd ks ar go : Int → Int} {A : Int → Prop}
theorem kC_m4 {k : Int} {n : Nat} (h : n ≤ 3) : kC k n % 4 = n := by
  unfold kC
  omega
theorem cds_root {t : pE} {n : Int} (h : cP kd ks ar A t (-1) n) : n ∈ nds ar t (-1) n := by
  cases t with
  | var v => exact List.mem_singleton.mpr rfl
  | num i => exact (by show n ∈ (if (-1 : Int) = -1 then [n] else []); rw [if_pos rfl]; exact List.mem_singleton.mpr rfl)
  | mulL k a => exact List.mem_cons_self ..
  | add a r => exact absurd h.1 (by decide)
  | sub a r => exact h.elim
  | neg a => exact h.elim
  | mulR a k => exact h.elim
theorem cds_A : ∀ (t : pE) (j n : Int), cP kd ks ar A t j n → ∀ x ∈ nds ar t j n, A x
  | .var v, j, n, h, x, hx => by rw [List.mem_singleton.mp hx]; exact h.2.1
  | .num i, j, n, h, x, hx => by
    have hx : x ∈ (if j = -1 then [n] else []) := hx
    rcases h with h | h
    · rw [if_pos h.1] at hx
      rw [List.mem_singleton.mp hx]
      exact h.2.1
    · rw [if_neg (by omega)] at hx
      cases hx
  | .mulL k a, j, n, h, x, hx => by
    rcases List.mem_cons.mp hx with rfl | hx
    · exact h.2.1
    · exact cds_A a 0 n h.2.2.2.2.2.2.2 x hx
  | .add a r, j, n, h, x, hx => by
    rcases List.mem_append.mp hx with hx | hx
    · exact cds_A a _ _ h.2.2.1 x hx
    · exact cds_A r _ _ h.2.2.2 x hx
  | .sub _ _, _, _, h, _, _ => h.elim
  | .neg _, _, _, h, _, _ => h.elim
  | .mulR _ _, _, _, h, _, _ => h.elim
theorem cds_arg : ∀ (a : pE) (i n : Int), cP kd ks ar A a i n → 0 ≤ i → ∀ j : Int, i ≤ j → j < i + (eN a : Nat) → ar (3 * n + j) ∈ nds ar a i n
  | .var v, i, n, h, hi, j, h1, h2 => by have := h.1; omega
  | .num z, i, n, h, hi, j, h1, h2 => by
    have : eN (.num z : pE) = 0 := rfl
    omega
  | .mulL k a, i, n, h, hi, j, h1, h2 => by have := h.1; omega
  | .add a r, i, n, h, hi, j, h1, h2 => by
    have e : (eN (.add a r) : Nat) = eN r + 1 := rfl
    rw [e] at h2
    show _ ∈ nds ar a (-1) (ar (3 * n + i)) ++ nds ar r (i + 1) n
    by_cases q : j = i
    · rw [q]
      exact List.mem_append.mpr (Or.inl (cds_root h.2.2.1))
    · exact List.mem_append.mpr (Or.inr (cds_arg r (i + 1) n h.2.2.2 (by omega) j (by omega) (by omega)))
  | .sub _ _, _, _, h, _, _, _, _ => h.elim
  | .neg _, _, _, h, _, _, _, _ => h.elim
  | .mulR _ _, _, _, h, _, _, _, _ => h.elim
theorem cds_cl : ∀ (t : pE) (j n : Int), cP kd ks ar A t j n → ∀ x ∈ nds ar t j n, kd x = 4 → ∀ i : Int, 0 ≤ i → i < ks x % 4 → ar (3 * x + i) ∈ nds ar t j n
  | .var v, j, n, h, x, hx, h4, i, h1, h2 => by
    rw [List.mem_singleton.mp hx, h.2.2.2.2] at h4
    omega
  | .num k, j, n, h, x, hx, h4, i, h1, h2 => by
    have hx : x ∈ (if j = -1 then [n] else []) := hx
    rcases h with h | h
    · rw [if_pos h.1] at hx
      rw [List.mem_singleton.mp hx, h.2.2.2.1] at h4
      omega
    · rw [if_neg (by omega)] at hx
      cases hx
  | .mulL k a, j, n, h, x, hx, h4, i, h1, h2 => by
    refine List.mem_cons_of_mem _ ?_
    rcases List.mem_cons.mp hx with rfl | hx
    · rw [h.2.2.2.1, kC_m4 h.2.2.2.2.2.1] at h2
      exact cds_arg a 0 x h.2.2.2.2.2.2.2 (by omega) i h1 (by omega)
    · exact cds_cl a 0 n h.2.2.2.2.2.2.2 x hx h4 i h1 h2
  | .add a r, j, n, h, x, hx, h4, i, h1, h2 => by
    rcases List.mem_append.mp hx with hx | hx
    · exact List.mem_append.mpr (Or.inl (cds_cl a _ _ h.2.2.1 x hx h4 i h1 h2))
    · exact List.mem_append.mpr (Or.inr (cds_cl r _ _ h.2.2.2 x hx h4 i h1 h2))
  | .sub _ _, _, _, h, _, _, _, _, _, _ => h.elim
  | .neg _, _, _, h, _, _, _, _, _, _ => h.elim
  | .mulR _ _, _, _, h, _, _, _, _, _, _ => h.elim
/-- weights of a node: arguments besides the first; a compound; an operation -/
def gAr (kd ks : Int → Int) (x : Int) : Nat := if kd x = 4 then (ks x % 4).toNat - 1 else 0
def gCo (kd : Int → Int) (x : Int) : Nat := if kd x = 4 then 1 else 0
noncomputable def gOp (kd ks : Int → Int) (x : Int) : Nat := @ite _ (kd x = 4 ∧ ∃ k : Int, nmOK k ∧ ari k = true ∧ ks x = kC k 2) (Classical.propDecidable _) 1 0
theorem cds_sum3 : ∀ (t : pE) (j n : Int), cP kd ks ar A t j n → ((nds ar t j n).map (gAr kd ks)).sum ≤ eM t ∧ ((nds ar t j n).map (gCo kd)).sum ≤ eM t ∧ ((nds ar t j n).map (gOp kd ks)).sum ≤ aM t
  | .var v, j, n, h => by
    have h4 : kd n ≠ 4 := by rw [h.2.2.2.2]; decide
    refine ⟨?_, ?_, ?_⟩
    · show gAr kd ks n + 0 ≤ 0
      unfold gAr
      rw [if_neg h4]
      exact Nat.le_refl _
    · show gCo kd n + 0 ≤ 0
      unfold gCo
      rw [if_neg h4]
      exact Nat.le_refl _
    · show gOp kd ks n + 0 ≤ 0
      unfold gOp
      rw [if_neg (fun q => h4 q.1)]
      exact Nat.le_refl _
  | .num k, j, n, h => by
    show ((if j = -1 then [n] else []).map (gAr kd ks)).sum ≤ 0 ∧ ((if j = -1 then [n] else []).map (gCo kd)).sum ≤ 0 ∧ ((if j = -1 then [n] else []).map (gOp kd ks)).sum ≤ 0
    rcases h with h | h
    · have h4 : kd n ≠ 4 := by rw [h.2.2.2.1]; decide
      rw [if_pos h.1]
      refine ⟨?_, ?_, ?_⟩
      · show gAr kd ks n + 0 ≤ 0
        unfold gAr
        rw [if_neg h4]
        exact Nat.le_refl _
      · show gCo kd n + 0 ≤ 0
        unfold gCo
        rw [if_neg h4]
        exact Nat.le_refl _
      · show gOp kd ks n + 0 ≤ 0
        unfold gOp
        rw [if_neg (fun q => h4 q.1)]
        exact Nat.le_refl _
    · rw [if_neg (by omega)]
      exact ⟨Nat.le_refl _, Nat.le_refl _, Nat.le_refl _⟩
  | .mulL k a, j, n, h => by
    obtain ⟨i1, i2, i3⟩ := cds_sum3 a 0 n h.2.2.2.2.2.2.2
    obtain ⟨-, -, -, hks, hkd, h3, hnm, -⟩ := h
    refine ⟨?_, ?_, ?_⟩
    · show gAr kd ks n + ((nds ar a 0 n).map (gAr kd ks)).sum ≤ (if eN a = 0 then 0 else if eN a = 3 then 2 else 1) + eM a
      have e : gAr kd ks n ≤ (if eN a = 0 then 0 else if eN a = 3 then 2 else 1) := by
        unfold gAr
        rw [hks, kC_m4 h3]
        split
        · split
          · omega
          · split <;> omega
        · exact Nat.zero_le _
      omega
    · show gCo kd n + ((nds ar a 0 n).map (gCo kd)).sum ≤ (if eN a = 0 then 0 else if eN a = 3 then 2 else 1) + eM a
      have e : gCo kd n ≤ (if eN a = 0 then 0 else if eN a = 3 then 2 else 1) := by
        unfold gCo
        rw [hkd]
        by_cases c : eN a = 0
        · rw [if_pos c, if_pos c]
          decide
        · rw [if_neg c, if_neg c]
          split <;> split <;> omega
      omega
    · show gOp kd ks n + ((nds ar a 0 n).map (gOp kd ks)).sum ≤ (if ari k = true ∧ eN a = 2 then 1 else 0) + aM a
      have e : gOp kd ks n ≤ (if ari k = true ∧ eN a = 2 then 1 else 0) := by
        unfold gOp
        by_cases c : ari k = true ∧ eN a = 2
        · rw [if_pos c]
          split <;> omega
        · rw [if_neg c, if_neg]
          · exact Nat.le_refl _
          · rintro ⟨-, k', q1, q2, q3⟩
            rw [hks] at q3
            obtain ⟨e1, e2⟩ := kC_inj hnm q1 h3 (by decide) q3
            exact c ⟨by rw [e1]; exact q2, e2⟩
      omega
  | .add a r, j, n, h => by
    obtain ⟨a1, a2, a3⟩ := cds_sum3 a _ _ h.2.2.1
    obtain ⟨b1, b2, b3⟩ := cds_sum3 r _ _ h.2.2.2
    show ((nds ar a (-1) (ar (3 * n + j)) ++ nds ar r (j + 1) n).map (gAr kd ks)).sum ≤ eM a + eM r ∧ ((nds ar a (-1) (ar (3 * n + j)) ++ nds ar r (j + 1) n).map (gCo kd)).sum ≤ eM a + eM r ∧ ((nds ar a (-1) (ar (3 * n + j)) ++ nds ar r (j + 1) n).map (gOp kd ks)).sum ≤ aM a + aM r
    rw [List.map_append, List.sum_append, List.map_append, List.sum_append, List.map_append, List.sum_append]
    exact ⟨by omega, by omega, by omega⟩
  | .sub _ _, _, _, h => h.elim
  | .neg _, _, _, h => h.elim
  | .mulR _ _, _, _, h => h.elim
theorem cdG_all : ∀ (gs : List pE) (i : Int), (∀ k (hk : k < gs.length), cP kd ks ar A gs[k] (-1) (go (i + (k : Int)))) → (∀ x ∈ ndG ar go gs i, A x ∧ (kd x = 4 → ∀ j : Int, 0 ≤ j → j < ks x % 4 → ar (3 * x + j) ∈ ndG ar go gs i)) ∧ (∀ k (_ : k < gs.length), go (i + (k : Int)) ∈ ndG ar go gs i) ∧ 2 * ((ndG ar go gs i).map (gAr kd ks)).sum + gs.length ≤ eMs gs ∧ 2 * ((ndG ar go gs i).map (gCo kd)).sum + gs.length ≤ eMs gs ∧ ((ndG ar go gs i).map (gOp kd ks)).sum ≤ aMs gs
  | [], i, _ => ⟨(fun x hx => by cases hx), (fun k hk => absurd hk (Nat.not_lt_zero _)), Nat.le_refl _, Nat.le_refl _, Nat.le_refl _⟩
  | g :: r, i, h => by
    have h0 : cP kd ks ar A g (-1) (go i) := by
      have := h 0 (Nat.succ_pos _)
      rw [show i + ((0 : Nat) : Int) = i by omega] at this
      exact this
    obtain ⟨a1, a2, a3, a4, a5⟩ := cdG_all r (i + 1) (fun k hk => by
      have := h (k + 1) (by simp only [List.length_cons]; omega)
      rw [show i + ((k + 1 : Nat) : Int) = i + 1 + (k : Int) by omega] at this
      exact this)
    obtain ⟨b3, b4, b5⟩ := cds_sum3 g _ _ h0
    refine ⟨fun x hx => ?_, fun k hk => ?_, ?_, ?_, ?_⟩
    · rcases List.mem_append.mp hx with hx | hx
      · exact ⟨cds_A g _ _ h0 x hx, fun h4 j j1 j2 => List.mem_append.mpr (Or.inl (cds_cl g _ _ h0 x hx h4 j j1 j2))⟩
      · exact ⟨(a1 x hx).1, fun h4 j j1 j2 => List.mem_append.mpr (Or.inr ((a1 x hx).2 h4 j j1 j2))⟩
    · cases k with
      | zero =>
        rw [show i + ((0 : Nat) : Int) = i by omega]
        exact List.mem_append.mpr (Or.inl (cds_root h0))
      | succ k =>
        rw [show i + ((k + 1 : Nat) : Int) = i + 1 + (k : Int) by omega]
        exact List.mem_append.mpr (Or.inr (a2 k (by simp only [List.length_cons] at hk; omega)))
    · show 2 * ((nds ar g (-1) (go i) ++ ndG ar go r (i + 1)).map (gAr kd ks)).sum + (r.length + 1) ≤ 2 * eM g + 1 + eMs r
      rw [List.map_append, List.sum_append]
      omega
    · show 2 * ((nds ar g (-1) (go i) ++ ndG ar go r (i + 1)).map (gCo kd)).sum + (r.length + 1) ≤ 2 * eM g + 1 + eMs r
      rw [List.map_append, List.sum_append]
      omega
    · show ((nds ar g (-1) (go i) ++ ndG ar go r (i + 1)).map (gOp kd ks)).sum ≤ aM g + aMs r
      rw [List.map_append, List.sum_append]
      omega
end CN0
/-- nodes of a clause: rows of arguments and goals, the head -/
def kNd (ar go : Int → Int) (h3 : Int) (hd : Option pE) (gs : List pE) : List Int := (match hd with
  | some h => nds ar h (-1) h3
  | none => []) ++ ndG ar go gs 0
section CN1
variable {T : hy_T} {m m' : hy_m} {F : Nat → Prop} {a nv : Nat} {hd : Option pE} {gs : List pE}
/-- the rows of a clause -/
def cRw (T : hy_T) (m : hy_m) (F : Nat → Prop) (a c k0 k1 k2 k4 : Nat) (hd : Option pE) (gs : List pE) : Prop := cK T m a c k0 k1 k2 ∧ 8 ≤ c ∧ m a 4 = k4 ∧ T.1 k4 = some (100, gs.length) ∧ (∀ i : Int, 0 ≤ i → i < 8 → m k0 i = 1) ∧ (∀ h, hd = some h → cQ m c k0 k1 k2 h (m a 3)) ∧ (∀ i (_ : i < gs.length), cQ m c k0 k1 k2 gs[i] (m k4 (i : Int))) ∧ (F a ∧ F k0 ∧ F k1 ∧ F k2 ∧ F k4 ∧ ∃ k8 : Nat, m a 8 = k8 ∧ T.1 k8 = some (100, gs.length) ∧ F k8 ∧ ∀ i, i < gs.length → m k8 (i : Int) = cntP (oL (gs.drop i)) 8)
theorem cCl_rw (h : cCl T m F a hd gs nv) : ∃ c k0 k1 k2 k4, cRw T m F a c k0 k1 k2 k4 hd gs ∧ m a 5 = nv := by
  obtain ⟨c, k0, k1, k2, k4, k7, k8, e1, e2, e3, e4, e5, e6, e7, e8, e9, e10, e11, e12, e13, e14, e15, e16, e17⟩ := h
  exact ⟨c, k0, k1, k2, k4, ⟨e1, e2, e3, e4, e9, e10, e12, e17.1, e17.2.1, e17.2.2.1, e17.2.2.2.1, e17.2.2.2.2.1, k8, e7, e8, e17.2.2.2.2.2.2, e16⟩, e13⟩
theorem kNd_all {c k0 k1 k2 k4 : Nat} (h : cRw T m F a c k0 k1 k2 k4 hd gs) (hk : kOK hd gs nv) (ha : aH hd + aMs gs ≤ 30) : (∀ x ∈ kNd (m k2) (m k4) (m a 3) hd gs, (0 ≤ x ∧ x < c) ∧ (m k0 x = 4 → ∀ j : Int, 0 ≤ j → j < m k1 x % 4 → m k2 (3 * x + j) ∈ kNd (m k2) (m k4) (m a 3) hd gs)) ∧ (∀ k (_ : k < gs.length), m k4 (k : Int) ∈ kNd (m k2) (m k4) (m a 3) hd gs) ∧ (∀ t, hd = some t → m a 3 ∈ kNd (m k2) (m k4) (m a 3) hd gs) ∧ ((kNd (m k2) (m k4) (m a 3) hd gs).map (gAr (m k0) (m k1))).sum ≤ 59 ∧ ((kNd (m k2) (m k4) (m a 3) hd gs).map (gCo (m k0))).sum ≤ 59 ∧ ((kNd (m k2) (m k4) (m a 3) hd gs).map (gOp (m k0) (m k1))).sum ≤ 30 := by
  obtain ⟨-, -, -, -, -, hh, hg, -⟩ := h
  obtain ⟨a1, a2, a3, a4, a5⟩ := cdG_all (kd := m k0) (ks := m k1) (ar := m k2) (go := m k4) (A := fun z => 0 ≤ z ∧ z < c) gs 0 (fun k hk => by
    have := hg k hk
    rw [show (0 : Int) + (k : Int) = (k : Int) by omega]
    exact this)
  have a2 : ∀ k (_ : k < gs.length), m k4 (k : Int) ∈ ndG (m k2) (m k4) gs 0 := fun k hk => by
    have := a2 k hk
    rw [show (0 : Int) + (k : Int) = (k : Int) by omega] at this
    exact this
  have hs := hk.2.2.2.2
  cases hd with
  | none =>
    have hs : 0 + eMs gs ≤ 119 := hs
    have ha : 0 + aMs gs ≤ 30 := ha
    refine ⟨a1, a2, (fun t q => by cases q), ?_, ?_, ?_⟩
    · show ((ndG (m k2) (m k4) gs 0).map (gAr (m k0) (m k1))).sum ≤ 59
      omega
    · show ((ndG (m k2) (m k4) gs 0).map (gCo (m k0))).sum ≤ 59
      omega
    · show ((ndG (m k2) (m k4) gs 0).map (gOp (m k0) (m k1))).sum ≤ 30
      omega
  | some t =>
    have ht := hh t rfl
    obtain ⟨b3, b4, b5⟩ := cds_sum3 t _ _ ht
    have hs : 2 * eM t + 1 + eMs gs ≤ 119 := hs
    have ha : aM t + aMs gs ≤ 30 := ha
    refine ⟨fun x hx => ?_, fun k hk => List.mem_append.mpr (Or.inr (a2 k hk)), fun t' q => List.mem_append.mpr (Or.inl (cds_root ht)), ?_, ?_, ?_⟩
    · rcases List.mem_append.mp hx with hx | hx
      · exact ⟨cds_A t _ _ ht x hx, fun h4 j j1 j2 => List.mem_append.mpr (Or.inl (cds_cl t _ _ ht x hx h4 j j1 j2))⟩
      · exact ⟨(a1 x hx).1, fun h4 j j1 j2 => List.mem_append.mpr (Or.inr ((a1 x hx).2 h4 j j1 j2))⟩
    · show ((nds (m k2) t (-1) (m a 3) ++ ndG (m k2) (m k4) gs 0).map (gAr (m k0) (m k1))).sum ≤ 59
      rw [List.map_append, List.sum_append]
      omega
    · show ((nds (m k2) t (-1) (m a 3) ++ ndG (m k2) (m k4) gs 0).map (gCo (m k0))).sum ≤ 59
      rw [List.map_append, List.sum_append]
      omega
    · show ((nds (m k2) t (-1) (m a 3) ++ ndG (m k2) (m k4) gs 0).map (gOp (m k0) (m k1))).sum ≤ 30
      rw [List.map_append, List.sum_append]
      omega
end CN1
