/-! NO LOOPS, pure -/
/-- bindings that were added to such without loops: suspects are looked at, the others lead from the fresh to the old -/
theorem acc_all {B0 B : bM} {s0 : Nat → pE} {O : Nat → Prop} (hR : Res B0 s0) (hab : ∀ w t, B0 w = some t → B w = some t) (h1 : ∀ w t w', O w → B0 w = some t → vIn w' t → O w') (h2 : ∀ w, ¬ O w → B0 w = none) (hv : ∀ w z : Nat, B0 w = none → B w = some (.var z) → B0 z = none ∧ z < w ∧ (O w → O z)) (hn : ∀ w t, B0 w = none → B w = some t → (∀ z : Nat, t ≠ .var z) → (∀ w', ¬ vIn w' t) ∨ Acc (bEd B) w ∨ (¬ O w ∧ ∀ w', vIn w' t → O w')) : ∀ w, Acc (bEd B) w := by
  have old : ∀ (n k w : Nat), sz (s0 w) ≤ n → w ≤ k → O w → Acc (bEd B) w := by
    intro n
    induction n with
    | zero =>
      intro k w h
      have := sz_pos (s0 w)
      omega
    | succ n ihn =>
      intro k
      induction k with
      | zero =>
        intro w hs hk hO
        refine Acc.intro w (fun w' ⟨t, e, hw'⟩ => ?_)
        cases e0 : B0 w with
        | some t0 =>
          rw [hab w t0 e0] at e
          injection e with e
          subst e
          obtain ⟨g1, g2⟩ := (hR w).2 t0 e0
          by_cases c : ∃ z : Nat, t0 = .var z
          · obtain ⟨z, rfl⟩ := c
            have := g2 z rfl
            omega
          · have := sz_in2 (s := s0) hw' (fun y q => c ⟨y, q⟩)
            rw [← g1] at this
            exact ihn w' w' (by omega) (Nat.le_refl _) (h1 w t0 w' hO e0 hw')
        | none =>
          by_cases c : ∃ z : Nat, t = .var z
          · obtain ⟨z, rfl⟩ := c
            obtain ⟨g1, g2, g3⟩ := hv w z e0 e
            omega
          · rcases hn w t e0 e (fun z q => c ⟨z, q⟩) with q | q | q
            · exact absurd hw' (q w')
            · exact q.inv ⟨t, e, hw'⟩
            · exact absurd hO q.1
      | succ k ihk =>
        intro w hs hk hO
        refine Acc.intro w (fun w' ⟨t, e, hw'⟩ => ?_)
        cases e0 : B0 w with
        | some t0 =>
          rw [hab w t0 e0] at e
          injection e with e
          subst e
          obtain ⟨g1, g2⟩ := (hR w).2 t0 e0
          by_cases c : ∃ z : Nat, t0 = .var z
          · obtain ⟨z, rfl⟩ := c
            have := g2 z rfl
            have hz : z = w' := hw'
            subst hz
            have g1 : s0 w = s0 z := g1
            exact ihk z (by rw [← g1]; exact hs) (by omega) (h1 w _ z hO e0 hw')
          · have := sz_in2 (s := s0) hw' (fun y q => c ⟨y, q⟩)
            rw [← g1] at this
            exact ihn w' w' (by omega) (Nat.le_refl _) (h1 w t0 w' hO e0 hw')
        | none =>
          by_cases c : ∃ z : Nat, t = .var z
          · obtain ⟨z, rfl⟩ := c
            obtain ⟨g1, g2, g3⟩ := hv w z e0 e
            have hz : z = w' := hw'
            subst hz
            refine ihk z ?_ (by omega) (g3 hO)
            rw [(hR z).1 g1]
            rw [(hR w).1 e0] at hs
            exact hs
          · rcases hn w t e0 e (fun z q => c ⟨z, q⟩) with q | q | q
            · exact absurd hw' (q w')
            · exact q.inv ⟨t, e, hw'⟩
            · exact absurd hO q.1
  have all : ∀ (k w : Nat), w < k → Acc (bEd B) w := by
    intro k
    induction k with
    | zero => intro w h; omega
    | succ k ih =>
      intro w hk
      by_cases hO : O w
      · exact old _ _ w (Nat.le_refl _) (Nat.le_refl _) hO
      · refine Acc.intro w (fun w' ⟨t, e, hw'⟩ => ?_)
        have e0 := h2 w hO
        by_cases c : ∃ z : Nat, t = .var z
        · obtain ⟨z, rfl⟩ := c
          obtain ⟨g1, g2, g3⟩ := hv w z e0 e
          have hz : z = w' := hw'
          subst hz
          exact ih z (by omega)
        · rcases hn w t e0 e (fun z q => c ⟨z, q⟩) with q | q | q
          · exact absurd hw' (q w')
          · exact q.inv ⟨t, e, hw'⟩
          · exact old _ _ w' (Nat.le_refl _) (Nat.le_refl _) (q.2 w' hw')
  exact fun w => all (w + 1) w (Nat.lt_succ_self w)
