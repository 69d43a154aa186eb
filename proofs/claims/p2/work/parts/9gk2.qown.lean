/-! A goal inside of a call or a not never stands in a body -/
theorem qcl_f : ∀ (t : pE) (p : pE × Bool), qcl t false = some p → p.2 = false := by
  intro t
  have key : ∀ (n : Nat) (t : pE), sz t ≤ n → ∀ p, qcl t false = some p → p.2 = false := by
    intro n
    induction n with
    | zero => exact fun t h => absurd h (by have := sz_pos t; omega)
    | succ n ih =>
      intro t hn p h
      unfold qcl at h
      split at h
      · rename_i k x r
        split at h
        · split at h
          · refine ih x ?_ p h
            have e : sz (.mulL k (.add x r) : pE) = 1 + sz (.add x r) := rfl
            have e2 : sz (.add x r : pE) = 1 + sz x + sz r := rfl
            omega
          · cases h
        · injection h with h
          rw [← h]
      · injection h with h
        rw [← h]
  exact key (sz t) t (Nat.le_refl _)
