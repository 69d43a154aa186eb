/-! THE SEARCH'S ERROR: while a query runs there is none -/
section MW
variable {E : qE} {A A' : qA}
theorem qtry_1 {c cut : Nat} {g : pE} : qn (qtry E A c g cut).1 1 = qn A 1 := by
  unfold qtry
  split
  · rfl
  · split
    · rfl
    · dsimp only
      split <;> rfl
theorem qback_1 : ∀ (n : Nat) (A : qA), qn (qback E n A) 0 = 1 → qn (qback E n A) 1 = qn A 1
  | 0, A, _ => rfl
  | n + 1, A, h => by
    cases he : qh A with
    | nil =>
      rw [qback_nil he] at h
      exact absurd h (by show ¬ ((3 : Nat) = 1); decide)
    | cons c r =>
      cases hc : c.1 with
      | none =>
        rw [qback_bar he hc]
        rfl
      | some g =>
        cases hl : c.2.1 with
        | nil =>
          have e : qback E (n + 1) A = qrest A c r := by
            rw [qback, he]
            dsimp only
            rw [hc, hl]
          rw [e]
          rfl
        | cons c0 L =>
          rw [qback_try he hc hl] at h ⊢
          have h1 := qtry_1 (E := E) (A := qrest A c (qmore c L r)) (c := c0) (g := g) (cut := r.length)
          have h3 : qn (qrest A c (qmore c L r)) 1 = qn A 1 := rfl
          split
          · exact h1.trans h3
          · rename_i hq
            rw [if_neg hq] at h
            exact (qback_1 n _ h).trans (h1.trans h3)
theorem quni_1 {t u : pE} (h : qn (quni E A t u) 0 = 1) : qn (quni E A t u) 1 = qn A 1 := by
  unfold quni at h ⊢
  split
  · rfl
  · rename_i hq
    rw [hq] at h
    exact qback_1 _ _ h
theorem qcall_1 {own : Bool} {cut : Nat} {k : Int} {a : pE} (h : qn (qcall E A own cut k a) 0 = 1) : qn (qcall E A own cut k a) 1 = qn A 1 := by
  have fin : ∀ er, qn (qfin A 4 er) 0 = 1 → qn (qfin A 4 er) 1 = qn A 1 := fun er q => absurd q (by show ¬ ((4 : Nat) = 1); decide)
  revert h
  unfold qcall
  split
  · exact fun _ => rfl
  split
  · exact qback_1 _ _
  split
  · split
    · exact fun _ => rfl
    · exact fun _ => rfl
  split
  · split
    · exact fun _ => rfl
    · exact fin 1
  split
  · exact quni_1
  split
  · split
    · split
      · exact fun _ => rfl
      · exact qback_1 _ _
    · exact fin 2
  split
  · split
    · exact quni_1
    · exact fin 2
  split
  · exact qback_1 _ _
  · exact qback_1 _ _
theorem qinf_1 {f : qF} {r : List qF} (h : qn (qinf E A f r) 0 = 1) : qn (qinf E A f r) 1 = qn A 1 := by
  have d : qn (qdrop E (qcnt A) f r) 1 = qn A 1 := by
    unfold qdrop
    split
    · rfl
    · split <;> rfl
  revert h
  unfold qinf
  split
  · exact fun h => (qcall_1 h).trans d
  · exact fun q => absurd q (by show ¬ ((4 : Nat) = 1); decide)
end MW
