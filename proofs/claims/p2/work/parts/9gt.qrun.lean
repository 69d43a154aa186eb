/-! THE SEARCH: what holds between two calls -/
def qLn (A : qA) : Prop := (qp A).length ≤ qn A 8 ∧ ∀ c ∈ qh A, c.2.2.1.length ≤ c.2.2.2.1.2.2
section QL
variable {E : qE} {A : qA} {f : qF} {r : List qF}
theorem qfin_L {st er : Nat} : qLn (qfin A st er) := ⟨Nat.zero_le _, fun c hc => by cases hc⟩
theorem qpush_L {f : qF} {r : List qF} (h : qLn A) (hr : r.length ≤ qn A 8) : qLn (qpush A f r) := ⟨Nat.succ_le_succ hr, h.2⟩
theorem qtry_L {c cut : Nat} {g : pE} (h : qLn A) : qLn (qtry E A c g cut).1 := by
  unfold qtry
  split
  · exact h
  · split
    · exact h
    · dsimp only
      split
      · exact h
      · exact qpush_L h h.1
theorem qrest_L {c : qC} {C r : List qC} (h : qLn A) (he : c ∈ qh A) (hC : ∀ x ∈ C, x ∈ qh A ∨ ∃ L, x = (c.1, L, c.2.2)) : qLn (qrest A c C) := by
  refine ⟨h.2 c he, fun x hx => ?_⟩
  rcases hC x hx with q | ⟨L, q⟩
  · exact h.2 x q
  · rw [q]
    exact h.2 c he
theorem qback_L : ∀ (n : Nat) (A : qA), qLn A → qLn (qback E n A)
  | 0, A, h => h
  | n + 1, A, h => by
    cases he : qh A with
    | nil =>
      rw [qback_nil he]
      exact qfin_L
    | cons c r =>
      have hc0 : c ∈ qh A := by rw [he]; exact List.mem_cons_self ..
      have hr0 : ∀ x ∈ r, x ∈ qh A := fun x hx => by rw [he]; exact List.mem_cons_of_mem _ hx
      cases hc : c.1 with
      | none =>
        rw [qback_bar he hc]
        exact qrest_L (r := r) h hc0 (fun x hx => Or.inl (hr0 x hx))
      | some g =>
        cases hl : c.2.1 with
        | nil =>
          have e : qback E (n + 1) A = qrest A c r := by
            rw [qback, he]
            dsimp only
            rw [hc, hl]
          rw [e]
          exact qrest_L (r := r) h hc0 (fun x hx => Or.inl (hr0 x hx))
        | cons c0 L =>
          rw [qback_try he hc hl]
          have h1 : qLn (qtry E (qrest A c (qmore c L r)) c0 g r.length).1 := qtry_L (qrest_L (r := r) h hc0 (fun x hx => by
            unfold qmore at hx
            split at hx
            · exact Or.inl (hr0 x hx)
            · rcases List.mem_cons.mp hx with q | q
              · exact Or.inr ⟨_, q⟩
              · exact Or.inl (hr0 x q)))
          split
          · exact h1
          · exact qback_L n _ h1
theorem qbk_L (h : qLn A) : qLn (qbk E A) := qback_L _ _ h
theorem qkeep_L {k : Nat} (h : qLn A) : qLn (qkeep A k) := ⟨h.1, fun c hc => h.2 c (List.mem_of_mem_drop hc)⟩
theorem qadd_L {g : Option pE} {L : List Nat} (h : qLn A) : qLn (qadd A g L) := ⟨h.1, fun c hc => by
  rcases List.mem_cons.mp hc with q | q
  · rw [q]
    exact h.1
  · exact h.2 c q⟩
theorem quni_L {t u : pE} (h : qLn A) : qLn (quni E A t u) := by
  unfold quni
  split
  · exact h
  · exact qbk_L h
theorem qcall_L {own : Bool} {cut : Nat} {k : Int} {a : pE} (h : qLn A) : qLn (qcall E A own cut k a) := by
  unfold qcall
  split
  · exact h
  split
  · exact qbk_L h
  split
  · split
    · exact qkeep_L h
    · exact h
  split
  · split
    · exact qpush_L (qadd_L h) h.1
    · exact qfin_L
  split
  · exact quni_L h
  split
  · split
    · split
      · exact h
      · exact qbk_L h
    · exact qfin_L
  split
  · split
    · exact quni_L h
    · exact qfin_L
  split
  · exact qbk_L h
  · exact qbk_L (qadd_L h)
theorem qdrop_L (h : qLn A) (he : qp A = f :: r) : qLn (qdrop E (qcnt A) f r) := by
  have hl : r.length + 1 ≤ qn A 8 := by
    have := h.1
    rw [he] at this
    exact this
  have h0 : qLn (qcnt A) := h
  unfold qdrop
  split
  · exact qpush_L h0 (Nat.le_of_succ_le hl)
  · split
    · exact qpush_L h0 (Nat.le_of_succ_le hl)
    · exact ⟨Nat.le_of_succ_le hl, h.2⟩
theorem qinf_L (h : qLn A) (he : qp A = f :: r) : qLn (qinf E A f r) := by
  unfold qinf
  split
  · exact qcall_L (qdrop_L h he)
  · exact qfin_L
theorem qinf_ok (hO : qOK E A) (he : qp A = f :: r) (hi : qn A 2 < 300) : qOK E (qinf E A f r) := by
  obtain ⟨g1, g2, g3, g4, g5, g6, g7⟩ := qdrop_ok hO he hi
  unfold qinf
  split
  · rename_i own hqc
    refine qcall_ok g1 (fun ho => ?_)
    rw [g3, g5]
    refine ⟨g2, ?_⟩
    by_cases c : f.2.2.2.isNone = true
    · exact g7 c
    · have c : f.2.2.2.isNone = false := Bool.eq_false_iff.mpr c
      rw [c] at hqc
      have := qcl_f _ _ hqc
      rw [ho] at this
      cases this
  · exact qfin_ok g1
/-- the status behind a way back -/
theorem qback_0 : ∀ (n : Nat) (A : qA), qn (qback E n A) 0 = qn A 0 ∨ qn (qback E n A) 0 = 3
  | 0, A => Or.inl rfl
  | n + 1, A => by
    have try0 : ∀ (A : qA) (c : Nat) (g : pE) (cut : Nat), qn (qtry E A c g cut).1 0 = qn A 0 := by
      intro A c g cut
      unfold qtry
      split
      · rfl
      · split
        · rfl
        · dsimp only
          split <;> rfl
    cases he : qh A with
    | nil =>
      rw [qback_nil he]
      exact Or.inr rfl
    | cons c r =>
      cases hc : c.1 with
      | none =>
        rw [qback_bar he hc]
        exact Or.inl rfl
      | some g =>
        cases hl : c.2.1 with
        | nil =>
          have e : qback E (n + 1) A = qrest A c r := by
            rw [qback, he]
            dsimp only
            rw [hc, hl]
          rw [e]
          exact Or.inl rfl
        | cons c0 L =>
          rw [qback_try he hc hl]
          split
          · exact Or.inl (try0 _ _ _ _)
          · rcases qback_0 n (qtry E (qrest A c (qmore c L r)) c0 g r.length).1 with q | q
            · exact Or.inl (q.trans (try0 _ _ _ _))
            · exact Or.inr q
theorem qbk_0 : qn (qbk E A) 0 = qn A 0 ∨ qn (qbk E A) 0 = 3 := qback_0 _ _
theorem quni_0 {t u : pE} : qn (quni E A t u) 0 = qn A 0 ∨ qn (quni E A t u) 0 = 3 := by
  unfold quni
  split
  · exact Or.inl rfl
  · exact qbk_0
theorem qcall_0 {own : Bool} {cut : Nat} {k : Int} {a : pE} : qn (qcall E A own cut k a) 0 = qn A 0 ∨ qn (qcall E A own cut k a) 0 = 3 ∨ qn (qcall E A own cut k a) 0 = 4 := by
  have w : ∀ {x y : Nat}, (x = y ∨ x = 3) → (x = y ∨ x = 3 ∨ x = 4) := fun h => by omega
  unfold qcall
  split
  · exact Or.inl rfl
  split
  · exact w qbk_0
  split
  · split
    · exact Or.inl rfl
    · exact Or.inl rfl
  split
  · split
    · exact Or.inl rfl
    · exact Or.inr (Or.inr rfl)
  split
  · exact w quni_0
  split
  · split
    · split
      · exact Or.inl rfl
      · exact w qbk_0
    · exact Or.inr (Or.inr rfl)
  split
  · split
    · exact w quni_0
    · exact Or.inr (Or.inr rfl)
  split
  · exact w qbk_0
  · exact w (qbk_0 (A := qadd A _ _))
theorem qinf_0 : qn (qinf E A f r) 0 = qn A 0 ∨ qn (qinf E A f r) 0 = 3 ∨ qn (qinf E A f r) 0 = 4 := by
  have d : qn (qdrop E (qcnt A) f r) 0 = qn A 0 := by
    unfold qdrop
    split
    · rfl
    · split <;> rfl
  unfold qinf
  split
  · have := qcall_0 (E := E) (A := qdrop E (qcnt A) f r) (own := ‹Bool›) (cut := f.2.2.1) (k := ‹Int›) (a := ‹_›)
    rw [d] at this
    exact this
  · exact Or.inr (Or.inr rfl)
theorem qback_e : ∀ (n : Nat) (A : qA), qn A 0 = 1 → qn (qback E n A) 0 ≠ 1 → qp (qback E n A) = [] := by
  intro n
  induction n with
  | zero => exact fun A a1 a2 => absurd a1 a2
  | succ n ih2 =>
    intro A a1 a2
    cases he2 : qh A with
    | nil =>
      rw [qback_nil he2]
      rfl
    | cons c r =>
      cases hc : c.1 with
      | none =>
        rw [qback_bar he2 hc] at a2
        exact absurd a1 a2
      | some g =>
        cases hl : c.2.1 with
        | nil =>
          have e : qback E (n + 1) A = qrest A c r := by
            rw [qback, he2]
            dsimp only
            rw [hc, hl]
          rw [e] at a2
          exact absurd a1 a2
        | cons c0 L =>
          have try0 : qn (qtry E (qrest A c (qmore c L r)) c0 g r.length).1 0 = qn A 0 := by
            unfold qtry
            split
            · rfl
            · split
              · rfl
              · dsimp only
                split <;> rfl
          rw [qback_try he2 hc hl] at a2 ⊢
          split at a2
          · exact absurd (try0.trans a1) a2
          · rename_i hne
            rw [if_neg hne]
            exact ih2 _ (try0.trans a1) a2
theorem qbk_e (h : qn A 0 = 1) (h1 : qn (qbk E A) 0 ≠ 1) : qp (qbk E A) = [] := qback_e _ _ h h1
theorem quni_e {t u : pE} (h : qn A 0 = 1) : qn (quni E A t u) 0 ≠ 1 → qp (quni E A t u) = [] := by
  unfold quni
  split
  · exact fun h1 => absurd h h1
  · exact qbk_e h
theorem qcall_e {own : Bool} {cut : Nat} {k : Int} {a : pE} (h : qn A 0 = 1) : qn (qcall E A own cut k a) 0 ≠ 1 → qp (qcall E A own cut k a) = [] := by
  unfold qcall
  split
  · exact fun h1 => absurd h h1
  split
  · exact qbk_e h
  split
  · split
    · exact fun h1 => absurd h h1
    · exact fun h1 => absurd h h1
  split
  · split
    · exact fun h1 => absurd h h1
    · exact fun _ => rfl
  split
  · exact quni_e h
  split
  · split
    · split
      · exact fun h1 => absurd h h1
      · exact qbk_e h
    · exact fun _ => rfl
  split
  · split
    · exact quni_e h
    · exact fun _ => rfl
  split
  · exact qbk_e h
  · exact qbk_e (A := qadd A _ _) h
theorem qinf_e (h : qn A 0 = 1) : qn (qinf E A f r) 0 ≠ 1 → qp (qinf E A f r) = [] := by
  have d : qn (qdrop E (qcnt A) f r) 0 = qn A 0 := by
    unfold qdrop
    split
    · rfl
    · split <;> rfl
  unfold qinf
  split
  · exact qcall_e (d.trans h)
  · exact fun _ => rfl
/-- between two calls -/
def qI (E : qE) (A : qA) : Prop := qOK E A ∧ qLn A ∧ (1 ≤ qn A 0 ∧ qn A 0 ≤ 4) ∧ (qn A 0 = 1 ∨ qn A 0 = 2 → qn A 1 = 0) ∧ qn A 5 ≤ 601 ∧ qn A 6 ≤ 300
def qT (A : qA) : Prop := ∀ f r, qp A = f :: r → qend f = false
/-- a run: it ends, and its state is in order -/
theorem qrun_ok {lim : Nat} : ∀ (n made : Nat) (A : qA), qI E A → qn A 0 ≠ 2 → 2 * (300 - qn A 2) + (qh A).length < n → (qn A 0 ≠ 1 → qT A) → qI E (qrun E lim n made A) ∧ qT (qrun E lim n made A) ∧ qn (qrun E lim n made A) 3 ≤ qn A 3 + 1 := by
  intro n
  induction n with
  | zero => exact fun made A _ _ h => absurd h (Nat.not_lt_zero _)
  | succ n ih =>
    intro made A hI h2 hn hT
    obtain ⟨hO, hL, h14, h1, h5, h6⟩ := hI
    obtain ⟨hln, hlc, h4, h8⟩ := hO.len
    have hq2 := hO.2.2.2.2.2.2.2.1
    by_cases h0 : qn A 0 = 1
    · have h10 := h1 (Or.inl h0)
      cases he : qp A with
      | nil =>
        have eq : qrun E lim (n + 1) made A = qnum (qnum A 0 2) 3 (qn A 3 + 1) := by
          rw [qrun, if_neg (fun q => q h0), he]
        rw [eq]
        exact ⟨⟨hO, hL, ⟨show 1 ≤ 2 by decide, show 2 ≤ 4 by decide⟩, fun _ => h10, h5, h6⟩, (fun f r q => by
          have q : qp A = f :: r := q
          rw [he] at q
          cases q), Nat.le_refl _⟩
      | cons f r =>
        have hkO := hO.2.1
        rw [he] at hkO
        cases hend : qend f with
        | true =>
          have hs : f.2.2.2.isSome = true := by
            unfold qend at hend
            rw [Bool.and_eq_true] at hend
            exact hend.1
          have hcut := hkO.2.1.2 hs
          have eq : qrun E lim (n + 1) made A = qrun E lim n made (qbk E (qkeep A f.2.2.1)) := by
            rw [qrun, if_neg (fun q => q h0), he]
            dsimp only
            rw [if_pos hend]
          rw [eq]
          have hF2 := qkeep_fl (k := f.2.2.1) hO.fl
          have k2 : qn (qbk E (qkeep A f.2.2.1)) 2 = qn A 2 := qbk_k (Or.inl rfl)
          have k3 : qn (qbk E (qkeep A f.2.2.1)) 3 = qn A 3 := qbk_k (Or.inr (Or.inl rfl))
          have k5 : qn (qbk E (qkeep A f.2.2.1)) 5 = qn A 5 := qbk_k (Or.inr (Or.inr (Or.inl rfl)))
          have k6 : qn (qbk E (qkeep A f.2.2.1)) 6 = qn A 6 := qbk_k (Or.inr (Or.inr (Or.inr rfl)))
          have kl : (qh (qbk E (qkeep A f.2.2.1))).length ≤ f.2.2.1 := by
            have := qbk_l (E := E) (A := qkeep A f.2.2.1)
            rw [qkeep_len (by omega)] at this
            exact this
          have k0 : qn (qbk E (qkeep A f.2.2.1)) 0 = qn A 0 ∨ qn (qbk E (qkeep A f.2.2.1)) 0 = 3 := qbk_0 (A := qkeep A f.2.2.1)
          have := ih made (qbk E (qkeep A f.2.2.1)) ⟨qbk_ok hF2, qbk_L (qkeep_L hL), by omega, fun q => ?_, by omega, by omega⟩ (by omega) (by rw [k2]; omega) (fun q => ?_)
          · rw [k3] at this
            exact this
          · have q1 : qn (qbk E (qkeep A f.2.2.1)) 0 = 1 := by omega
            exact (qback_1 _ _ q1).trans h10
          · -- the query has failed
            intro f' r' q'
            rw [qbk_e (A := qkeep A f.2.2.1) h0 q] at q'
            cases q'
        | false =>
          by_cases h300 : 300 ≤ qn A 2
          · have eq : qrun E lim (n + 1) made A = qfin A 4 3 := by
              rw [qrun, if_neg (fun q => q h0), he]
              dsimp only
              rw [if_neg (by rw [hend]; decide), if_pos h300]
            rw [eq]
            exact ⟨⟨qfin_fl hO.fl, qfin_L, ⟨show 1 ≤ 4 by decide, Nat.le_refl 4⟩, (fun q => by
              have q : (4 : Nat) = 1 ∨ (4 : Nat) = 2 := q
              omega), h5, h6⟩, (fun f r q => by cases q), Nat.le_succ _⟩
          · by_cases hlim : lim ≤ made
            · have eq : qrun E lim (n + 1) made A = A := by
                rw [qrun, if_neg (fun q => q h0), he]
                dsimp only
                rw [if_neg (by rw [hend]; decide), if_neg h300, if_pos hlim]
              rw [eq]
              refine ⟨⟨hO, hL, h14, h1, h5, h6⟩, fun f' r' q => ?_, Nat.le_succ _⟩
              rw [he] at q
              injection q with q1 q2
              rw [← q1]
              exact hend
            · have eq : qrun E lim (n + 1) made A = qrun E lim n (made + 1) (qinf E A f r) := by
                rw [qrun, if_neg (fun q => q h0), he]
                dsimp only
                rw [if_neg (by rw [hend]; decide), if_neg h300, if_neg hlim]
              rw [eq]
              obtain ⟨k2, k3, k5, k6, kl⟩ := qinf_k (E := E) (A := A) (f := f) (r := r)
              have k0 := qinf_0 (E := E) (A := A) (f := f) (r := r)
              have hl8 := hL.1
              have := ih (made + 1) (qinf E A f r) ⟨qinf_ok hO he (by omega), qinf_L hL he, by omega, fun q => (qinf_1 (by omega)).trans h10, by omega, by omega⟩ (by omega) (by rw [k2]; omega) (fun q f' r' q' => by
                rw [qinf_e h0 q] at q'
                cases q')
              rw [k3] at this
              exact this
    · have eq : qrun E lim (n + 1) made A = A := qrun_n h0
      rw [eq]
      exact ⟨⟨hO, hL, h14, h1, h5, h6⟩, hT h0, Nat.le_succ _⟩
theorem qproc_ok {lim : Nat} (hI : qI E A) (h : qn A 0 = 1 ∨ qn A 0 = 2) : qI E (qproc E lim A) ∧ qT (qproc E lim A) ∧ qn (qproc E lim A) 3 ≤ qn A 3 + 1 := by
  obtain ⟨hln, hlc, h4, h8⟩ := hI.1.len
  have hq2 := hI.1.2.2.2.2.2.2.2.1
  rcases h with h | h
  · have eq : qproc E lim A = qrun E lim 2000 0 A := by unfold qproc; rw [if_neg (by rw [h]; decide)]
    rw [eq]
    exact qrun_ok 2000 0 A hI (by omega) (by omega) (fun q => absurd h q)
  · have eq : qproc E lim A = qrun E lim 2000 0 (qbk E (qnum A 0 1)) := by unfold qproc; rw [if_pos h]
    rw [eq]
    obtain ⟨hO, hL, h14, h1, h5, h6⟩ := hI
    have hF : qFl E (qnum A 0 1) := hO.fl
    have k2 : qn (qbk E (qnum A 0 1)) 2 = qn A 2 := qbk_k (Or.inl rfl)
    have k3 : qn (qbk E (qnum A 0 1)) 3 = qn A 3 := qbk_k (Or.inr (Or.inl rfl))
    have k5 : qn (qbk E (qnum A 0 1)) 5 = qn A 5 := qbk_k (Or.inr (Or.inr (Or.inl rfl)))
    have k6 : qn (qbk E (qnum A 0 1)) 6 = qn A 6 := qbk_k (Or.inr (Or.inr (Or.inr rfl)))
    have kl : (qh (qbk E (qnum A 0 1))).length ≤ (qh A).length := qbk_l (E := E) (A := qnum A 0 1)
    have k0 : qn (qbk E (qnum A 0 1)) 0 = 1 ∨ qn (qbk E (qnum A 0 1)) 0 = 3 := qbk_0 (A := qnum A 0 1)
    have := qrun_ok (lim := lim) 2000 0 (qbk E (qnum A 0 1)) ⟨qbk_ok hF, qbk_L (A := qnum A 0 1) hL, by omega, fun q => ?_, by omega, by omega⟩ (by omega) (by rw [k2]; omega) (fun q f' r' q' => by
      rw [qbk_e (A := qnum A 0 1) rfl q] at q'
      cases q')
    · rw [k3] at this
      exact this
    · have q1 : qn (qbk E (qnum A 0 1)) 0 = 1 := by omega
      exact (qback_1 _ _ q1).trans (h1 (Or.inr h))
theorem qask_I {gs : List pE} {nv : Nat} {PL : List pCl} (h : gs ≠ []) (h20 : PL.length ≤ 20) : qI (PL, gs, nv) qask ∧ qT qask := by
  refine ⟨⟨⟨trivial, ⟨⟨Or.inl rfl, Nat.succ_pos _, ?_⟩, ⟨Nat.le_refl _, fun q => by cases q⟩, trivial⟩, (fun c hc => by cases hc), Nat.le_refl _, Nat.le_refl _, Nat.le_refl _, Nat.le_refl _, Nat.zero_le _, h20⟩, ⟨Nat.le_refl _, fun c hc => by cases hc⟩, ⟨Nat.le_refl 1, show 1 ≤ 4 by decide⟩, fun _ => rfl, Nat.zero_le _, Nat.zero_le _⟩, fun f r q => ?_⟩
  · show 0 < gs.length
    exact List.length_pos_iff.mpr h
  · have q : ([(0, 0, 0, none)] : List qF) = f :: r := q
    injection q with q1 q2
    rw [← q1]
    rfl
end QL
