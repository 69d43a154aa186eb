/-! BOTH SIDES TOGETHER: what holds of the abstract state alone -/
def jV (k : Nat) (A : jst) : Prop := (∀ cl ∈ A.2.1, aM cl.1 + aMs cl.2.1 ≤ 30) ∧ (∀ X ∈ A.2.2.1, ∀ cl ∈ X, aM cl.1 + aMs cl.2.1 ≤ 30) ∧ ∀ E B, A.2.2.2 = some (E, B) → E.1 = A.2.1 ∧ qI E B ∧ qT B ∧ qn B 3 ≤ k
section JV
variable {A A' : jst} {a b x : Int} {k j : Nat}
theorem jV_s (h : jV k A) : jV (k + 1) A := ⟨h.1, h.2.1, fun E B e => by
  obtain ⟨h1, h2, h3, h4⟩ := h.2.2 E B e
  exact ⟨h1, h2, h3, by omega⟩⟩
theorem jV_tx {tx : List Int} (h : jV k A) : jV k (tx, A.2) := h
theorem jV_p {PL : List pCl} {PH : List (List pCl)} (h1 : ∀ cl ∈ PL, aM cl.1 + aMs cl.2.1 ≤ 30) (h2 : ∀ X ∈ PH, ∀ cl ∈ X, aM cl.1 + aMs cl.2.1 ≤ 30) : jV k (jP A PL PH) := ⟨h1, h2, fun E B e => by
  have e : (none : Option (qE × qA)) = some (E, B) := e
  cases e⟩
theorem phN_all {P : List pCl → Prop} {PH : List (List pCl)} {PL : List pCl} (h : ∀ X ∈ PH, P X) (h0 : P PL) : ∀ X ∈ phN PH PL, P X := by
  intro X hX
  unfold phN at hX
  split at hX
  · rcases List.mem_append.mp hX with q | q
    · exact h X (List.mem_of_mem_tail q)
    · rw [List.mem_singleton.mp q]
      exact h0
  · rcases List.mem_append.mp hX with q | q
    · exact h X q
    · rw [List.mem_singleton.mp q]
      exact h0
theorem jV_S (h : jS j a b A x A') (hV : jV k A) (hc : ∀ c ∈ A.1, 32 ≤ c ∧ c ≤ 126) (hl : A.1.length ≤ 120) (h20 : A.2.1.length ≤ 20) : jV (k + 1) A' := by
  have hph : ∀ X ∈ phN A.2.2.1 A.2.1, ∀ cl ∈ X, aM cl.1 + aMs cl.2.1 ≤ 30 := phN_all hV.2.1 hV.1
  match j, h with
  | 0, h =>
    rcases h with ⟨-, -, rfl⟩ | ⟨-, ⟨-, -, rfl⟩ | ⟨-, -, rfl⟩⟩
    · exact jV_s hV
    · exact jV_s hV
    · exact jV_s hV
  | 1, h =>
    obtain ⟨-, rfl⟩ := h
    exact jV_s hV
  | 2, h =>
    obtain ⟨rfl, -⟩ := h
    exact jV_s hV
  | 3, h =>
    rcases h with ⟨w, -, -, rfl⟩ | ⟨cls, ⟨n, h1⟩, -, rfl⟩
    · exact jV_s hV
    · have h2 := cR_A hc hl n _ _ [] cls (sk_le (Nat.zero_le _)).2 (fun c hc => by cases hc) h1
      exact jV_p (fun cl q => (List.mem_append.mp q).elim (hV.1 cl) (h2 cl)) hph
  | 4, h =>
    rcases h with ⟨-, -, rfl⟩ | ⟨c, -, -, -, rfl⟩
    · exact jV_s hV
    · exact jV_p (fun cl q => hV.1 cl (List.mem_of_mem_eraseIdx q)) hph
  | 5, h =>
    rcases h with ⟨-, -, rfl⟩ | ⟨c, t, PL', -, -, h1, h2, h3, -, rfl⟩
    · exact jV_s hV
    · refine jV_p (fun cl q => ?_) hph
      obtain ⟨i, hi⟩ := List.getElem?_of_mem q
      have hil := (List.getElem?_eq_some_iff.mp hi).1
      rw [h3.1] at hil
      rw [h3.2 i hil] at hi
      exact hV.1 cl (List.mem_of_getElem? hi)
  | 6, h =>
    rcases h with ⟨-, -, rfl⟩ | ⟨PHi, PLo, h1, -, rfl⟩
    · exact jV_s hV
    · have h2 := hV.2.1
      rw [h1] at h2
      exact jV_p (h2 _ (List.mem_append_right _ (List.mem_singleton_self _))) (fun X q => h2 X (List.mem_append_left _ q))
  | 7, h =>
    obtain ⟨-, rfl⟩ := h
    exact jV_s hV
  | 8, h =>
    obtain ⟨rfl, -⟩ := h
    exact jV_s hV
  | 9, h =>
    obtain ⟨rfl, -⟩ := h
    exact jV_s hV
  | 10, h =>
    obtain ⟨rfl, -⟩ := h
    exact jV_s hV
  | 11, h =>
    obtain ⟨rfl, -⟩ := h
    exact jV_s hV
  | 12, h =>
    rcases h with ⟨w, -, -, rfl⟩ | ⟨gs, nv, h1, -, rfl⟩
    · exact jV_s hV
    · refine ⟨hV.1, hV.2.1, fun E B e => ?_⟩
      have e : some ((A.2.1, gs, nv), qask) = some (E, B) := e
      cases e
      obtain ⟨g1, g2⟩ := qask_I (nv := nv) (qR_K hl hc h1).2.2 h20
      exact ⟨rfl, g1, g2, Nat.zero_le _⟩
  | 13, h =>
    rcases h with ⟨-, -, rfl⟩ | ⟨-, ⟨-, -, rfl⟩ | ⟨E, B, lim, h1, h2, -, -, rfl⟩⟩
    · exact jV_s hV
    · exact jV_s hV
    · refine ⟨hV.1, hV.2.1, fun E' B' e => ?_⟩
      have e : some (E, qproc E lim B) = some (E', B') := e
      cases e
      obtain ⟨g1, g2, g3, g4⟩ := hV.2.2 E B h1
      obtain ⟨i1, i2, i3⟩ := qproc_ok (lim := lim) g2 h2
      exact ⟨g1, i1, i2, by omega⟩
  | 14, h =>
    rcases h with ⟨-, -, rfl⟩ | ⟨q, -, -, rfl⟩
    · exact jV_s hV
    · exact jV_p (A := A) hV.1 hV.2.1
  | 15, h =>
    obtain ⟨rfl, -⟩ := h
    exact jV_s hV
  | 16, h =>
    obtain ⟨rfl, -⟩ := h
    exact jV_s hV
  | 17, h =>
    obtain ⟨rfl, -⟩ := h
    exact jV_s hV
  | 18, h =>
    obtain ⟨rfl, -⟩ := h
    exact jV_s hV
  | 19, h =>
    obtain ⟨rfl, -⟩ := h
    exact jV_s hV
  | 20, h =>
    obtain ⟨rfl, -⟩ := h
    exact jV_s hV
  | _ + 21, h => exact h.elim
end JV
