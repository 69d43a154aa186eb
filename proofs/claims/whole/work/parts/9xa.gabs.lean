/-! BOTH SIDES TOGETHER: the abstract state between two calls, what a call answers -/
/-- text, program, past, query -/
abbrev jst : Type := List Int × List pCl × List (List pCl) × Option (qE × qA)
def jF {β : Type} : Sum Nat β → Int
  | .inl w => (w : Nat)
  | .inr _ => -9
def jP (A : jst) (PL : List pCl) (PH : List (List pCl)) : jst := (A.1, PL, PH, none)
def jx0 (a : Int) (A : jst) (x : Int) (A' : jst) : Prop := (¬ (32 ≤ a ∧ a ≤ 126) ∧ x = -1 ∧ A' = A) ∨ ((32 ≤ a ∧ a ≤ 126) ∧ ((A.1.length = 120 ∧ x = -3 ∧ A' = A) ∨ (A.1.length ≠ 120 ∧ x = (A.1.length : Int) + 1 ∧ A' = (A.1 ++ [a], A.2))))
def jx1 (A : jst) (x : Int) (A' : jst) : Prop := x = (A.1.length : Int) ∧ A' = ([], A.2)
def jx2 (a : Int) (A : jst) (x : Int) (A' : jst) : Prop := A' = A ∧ ((a ≠ 0 ∧ a ≠ 1 ∧ x = -1) ∨ (a = 0 ∧ ∃ R, cR A.1 (20 - A.2.1.length) (sk A.1 0) [] R ∧ x = jF R) ∨ (a = 1 ∧ ∃ R, qR A.1 R ∧ x = jF R))
def jx3 (A : jst) (x : Int) (A' : jst) : Prop := (∃ w, cR A.1 (20 - A.2.1.length) (sk A.1 0) [] (.inl w) ∧ x = -2 ∧ A' = A) ∨ ∃ cls, cR A.1 (20 - A.2.1.length) (sk A.1 0) [] (.inr cls) ∧ x = (cls.length : Int) ∧ A' = jP A (A.2.1 ++ cls) (phN A.2.2.1 A.2.1)
def jx4 (a : Int) (A : jst) (x : Int) (A' : jst) : Prop := (¬ (0 ≤ a ∧ a < A.2.1.length) ∧ x = -1 ∧ A' = A) ∨ ∃ c : Nat, a = c ∧ c < A.2.1.length ∧ x = (A.2.1.length : Int) - 1 ∧ A' = jP A (A.2.1.eraseIdx c) (phN A.2.2.1 A.2.1)
def jx5 (a b : Int) (A : jst) (x : Int) (A' : jst) : Prop := (¬ ((0 ≤ a ∧ a < A.2.1.length) ∧ (0 ≤ b ∧ b < A.2.1.length)) ∧ x = -1 ∧ A' = A) ∨ ∃ (c t : Nat) (PL' : List pCl), a = c ∧ b = t ∧ c < A.2.1.length ∧ t < A.2.1.length ∧ mvP A.2.1 c t PL' ∧ x = b ∧ A' = jP A PL' (phN A.2.2.1 A.2.1)
def jx6 (A : jst) (x : Int) (A' : jst) : Prop := (A.2.2.1 = [] ∧ x = -2 ∧ A' = A) ∨ ∃ PHi PLo, A.2.2.1 = PHi ++ [PLo] ∧ x = (PHi.length : Int) ∧ A' = jP A PLo PHi
def jx7 (a : Int) (A : jst) (x : Int) (A' : jst) : Prop := x = tdA A.2.1 A.2.2.1 A.1 a ∧ A' = A
def jT (A : jst) (c : Nat) : Int := match A.2.2.2 with
  | none => 0
  | some q => (qt q.2 c : Nat)
def jU (A : jst) (c : Nat) : Int := match A.2.2.2 with
  | none => 0
  | some q => (qu q.2 c : Nat)
def jx8 (a b : Int) (A : jst) (x : Int) (A' : jst) : Prop := A' = A ∧ ((¬ (0 ≤ a ∧ a < A.2.1.length) ∧ x = -1) ∨ ∃ (c : Nat) (cl : pCl), a = c ∧ A.2.1[c]? = some cl ∧ clI A.2.1 cl b (jT A c) (jU A c) x)
def jx9 (a b : Int) (A : jst) (x : Int) (A' : jst) : Prop := A' = A ∧ ((¬ (0 ≤ a ∧ a < A.2.1.length ∧ 0 ≤ b) ∧ x = -1) ∨ ∃ (c : Nat) (cl : pCl), a = c ∧ A.2.1[c]? = some cl ∧ 0 ≤ b ∧ x = tsA (tkp [] (lsT cl)) b)
def jx10 (a : Int) (A : jst) (x : Int) (A' : jst) : Prop := A' = A ∧ ((¬ (0 ≤ a ∧ a < A.2.1.length) ∧ x = -1) ∨ ∃ (c : Nat) (cl : pCl), a = c ∧ A.2.1[c]? = some cl ∧ x = ((ovS A.2.1 (eKy cl.1) A.2.1.length : Nat) : Int))
def jx11 (a b : Int) (A : jst) (x : Int) (A' : jst) : Prop := A' = A ∧ ((¬ ((0 ≤ a ∧ a < A.2.1.length) ∧ (0 ≤ b ∧ b < A.2.1.length)) ∧ x = -1) ∨ ∃ (f d : Nat) (cl : pCl), a = f ∧ b = d ∧ A.2.1[f]? = some cl ∧ d < A.2.1.length ∧ rcI A.2.1 (hdB A.2.1 (eKy cl.1)) d x)
def jx12 (A : jst) (x : Int) (A' : jst) : Prop := (∃ w, qR A.1 (.inl w) ∧ x = -2 ∧ A' = A) ∨ ∃ gs nv, qR A.1 (.inr (gs, nv)) ∧ x = (gs.length : Int) ∧ A' = (A.1, A.2.1, A.2.2.1, some ((A.2.1, gs, nv), qask))
def jx13 (a : Int) (A : jst) (x : Int) (A' : jst) : Prop := (¬ (1 ≤ a ∧ a ≤ 300) ∧ x = -1 ∧ A' = A) ∨ ((1 ≤ a ∧ a ≤ 300) ∧ (((∀ q, A.2.2.2 = some q → qn q.2 0 ≠ 1 ∧ qn q.2 0 ≠ 2) ∧ x = -2 ∧ A' = A) ∨ ∃ (E : qE) (B : qA) (lim : Nat), A.2.2.2 = some (E, B) ∧ (qn B 0 = 1 ∨ qn B 0 = 2) ∧ a = lim ∧ x = (qn (qproc E lim B) 0 : Nat) ∧ A' = (A.1, A.2.1, A.2.2.1, some (E, qproc E lim B))))
def jx14 (A : jst) (x : Int) (A' : jst) : Prop := (A.2.2.2 = none ∧ x = -2 ∧ A' = A) ∨ ∃ q : qE × qA, A.2.2.2 = some q ∧ x = (qn q.2 0 : Nat) ∧ A' = (A.1, A.2.1, A.2.2.1, none)
def jx15 (a : Int) (A : jst) (x : Int) (A' : jst) : Prop := A' = A ∧ ((A.2.2.2 = none ∧ x = if 0 ≤ a ∧ a ≤ 12 then 0 else -1) ∨ ∃ q : qE × qA, A.2.2.2 = some q ∧ x = shS q.1 q.2 a)
def jx16 (a b : Int) (A : jst) (x : Int) (A' : jst) : Prop := A' = A ∧ ((A.2.2.2 = none ∧ x = -1) ∨ ∃ q : qE × qA, A.2.2.2 = some q ∧ ((¬ (0 ≤ a ∧ a < (q.1.2.2 : Int)) ∧ x = -1) ∨ ∃ v : Nat, a = v ∧ v < q.1.2.2 ∧ vaI (qs q.2) v b x))
def jx17 (a b : Int) (A : jst) (x : Int) (A' : jst) : Prop := A' = A ∧ ((A.2.2.2 = none ∧ x = -1) ∨ ∃ q : qE × qA, A.2.2.2 = some q ∧ ((¬ (0 ≤ a ∧ a < (q.1.2.2 : Int) ∧ 0 ≤ b) ∧ x = -1) ∨ ∃ v : Nat, a = v ∧ v < q.1.2.2 ∧ 0 ≤ b ∧ x = tsA (tkp [] (wM (qs q.2 v) 0 []).1) b))
def jx18 (a : Int) (A : jst) (x : Int) (A' : jst) : Prop := A' = A ∧ ((a < 0 ∧ x = -1) ∨ (0 ≤ a ∧ A.2.2.2 = none ∧ x = -9) ∨ (0 ≤ a ∧ ∃ q : qE × qA, A.2.2.2 = some q ∧ ((qp q.2 = [] ∧ x = -9) ∨ ∃ f r, qp q.2 = f :: r ∧ x = tsA (tkp [] (wM (sb (qs q.2) (qgoal q.1 q.2 f)) 0 []).1) a)))
def jx19 (a b : Int) (A : jst) (x : Int) (A' : jst) : Prop := A' = A ∧ ((A.2.2.2 = none ∧ x = -1) ∨ ∃ q : qE × qA, A.2.2.2 = some q ∧ x = frI q.1 q.2 a b)
def jx20 (a b : Int) (A : jst) (x : Int) (A' : jst) : Prop := A' = A ∧ ((A.2.2.2 = none ∧ x = -1) ∨ ∃ q : qE × qA, A.2.2.2 = some q ∧ x = coI q.2 a b)
/-- call j with arguments a, b -/
def jS (j : Nat) (a b : Int) (A : jst) (x : Int) (A' : jst) : Prop := match j with
  | 0 => jx0 a A x A'
  | 1 => jx1 A x A'
  | 2 => jx2 a A x A'
  | 3 => jx3 A x A'
  | 4 => jx4 a A x A'
  | 5 => jx5 a b A x A'
  | 6 => jx6 A x A'
  | 7 => jx7 a A x A'
  | 8 => jx8 a b A x A'
  | 9 => jx9 a b A x A'
  | 10 => jx10 a A x A'
  | 11 => jx11 a b A x A'
  | 12 => jx12 A x A'
  | 13 => jx13 a A x A'
  | 14 => jx14 A x A'
  | 15 => jx15 a A x A'
  | 16 => jx16 a b A x A'
  | 17 => jx17 a b A x A'
  | 18 => jx18 a A x A'
  | 19 => jx19 a b A x A'
  | 20 => jx20 a b A x A'
  | _ => False
section JU
variable {A A' A'' : jst} {a b x x' : Int}
theorem jx0_u (h : jx0 a A x A') (h' : jx0 a A x' A'') : x = x' ∧ A' = A'' := by
  rcases h with ⟨h1, rfl, rfl⟩ | ⟨h1, ⟨h2, rfl, rfl⟩ | ⟨h2, rfl, rfl⟩⟩ <;> rcases h' with ⟨g1, rfl, rfl⟩ | ⟨g1, ⟨g2, rfl, rfl⟩ | ⟨g2, rfl, rfl⟩⟩ <;> first | exact ⟨rfl, rfl⟩ | exact absurd g1 h1 | exact absurd h1 g1 | exact absurd h2 g2 | exact absurd g2 h2
theorem jx1_u (h : jx1 A x A') (h' : jx1 A x' A'') : x = x' ∧ A' = A'' := by
  obtain ⟨rfl, rfl⟩ := h
  obtain ⟨rfl, rfl⟩ := h'
  exact ⟨rfl, rfl⟩
theorem jx2_u (h : jx2 a A x A') (h' : jx2 a A x' A'') : x = x' ∧ A' = A'' := by
  obtain ⟨rfl, h⟩ := h
  obtain ⟨rfl, h'⟩ := h'
  refine ⟨?_, rfl⟩
  rcases h with ⟨h1, h2, rfl⟩ | ⟨h1, R, h2, rfl⟩ | ⟨h1, R, h2, rfl⟩ <;> rcases h' with ⟨g1, g2, rfl⟩ | ⟨g1, S, g2, rfl⟩ | ⟨g1, S, g2, rfl⟩
  · rfl
  · exact absurd g1 h1
  · exact absurd g1 h2
  · exact absurd h1 g1
  · rw [cR_d h2 g2]
  · omega
  · exact absurd h1 g2
  · omega
  · rw [qR_d h2 g2]
theorem jx3_u (h : jx3 A x A') (h' : jx3 A x' A'') : x = x' ∧ A' = A'' := by
  rcases h with ⟨w, h1, rfl, rfl⟩ | ⟨c, h1, rfl, rfl⟩ <;> rcases h' with ⟨w', g1, rfl, rfl⟩ | ⟨c', g1, rfl, rfl⟩
  · exact ⟨rfl, rfl⟩
  · have := cR_d h1 g1
    cases this
  · have := cR_d h1 g1
    cases this
  · have := cR_d h1 g1
    cases this
    exact ⟨rfl, rfl⟩
theorem jx4_u (h : jx4 a A x A') (h' : jx4 a A x' A'') : x = x' ∧ A' = A'' := by
  rcases h with ⟨h1, rfl, rfl⟩ | ⟨c, h1, h2, rfl, rfl⟩ <;> rcases h' with ⟨g1, rfl, rfl⟩ | ⟨c', g1, g2, rfl, rfl⟩
  · exact ⟨rfl, rfl⟩
  · exact absurd ⟨by omega, by omega⟩ h1
  · exact absurd ⟨by omega, by omega⟩ g1
  · have : c = c' := by omega
    rw [this]
    exact ⟨rfl, rfl⟩
theorem mvP_u {l l1 l2 : List pCl} {c t : Nat} (h : mvP l c t l1) (h' : mvP l c t l2) : l1 = l2 := by
  refine List.ext_getElem? (fun k => ?_)
  by_cases q : k < l.length
  · rw [h.2 k q, h'.2 k q]
  · have e1 := h.1
    have e2 := h'.1
    rw [List.getElem?_eq_none (by omega), List.getElem?_eq_none (by omega)]
theorem jx5_u (h : jx5 a b A x A') (h' : jx5 a b A x' A'') : x = x' ∧ A' = A'' := by
  rcases h with ⟨h1, rfl, rfl⟩ | ⟨c, t, P, h1, h2, h3, h4, h5, rfl, rfl⟩ <;> rcases h' with ⟨g1, rfl, rfl⟩ | ⟨c', t', P', g1, g2, g3, g4, g5, rfl, rfl⟩
  · exact ⟨rfl, rfl⟩
  · exact absurd ⟨⟨by omega, by omega⟩, by omega, by omega⟩ h1
  · exact absurd ⟨⟨by omega, by omega⟩, by omega, by omega⟩ g1
  · have e1 : c = c' := by omega
    have e2 : t = t' := by omega
    subst e1 e2
    rw [mvP_u h5 g5]
    exact ⟨rfl, rfl⟩
theorem jx6_u (h : jx6 A x A') (h' : jx6 A x' A'') : x = x' ∧ A' = A'' := by
  rcases h with ⟨h1, rfl, rfl⟩ | ⟨c, t, h1, rfl, rfl⟩ <;> rcases h' with ⟨g1, rfl, rfl⟩ | ⟨c', t', g1, rfl, rfl⟩
  · exact ⟨rfl, rfl⟩
  · rw [h1] at g1
    exact absurd g1 (by simp)
  · rw [g1] at h1
    exact absurd h1 (by simp)
  · rw [h1] at g1
    obtain ⟨e1, e2⟩ := List.append_inj' g1 rfl
    cases e2
    rw [e1]
    exact ⟨rfl, rfl⟩
theorem jx7_u (h : jx7 a A x A') (h' : jx7 a A x' A'') : x = x' ∧ A' = A'' := by
  obtain ⟨rfl, rfl⟩ := h
  obtain ⟨rfl, rfl⟩ := h'
  exact ⟨rfl, rfl⟩
theorem jx8_u (h : jx8 a b A x A') (h' : jx8 a b A x' A'') : x = x' ∧ A' = A'' := by
  obtain ⟨rfl, h⟩ := h
  obtain ⟨rfl, h'⟩ := h'
  refine ⟨?_, rfl⟩
  rcases h with ⟨h1, rfl⟩ | ⟨c, cl, h1, h2, h3⟩ <;> rcases h' with ⟨g1, rfl⟩ | ⟨c', cl', g1, g2, g3⟩
  · rfl
  · have := (List.getElem?_eq_some_iff.mp g2).1
    exact absurd ⟨by omega, by omega⟩ h1
  · have := (List.getElem?_eq_some_iff.mp h2).1
    exact absurd ⟨by omega, by omega⟩ g1
  · have e1 : c = c' := by omega
    subst e1
    rw [h2] at g2
    cases g2
    exact clI_uq h3 g3
theorem jx9_u (h : jx9 a b A x A') (h' : jx9 a b A x' A'') : x = x' ∧ A' = A'' := by
  obtain ⟨rfl, h⟩ := h
  obtain ⟨rfl, h'⟩ := h'
  refine ⟨?_, rfl⟩
  rcases h with ⟨h1, rfl⟩ | ⟨c, cl, h1, h2, h3, rfl⟩ <;> rcases h' with ⟨g1, rfl⟩ | ⟨c', cl', g1, g2, g3, rfl⟩
  · rfl
  · have := (List.getElem?_eq_some_iff.mp g2).1
    exact absurd ⟨by omega, by omega, g3⟩ h1
  · have := (List.getElem?_eq_some_iff.mp h2).1
    exact absurd ⟨by omega, by omega, h3⟩ g1
  · have e1 : c = c' := by omega
    subst e1
    rw [h2] at g2
    cases g2
    rfl
theorem jx10_u (h : jx10 a A x A') (h' : jx10 a A x' A'') : x = x' ∧ A' = A'' := by
  obtain ⟨rfl, h⟩ := h
  obtain ⟨rfl, h'⟩ := h'
  refine ⟨?_, rfl⟩
  rcases h with ⟨h1, rfl⟩ | ⟨c, cl, h1, h2, rfl⟩ <;> rcases h' with ⟨g1, rfl⟩ | ⟨c', cl', g1, g2, rfl⟩
  · rfl
  · have := (List.getElem?_eq_some_iff.mp g2).1
    exact absurd ⟨by omega, by omega⟩ h1
  · have := (List.getElem?_eq_some_iff.mp h2).1
    exact absurd ⟨by omega, by omega⟩ g1
  · have e1 : c = c' := by omega
    subst e1
    rw [h2] at g2
    cases g2
    rfl
theorem jx11_u (h : jx11 a b A x A') (h' : jx11 a b A x' A'') : x = x' ∧ A' = A'' := by
  obtain ⟨rfl, h⟩ := h
  obtain ⟨rfl, h'⟩ := h'
  refine ⟨?_, rfl⟩
  rcases h with ⟨h1, rfl⟩ | ⟨c, d, cl, h1, h2, h3, h4, h5⟩ <;> rcases h' with ⟨g1, rfl⟩ | ⟨c', d', cl', g1, g2, g3, g4, g5⟩
  · rfl
  · have := (List.getElem?_eq_some_iff.mp g3).1
    exact absurd ⟨⟨by omega, by omega⟩, by omega, by omega⟩ h1
  · have := (List.getElem?_eq_some_iff.mp h3).1
    exact absurd ⟨⟨by omega, by omega⟩, by omega, by omega⟩ g1
  · have e1 : c = c' := by omega
    have e2 : d = d' := by omega
    subst e1 e2
    rw [h3] at g3
    cases g3
    exact rcI_uq h5 g5
theorem jx12_u (h : jx12 A x A') (h' : jx12 A x' A'') : x = x' ∧ A' = A'' := by
  rcases h with ⟨w, h1, rfl, rfl⟩ | ⟨c, d, h1, rfl, rfl⟩ <;> rcases h' with ⟨w', g1, rfl, rfl⟩ | ⟨c', d', g1, rfl, rfl⟩
  · exact ⟨rfl, rfl⟩
  · have := qR_d h1 g1
    cases this
  · have := qR_d h1 g1
    cases this
  · have := qR_d h1 g1
    cases this
    exact ⟨rfl, rfl⟩
theorem jx13_u (h : jx13 a A x A') (h' : jx13 a A x' A'') : x = x' ∧ A' = A'' := by
  rcases h with ⟨h1, rfl, rfl⟩ | ⟨h1, ⟨h2, rfl, rfl⟩ | ⟨E, B, l, h2, h3, h4, rfl, rfl⟩⟩ <;> rcases h' with ⟨g1, rfl, rfl⟩ | ⟨g1, ⟨g2, rfl, rfl⟩ | ⟨E', B', l', g2, g3, g4, rfl, rfl⟩⟩
  · exact ⟨rfl, rfl⟩
  · exact absurd g1 h1
  · exact absurd g1 h1
  · exact absurd h1 g1
  · exact ⟨rfl, rfl⟩
  · have := h2 _ g2
    exact absurd g3 (fun q => q.elim this.1 this.2)
  · exact absurd h1 g1
  · have := g2 _ h2
    exact absurd h3 (fun q => q.elim this.1 this.2)
  · rw [h2] at g2
    cases g2
    have e1 : l = l' := by omega
    rw [e1]
    exact ⟨rfl, rfl⟩
theorem jx14_u (h : jx14 A x A') (h' : jx14 A x' A'') : x = x' ∧ A' = A'' := by
  rcases h with ⟨h1, rfl, rfl⟩ | ⟨q, h1, rfl, rfl⟩ <;> rcases h' with ⟨g1, rfl, rfl⟩ | ⟨q', g1, rfl, rfl⟩
  · exact ⟨rfl, rfl⟩
  · rw [h1] at g1; cases g1
  · rw [h1] at g1; cases g1
  · rw [h1] at g1; cases g1
    exact ⟨rfl, rfl⟩
theorem jx15_u (h : jx15 a A x A') (h' : jx15 a A x' A'') : x = x' ∧ A' = A'' := by
  obtain ⟨rfl, h⟩ := h
  obtain ⟨rfl, h'⟩ := h'
  refine ⟨?_, rfl⟩
  rcases h with ⟨h1, rfl⟩ | ⟨q, h1, rfl⟩ <;> rcases h' with ⟨g1, rfl⟩ | ⟨q', g1, rfl⟩
  · rfl
  · rw [h1] at g1; cases g1
  · rw [h1] at g1; cases g1
  · rw [h1] at g1; cases g1
    rfl
theorem jx16_u (h : jx16 a b A x A') (h' : jx16 a b A x' A'') : x = x' ∧ A' = A'' := by
  obtain ⟨rfl, h⟩ := h
  obtain ⟨rfl, h'⟩ := h'
  refine ⟨?_, rfl⟩
  rcases h with ⟨h1, rfl⟩ | ⟨q, h1, h⟩ <;> rcases h' with ⟨g1, rfl⟩ | ⟨q', g1, h'⟩
  · rfl
  · rw [h1] at g1; cases g1
  · rw [h1] at g1; cases g1
  · rw [h1] at g1; cases g1
    rcases h with ⟨h2, rfl⟩ | ⟨v, h2, h3, h4⟩ <;> rcases h' with ⟨g2, rfl⟩ | ⟨v', g2, g3, g4⟩
    · rfl
    · exact absurd ⟨by omega, by omega⟩ h2
    · exact absurd ⟨by omega, by omega⟩ g2
    · have e1 : v = v' := by omega
      subst e1
      exact vaI_uq h4 g4
theorem jx17_u (h : jx17 a b A x A') (h' : jx17 a b A x' A'') : x = x' ∧ A' = A'' := by
  obtain ⟨rfl, h⟩ := h
  obtain ⟨rfl, h'⟩ := h'
  refine ⟨?_, rfl⟩
  rcases h with ⟨h1, rfl⟩ | ⟨q, h1, h⟩ <;> rcases h' with ⟨g1, rfl⟩ | ⟨q', g1, h'⟩
  · rfl
  · rw [h1] at g1; cases g1
  · rw [h1] at g1; cases g1
  · rw [h1] at g1; cases g1
    rcases h with ⟨h2, rfl⟩ | ⟨v, h2, h3, h4, rfl⟩ <;> rcases h' with ⟨g2, rfl⟩ | ⟨v', g2, g3, g4, rfl⟩
    · rfl
    · exact absurd ⟨by omega, by omega, g4⟩ h2
    · exact absurd ⟨by omega, by omega, h4⟩ g2
    · have e1 : v = v' := by omega
      rw [e1]
theorem jx18_u (h : jx18 a A x A') (h' : jx18 a A x' A'') : x = x' ∧ A' = A'' := by
  obtain ⟨rfl, h⟩ := h
  obtain ⟨rfl, h'⟩ := h'
  refine ⟨?_, rfl⟩
  rcases h with ⟨h0, rfl⟩ | ⟨h0, h1, rfl⟩ | ⟨h0, q, h1, h⟩ <;> rcases h' with ⟨g0, rfl⟩ | ⟨g0, g1, rfl⟩ | ⟨g0, q', g1, h'⟩
  · rfl
  · omega
  · omega
  · omega
  · rfl
  · rw [h1] at g1; cases g1
  · omega
  · rw [h1] at g1; cases g1
  · rw [h1] at g1; cases g1
    rcases h with ⟨h2, rfl⟩ | ⟨f, r, h2, rfl⟩ <;> rcases h' with ⟨g2, rfl⟩ | ⟨f', r', g2, rfl⟩
    · rfl
    · rw [h2] at g2; cases g2
    · rw [h2] at g2; cases g2
    · rw [h2] at g2; cases g2
      rfl
theorem jx19_u (h : jx19 a b A x A') (h' : jx19 a b A x' A'') : x = x' ∧ A' = A'' := by
  obtain ⟨rfl, h⟩ := h
  obtain ⟨rfl, h'⟩ := h'
  refine ⟨?_, rfl⟩
  rcases h with ⟨h1, rfl⟩ | ⟨q, h1, rfl⟩ <;> rcases h' with ⟨g1, rfl⟩ | ⟨q', g1, rfl⟩
  · rfl
  · rw [h1] at g1; cases g1
  · rw [h1] at g1; cases g1
  · rw [h1] at g1; cases g1
    rfl
theorem jx20_u (h : jx20 a b A x A') (h' : jx20 a b A x' A'') : x = x' ∧ A' = A'' := by
  obtain ⟨rfl, h⟩ := h
  obtain ⟨rfl, h'⟩ := h'
  refine ⟨?_, rfl⟩
  rcases h with ⟨h1, rfl⟩ | ⟨q, h1, rfl⟩ <;> rcases h' with ⟨g1, rfl⟩ | ⟨q', g1, rfl⟩
  · rfl
  · rw [h1] at g1; cases g1
  · rw [h1] at g1; cases g1
  · rw [h1] at g1; cases g1
    rfl
/-- a call answers one thing -/
theorem jS_u {j : Nat} (h : jS j a b A x A') (h' : jS j a b A x' A'') : x = x' ∧ A' = A'' := by
  match j, h, h' with
  | 0, h, h' => exact jx0_u h h'
  | 1, h, h' => exact jx1_u h h'
  | 2, h, h' => exact jx2_u h h'
  | 3, h, h' => exact jx3_u h h'
  | 4, h, h' => exact jx4_u h h'
  | 5, h, h' => exact jx5_u h h'
  | 6, h, h' => exact jx6_u h h'
  | 7, h, h' => exact jx7_u h h'
  | 8, h, h' => exact jx8_u h h'
  | 9, h, h' => exact jx9_u h h'
  | 10, h, h' => exact jx10_u h h'
  | 11, h, h' => exact jx11_u h h'
  | 12, h, h' => exact jx12_u h h'
  | 13, h, h' => exact jx13_u h h'
  | 14, h, h' => exact jx14_u h h'
  | 15, h, h' => exact jx15_u h h'
  | 16, h, h' => exact jx16_u h h'
  | 17, h, h' => exact jx17_u h h'
  | 18, h, h' => exact jx18_u h h'
  | 19, h, h' => exact jx19_u h h'
  | 20, h, h' => exact jx20_u h h'
  | _ + 21, h, _ => exact h.elim
end JU
