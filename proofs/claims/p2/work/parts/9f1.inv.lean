/-! THE SEARCH: what holds of its states -/
/-- a frame is in order: N instances of l -/
def frK (E : qE) (l : List Nat) (N : Nat) (f : qF) : Prop := match f.2.2.2 with
  | some _ => f.2.1 ≤ 1
  | none => (f.1 = 0 ∨ 2 ≤ f.1) ∧ f.1 < N + 2 ∧ f.2.1 < (gsO E l f.1).length
def okF (E : qE) (l : List Nat) (N : Nat) : List qF → Nat → Prop
  | [], _ => True
  | f :: r, n => frK E l N f ∧ (f.2.2.1 ≤ n ∧ (f.2.2.2.isSome = true → f.2.2.1 + 1 ≤ n)) ∧ okF E l N r f.2.2.1
def chK (E : qE) (l : List Nat) (I : Nat) : List qC → Nat → Nat → Nat → Prop
  | [], _, _, _ => True
  | c :: r, ni, tr, ce => (c.2.2.2.1.1 ≤ ni ∧ c.2.2.2.1.2.1 ≤ tr ∧ c.2.2.2.1.2.2 ≤ ce) ∧ (c.2.2.2.1.1 + 1 ≤ I ∧ c.2.2.2.1.2.2 ≤ 2 * I) ∧ okF E l c.2.2.2.1.1 c.2.2.1 r.length ∧ (c.1 = none ↔ c.2.1 = []) ∧ c.2.1.Pairwise (· < ·) ∧ (∀ x ∈ c.2.1, x < E.1.length) ∧ chK E l I r c.2.2.2.1.1 c.2.2.2.1.2.1 c.2.2.2.1.2.2
def sLf (C : List qC) : Nat := (C.map (fun c => c.2.1.length)).sum
/-- J = 0: between inferences; 1: inside of one, before a clause is tried -/
def qOJ (E : qE) (A : qA) (J : Nat) : Prop := chK E (qi A) (qn A 2) (qh A) (qi A).length (qn A 7) (qn A 8) ∧ okF E (qi A) (qi A).length (qp A) (qh A).length ∧ (∀ c ∈ qi A, c < E.1.length) ∧ (qi A).length + J ≤ qn A 2 ∧ qn A 8 + J ≤ 2 * qn A 2 + 1 ∧ (qh A).length + J ≤ qn A 2 ∧ qn A 4 + sLf (qh A) + 20 * J ≤ 20 * qn A 2 ∧ qn A 2 ≤ 300 ∧ E.1.length ≤ 20
abbrev qOK (E : qE) (A : qA) : Prop := qOJ E A 0
section QI
variable {E : qE} {l l' : List Nat} {N N' n n' : Nat} {A : qA}
theorem gsO_c {i : Nat} (h : ∀ j, j < N → l[j]? = l'[j]?) (hi : i < N + 2) (h2 : i = 0 ∨ 2 ≤ i) : gsO E l i = gsO E l' i := by
  unfold gsO
  rcases h2 with h2 | h2
  · rw [if_pos h2, if_pos h2]
  · rw [if_neg (by omega), if_neg (by omega), h (i - 2) (by omega)]
theorem frK_c {f : qF} (h : ∀ j, j < N → l[j]? = l'[j]?) (hN : N ≤ N') (hf : frK E l N f) : frK E l' N' f := by
  unfold frK at hf ⊢
  split at hf
  · exact hf
  · refine ⟨hf.1, by omega, ?_⟩
    rw [← gsO_c h hf.2.1 hf.1]
    exact hf.2.2
theorem okF_c (h : ∀ j, j < N → l[j]? = l'[j]?) (hN : N ≤ N') : ∀ (fs : List qF) (n n' : Nat), n ≤ n' → okF E l N fs n → okF E l' N' fs n'
  | [], _, _, _, _ => trivial
  | f :: r, n, n', hn, hf => ⟨frK_c h hN hf.1, ⟨by have := hf.2.1.1; omega, fun q => by have := hf.2.1.2 q; omega⟩, okF_c h hN r _ _ (Nat.le_refl _) hf.2.2⟩
theorem okF_m {fs : List qF} (hn : n ≤ n') (h : okF E l N fs n) : okF E l N fs n' := okF_c (fun _ _ => rfl) (Nat.le_refl _) fs n n' hn h
theorem chK_c {I I' : Nat} (hI : I ≤ I') : ∀ (C : List qC) (ni tr ce ni' tr' ce' : Nat), ni ≤ ni' → tr ≤ tr' → ce ≤ ce' → (∀ j, j < ni → l[j]? = l'[j]?) → chK E l I C ni tr ce → chK E l' I' C ni' tr' ce'
  | [], _, _, _, _, _, _, _, _, _, _, _ => trivial
  | c :: r, ni, tr, ce, ni', tr', ce', h1, h2, h3, h4, h => by
    obtain ⟨⟨a1, a2, a3⟩, ⟨b1, b2⟩, c1, d1, d2, d3, e1⟩ := h
    have h5 : ∀ j, j < c.2.2.2.1.1 → l[j]? = l'[j]? := fun j hj => h4 j (by omega)
    exact ⟨⟨by omega, by omega, by omega⟩, ⟨by omega, by omega⟩, okF_c h5 (Nat.le_refl _) _ _ _ (Nat.le_refl _) c1, d1, d2, d3, chK_c hI r _ _ _ _ _ _ (Nat.le_refl _) (Nat.le_refl _) (Nat.le_refl _) h5 e1⟩
theorem chK_drop {I : Nat} : ∀ (C : List qC) (ni tr ce k : Nat), chK E l I C ni tr ce → chK E l I (C.drop k) ni tr ce
  | [], _, _, _, _, _ => by rw [List.drop_nil]; trivial
  | c :: r, ni, tr, ce, 0, h => h
  | c :: r, ni, tr, ce, k + 1, h => by
    have h1 := h.1
    exact chK_c (Nat.le_refl _) _ _ _ _ _ _ _ h1.1 h1.2.1 h1.2.2 (fun _ _ => rfl) (chK_drop r _ _ _ k h.2.2.2.2.2.2)
theorem sLf_drop : ∀ (C : List qC) (k : Nat), sLf (C.drop k) ≤ sLf C
  | [], k => by rw [List.drop_nil]; exact Nat.le_refl _
  | c :: r, 0 => Nat.le_refl _
  | c :: r, k + 1 => by
    have := sLf_drop r k
    show sLf (r.drop k) ≤ sLf (c :: r)
    have e : sLf (c :: r) = c.2.1.length + sLf r := by unfold sLf; simp only [List.map_cons, List.sum_cons]
    omega
theorem sLf_cons (c : qC) (r : List qC) : sLf (c :: r) = c.2.1.length + sLf r := by unfold sLf; simp only [List.map_cons, List.sum_cons]
theorem upn_s (f : Nat → Nat) (k v : Nat) : upn f k v k = v := if_pos rfl
theorem upn_o {f : Nat → Nat} {k v j : Nat} (h : j ≠ k) : upn f k v j = f j := if_neg h
theorem app_ag (x : Nat) (hN : N ≤ l.length) : ∀ j, j < N → l[j]? = (l ++ [x])[j]? := fun j hj => by
  rw [List.getElem?_append_left (by omega)]
theorem tak_ag {k : Nat} (hN : N ≤ k) : ∀ j, j < N → l[j]? = (l.take k)[j]? := fun j hj => by
  rw [List.getElem?_take_of_lt (by omega)]
theorem qfin_ok {st er : Nat} {J : Nat} (h : qOJ E A J) : qOK E (qfin A st er) := by
  obtain ⟨h1, h2, h3, h4, h5, h6, h7, h8, h9⟩ := h
  have e2 : qn (qfin A st er) 2 = qn A 2 := rfl
  have e4 : qn (qfin A st er) 4 = qn A 4 := rfl
  have e8 : qn (qfin A st er) 8 = 0 := rfl
  refine ⟨trivial, trivial, (fun c hc => by cases hc), Nat.zero_le _, ?_, Nat.zero_le _, ?_, ?_, h9⟩
  · rw [e8]; omega
  · rw [e2, e4]
    show qn A 4 + 0 + _ ≤ _
    omega
  · rw [e2]; exact h8
theorem qbind_ok {s' : Nat → pE} {J : Nat} (h : qOJ E A J) : qOJ E (qbind E A s') J := by
  obtain ⟨h1, h2, h3, h4, h5, h6, h7, h8, h9⟩ := h
  have e2 : qn (qbind E A s') 2 = qn A 2 := rfl
  have e4 : qn (qbind E A s') 4 = qn A 4 := rfl
  have e8 : qn (qbind E A s') 8 = qn A 8 := rfl
  have e7 : qn A 7 ≤ qn (qbind E A s') 7 := by
    show qn A 7 ≤ qn A 7 + _
    exact Nat.le_add_right _ _
  refine ⟨?_, h2, h3, by rw [e2]; exact h4, by rw [e2, e8]; exact h5, by rw [e2]; exact h6, by rw [e2, e4]; exact h7, by rw [e2]; exact h8, h9⟩
  rw [e2, e8]
  exact chK_c (Nat.le_refl _) _ _ _ _ _ _ _ (Nat.le_refl _) e7 (Nat.le_refl _) (fun _ _ => rfl) h1
/-- before a clause is tried -/
def qPr (E : qE) (A : qA) (cut : Nat) : Prop := chK E (qi A) (qn A 2) (qh A) (qi A).length (qn A 7) (qn A 8) ∧ okF E (qi A) (qi A).length (qp A) cut ∧ cut ≤ (qh A).length ∧ (∀ c ∈ qi A, c < E.1.length) ∧ (qi A).length + 1 ≤ qn A 2 ∧ qn A 8 ≤ 2 * qn A 2 ∧ (qh A).length ≤ qn A 2 ∧ qn A 4 + sLf (qh A) + 1 ≤ 20 * qn A 2 ∧ qn A 2 ≤ 300 ∧ E.1.length ≤ 20
theorem qent_ok {c cut : Nat} (h : qPr E A cut) (hc : c < E.1.length) : qOK E (qent A c) ∧ okF E (qi (qent A c)) (qi (qent A c)).length (qp A) cut := by
  obtain ⟨h1, h2, hcut, h3, h4, h5, h6, h7, h8, h9⟩ := h
  have e2 : qn (qent A c) 2 = qn A 2 := rfl
  have e4 : qn (qent A c) 4 = qn A 4 + 1 := rfl
  have e8 : qn (qent A c) 8 = qn A 8 := rfl
  have e7 : qn (qent A c) 7 = qn A 7 := rfl
  have ei : qi (qent A c) = qi A ++ [c] := rfl
  have el : (qi (qent A c)).length = (qi A).length + 1 := by rw [ei, List.length_append]; rfl
  have ag : ∀ j, j < (qi A).length → (qi A)[j]? = (qi (qent A c))[j]? := by rw [ei]; exact app_ag c (Nat.le_refl _)
  have h2' := okF_c ag (show (qi A).length ≤ (qi (qent A c)).length by omega) (qp A) cut cut (Nat.le_refl _) h2
  refine ⟨⟨?_, okF_m hcut h2', ?_, by rw [el, e2]; omega, by rw [e2, e8]; omega, by rw [e2]; exact h6, ?_, by rw [e2]; exact h8, h9⟩, h2'⟩
  · rw [e2, e7, e8]
    exact chK_c (Nat.le_refl _) _ _ _ _ _ _ _ (by omega) (Nat.le_refl _) (Nat.le_refl _) ag h1
  · intro x hx
    rw [ei, List.mem_append] at hx
    rcases hx with hx | hx
    · exact h3 x hx
    · rw [List.mem_singleton.mp hx]; exact hc
  · rw [e2, e4]
    show qn A 4 + 1 + sLf (qh A) + _ ≤ _
    omega
theorem qtry_ok {c cut : Nat} {g : pE} (h : qPr E A cut) (hc : c < E.1.length) : qOK E (qtry E A c g cut).1 := by
  obtain ⟨h1, h2⟩ := qent_ok h hc
  unfold qtry
  rw [List.getElem?_eq_getElem hc]
  dsimp only
  split
  · exact h1
  · rename_i s' _
    have hb : qOK E (qmat (qbind E (qent A c) s') c) := qbind_ok (J := 0) h1
    split
    · exact hb
    · rename_i x r hg
      obtain ⟨b1, b2, b3, b4, b5, b6, b7, b8, b9⟩ := hb
      have e2 : qn (qmat (qbind E (qent A c) s') c) 2 = qn A 2 := rfl
      have e8 : qn (qmat (qbind E (qent A c) s') c) 8 = qn A 8 := rfl
      have e4 : qn (qmat (qbind E (qent A c) s') c) 4 = qn A 4 + 1 := rfl
      obtain ⟨p1, p2, pcut, p3, p4, p5, p6, p7, p8, p9⟩ := h
      have k2 : qn (qpush (qmat (qbind E (qent A c) s') c) ((qi A).length + 2, 0, cut, none) (qp A)) 2 = qn A 2 := rfl
      have k7 : qn (qpush (qmat (qbind E (qent A c) s') c) ((qi A).length + 2, 0, cut, none) (qp A)) 7 = qn (qmat (qbind E (qent A c) s') c) 7 := rfl
      have k4 : qn (qpush (qmat (qbind E (qent A c) s') c) ((qi A).length + 2, 0, cut, none) (qp A)) 4 = qn A 4 + 1 := rfl
      have k8 : qn (qpush (qmat (qbind E (qent A c) s') c) ((qi A).length + 2, 0, cut, none) (qp A)) 8 = qn A 8 + 1 := rfl
      have ei : qi (qpush (qmat (qbind E (qent A c) s') c) ((qi A).length + 2, 0, cut, none) (qp A)) = qi A ++ [c] := rfl
      have el : (qi (qpush (qmat (qbind E (qent A c) s') c) ((qi A).length + 2, 0, cut, none) (qp A))).length = (qi A).length + 1 := by rw [ei, List.length_append]; rfl
      have eh : qh (qpush (qmat (qbind E (qent A c) s') c) ((qi A).length + 2, 0, cut, none) (qp A)) = qh A := rfl
      have ept : qp (qpush (qmat (qbind E (qent A c) s') c) ((qi A).length + 2, 0, cut, none) (qp A)) = ((qi A).length + 2, 0, cut, none) :: qp A := rfl
      refine ⟨?_, ?_, b3, ?_, ?_, ?_, ?_, ?_, p9⟩
      · rw [k2, k7, k8]
        rw [e2, e8] at b1
        exact chK_c (Nat.le_refl _) _ _ _ _ _ _ _ (Nat.le_refl _) (Nat.le_refl _) (by omega) (fun _ _ => rfl) b1
      · rw [ept, eh]
        refine ⟨⟨Or.inr (by show 2 ≤ (qi A).length + 2; omega), ?_, ?_⟩, ⟨pcut, fun q => by cases q⟩, h2⟩
        · show (qi A).length + 2 < _ + 2
          rw [el]
          omega
        · show 0 < (gsO E (qi A ++ [c]) ((qi A).length + 2)).length
          unfold gsO
          rw [if_neg (by omega), Nat.add_sub_cancel, List.getElem?_append_right (Nat.le_refl _), Nat.sub_self]
          show 0 < (match E.1[c]? with
            | some cl => cl.2.1
            | none => []).length
          rw [List.getElem?_eq_getElem hc]
          dsimp only
          rw [hg]
          exact Nat.succ_pos _
      · rw [el, k2]; omega
      · rw [k8, k2]; omega
      · rw [eh, k2]; exact p6
      · rw [k4, k2, eh]; omega
      · rw [k2]; exact p8
end QI
