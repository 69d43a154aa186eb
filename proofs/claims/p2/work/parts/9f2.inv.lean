/-! THE SEARCH: its states stay in order -/
/-- what is enough to go back -/
def qFl (E : qE) (A : qA) : Prop := chK E (qi A) (qn A 2) (qh A) (qi A).length (qn A 7) (qn A 8) ∧ (∀ c ∈ qi A, c < E.1.length) ∧ (qh A).length ≤ qn A 2 ∧ qn A 4 + sLf (qh A) ≤ 20 * qn A 2 ∧ qn A 2 ≤ 300 ∧ E.1.length ≤ 20 ∧ (qi A).length ≤ 300
section QJ
variable {E : qE} {A : qA} {c : qC} {r : List qC}
theorem qOJ.fl {J : Nat} (h : qOJ E A J) : qFl E A := by
  obtain ⟨h1, h2, h3, h4, h5, h6, h7, h8, h9⟩ := h
  exact ⟨h1, h3, by omega, by omega, h8, h9, by omega⟩
theorem qfin_fl {st er : Nat} (h : qFl E A) : qOK E (qfin A st er) := by
  obtain ⟨h1, h3, h6, h7, h8, h9, h10⟩ := h
  have e2 : qn (qfin A st er) 2 = qn A 2 := rfl
  have e4 : qn (qfin A st er) 4 = qn A 4 := rfl
  refine ⟨trivial, trivial, (fun c hc => by cases hc), Nat.zero_le _, Nat.zero_le _, Nat.zero_le _, ?_, ?_, h9⟩
  · rw [e2, e4]
    show qn A 4 + 0 + _ ≤ _
    omega
  · rw [e2]; exact h8
theorem qtry_h {c cut : Nat} {g : pE} : qh (qtry E A c g cut).1 = qh A := by
  unfold qtry
  split
  · rfl
  · split
    · rfl
    · dsimp only
      split <;> rfl
/-- behind the way back to a choice -/
theorem qrest_pr {g : pE} {c0 : Nat} {L : List Nat} (h : qFl E A) (he : qh A = c :: r) (hl : c.2.1 = c0 :: L) : qPr E (qrest A c (qmore c L r)) r.length ∧ c0 < E.1.length := by
  obtain ⟨h1, h3, h6, h7, h8, h9, h10⟩ := h
  rw [he] at h1 h6 h7
  obtain ⟨⟨a1, a2, a3⟩, ⟨b1, b2⟩, c1, d1, d2, d3, e1⟩ := h1
  rw [hl] at d2 d3
  rw [sLf_cons, hl] at h7
  simp only [List.length_cons] at h6 h7
  have ei : qi (qrest A c (qmore c L r)) = (qi A).take c.2.2.2.1.1 := rfl
  have el : (qi (qrest A c (qmore c L r))).length = c.2.2.2.1.1 := by rw [ei, List.length_take]; omega
  have e2 : qn (qrest A c (qmore c L r)) 2 = qn A 2 := rfl
  have e4 : qn (qrest A c (qmore c L r)) 4 = qn A 4 := rfl
  have e7 : qn (qrest A c (qmore c L r)) 7 = c.2.2.2.1.2.1 := rfl
  have e8 : qn (qrest A c (qmore c L r)) 8 = c.2.2.2.1.2.2 := rfl
  have eh : qh (qrest A c (qmore c L r)) = qmore c L r := rfl
  have et : qp (qrest A c (qmore c L r)) = c.2.2.1 := rfl
  have ag : ∀ j, j < c.2.2.2.1.1 → (qi A)[j]? = (qi (qrest A c (qmore c L r)))[j]? := by rw [ei]; exact tak_ag (Nat.le_refl _)
  have k1 := okF_c ag (Nat.le_refl _) c.2.2.1 r.length r.length (Nat.le_refl _) c1
  have k2 := chK_c (Nat.le_refl _) r _ _ _ _ _ _ (Nat.le_refl _) (Nat.le_refl _) (Nat.le_refl _) ag e1
  have hm : chK E (qi (qrest A c (qmore c L r))) (qn A 2) (qmore c L r) c.2.2.2.1.1 c.2.2.2.1.2.1 c.2.2.2.1.2.2 ∧ r.length ≤ (qmore c L r).length ∧ (qmore c L r).length ≤ r.length + 1 ∧ sLf (qmore c L r) ≤ L.length + sLf r := by
    generalize qi (qrest A c (qmore c L r)) = l' at k1 k2 ⊢
    unfold qmore
    cases L with
    | nil => exact ⟨k2, Nat.le_refl _, Nat.le_succ _, Nat.le_add_left _ _⟩
    | cons x L =>
      refine ⟨⟨⟨Nat.le_refl _, Nat.le_refl _, Nat.le_refl _⟩, ⟨b1, b2⟩, k1, ⟨fun q => ?_, fun q => by cases q⟩, (List.pairwise_cons.mp d2).2, fun z hz => d3 z (List.mem_cons_of_mem _ hz), k2⟩, Nat.le_succ _, Nat.le_refl _, ?_⟩
      · have := d1.mp q
        rw [hl] at this
        cases this
      · rw [sLf_cons]
        exact Nat.le_refl _
  refine ⟨⟨?_, ?_, hm.2.1, ?_, ?_, ?_, ?_, ?_, ?_, h9⟩, d3 c0 (List.mem_cons_self ..)⟩
  · rw [eh, e2, e7, e8, el]
    exact hm.1
  · rw [et, el]
    exact k1
  · rw [ei]
    exact fun x hx => h3 x (List.mem_of_mem_take hx)
  · rw [el, e2]; exact b1
  · rw [e8, e2]; exact b2
  · rw [eh, e2]; omega
  · rw [e4, eh, e2]; omega
  · rw [e2]; exact h8
theorem qrest_ok (h : qFl E A) (he : qh A = c :: r) : qOK E (qrest A c r) := by
  obtain ⟨h1, h3, h6, h7, h8, h9, h10⟩ := h
  rw [he] at h1 h6 h7
  obtain ⟨⟨a1, a2, a3⟩, ⟨b1, b2⟩, c1, d1, d2, d3, e1⟩ := h1
  rw [sLf_cons] at h7
  simp only [List.length_cons] at h6
  have ei : qi (qrest A c r) = (qi A).take c.2.2.2.1.1 := rfl
  have el : (qi (qrest A c r)).length = c.2.2.2.1.1 := by rw [ei, List.length_take]; omega
  have e2 : qn (qrest A c r) 2 = qn A 2 := rfl
  have e4 : qn (qrest A c r) 4 = qn A 4 := rfl
  have e7 : qn (qrest A c r) 7 = c.2.2.2.1.2.1 := rfl
  have e8 : qn (qrest A c r) 8 = c.2.2.2.1.2.2 := rfl
  have eh : qh (qrest A c r) = r := rfl
  have et : qp (qrest A c r) = c.2.2.1 := rfl
  have ag : ∀ j, j < c.2.2.2.1.1 → (qi A)[j]? = (qi (qrest A c r))[j]? := by rw [ei]; exact tak_ag (Nat.le_refl _)
  refine ⟨?_, ?_, ?_, ?_, ?_, ?_, ?_, ?_, h9⟩
  · rw [eh, e2, e7, e8, el]
    exact chK_c (Nat.le_refl _) r _ _ _ _ _ _ (Nat.le_refl _) (Nat.le_refl _) (Nat.le_refl _) ag e1
  · rw [et, el, eh]
    exact okF_c ag (Nat.le_refl _) c.2.2.1 r.length r.length (Nat.le_refl _) c1
  · rw [ei]
    exact fun x hx => h3 x (List.mem_of_mem_take hx)
  · rw [el, e2]; omega
  · rw [e8, e2]; omega
  · rw [eh, e2]; omega
  · rw [e4, eh, e2]; omega
  · rw [e2]; exact h8
def qpt (C : List qC) : Nat := (C.map (fun c => c.2.1.length + 1)).sum
theorem qpt_cons (c : qC) (r : List qC) : qpt (c :: r) = c.2.1.length + 1 + qpt r := by unfold qpt; simp only [List.map_cons, List.sum_cons]
theorem qpt_more {c0 : Nat} {L : List Nat} (hl : c.2.1 = c0 :: L) : qpt (qmore c L r) < qpt (c :: r) := by
  rw [qpt_cons, hl]
  unfold qmore
  cases L with
  | nil => simp only [List.length_cons, List.length_nil]; omega
  | cons x L =>
    show qpt (_ :: r) < _
    rw [qpt_cons]
    simp only [List.length_cons]
    omega
/-- one step back -/
theorem qback_nil {n : Nat} (he : qh A = []) : qback E (n + 1) A = qfin A 3 0 := by
  rw [qback, he]
theorem qback_bar {n : Nat} (he : qh A = c :: r) (hc : c.1 = none) : qback E (n + 1) A = qrest A c r := by
  rw [qback, he]
  dsimp only
  rw [hc]
theorem qback_try {n c0 : Nat} {g : pE} {L : List Nat} (he : qh A = c :: r) (hc : c.1 = some g) (hl : c.2.1 = c0 :: L) : qback E (n + 1) A = if (qtry E (qrest A c (qmore c L r)) c0 g r.length).2 = true then (qtry E (qrest A c (qmore c L r)) c0 g r.length).1 else qback E n (qtry E (qrest A c (qmore c L r)) c0 g r.length).1 := by
  rw [qback, he]
  dsimp only
  rw [hc, hl]
theorem qback_ok : ∀ (n : Nat) (A : qA), qFl E A → qpt (qh A) < n → qOK E (qback E n A)
  | 0, A, _, h => absurd h (Nat.not_lt_zero _)
  | n + 1, A, hf, hn => by
    cases he : qh A with
    | nil =>
      rw [qback_nil he]
      exact qfin_fl hf
    | cons c r =>
      have h1 := hf.1
      rw [he] at h1
      have d1 := h1.2.2.2.1
      cases hc : c.1 with
      | none =>
        rw [qback_bar he hc]
        exact qrest_ok hf he
      | some g =>
        cases hl : c.2.1 with
        | nil =>
          have := d1.mpr hl
          rw [hc] at this
          cases this
        | cons c0 L =>
          rw [qback_try he hc hl]
          obtain ⟨hp, h0⟩ := qrest_pr (g := g) hf he hl
          have ho := qtry_ok (g := g) hp h0
          split
          · exact ho
          · refine qback_ok n _ ho.fl ?_
            rw [qtry_h]
            have := qpt_more (r := r) hl
            rw [← he] at this
            exact Nat.lt_of_lt_of_le this (Nat.le_of_lt_succ hn)
theorem qbk_ok (h : qFl E A) : qOK E (qbk E A) := qback_ok _ _ h (Nat.lt_succ_self _)
theorem qkeep_fl {k : Nat} (h : qFl E A) : qFl E (qkeep A k) := by
  obtain ⟨h1, h3, h6, h7, h8, h9, h10⟩ := h
  have e := sLf_drop (qh A) ((qh A).length - k)
  refine ⟨chK_drop _ _ _ _ _ h1, h3, ?_, ?_, h8, h9, h10⟩
  · show ((qh A).drop _).length ≤ qn A 2
    rw [List.length_drop]
    omega
  · show qn A 4 + sLf ((qh A).drop _) ≤ 20 * qn A 2
    omega
theorem qkeep_len {k : Nat} (hk : k ≤ (qh A).length) : (qh (qkeep A k)).length = k := by
  show ((qh A).drop _).length = k
  rw [List.length_drop]
  omega
theorem qOJ.le {J J' : Nat} (h : qOJ E A J) (hJ : J' ≤ J) : qOJ E A J' := by
  obtain ⟨h1, h2, h3, h4, h5, h6, h7, h8, h9⟩ := h
  exact ⟨h1, h2, h3, by omega, by omega, by omega, by omega, h8, h9⟩
theorem quni_ok {t u : pE} (h : qOJ E A 1) : qOK E (quni E A t u) := by
  unfold quni
  split
  · exact qbind_ok (h.le (Nat.zero_le _))
  · exact qbk_ok h.fl
theorem qcand_p {g : pE} : (qcand E g).Pairwise (· < ·) := List.Pairwise.filter _ List.pairwise_lt_range
theorem qcand_l {g : pE} : ∀ x ∈ qcand E g, x < E.1.length := fun x hx => by
  unfold qcand at hx
  rw [List.mem_filter, List.mem_range] at hx
  exact hx.1
theorem qcand_n {g : pE} : (qcand E g).length ≤ E.1.length := by
  have := List.length_filter_le (cdB E.1 (eKy g) (fk g) (fy g)) (List.range E.1.length)
  rw [List.length_range] at this
  exact this
theorem qadd_fl {g : Option pE} {L : List Nat} (h : qOJ E A 1) (hg : g = none ↔ L = []) (hp : L.Pairwise (· < ·)) (hl : ∀ x ∈ L, x < E.1.length) (hn : L.length ≤ 20) : chK E (qi A) (qn A 2) (qh (qadd A g L)) (qi A).length (qn A 7) (qn A 8) ∧ (qh (qadd A g L)).length ≤ qn A 2 ∧ qn A 4 + sLf (qh (qadd A g L)) ≤ 20 * qn A 2 := by
  obtain ⟨h1, h2, h3, h4, h5, h6, h7, h8, h9⟩ := h
  refine ⟨⟨⟨Nat.le_refl _, Nat.le_refl _, Nat.le_refl _⟩, ⟨h4, ?_⟩, h2, hg, hp, hl, h1⟩, h6, ?_⟩
  · show qn A 8 ≤ 2 * qn A 2
    omega
  · show qn A 4 + sLf (_ :: qh A) ≤ _
    rw [sLf_cons]
    show qn A 4 + (L.length + sLf (qh A)) ≤ _
    omega
theorem qcall_ok {own : Bool} {cut : Nat} {k : Int} {a : pE} (h : qOJ E A 1) (hc : own = true → cut ≤ (qh A).length ∧ okF E (qi A) (qi A).length (qp A) cut) : qOK E (qcall E A own cut k a) := by
  have h0 : qOK E A := h.le (Nat.zero_le _)
  unfold qcall
  split
  · exact h0
  split
  · exact qbk_ok h.fl
  split
  · split
    · rename_i ho
      have hl := qkeep_len (hc ho).1
      obtain ⟨k1, k3, k6, k7, k8, k9, k10⟩ := qkeep_fl (k := cut) h.fl
      obtain ⟨h1, h2, h3, h4, h5, h6, h7, h8, h9⟩ := h0
      refine ⟨k1, ?_, h3, h4, h5, k6, k7, h8, h9⟩
      rw [hl]
      exact (hc ho).2
    · exact h0
  split
  · split
    · obtain ⟨b1, b2, b3⟩ := qadd_fl (g := none) (L := []) h ⟨fun _ => rfl, fun _ => rfl⟩ List.Pairwise.nil (fun x hx => by cases hx) (Nat.zero_le _)
      obtain ⟨h1, h2, h3, h4, h5, h6, h7, h8, h9⟩ := h
      refine ⟨chK_c (Nat.le_refl _) _ _ _ _ _ _ _ (Nat.le_refl _) (Nat.le_refl _) (Nat.le_succ _) (fun _ _ => rfl) b1, ⟨Nat.zero_le _, ⟨Nat.le_succ _, fun _ => Nat.le_refl _⟩, h2⟩, h3, ?_, ?_, b2, b3, h8, h9⟩
      · show (qi A).length ≤ qn A 2
        omega
      · show qn A 8 + 1 ≤ 2 * qn A 2 + 1
        omega
    · exact qfin_ok h
  split
  · exact quni_ok h
  split
  · split
    · split
      · exact h0
      · exact qbk_ok h.fl
    · exact qfin_ok h
  split
  · split
    · exact quni_ok h
    · exact qfin_ok h
  split
  · exact qbk_ok h.fl
  · rename_i c L hcl
    have hn := qcand_n (E := E) (g := .mulL k a)
    have hp := qcand_p (E := E) (g := .mulL k a)
    have hl := qcand_l (E := E) (g := .mulL k a)
    rw [hcl] at hn hp hl
    have h9 := h.2.2.2.2.2.2.2.2
    obtain ⟨b1, b2, b3⟩ := qadd_fl (g := some (.mulL k a)) (L := c :: L) h ⟨(fun q => by cases q), (fun q => by cases q)⟩ hp hl (by omega)
    exact qbk_ok ⟨b1, h.2.2.1, b2, b3, h.2.2.2.2.2.2.2.1, h9, h.fl.2.2.2.2.2.2⟩
/-- a goal is taken -/
theorem qdrop_ok {f : qF} {r : List qF} (h : qOK E A) (he : qp A = f :: r) (hi : qn A 2 < 300) : qOJ E (qdrop E (qcnt A) f r) 1 ∧ f.2.2.1 ≤ (qh A).length ∧ qh (qdrop E (qcnt A) f r) = qh A ∧ okF E (qi A) (qi A).length (qp (qdrop E (qcnt A) f r)) (qh A).length ∧ qi (qdrop E (qcnt A) f r) = qi A ∧ qs (qdrop E (qcnt A) f r) = qs A ∧ (f.2.2.2.isNone = true → okF E (qi A) (qi A).length (qp (qdrop E (qcnt A) f r)) f.2.2.1) := by
  obtain ⟨h1, h2, h3, h4, h5, h6, h7, h8, h9⟩ := h
  rw [he] at h2
  obtain ⟨f1, f2, f3⟩ := h2
  have e2 : qn (qcnt A) 2 = qn A 2 + 1 := rfl
  have e4 : qn (qcnt A) 4 = qn A 4 := rfl
  have e7 : qn (qcnt A) 7 = qn A 7 := rfl
  have e8 : qn (qcnt A) 8 = qn A 8 := rfl
  have hch : ∀ ce, qn A 8 ≤ ce → chK E (qi A) (qn A 2 + 1) (qh A) (qi A).length (qn A 7) ce := fun ce hce => chK_c (Nat.le_succ _) _ _ _ _ _ _ _ (Nat.le_refl _) (Nat.le_refl _) hce (fun _ _ => rfl) h1
  have push : ∀ f' : qF, okF E (qi A) (qi A).length (f' :: r) (qh A).length → qOJ E (qpush (qcnt A) f' r) 1 := by
    intro f' hf'
    refine ⟨hch _ (Nat.le_succ _), hf', h3, ?_, ?_, ?_, ?_, ?_, h9⟩
    · show (qi A).length + 1 ≤ qn A 2 + 1
      omega
    · show qn A 8 + 1 + 1 ≤ 2 * (qn A 2 + 1) + 1
      omega
    · show (qh A).length + 1 ≤ qn A 2 + 1
      omega
    · show qn A 4 + sLf (qh A) + 20 * 1 ≤ 20 * (qn A 2 + 1)
      omega
    · show qn A 2 + 1 ≤ 300
      omega
  unfold qdrop
  split
  · rename_i g hg
    have hs : f.2.2.2.isSome = true := by rw [hg]; rfl
    have hf' : okF E (qi A) (qi A).length ((0, 1, f.2.2.1, some g) :: r) (qh A).length := ⟨Nat.le_refl _, ⟨f2.1, fun _ => f2.2 hs⟩, f3⟩
    refine ⟨push _ hf', f2.1, rfl, hf', rfl, rfl, fun q => ?_⟩
    rw [hg] at q
    cases q
  · rename_i hg
    split
    · rename_i hlt
      unfold frK at f1
      rw [hg] at f1
      have hf' : ∀ n, f.2.2.1 ≤ n → okF E (qi A) (qi A).length ((f.1, f.2.1 + 1, f.2.2.1, none) :: r) n := fun n hn => ⟨⟨f1.1, f1.2.1, hlt⟩, ⟨hn, fun q => by cases q⟩, f3⟩
      exact ⟨push _ (hf' _ f2.1), f2.1, rfl, hf' _ f2.1, rfl, rfl, fun _ => hf' _ (Nat.le_refl _)⟩
    · refine ⟨⟨hch _ (Nat.le_refl _), okF_m f2.1 f3, h3, ?_, ?_, ?_, ?_, ?_, h9⟩, f2.1, rfl, okF_m f2.1 f3, rfl, rfl, fun _ => f3⟩
      · show (qi A).length + 1 ≤ qn A 2 + 1
        omega
      · show qn A 8 + 1 ≤ 2 * (qn A 2 + 1) + 1
        omega
      · show (qh A).length + 1 ≤ qn A 2 + 1
        omega
      · show qn A 4 + sLf (qh A) + 20 * 1 ≤ 20 * (qn A 2 + 1)
        omega
      · show qn A 2 + 1 ≤ 300
        omega
end QJ
