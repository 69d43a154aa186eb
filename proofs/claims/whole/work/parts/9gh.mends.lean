/-! THE SEARCH'S NUMBERS, AND THE MODEL'S END OF A QUERY -/
def qK4 (k : Nat) : Prop := k = 2 ∨ k = 3 ∨ k = 5 ∨ k = 6
section MV
variable {E : qE} {ss : List Nat} {m m' : hy_m} {A A' : qA} {Q : Int → hy_m → Prop} {K R j : Nat}
theorem qfin_k {st er : Nat} (hk : qK4 j) : qn (qfin A st er) j = qn A j := by
  rcases hk with rfl | rfl | rfl | rfl <;> rfl
theorem qtry_k {c cut : Nat} {g : pE} (hk : qK4 j) : qn (qtry E A c g cut).1 j = qn A j := by
  unfold qtry
  rcases hk with rfl | rfl | rfl | rfl
  all_goals
    split
    · rfl
    · split
      · rfl
      · dsimp only
        split <;> rfl
theorem qrest_k {c : qC} {r : List qC} (hk : qK4 j) : qn (qrest A c r) j = qn A j := by
  rcases hk with rfl | rfl | rfl | rfl <;> rfl
theorem qmore_l {c : qC} {L : List Nat} {r : List qC} : (qmore c L r).length ≤ r.length + 1 := by
  unfold qmore
  split
  · omega
  · exact Nat.le_refl _
theorem qback_k (hk : qK4 j) : ∀ (n : Nat) (A : qA), qn (qback E n A) j = qn A j ∧ (qh (qback E n A)).length ≤ (qh A).length
  | 0, A => ⟨rfl, Nat.le_refl _⟩
  | n + 1, A => by
    cases he : qh A with
    | nil =>
      rw [qback_nil he]
      exact ⟨qfin_k hk, Nat.le_refl _⟩
    | cons c r =>
      cases hc : c.1 with
      | none =>
        rw [qback_bar he hc]
        exact ⟨qrest_k hk, Nat.le_succ _⟩
      | some g =>
        cases hl : c.2.1 with
        | nil =>
          have e : qback E (n + 1) A = qrest A c r := by
            rw [qback, he]
            dsimp only
            rw [hc, hl]
          rw [e]
          exact ⟨qrest_k hk, Nat.le_succ _⟩
        | cons c0 L =>
          rw [qback_try he hc hl]
          have h1 := qtry_k (E := E) (A := qrest A c (qmore c L r)) (c := c0) (g := g) (cut := r.length) hk
          have h2 : (qh (qtry E (qrest A c (qmore c L r)) c0 g r.length).1).length ≤ (c :: r).length := by
            rw [qtry_h]
            exact qmore_l
          have h3 := qrest_k (A := A) (c := c) (r := qmore c L r) hk
          split
          · exact ⟨h1.trans h3, h2⟩
          · have ih := qback_k hk n (qtry E (qrest A c (qmore c L r)) c0 g r.length).1
            exact ⟨ih.1.trans (h1.trans h3), Nat.le_trans ih.2 h2⟩
theorem qbk_k (hk : qK4 j) : qn (qbk E A) j = qn A j := (qback_k hk _ A).1
theorem qbk_l : (qh (qbk E A)).length ≤ (qh A).length := (qback_k (j := 2) (Or.inl rfl) _ A).2
theorem qbind_k {s' : Nat → pE} (hk : qK4 j) : qn (qbind E A s') j = qn A j := by
  rcases hk with rfl | rfl | rfl | rfl <;> rfl
theorem qpush_k {f : qF} {r : List qF} (hk : qK4 j) : qn (qpush A f r) j = qn A j := by
  rcases hk with rfl | rfl | rfl | rfl <;> rfl
theorem quni_k {t u : pE} (hk : qK4 j) : qn (quni E A t u) j = qn A j ∧ (qh (quni E A t u)).length ≤ (qh A).length := by
  unfold quni
  split
  · exact ⟨qbind_k hk, Nat.le_refl _⟩
  · exact ⟨qbk_k hk, qbk_l⟩
theorem qcall_k {own : Bool} {cut : Nat} {k : Int} {a : pE} (hk : qK4 j) : qn (qcall E A own cut k a) j = qn A j ∧ (qh (qcall E A own cut k a)).length ≤ (qh A).length + 1 := by
  have self : qn A j = qn A j ∧ (qh A).length ≤ (qh A).length + 1 := ⟨rfl, Nat.le_succ _⟩
  have bk : qn (qbk E A) j = qn A j ∧ (qh (qbk E A)).length ≤ (qh A).length + 1 := ⟨qbk_k hk, Nat.le_succ_of_le qbk_l⟩
  have fin : ∀ st er, qn (qfin A st er) j = qn A j ∧ (qh (qfin A st er)).length ≤ (qh A).length + 1 := fun st er => ⟨qfin_k hk, Nat.zero_le _⟩
  have un : ∀ t u, qn (quni E A t u) j = qn A j ∧ (qh (quni E A t u)).length ≤ (qh A).length + 1 := fun t u => ⟨(quni_k hk).1, Nat.le_succ_of_le (quni_k hk).2⟩
  unfold qcall
  split
  · exact self
  split
  · exact bk
  split
  · split
    · refine ⟨rfl, ?_⟩
      show ((qh A).drop _).length ≤ _
      rw [List.length_drop]
      omega
    · exact self
  split
  · split
    · exact ⟨qpush_k hk, Nat.le_refl _⟩
    · exact fin _ _
  split
  · exact un _ _
  split
  · split
    · split
      · exact self
      · exact bk
    · exact fin _ _
  split
  · split
    · exact un _ _
    · exact fin _ _
  split
  · exact bk
  · exact ⟨qbk_k hk, qbk_l⟩
/-- an inference: its number, and at most one more choice -/
theorem qinf_k {f : qF} {r : List qF} : qn (qinf E A f r) 2 = qn A 2 + 1 ∧ qn (qinf E A f r) 3 = qn A 3 ∧ qn (qinf E A f r) 5 = max (qn A 5) (qp A).length ∧ qn (qinf E A f r) 6 = max (qn A 6) (qh A).length ∧ (qh (qinf E A f r)).length ≤ (qh A).length + 1 := by
  have d : ∀ k, qK4 k → qn (qdrop E (qcnt A) f r) k = qn (qcnt A) k := by
    intro k hk
    unfold qdrop
    split
    · exact qpush_k hk
    · split
      · exact qpush_k hk
      · rfl
  have dh : qh (qdrop E (qcnt A) f r) = qh A := by
    unfold qdrop
    split
    · rfl
    · split <;> rfl
  have all : ∀ k, qK4 k → qn (qinf E A f r) k = qn (qcnt A) k := by
    intro k hk
    unfold qinf
    split
    · exact (qcall_k hk).1.trans (d k hk)
    · exact (qfin_k hk).trans (d k hk)
  refine ⟨all 2 (Or.inl rfl), all 3 (Or.inr (Or.inl rfl)), all 5 (Or.inr (Or.inr (Or.inl rfl))), all 6 (Or.inr (Or.inr (Or.inr rfl))), ?_⟩
  unfold qinf
  split
  · have := (qcall_k (E := E) (A := qdrop E (qcnt A) f r) (j := 2) (own := ‹Bool›) (cut := f.2.2.1) (k := ‹Int›) (a := ‹_›) (Or.inl rfl)).2
    rw [dh] at this
    exact this
  · exact Nat.zero_le _
/-- ends -/
theorem sp_272 {st er : Nat} (hP : mPr E ss m) (hN : mNm m A) (hq : ∀ m' : hy_m, (∀ (a : Nat) (e : Int), ¬ (a = 74 ∧ (e = 32 ∨ e = 42 ∨ e = 44 ∨ e = 51 ∨ e = 52 ∨ e = 59)) → ¬ (a = 97 ∧ 0 ≤ e ∧ e < 8) → m' a e = m a e) → m' 74 32 = st → mSe E ss m' (qfin A st er) → Q 0 m') : wq_272 (st : Int) m Q := by
  have g84 := (clR_g hP.2.1 (by decide)).2.1
  have h8 := hP.2.2.1.1
  have e0 : tot E [] = E.2.2 := by unfold tot; simp
  unfold wq_272
  refine ⟨by decide, by decide, ?_⟩
  have g84 : m 84 26 = (E.2.2 : Nat) := g84
  rw [g84]
  have f1 : ∀ (a : Nat) (e : Int), ¬ (a = 74 ∧ (e = 32 ∨ e = 42 ∨ e = 44 ∨ e = 51 ∨ e = 52 ∨ e = 59)) → hy_u (hy_u (hy_u (hy_u (hy_u (hy_u m 74 32 (st : Int)) 74 52 (-9)) 74 59 0) 74 44 0) 74 51 0) 74 42 (E.2.2 : Int) a e = m a e := fun a e q => by
    rw [hy_uf (by omega), hy_uf (by omega), hy_uf (by omega), hy_uf (by omega), hy_uf (by omega), hy_uf (by omega)]
  have v32 : hy_u (hy_u (hy_u (hy_u (hy_u (hy_u m 74 32 (st : Int)) 74 52 (-9)) 74 59 0) 74 44 0) 74 51 0) 74 42 (E.2.2 : Int) 74 32 = st := by
    rw [hy_uk (by decide), hy_uk (by decide), hy_uk (by decide), hy_uk (by decide), hy_uk (by decide), hy_us]
  have v52 : hy_u (hy_u (hy_u (hy_u (hy_u (hy_u m 74 32 (st : Int)) 74 52 (-9)) 74 59 0) 74 44 0) 74 51 0) 74 42 (E.2.2 : Int) 74 52 = -9 := by
    rw [hy_uk (by decide), hy_uk (by decide), hy_uk (by decide), hy_uk (by decide), hy_us]
  have v59 : hy_u (hy_u (hy_u (hy_u (hy_u (hy_u m 74 32 (st : Int)) 74 52 (-9)) 74 59 0) 74 44 0) 74 51 0) 74 42 (E.2.2 : Int) 74 59 = 0 := by
    rw [hy_uk (by decide), hy_uk (by decide), hy_uk (by decide), hy_us]
  have v44 : hy_u (hy_u (hy_u (hy_u (hy_u (hy_u m 74 32 (st : Int)) 74 52 (-9)) 74 59 0) 74 44 0) 74 51 0) 74 42 (E.2.2 : Int) 74 44 = 0 := by
    rw [hy_uk (by decide), hy_uk (by decide), hy_us]
  have v51 : hy_u (hy_u (hy_u (hy_u (hy_u (hy_u m 74 32 (st : Int)) 74 52 (-9)) 74 59 0) 74 44 0) 74 51 0) 74 42 (E.2.2 : Int) 74 51 = 0 := by
    rw [hy_uk (by decide), hy_us]
  have v42 : hy_u (hy_u (hy_u (hy_u (hy_u (hy_u m 74 32 (st : Int)) 74 52 (-9)) 74 59 0) 74 44 0) 74 51 0) 74 42 (E.2.2 : Int) 74 42 = E.2.2 := hy_us _ _ _ _
  generalize hy_u (hy_u (hy_u (hy_u (hy_u (hy_u m 74 32 (st : Int)) 74 52 (-9)) 74 59 0) 74 44 0) 74 51 0) 74 42 (E.2.2 : Int) = m1 at f1 v32 v52 v59 v44 v51 v42
  unfold wq_272_39
  refine wL1_rule (Nat.lt_wfRel.wf) (fun x2 (m' : hy_m) => ∃ d : Nat, x2 = d ∧ d ≤ E.2.2 ∧ (∀ e : Int, 0 ≤ e → e < (d : Int) → m' 97 e = -1) ∧ ∀ (a : Nat) (e : Int), ¬ (a = 97 ∧ 0 ≤ e ∧ e < (d : Int)) → m' a e = m1 a e) (fun x2 _ => 20 - x2.toNat) ?_ ⟨0, rfl, Nat.zero_le _, fun e q1 q2 => by omega, fun _ _ _ => rfl⟩
  rintro P x2 m2 ⟨d, rfl, hd, y1, y2⟩ hPP
  have e42 : m2 74 42 = (E.2.2 : Nat) := by rw [y2 _ _ (by omega)]; exact v42
  unfold wf_272_39
  rw [e42]
  refine ⟨fun hle => ?_, fun hlt => ⟨by omega, by omega, show -2147483648 ≤ _ ∧ _ < 2147483648 by omega, hPP _ _ ⟨d + 1, by omega, by omega, fun e q1 q2 => ?_, fun a e q => ?_⟩ (show 20 - ((d : Int) + 1).toNat < 20 - ((d : Nat) : Int).toNat by omega)⟩⟩
  · have hdn : d = E.2.2 := by omega
    have f3 : ∀ (a : Nat) (e : Int), ¬ (a = 74 ∧ (e = 32 ∨ e = 42 ∨ e = 44 ∨ e = 51 ∨ e = 52 ∨ e = 59)) → ¬ (a = 97 ∧ 0 ≤ e ∧ e < (d : Int)) → m2 a e = m a e := fun a e q1 q2 => (y2 a e q2).trans (f1 a e q1)
    have hr : mRw m m2 := fun a e q1 q2 => f3 a e (by omega) (by omega)
    refine hq m2 (fun a e q1 q2 => f3 a e q1 (by omega)) (by rw [y2 _ _ (by omega)]; exact v32) ⟨mPr_rw hr (fun e => f3 _ _ (by omega) (by omega)) hP, mNm_fr (A := A) hN (fun e q1 q2 => f3 _ _ (by omega) (by omega)) (fun e => f3 _ _ (by omega) (by omega)) (fun e => f3 _ _ (by omega) (by omega)), ⟨?_, ?_, ?_⟩, fun _ => none, [], ⟨fun v => ⟨fun hv => ?_, fun _ => rfl⟩, ⟨?_, fun i hi => absurd hi (Nat.not_lt_zero _)⟩, List.nodup_nil, (fun w hw => by cases hw), trivial, ?_⟩, fun x => ⟨fun _ => rfl, (fun t e => by cases e)⟩, rfl⟩
    · show m2 74 42 = tot E []
      rw [e0]
      exact e42
    · show m2 74 51 = (0 : Nat)
      rw [y2 _ _ (by omega)]
      exact v51
    · show m2 74 52 = -9
      rw [y2 _ _ (by omega)]
      exact v52
    · have hv : v < tot E [] := hv
      rw [e0] at hv
      exact ⟨by omega, Or.inl ⟨rfl, y1 v (by omega) (by omega)⟩⟩
    · show m2 74 44 = (0 : Nat)
      rw [y2 _ _ (by omega)]
      exact v44
    · show m2 74 59 = (0 : Nat)
      rw [y2 _ _ (by omega)]
      exact v59
  · by_cases q : e = (d : Int)
    · rw [q, hy_us]
    · rw [hy_uk q]
      exact y1 e q1 (by omega)
  · rw [hy_uf (by omega)]
    exact y2 a e (by omega)
end MV
