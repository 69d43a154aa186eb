/-! THE MODEL'S PROGRAM CHANGES -/
/-- a step takes away at most one slot -/
def chP : List (List Nat) → List Nat → Prop
  | [], _ => True
  | h :: t, ss => (∃ x, ∀ z ∈ h, z ∈ t.headD ss ∨ z = x) ∧ chP t ss
theorem headD_app {h ss : List Nat} : ∀ t : List (List Nat), (t ++ [ss]).headD h = t.headD ss
  | [] => rfl
  | _ :: _ => rfl
theorem chP_app {ss ss' : List Nat} (hs : ∃ x, ∀ z ∈ ss, z ∈ ss' ∨ z = x) : ∀ HS : List (List Nat), chP HS ss → chP (HS ++ [ss]) ss'
  | [], _ => ⟨hs, trivial⟩
  | h :: t, hc => ⟨by
    show ∃ x, ∀ z ∈ h, z ∈ (t ++ [ss]).headD ss' ∨ z = x
    rw [headD_app]
    exact hc.1, chP_app hs t hc.2⟩
theorem chP_un {ss ss' : List Nat} : ∀ HS : List (List Nat), chP (HS ++ [ss]) ss' → chP HS ss
  | [], _ => trivial
  | h :: t, hc => by
    have h1 : ∃ x, ∀ z ∈ h, z ∈ (t ++ [ss]).headD ss' ∨ z = x := hc.1
    rw [headD_app] at h1
    exact ⟨h1, chP_un t hc.2⟩
theorem chP_E {ss : List Nat} : ∀ HS : List (List Nat), chP HS ss → ∃ E : List Nat, E.length = HS.length ∧ ∀ s ∈ HS, ∀ z ∈ s, z ∈ ss ∨ z ∈ E
  | [], _ => ⟨[], rfl, fun s hs => absurd hs (List.not_mem_nil)⟩
  | h :: t, hc => by
    obtain ⟨x, hx⟩ := hc.1
    obtain ⟨E, e1, e2⟩ := chP_E t hc.2
    refine ⟨x :: E, by rw [List.length_cons, List.length_cons, e1], fun s hs z hz => ?_⟩
    rcases List.mem_cons.mp hs with rfl | hs
    · rcases hx z hz with q | q
      · cases t with
        | nil => exact Or.inl q
        | cons g t =>
          rcases e2 g (List.mem_cons_self ..) z q with w | w
          · exact Or.inl w
          · exact Or.inr (List.mem_cons_of_mem _ w)
      · exact Or.inr (q ▸ List.mem_cons_self ..)
    · rcases e2 s hs z hz with w | w
      · exact Or.inl w
      · exact Or.inr (List.mem_cons_of_mem _ w)
/-- which slots are in use -/
def usF (HS : List (List Nat)) (ss : List Nat) (j : Nat) : Bool := decide (j ∈ ss) || HS.any (fun s => decide (j ∈ s))
theorem usF_t {HS : List (List Nat)} {ss : List Nat} {j : Nat} : usF HS ss j = true ↔ j ∈ ss ∨ ∃ s ∈ HS, j ∈ s := by
  unfold usF
  rw [Bool.or_eq_true, decide_eq_true_eq, List.any_eq_true]
  exact ⟨fun h => h.imp id (fun ⟨s, a, b⟩ => ⟨s, a, of_decide_eq_true b⟩), fun h => h.imp id (fun ⟨s, a, b⟩ => ⟨s, a, decide_eq_true b⟩)⟩
theorem cu_f (us : Nat → Bool) : ∀ n, cu us n = ((List.range n).filter us).length
  | 0 => rfl
  | n + 1 => by
    show cu us n + _ = _
    rw [cu_f us n, List.range_succ, List.filter_append, List.length_append]
    congr 1
    by_cases h : us n = true
    · rw [if_pos h, List.filter_cons_of_pos h]
      rfl
    · rw [if_neg h, List.filter_cons_of_neg h]
      rfl
theorem cu_le {HS : List (List Nat)} {ss : List Nat} (h : chP HS ss) (n : Nat) : cu (usF HS ss) n ≤ ss.length + HS.length := by
  obtain ⟨E, e1, e2⟩ := chP_E HS h
  rw [cu_f, ← e1, ← List.length_append]
  refine List.Nodup.length_le_of_subset (List.Nodup.sublist List.filter_sublist List.nodup_range) (fun j hj => ?_)
  have := (List.mem_filter.mp hj).2
  rcases usF_t.mp this with q | ⟨s, a, b⟩
  · exact List.mem_append.mpr (Or.inl q)
  · exact List.mem_append.mpr (e2 s a j b)
/-- a list of clauses in row a, from o on -/
def mLo (m : hy_m) (a : Nat) (o : Int) (X : List pCl) (s : List Nat) : Prop := m a o = X.length ∧ X.length ≤ 20 ∧ s.length = X.length ∧ s.Nodup ∧ ∀ (k : Nat) (cl : pCl) (sl : Nat), X[k]? = some cl → s[k]? = some sl → sl ≤ 25 ∧ m a (o + 1 + (k : Int)) = sl ∧ clR m sl (some cl.1) cl.2.1 cl.2.2 ∧ kOK (some cl.1) cl.2.1 cl.2.2 ∧ nB cl.1
/-- the program, its past, and their slots -/
def mPz (m : hy_m) (PL : List pCl) (ss : List Nat) (PH : List (List pCl)) (HS : List (List Nat)) : Prop := mLo m 85 0 PL ss ∧ m 74 13 = PH.length ∧ PH.length ≤ 6 ∧ HS.length = PH.length ∧ chP HS ss ∧ ∀ (i : Nat) (X : List pCl) (s : List Nat), PH[i]? = some X → HS[i]? = some s → mLo m 86 (21 * (i : Int)) X s
/-- rows of the model -/
def mTt (T : hy_T) : Prop := T.1 85 = some (100, 21) ∧ T.1 86 = some (100, 126)
section MCH
variable {T : hy_T} {m m' : hy_m} {Q : Int → hy_m → Prop} {PL : List pCl} {ss : List Nat} {PH : List (List pCl)} {HS : List (List Nat)} {a c : Nat} {o o' : Int}
theorem mLo_P (h : mLo m 85 0 PL ss) : mPo m PL ss := by
  obtain ⟨p1, p2, p3, p4, p5⟩ := h
  refine ⟨p1, p2, p3, p4, fun i cl s h1 h2 => ?_⟩
  obtain ⟨s1, s2, s3⟩ := p5 i cl s h1 h2
  rw [show (0 : Int) + 1 + (i : Int) = 1 + (i : Int) by omega] at s2
  exact ⟨s1, s2, s3⟩
theorem mLo_fr {X : List pCl} {s : List Nat} (h : mLo m a o X s) (hr : mRw m m') (he : ∀ k : Int, 0 ≤ k → k < 21 → m' c (o' + k) = m a (o + k)) : mLo m' c o' X s := by
  obtain ⟨p1, p2, p3, p4, p5⟩ := h
  refine ⟨?_, p2, p3, p4, fun i cl s h1 h2 => ?_⟩
  · have := he 0 (by decide) (by decide)
    rw [Int.add_zero, Int.add_zero] at this
    rw [this]
    exact p1
  · obtain ⟨s1, s2, s3, s4⟩ := p5 i cl s h1 h2
    have hi := (List.getElem?_eq_some_iff.mp h1).1
    refine ⟨s1, ?_, clR_rw hr s3, s4⟩
    have := he (1 + (i : Int)) (by omega) (by omega)
    rw [← Int.add_assoc, ← Int.add_assoc] at this
    rw [this]
    exact s2
theorem mPz_uOK (h : mPz m PL ss PH HS) : uOK m (usF HS ss) := by
  obtain ⟨p1, p2, p3, p4, p5, p6⟩ := h
  have hl := p1.2.1
  have ent : ∀ {a : Nat} {o : Int} {X : List pCl} {s : List Nat}, mLo m a o X s → ∀ j : Nat, j ∈ s ↔ ∃ k : Nat, 1 ≤ k ∧ (k : Int) ≤ m a o ∧ m a (o + (k : Int)) = j := by
    intro a o X s h j
    obtain ⟨q1, q2, q3, q4, q5⟩ := h
    refine ⟨fun hj => ?_, fun ⟨k, k1, k2, k3⟩ => ?_⟩
    · obtain ⟨i, hi⟩ := List.getElem?_of_mem hj
      have hil := (List.getElem?_eq_some_iff.mp hi).1
      have hx : i < X.length := by omega
      obtain ⟨-, e, -⟩ := q5 i _ j (List.getElem?_eq_getElem hx) hi
      refine ⟨i + 1, by omega, by omega, ?_⟩
      rw [show o + ((i + 1 : Nat) : Int) = o + 1 + (i : Int) by omega]
      exact e
    · have hx : k - 1 < X.length := by omega
      have hs : k - 1 < s.length := by omega
      obtain ⟨-, e, -⟩ := q5 (k - 1) _ _ (List.getElem?_eq_getElem hx) (List.getElem?_eq_getElem hs)
      rw [show o + 1 + ((k - 1 : Nat) : Int) = o + (k : Int) by omega, k3] at e
      have e : j = s[k - 1] := by omega
      rw [e]
      exact List.getElem_mem hs
  refine ⟨by rw [p1.1]; omega, by rw [p1.1]; omega, by omega, by omega, fun i hi => ?_, fun j => ?_⟩
  · have h1 : i < PH.length := by omega
    have h2 : i < HS.length := by omega
    have := p6 i _ _ (List.getElem?_eq_getElem h1) (List.getElem?_eq_getElem h2)
    have := this.2.1
    rw [(p6 i _ _ (List.getElem?_eq_getElem h1) (List.getElem?_eq_getElem h2)).1]
    omega
  · rw [usF_t]
    refine or_congr ?_ ?_
    · rw [ent p1 j]
      refine ⟨fun ⟨k, k1, k2, k3⟩ => ⟨k, k1, k2, ?_⟩, fun ⟨k, k1, k2, k3⟩ => ⟨k, k1, k2, ?_⟩⟩
      · rw [Int.zero_add] at k3
        exact k3
      · rw [Int.zero_add]
        exact k3
    · refine ⟨fun ⟨s, s1, s2⟩ => ?_, fun ⟨i, k, i1, k1, k2, k3⟩ => ?_⟩
      · obtain ⟨i, hi⟩ := List.getElem?_of_mem s1
        have hil := (List.getElem?_eq_some_iff.mp hi).1
        have h1 : i < PH.length := by omega
        obtain ⟨k, k1, k2, k3⟩ := (ent (p6 i _ _ (List.getElem?_eq_getElem h1) hi) j).mp s2
        exact ⟨i, k, by omega, k1, k2, k3⟩
      · have h1 : i < PH.length := by omega
        have h2 : i < HS.length := by omega
        exact ⟨HS[i], List.getElem_mem h2, (ent (p6 i _ _ (List.getElem?_eq_getElem h1) (List.getElem?_eq_getElem h2)) j).mpr ⟨k, k1, k2, k3⟩⟩
/-- copyList -/
theorem sp_203 {na nc : Nat} (ha : T.1 a = some (100, na)) (hc : T.1 c = some (100, nc)) (h1 : 0 ≤ o ∧ o + 21 ≤ na) (h2 : 0 ≤ o' ∧ o' + 21 ≤ nc) (hd : a ≠ c ∨ o + 21 ≤ o' ∨ o' + 21 ≤ o) (hq : ∀ m', (∀ (z : Nat) (e : Int), ¬ (z = c ∧ o' ≤ e ∧ e < o' + 21) → m' z e = m z e) → (∀ k : Int, 0 ≤ k → k < 21 → m' c (o' + k) = m a (o + k)) → Q 0 m') : wq_203 (a : Int) o (c : Int) o' T m Q := by
  unfold wq_203 wq_203_3
  refine wL1_rule (Nat.lt_wfRel.wf) (fun x5 m' => 0 ≤ x5 ∧ x5 ≤ 21 ∧ (∀ (z : Nat) (e : Int), ¬ (z = c ∧ o' ≤ e ∧ e < o' + x5) → m' z e = m z e) ∧ ∀ k : Int, 0 ≤ k → k < x5 → m' c (o' + k) = m a (o + k)) (fun x5 _ => 30 - x5.toNat) ?_ ⟨Int.le_refl _, by decide, fun _ _ _ => rfl, fun k q1 q2 => absurd q1 (by omega)⟩
  rintro P x5 m1 ⟨h3, h4, hf, hk⟩ hP
  unfold wf_203_3
  rw [Int.toNat_natCast, Int.toNat_natCast]
  refine ⟨fun q => ?_, fun q => ⟨na, ha, by omega, by omega, nc, hc, by omega, by omega, show -2147483648 ≤ _ ∧ _ < 2147483648 by omega, hP _ _ ⟨by omega, by omega, fun z e hz => ?_, fun k q1 q2 => ?_⟩ ?_⟩⟩
  · have e21 : x5 = 21 := by omega
    subst e21
    exact hq m1 hf hk
  · rw [hy_uf (by omega)]
    exact hf z e (by omega)
  · by_cases e : k = x5
    · rw [e, hy_us, hf a (o + x5) (by omega)]
    · rw [hy_uk (by omega)]
      exact hk k q1 (by omega)
  · show 30 - _ < 30 - _
    omega
end MCH
