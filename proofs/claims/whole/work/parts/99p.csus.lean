/-! SUSPECTS ARE PUSHED -/
section CSU
variable {X : cX} {U : uX} {T : hy_T} {m : hy_m} {Q : Int → hy_m → Prop} {SL : List Int}
theorem sp_151_27 (hs : uSep X U) (hc : xcap X ≤ 302) (hU : uW X U T m) (h5 : m 47 5 = SL.length) (hS : ∀ (k : Nat) (x : Int), SL[k]? = some x → m (ys U) (k : Int) = x) (hl : SL.length ≤ 8 * xcap X) (hk : sK U m []) (hP : ∀ m', uSk U m m' → sK U m' SL.reverse → wq_151_53 0 T m' Q) : wq_151_27 0 T m Q := by
  have hn47 := hs.n47
  obtain ⟨n1, n2, n3, n4, n5⟩ := hs.ne
  unfold wq_151_27
  refine wL1_rule (Nat.lt_wfRel.wf) (fun x1 m' => ∃ S r : List Int, S.reverse ++ r = SL ∧ x1 = S.length ∧ uSk U m m' ∧ sK U m' S) (fun x1 _ => 3000 - x1.toNat) ?_ ⟨[], SL, rfl, rfl, uSk.rfl', hk⟩
  rintro P x1 m' ⟨S, r, e, rfl, h1, h2⟩ hP2
  have hUm := uW_fx hs (h1.fx (X := X)) hU
  have e5 : m' 47 5 = SL.length := by rw [h1 47 5 (fun q => hn47.2.2.2.1 q.symm) (fun q => absurd q.2 (by decide))]; exact h5
  have hlen : SL.length = S.length + r.length := by rw [← e, List.length_append, List.length_reverse]
  unfold wf_151_27
  rw [e5]
  refine ⟨fun q => ?_, fun q => ?_⟩
  · cases r with
    | nil =>
      rw [List.append_nil] at e
      refine hP m' h1 ?_
      rw [← e, List.reverse_reverse]
      exact h2
    | cons z r =>
      rw [List.length_cons] at hlen
      omega
  · cases r with
    | nil =>
      have : ([] : List Int).length = 0 := rfl
      omega
    | cons z r =>
      have hz : SL[S.length]? = some z := by
        rw [← e, List.getElem?_append_right (by rw [List.length_reverse]; exact Nat.le_refl _), List.length_reverse, Nat.sub_self]
        rfl
      have hy : m' (ys U) (S.length : Int) = z := by
        rw [h1 (ys U) _ n4.2.2.1 (fun q => hn47.2.2.1 q.1)]
        exact hS _ _ hz
      rw [hUm.2.2.1.1, Int.toNat_natCast, hy]
      refine ⟨_, hUm.2.2.1.2, by omega, by omega, sp_154 hs hUm hc h2 (by omega) ⟨show -2147483648 ≤ _ ∧ _ < 2147483648 by omega, hP2 _ _ ⟨z :: S, r, ?_, ?_, h1.tr uPu_sk, sK_push hs h2⟩ ?_⟩⟩
      · rw [List.reverse_cons, List.append_assoc]
        exact e
      · rw [List.length_cons]
        omega
      · show 3000 - _ < 3000 - _
        omega
end CSU
