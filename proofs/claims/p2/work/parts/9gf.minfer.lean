/-! THE MODEL INFERS: infers -/
/-- behind goalOf -/
def inB (tp sl r2 : Int) (m2 : hy_m) (Q : Int → hy_m → Prop) : Prop := (sl = (-9) → ((sl = (-9) → (wq_271_120 tp sl r2 0 m2 Q)) ∧ (sl ≠ (-9) → (0 ≤ tp ∧ tp < 1300 ∧ (0 ≤ sl ∧ sl < 28 ∧ (hy_r 0 ((m2 100 tp) + 1) ∧ (((m2 82 sl) ≤ ((m2 100 tp) + 1) → (((0 : Int) = 0 → (0 ≤ tp ∧ tp < 1300 ∧ (wq_271_176 tp r2 0 (hy_u m2 74 52 (m2 102 tp)) Q))) ∧ ((0 : Int) ≠ 0 → (0 ≤ tp ∧ tp < 1300 ∧ (0 ≤ tp ∧ tp < 1300 ∧ (0 ≤ tp ∧ tp < 1300 ∧ (0 ≤ tp ∧ tp < 1300 ∧ (hy_r 0 ((m2 100 tp) + 1) ∧ (wq_252 sl ((m2 100 tp) + 1) (m2 101 tp) (m2 102 tp) (m2 103 tp) m2 (fun r3 m3 => wq_271_176 tp r2 0 (hy_u m3 74 52 r3) Q)))))))))) ∧ (((m2 100 tp) + 1) < (m2 82 sl) → (wq_271_120 tp sl r2 0 m2 Q))))))))) ∧ (sl ≠ (-9) → ((sl = (-9) → (wq_271_120 tp sl r2 1 m2 Q)) ∧ (sl ≠ (-9) → (0 ≤ tp ∧ tp < 1300 ∧ (0 ≤ sl ∧ sl < 28 ∧ (hy_r 0 ((m2 100 tp) + 1) ∧ (((m2 82 sl) ≤ ((m2 100 tp) + 1) → (((0 : Int) = 0 → (0 ≤ tp ∧ tp < 1300 ∧ (wq_271_176 tp r2 1 (hy_u m2 74 52 (m2 102 tp)) Q))) ∧ ((0 : Int) ≠ 0 → (0 ≤ tp ∧ tp < 1300 ∧ (0 ≤ tp ∧ tp < 1300 ∧ (0 ≤ tp ∧ tp < 1300 ∧ (0 ≤ tp ∧ tp < 1300 ∧ (hy_r 0 ((m2 100 tp) + 1) ∧ (wq_252 sl ((m2 100 tp) + 1) (m2 101 tp) (m2 102 tp) (m2 103 tp) m2 (fun r4 m4 => wq_271_176 tp r2 1 (hy_u m4 74 52 r4) Q)))))))))) ∧ (((m2 100 tp) + 1) < (m2 82 sl) → (wq_271_120 tp sl r2 1 m2 Q)))))))))
section MT
variable {E : qE} {ss : List Nat} {m m' : hy_m} {T l : List Nat} {B B' : bM} {s s' : Nat → pE} {A A' : qA} {Q : Int → hy_m → Prop} {N K R : Nat} {x k : Int} {b : pE}
theorem mT_q (hp : mPr E ss m) {x : Int} {t : pE} (hx : x ∈ zNd (mR m) 26 none E.2.1) (hr : rP m (fun z => 0 ≤ z ∧ z < 3584) t (-1) x) (hk : eK E.2.2 t false) : mTm (mG E ss m l) m (4096 * (0 : Int) + x) (rn 0 t) := by
  have h0 := rP_A hr
  obtain ⟨n, hn2⟩ := Int.eq_ofNat_of_zero_le h0.1
  rw [hn2] at h0 hr hx ⊢
  have h8 := hp.2.2.1.1
  exact Or.inr (Or.inr ⟨n, 0, E.2.2, t, rfl, by have := h0.2; omega, h8, by omega, hr, hk, rfl, (zNd (mR m) 26 none E.2.1, 0), List.mem_cons_self .., hx, rfl⟩)
theorem gsO_i {i c : Nat} (h2 : 2 ≤ i) (hc : l[i - 2]? = some c) (hl : lOK E l) : ∃ h : c < E.1.length, gsO E l i = E.1[c].2.1 := by
  obtain ⟨h1, h3⟩ := List.getElem?_eq_some_iff.mp hc
  have hcl : c < E.1.length := by rw [← h3]; exact hl _ (List.getElem_mem h1)
  refine ⟨hcl, ?_⟩
  unfold gsO
  rw [if_neg (by omega), hc]
  dsimp only
  rw [List.getElem?_eq_getElem hcl]
theorem wOK_ca {k : Int} {a : pE} (h : wOK k) : eCa (.mulL k a) = true := by
  show (decide (k ≠ 1) && decide (k ≠ 2)) = true
  rw [decide_eq_true (wOK_ne h).1, decide_eq_true (wOK_ne h).2]
  rfl
/-- goalOf -/
theorem sp_269 {f : qF} {j : Nat} {J : Nat} (hO : qOJ E A J) (hS : mSe E ss m A) (hj : j < 1300) (hk : frK E (qi A) (qi A).length f) (hend : qend f = false) (h1 : mF1 E ss m (qi A) (qs A) f j) (hq : ∀ x t, mTm (mG E ss m (qi A)) m x t → (∀ w, vIn w t → w < tot E (qi A)) → eCa t = true → sb (qs A) t = sb (qs A) (qgoal E A f) → Q x m) : wq_269 (j : Int) m Q := by
  obtain ⟨hP, hN, -, B, T, hD, hRes, hTl⟩ := hS
  have hsol : SolS (qs A) (qs A) := (SolS_B hRes _).mp hRes.sol
  have hl : lOK E (qi A) := hO.2.2.1
  obtain ⟨hln, -, -, -⟩ := hO.len
  obtain ⟨a1, a2, a3⟩ := h1
  unfold qend at hend
  unfold frK at hk
  unfold wq_269
  cases hf : f.2.2.2 with
  | some g =>
    rw [hf] at a3 hk hend
    refine ⟨by omega, by omega, fun q => absurd a3.1 q, fun _ => ⟨by omega, by omega, ?_⟩⟩
    have h0 : f.2.1 = 0 := by
      have hk : f.2.1 ≤ 1 := hk
      have : f.2.1 ≠ 1 := fun q => by rw [q] at hend; cases hend
      omega
    obtain ⟨t, t1, t2, t3, t4⟩ := a3.2 h0
    refine hq _ t t1 t2 t3.1 ?_
    have e : qgoal E A f = g := by unfold qgoal; rw [hf]
    rw [e]
    exact t4 _ hsol
  | none =>
    rw [hf] at a3 hk
    obtain ⟨k1, k2, k3⟩ := hk
    have eg : qgoal E A f = rn (plc E (qi A) f.1) ((gsO E (qi A) f.1).getD f.2.1 (.num 0)) := by unfold qgoal; rw [hf]
    have egd : (gsO E (qi A) f.1).getD f.2.1 (.num 0) = (gsO E (qi A) f.1)[f.2.1] := by
      rw [List.getD_eq_getElem?_getD, List.getElem?_eq_getElem k3]
      rfl
    rw [egd] at eg
    rcases k1 with k1 | k1
    · -- the query
      have esl : sO ss (qi A) f.1 = 26 := by unfold sO; rw [if_pos k1]
      have epl : plc E (qi A) f.1 = 0 := by unfold plc; rw [if_pos k1]
      have egs : gsO E (qi A) f.1 = E.2.1 := by unfold gsO; rw [if_pos k1]
      rw [esl, epl] at a3
      obtain ⟨g82, g84, gg, -⟩ := clR_g hP.2.1 (by decide)
      have hk3 : f.2.1 < E.2.1.length := by rw [← egs]; exact k3
      have h5 := hP.2.2.1.2.2.2.1
      have hz := zNd_all (sl := 26) hP.2.1 (by decide) hP.2.2.1 (by have := hP.2.2.2.1; show 0 + _ ≤ _; omega)
      have hg := gg f.2.1 hk3
      have hgo := hP.2.2.1.2.2.1 E.2.1[f.2.1] (List.getElem_mem hk3)
      have h0 := rP_A hg
      rw [a3.1, a3.2, a1]
      refine ⟨by omega, by omega, fun _ => ⟨by omega, by omega, by omega, by omega, by omega, by omega, ?_⟩, fun q => absurd q (by decide)⟩
      unfold wq_234
      have ht := mT_q (l := qi A) hP (hz.2.1 f.2.1 hk3) hg hgo.1
      refine ⟨show -9223372036854775808 ≤ _ ∧ _ < 9223372036854775808 by have := h0.1; have := h0.2; omega, hq _ _ ht (fun w hw => ?_) ?_ ?_⟩
      · have := rn_in hgo.1 hw
        have := tot_pre (E := E) (l := []) (l' := qi A) (List.nil_prefix)
        have e0 : tot E [] = E.2.2 := by unfold tot; simp
        omega
      · obtain ⟨kk, aa, e1, e2⟩ := hgo.2
        rw [e1]
        exact wOK_ca e2
      · rw [eg, epl]
        congr 2
        exact (List.getElem_of_eq egs k3).symm
    · -- a clause
      have hlt : f.1 - 2 < (qi A).length := by omega
      obtain ⟨c, hc⟩ : ∃ c, (qi A)[f.1 - 2]? = some c := ⟨_, List.getElem?_eq_getElem hlt⟩
      obtain ⟨hcl, egs⟩ := gsO_i k1 hc hl
      obtain ⟨s0, z1, z2, z3, z4, z5, z6, z7⟩ := mPr_cl hP hcl
      have esl : sO ss (qi A) f.1 = s0 := by
        unfold sO
        rw [if_neg (by omega), List.getD_eq_getElem?_getD (l := qi A), hc]
        exact z1
      have epl : plc E (qi A) f.1 = tot E ((qi A).take (f.1 - 2)) := by unfold plc; rw [if_neg (by omega)]
      rw [esl, epl] at a3
      obtain ⟨g82, g84, gg, -⟩ := clR_g z4 (by omega)
      have hk3 : f.2.1 < E.1[c].2.1.length := by rw [← egs]; exact k3
      have h5 := z5.2.2.2.1
      have hz := zNd_all z4 (by omega) z5 z7
      have hg := gg f.2.1 hk3
      have hgo := z5.2.2.1 E.1[c].2.1[f.2.1] (List.getElem_mem hk3)
      have h0 := rP_A hg
      have hto := mPr_tot hP hl hln
      have hpt := tot_pre (E := E) (List.take_prefix (f.1 - 2) (qi A))
      rw [a3.1, a3.2, a1]
      refine ⟨by omega, by omega, fun _ => ⟨by omega, by omega, by omega, by omega, by omega, by omega, ?_⟩, fun q => by omega⟩
      unfold wq_234
      have ht := mT_j hP hl hln hc (x := m 83 (5 * (s0 : Int) + (f.2.1 : Int))) (t := E.1[c].2.1[f.2.1]) (by rw [clN_c hcl, z1]; exact hz.2.1 f.2.1 hk3) hg (by rw [nvO_c hcl]; exact hgo.1)
      refine ⟨show -9223372036854775808 ≤ _ ∧ _ < 9223372036854775808 by have := h0.1; have := h0.2; omega, hq _ _ ht (fun w hw => ?_) ?_ ?_⟩
      · have h9 := rn_in hgo.1 hw
        have h10 : (qi A).take (f.1 - 2) ++ [c] <+: qi A := by
          obtain ⟨y1, y2⟩ := List.getElem?_eq_some_iff.mp hc
          rw [← y2, List.take_append_getElem y1]
          exact List.take_prefix _ _
        have h11 := tot_pre (E := E) h10
        rw [tot_app, nvO_c hcl] at h11
        omega
      · obtain ⟨kk, aa, e1, e2⟩ := hgo.2
        rw [e1]
        exact wOK_ca e2
      · rw [eg, epl]
        congr 2
        exact (List.getElem_of_eq egs k3).symm
end MT
