/-! THE MODEL RUNS: the loop -/
section MY
variable {E : qE} {ss : List Nat} {m m' : hy_m} {A A' : qA} {Q : Int → hy_m → Prop} {K R : Nat} {f : qF} {r : List qF}
/-- isEndOfNot -/
theorem sp_273 {j : Nat} (h52 : m 74 52 = j) (hj : j < 1300) (hk : frK E (qi A) (qi A).length f) (h1 : mF1 E ss m (qi A) (qs A) f j) (hq1 : qend f = true → Q 1 m) (hq0 : qend f = false → Q 0 m) : wq_273 m Q := by
  obtain ⟨a1, a2, a3⟩ := h1
  unfold wq_273
  rw [h52, a1]
  cases hf : f.2.2.2 with
  | none =>
    rw [hf] at a3
    refine ⟨by omega, by omega, fun _ => hq0 (by unfold qend; rw [hf]; rfl), fun q => ?_⟩
    rw [a3.1] at q
    omega
  | some g =>
    rw [hf] at a3
    refine ⟨by omega, by omega, fun q => absurd a3.1 q, fun _ => ⟨by omega, by omega, fun q => hq0 ?_, fun q => hq1 ?_⟩⟩
    · unfold qend
      rw [hf, decide_eq_false (by omega)]
      rfl
    · unfold qend
      rw [hf, decide_eq_true (by omega)]
      rfl
/-- solved -/
theorem sol_se {N : Nat} (hk : chK E (qi A) N (qh A) (qi A).length (qn A 7) (qn A 8)) (hS : mSe E ss m A) (hf : ∀ (a : Nat) (e : Int), ¬ (a = 74 ∧ (e = 32 ∨ e = 35)) → m' a e = m a e) (h35 : m' 74 35 = m 74 35 + 1) : mSe E ss m' (qnum (qnum A 0 2) 3 (qn A 3 + 1)) := by
  obtain ⟨h1, ⟨n1, n2, n3, n4, n5, n6⟩, ⟨h3, h4, h5⟩, B, T, h6, h7, h8⟩ := hS
  have hr : mRw m m' := fun a e q1 q2 => hf a e (by omega)
  have hall := chK_all _ hk
  refine ⟨mPr_rw hr (fun e => hf _ _ (by omega)) h1, ⟨?_, ?_, ?_, ?_, ?_, fun c hc => ?_⟩, ⟨?_, ?_, ?_⟩, B, T, ?_, h7, h8⟩
  · rw [hf _ _ (by omega)]; exact n1
  · rw [h35, n2]; rfl
  · rw [hf _ _ (by omega)]; exact n3
  · rw [hf _ _ (by omega)]; exact n4
  · rw [hf _ _ (by omega)]; exact n5
  · rw [hf _ _ (by omega), hf _ _ (by omega)]; exact n6 c hc
  · rw [hf _ _ (by omega)]; exact h3
  · rw [hf _ _ (by omega)]; exact h4
  · rw [hf 74 52 (by omega)]
    exact mCh_fr (N := qn A 8) hr (fun a j q1 q2 _ => hf a j (by omega)) _ _ h5
  · exact mDy_fr (A := A) (N := qn A 8) hr (fun e => hf _ _ (by omega)) (fun e => hf _ _ (by omega)) (hf _ _ (by omega)) (hf _ _ (by omega)) (fun a p q1 q2 _ => hf _ _ (by omega)) (fun a j q1 q2 _ => hf _ _ (by omega)) (fun c hc => (hall c hc).2.2) h6
theorem qfin_eta {A'' : qA} {st er : Nat} : qn (qfin A'' st er) 4 = qn A'' 4 ∧ qn (qfin A'' st er) 2 = qn A'' 2 ∧ qn (qfin A'' st er) 0 = st := ⟨rfl, rfl, rfl⟩
theorem qrun_n {lim n made : Nat} (h : qn A 0 ≠ 1) : qrun E lim (n + 1) made A = A := by
  rw [qrun, if_pos h]
end MY
