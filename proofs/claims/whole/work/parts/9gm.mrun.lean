/-! THE MODEL RUNS -/
section NA
variable {E : qE} {ss : List Nat} {m m' : hy_m} {A A' : qA} {Q : Int → hy_m → Prop} {f : qF} {r : List qF} {N K R : Nat}
/-- the status doesn't count -/
theorem st_fl (hS : mFl E ss m A) (hf : ∀ (a : Nat) (e : Int), ¬ (a = 74 ∧ e = 32) → m' a e = m a e) : mFl E ss m' A := by
  obtain ⟨h1, h2, B, T, h3⟩ := hS
  have hr : mRw m m' := fun a e q1 q2 => hf a e (by omega)
  refine ⟨mPr_rw hr (fun e => hf _ _ (by omega)) h1, mNm_fr (A := A) h2 (fun e q1 q2 => hf _ _ (by omega)) (fun e => hf _ _ (by omega)) (fun e => hf _ _ (by omega)), B, T, ?_⟩
  exact mDy_fr (N := ((qh A).map (fun c => c.2.2.2.1.2.2)).sum) hr (fun e => hf _ _ (by omega)) (fun e => hf _ _ (by omega)) (hf _ _ (by omega)) (hf _ _ (by omega)) (fun a p q1 q2 _ => hf _ _ (by omega)) (fun a j q1 q2 _ => hf _ _ (by omega)) (fun c hc => by
    have := sm_er (fun c : Nat => c) c.2.2.2.1.2.2 ((qh A).map (fun c => c.2.2.2.1.2.2)) (List.mem_map.mpr ⟨c, hc, rfl⟩)
    simp only [List.map_id'] at this
    omega) h3
theorem st_se (hS : mSe E ss m A) (hf : ∀ (a : Nat) (e : Int), ¬ (a = 74 ∧ e = 32) → m' a e = m a e) : mSe E ss m' A := by
  obtain ⟨h1, h2, ⟨h3, h4, h5⟩, B, T, h6, h7, h8⟩ := hS
  have hr : mRw m m' := fun a e q1 q2 => hf a e (by omega)
  refine ⟨mPr_rw hr (fun e => hf _ _ (by omega)) h1, mNm_fr (A := A) h2 (fun e q1 q2 => hf _ _ (by omega)) (fun e => hf _ _ (by omega)) (fun e => hf _ _ (by omega)), ⟨?_, ?_, ?_⟩, B, T, ?_, h7, h8⟩
  · rw [hf _ _ (by omega)]; exact h3
  · rw [hf _ _ (by omega)]; exact h4
  · rw [hf 74 52 (by omega)]
    exact mCh_fr (N := qn A 8) hr (fun a j q1 q2 _ => hf a j (by omega)) _ _ h5
  · exact mDy_fr (N := ((qh A).map (fun c => c.2.2.2.1.2.2)).sum) hr (fun e => hf _ _ (by omega)) (fun e => hf _ _ (by omega)) (hf _ _ (by omega)) (hf _ _ (by omega)) (fun a p q1 q2 _ => hf _ _ (by omega)) (fun a j q1 q2 _ => hf _ _ (by omega)) (fun c hc => by
      have := sm_er (fun c : Nat => c) c.2.2.2.1.2.2 ((qh A).map (fun c => c.2.2.2.1.2.2)) (List.mem_map.mpr ⟨c, hc, rfl⟩)
      simp only [List.map_id'] at this
      omega) h6
/-- what holds of a query between two calls -/
def qC0 (A : qA) : Prop := (qn A 0 = 1 ∨ qn A 0 = 2 → qn A 1 = 0) ∧ qn A 3 ≤ 1000 * qn A 2 + 1 ∧ qn A 5 ≤ 601 ∧ qn A 6 ≤ 300
/-- run -/
theorem sp_275 {x : Int} {K0 R0 : Nat} (hK : K0 + 15195300 < 4294967295) (hR : R0 + 19000 < 999999990) (hO : qOK E A) (hA : mAl E ss m A) (h1 : qn A 0 = 1 ∨ qn A 0 = 2 → qn A 1 = 0) (hM : mRd m (K0 + 2411 * (qn A 4 + qn A 2)) (R0 + 3 * (qn A 4 + qn A 2))) (h3 : qn A 3 < 2000000000) (h56 : qn A 5 ≤ 1000 ∧ qn A 6 ≤ 1000) (hb : ¬ (1 ≤ x ∧ x ≤ 300) → Q (-1) m) (hst : 1 ≤ x → x ≤ 300 → qn A 0 ≠ 1 → qn A 0 ≠ 2 → Q (-2) m) (hq : ∀ lim : Nat, x = lim → 1 ≤ lim → lim ≤ 300 → qn A 0 = 1 ∨ qn A 0 = 2 → ∀ m', sF3 m m' → mAl E ss m' (qproc E lim A) → mRd m' (K0 + 2411 * (qn (qproc E lim A) 4 + qn (qproc E lim A) 2)) (R0 + 3 * (qn (qproc E lim A) 4 + qn (qproc E lim A) 2)) → Q (qn (qproc E lim A) 0 : Nat) m') : wq_275 x m Q := by
  obtain ⟨hS, h32, h33⟩ := hA
  obtain ⟨hln, hlc, h4, h8⟩ := hO.len
  have h2 := hO.2.2.2.2.2.2.2.1
  unfold wq_275 wq_170
  dsimp only
  refine ⟨fun q => ⟨fun z => absurd rfl z, fun _ => hb (by omega)⟩, fun q1 => ⟨fun q => ⟨fun z => absurd rfl z, fun _ => hb (by omega)⟩, fun q2 => ⟨fun _ => ?_, fun z => absurd z (by decide)⟩⟩⟩
  obtain ⟨lim, rfl⟩ : ∃ lim : Nat, x = lim := ⟨x.toNat, by omega⟩
  have hq := hq lim rfl (by omega) (by omega)
  have run1 : qn A 0 = 1 → wq_275_32 (lim : Int) m Q := by
    intro e0
    have hq := hq (Or.inl e0)
    have eq : qproc E lim A = qrun E lim 2000 0 A := by unfold qproc; rw [if_neg (by rw [e0]; decide)]
    rw [eq] at hq
    have f1 : ∀ (a : Nat) (e : Int), ¬ (a = 74 ∧ e = 32) → hy_u m 74 32 1 a e = m a e := fun a e q => hy_uf q
    have e1 := h1 (Or.inl e0)
    unfold wq_275_32
    rw [h32]
    refine ⟨fun _ => ?_, fun z => absurd (by rw [e0]; rfl) z⟩
    intro P hP
    exact sp_275_60 (K0 := K0) (R0 := R0) (by omega) hK hR hP 2000 0 A _ hO e0 e1 (st_se hS f1) (hy_us _ _ _ _) (by rw [f1 _ _ (by omega), h33, e1]; rfl) (mRd_fr hM (f1 _ _ (by omega)) (fun e => f1 _ _ (by omega)) (f1 _ _ (by omega)) (fun e => f1 _ _ (by omega))) (by omega) h3 h56 (Nat.zero_le _) (fun m' a1 a2 a3 => hq m' (fun a e z1 z2 => (a1 a e z1 z2).trans (f1 a e (by omega))) a2 a3)
  have run2 : qn A 0 = 2 → wq_275_32 (lim : Int) m Q := by
    intro e0
    have hq := hq (Or.inr e0)
    have eq : qproc E lim A = qrun E lim 2000 0 (qbk E (qnum A 0 1)) := by unfold qproc; rw [if_pos e0]
    rw [eq] at hq
    have e1 : qn A 1 = 0 := h1 (Or.inr e0)
    have hF : qFl E (qnum A 0 1) := hO.fl
    have hS1 : mFl E ss m (qnum A 0 1) := hS.fl
    have k2 : qn (qbk E (qnum A 0 1)) 2 = qn A 2 := qbk_k (Or.inl rfl)
    have k3 : qn (qbk E (qnum A 0 1)) 3 = qn A 3 := qbk_k (Or.inr (Or.inl rfl))
    have k5 : qn (qbk E (qnum A 0 1)) 5 = qn A 5 := qbk_k (Or.inr (Or.inr (Or.inl rfl)))
    have k6 : qn (qbk E (qnum A 0 1)) 6 = qn A 6 := qbk_k (Or.inr (Or.inr (Or.inr rfl)))
    have kl : (qh (qbk E (qnum A 0 1))).length ≤ (qh A).length := qbk_l (E := E) (A := qnum A 0 1)
    have kO := qbk_ok hF
    unfold wq_275_32
    rw [h32]
    refine ⟨fun z => by omega, fun _ => ?_⟩
    refine sp_bk (A := qnum A 0 1) (K := K0 + 2411 * qn A 2) (R := R0 + 3 * qn A 2) (by omega) (by omega) rfl hF hS1 (mRd_le hM (by show _ ≤ K0 + 2411 * qn A 2 + 2411 * qn A 4; omega) (by show _ ≤ R0 + 3 * qn A 2 + 3 * qn A 4; omega)) ⟨fun m1 q1 q2 q0 q3 q4 => ⟨fun z => absurd z (by decide), fun _ => ?_⟩, fun m1 A'' er q1 q2 q3 q4 q5 q6 => ⟨fun _ => ?_, fun z => absurd rfl z⟩⟩
    · have f1 : ∀ (a : Nat) (e : Int), ¬ (a = 74 ∧ e = 32) → hy_u m1 74 32 1 a e = m1 a e := fun a e q => hy_uf q
      intro P hP
      exact sp_275_60 (K0 := K0) (R0 := R0) (by omega) hK hR hP 2000 0 (qbk E (qnum A 0 1)) _ kO q0 ((qback_1 _ _ q0).trans e1) (st_se q3 f1) (hy_us _ _ _ _) (by rw [f1 _ _ (by omega), q2, h33, e1]; rfl) (mRd_le (mRd_fr q4 (f1 _ _ (by omega)) (fun e => f1 _ _ (by omega)) (f1 _ _ (by omega)) (fun e => f1 _ _ (by omega))) (by rw [k2]; omega) (by rw [k2]; omega)) (by rw [k2]; omega) (by rw [k3]; exact h3) (by rw [k5, k6]; exact h56) (Nat.zero_le _) (fun m' a1 a2 a3 => hq m' (fun a e z1 z2 => (a1 a e z1 z2).trans ((f1 a e (by omega)).trans (q1.s3 a e z1 z2))) a2 a3)
    · have f1 : ∀ (a : Nat) (e : Int), ¬ (a = 74 ∧ e = 32) → hy_u m1 74 32 1 a e = m1 a e := fun a e q => hy_uf q
      have e2 : qn A'' 2 = qn A 2 := by
        have := k2
        rw [q2] at this
        exact this
      have eq2 : qrun E lim 2000 0 (qbk E (qnum A 0 1)) = qfin A'' (if er = 0 then 3 else 4) er := by
        rw [q2]
        exact qrun_n (n := 1999) (by show ¬ ((if er = 0 then 3 else 4) = 1); split <;> decide)
      rw [eq2] at hq
      intro P hP
      refine hP _ _ _ ⟨fun _ => sp_275_0 (st_fl q5 f1) ?_ (mRd_le (mRd_fr q6 (f1 _ _ (by omega)) (fun e => f1 _ _ (by omega)) (f1 _ _ (by omega)) (fun e => f1 _ _ (by omega))) (K' := K0 + 2411 * (qn A'' 4 + qn A'' 2)) (R' := R0 + 3 * (qn A'' 4 + qn A'' 2)) (by rw [e2]; omega) (by rw [e2]; omega)) (fun m' a1 a2 a3 => hq m' (fun a e z1 z2 => (a1 a e z1 z2).trans ((f1 a e (by omega)).trans (q1.s3 a e z1 z2))) a2 a3), fun z => absurd rfl z⟩
      rw [f1 _ _ (by omega)]
      by_cases c : er = 0
      · rw [q3 c, h33, e1, c]
      · exact q4 c
  rw [h32]
  refine ⟨fun z => run1 (by omega), fun z => ⟨fun z2 => run2 (by omega), fun z2 => hst q1 q2 (by omega) (by omega)⟩⟩
end NA
