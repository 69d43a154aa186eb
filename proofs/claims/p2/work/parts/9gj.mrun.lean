/-! THE MODEL RUNS -/
def mAl (E : qE) (ss : List Nat) (m : hy_m) (A : qA) : Prop := mSe E ss m A ∧ m 74 32 = (qn A 0 : Nat) ∧ m 74 33 = (qn A 1 : Nat)
def sF3 (m m' : hy_m) : Prop := ∀ (a : Nat) (e : Int), ¬ (95 ≤ a ∧ a ≤ 116 ∧ (a = 97 → e < 2490)) → ¬ (a = 74 ∧ 32 ≤ e ∧ e ≤ 68) → m' a e = m a e
theorem zF2.s3 {m m' : hy_m} (h : zF2 m m') : sF3 m m' := fun a e q1 q2 => h a e q1 (by omega)
theorem zF2.e32 {m m' : hy_m} (h : zF2 m m') : m' 74 32 = m 74 32 := h _ _ (by omega) (by omega)
theorem sF3.tr {m m' m'' : hy_m} (h : sF3 m m') (h' : sF3 m' m'') : sF3 m m'' := fun a e q1 q2 => (h' a e q1 q2).trans (h a e q1 q2)
section MX
variable {E : qE} {ss : List Nat} {m m' : hy_m} {A A' : qA} {Q : Int → hy_m → Prop} {K R : Nat}
/-- a query that doesn't go on -/
theorem sp_275_0 {A'' : qA} {er : Nat} (hS : mFl E ss m A'') (h33 : m 74 33 = er) (hM : mRd m K R) (hq : ∀ m', sF3 m m' → mAl E ss m' (qfin A'' (if er = 0 then 3 else 4) er) → mRd m' K R → Q (qn (qfin A'' (if er = 0 then 3 else 4) er) 0 : Nat) m') : wq_275_128 0 m Q := by
  obtain ⟨hP, hN, -⟩ := hS
  unfold wq_275_128
  rw [h33]
  refine ⟨fun q => absurd rfl q, fun _ => ⟨fun h0 => ?_, fun h0 => ?_⟩⟩
  · have her : er = 0 := by omega
    rw [if_pos her] at hq
    refine sp_272 (st := 3) (er := er) hP hN (fun m1 f e32 hs => ?_)
    rw [e32]
    exact hq m1 (fun a e q1 q2 => f a e (by omega) (by omega)) ⟨hs, e32, by rw [f _ _ (by omega) (by omega)]; exact h33⟩ (mRd_fr hM (f _ _ (by omega) (by omega)) (fun e => f _ _ (by omega) (by omega)) (f _ _ (by omega) (by omega)) (fun e => f _ _ (by omega) (by omega)))
  · have her : er ≠ 0 := by omega
    rw [if_neg her] at hq
    refine sp_272 (st := 4) (er := er) hP hN (fun m1 f e32 hs => ?_)
    rw [e32]
    exact hq m1 (fun a e q1 q2 => f a e (by omega) (by omega)) ⟨hs, e32, by rw [f _ _ (by omega) (by omega)]; exact h33⟩ (mRd_fr hM (f _ _ (by omega) (by omega)) (fun e => f _ _ (by omega) (by omega)) (f _ _ (by omega) (by omega)) (fun e => f _ _ (by omega) (by omega)))
/-- choices are cut before the way back -/
theorem keep_fl {cut : Nat} {N : Nat} (hk : chK E (qi A) N (qh A) (qi A).length (qn A 7) (qn A 8)) (hc : cut ≤ (qh A).length) (hS : mFl E ss m A) (hf : ∀ (a : Nat) (e : Int), ¬ (a = 74 ∧ (e = 59 ∨ e = 52)) → m' a e = m a e) (h59 : m' 74 59 = cut) : mFl E ss m' (qkeep A cut) := by
  obtain ⟨hP, hN, B, T, ⟨d1, d2, d3, d4, d5, d6⟩⟩ := hS
  have hr : mRw m m' := fun a e q1 q2 => hf a e (by omega)
  have hall := chK_all _ hk
  have dc : ∀ (C : List qC) (n : Nat), mCc E ss m (qi A) T B C → mCc E ss m (qi A) T B (C.drop n) := by
    intro C
    induction C with
    | nil => exact fun n h => by rw [List.drop_nil]; exact h
    | cons c r ih =>
      intro n h
      cases n with
      | zero => exact h
      | succ n => exact ih n h.2.2.2.2.2.2
  refine ⟨mPr_rw hr (fun e => hf _ _ (by omega)) hP, mNm_fr (A := A) hN (fun e q1 q2 => hf _ _ (by omega)) (fun e => hf _ _ (by omega)) (fun e => hf _ _ (by omega)), B, T, ⟨?_, ⟨?_, fun i hi => ?_⟩, d3, d4, ?_, ?_⟩⟩
  · show mBd (mG E ss m' (qi A)) m' (fun w => w < tot E (qi A)) B
    rw [mG_rw hr]
    exact mBd_fr d1 (fun a e q => hf a e (by omega))
  · rw [hf _ _ (by omega)]; exact d2.1
  · rw [hf _ _ (by omega)]; exact d2.2 i hi
  · have d5' := dc (qh A) ((qh A).length - cut) d5
    show mCc E ss m' (qi A) T B ((qh A).drop ((qh A).length - cut))
    exact mCc_fr (N := qn A 8) hr (fun a j q1 q2 _ => hf a j (by omega)) _ (fun a p q1 q2 _ => hf a p (by omega)) (fun c hc' => ⟨(hall c (List.mem_of_mem_drop hc')).2.2, ⟨mCc_T _ d5 c (List.mem_of_mem_drop hc'), rfl⟩, rfl, rfl, fun v _ => hf _ _ (by omega)⟩) d5'
  · rw [h59, qkeep_len hc]
end MX
