/-! THE MODEL TRIES A CLAUSE -/
/-- what the search leaves alone -/
def sFr (m m' : hy_m) : Prop := ∀ (a : Nat) (e : Int), ¬ (95 ≤ a ∧ a ≤ 116 ∧ (a = 97 → e < 2490)) → ¬ (a = 74 ∧ 34 ≤ e ∧ e ≤ 68) → m' a e = m a e
theorem sFr.rw {m m' : hy_m} (h : sFr m m') : mRw m m' := fun a e q1 q2 => h a e (by omega) (by omega)
theorem sFr.tr {m m' m'' : hy_m} (h : sFr m m') (h' : sFr m' m'') : sFr m m'' := fun a e q1 q2 => (h' a e q1 q2).trans (h a e q1 q2)
theorem sFr.rfl' {m : hy_m} : sFr m m := fun _ _ _ _ => rfl
/-- unify leaves late places alone -/
def uGr (m m' : hy_m) : Prop := uFr m m' ∧ ∀ e : Int, 2490 ≤ e → m' 97 e = m 97 e
theorem uGr.s {m m' : hy_m} (h : uGr m m') : sFr m m' := fun a e q1 q2 => by
  by_cases c : a = 97
  · subst c
    exact h.2 e (by omega)
  · exact h.1 a e c (by omega) (by omega) (by omega) (by omega) (by omega) (by omega)
theorem uGr.tr {m m' m'' : hy_m} (h : uGr m m') (h' : uGr m' m'') : uGr m m'' := ⟨fun z e q1 q2 q3 q4 q5 q6 q7 => (h'.1 z e q1 q2 q3 q4 q5 q6 q7).trans (h.1 z e q1 q2 q3 q4 q5 q6 q7), fun e q => (h'.2 e q).trans (h.2 e q)⟩
theorem uO.g {G : Nat → Nat → Prop} {m m' : hy_m} {D : Nat → Prop} {B B' : bM} {k r : Nat} {l : List Nat} (h : uO G m m' D B B' k r l) (hD : ∀ w, D w → w < 2490) : uGr m m' := ⟨h.1, fun e q => by
  obtain ⟨v, rfl⟩ : ∃ v : Nat, e = v := ⟨e.toNat, by omega⟩
  exact h.2.2.2.1.2 v (Or.inr (fun z => by have := hD v z; omega))⟩
section MD
variable {E : qE} {ss : List Nat} {m m' : hy_m} {T : List Nat} {B B' : bM} {s s' : Nat → pE} {A : qA} {Q : Int → hy_m → Prop} {N : Nat}
theorem mDy_fr (hr : mRw m m') (h97 : ∀ e, m' 97 e = m 97 e) (h98 : ∀ e, m' 98 e = m 98 e) (h44 : m' 74 44 = m 74 44) (h59 : m' 74 59 = m 74 59) (hc : ∀ (a p : Nat), 105 ≤ a → a ≤ 110 → p < (qh A).length → m' a (p : Int) = m a (p : Int)) (hf : ∀ (a j : Nat), 99 ≤ a → a ≤ 104 → j < N → m' a (j : Int) = m a (j : Int)) (hN : ∀ c ∈ qh A, c.2.2.2.1.2.2 ≤ N) (h : mDy E ss m A B T) : mDy E ss m' A B T := by
  obtain ⟨d1, d2, d3, d4, d5, d6⟩ := h
  refine ⟨?_, ⟨by rw [h44]; exact d2.1, fun i hi => by rw [h98]; exact d2.2 i hi⟩, d3, d4, ?_, by rw [h59]; exact d6⟩
  · rw [mG_rw hr]
    refine mBd_fr d1 (fun a e q => ?_)
    rcases q with q | q | q | q | q
    · exact hr a e (by omega) (by omega)
    · exact hr a e (by omega) (by omega)
    · exact hr a e (by omega) (by omega)
    · exact hr a e (by omega) (by omega)
    · rw [q]; exact h97 e
  · have hT : ∀ (C : List qC), mCc E ss m (qi A) T B C → ∀ c ∈ C, c.2.2.2.1.2.1 ≤ T.length := by
      intro C
      induction C with
      | nil => exact fun _ c hc => by cases hc
      | cons x C ih =>
        intro h c hc
        rcases List.mem_cons.mp hc with rfl | hc
        · exact h.2.1.1
        · exact ih h.2.2.2.2.2.2 c hc
    exact mCc_fr hr hf _ hc (fun c hc' => ⟨hN c hc', ⟨hT _ d5 c hc', rfl⟩, rfl, rfl, fun v _ => h97 v⟩) d5
theorem mCc_T : ∀ (C : List qC), mCc E ss m (qi A) T B C → ∀ c ∈ C, c.2.2.2.1.2.1 ≤ T.length := by
  intro C
  induction C with
  | nil => exact fun _ c hc => by cases hc
  | cons x C ih =>
    intro h c hc
    rcases List.mem_cons.mp hc with rfl | hc
    · exact h.2.1.1
    · exact ih h.2.2.2.2.2.2 c hc
/-- a clause is entered: no bindings yet -/
theorem ent_dy {c : Nat} {I tr ce : Nat} (hk : chK E (qi A) I (qh A) (qi A).length tr ce) (ht : tot E (qi A ++ [c]) ≤ 2500) (hr : mRw m m') (h0 : ∀ v : Nat, tot E (qi A) ≤ v → v < tot E (qi A ++ [c]) → m' 97 (v : Int) = -1) (h97 : ∀ v : Nat, v < tot E (qi A) → m' 97 (v : Int) = m 97 (v : Int)) (h98 : ∀ e, m' 98 e = m 98 e) (h44 : m' 74 44 = m 74 44) (h59 : m' 74 59 = m 74 59) (hc : ∀ (a p : Nat), 105 ≤ a → a ≤ 110 → m' a (p : Int) = m a (p : Int)) (hf : ∀ (a j : Nat), 99 ≤ a → a ≤ 104 → m' a (j : Int) = m a (j : Int)) (h : mDy E ss m A B T) : mDy E ss m' (qent A c) B T := by
  obtain ⟨d1, d2, d3, d4, d5, d6⟩ := h
  have hpre : qi A <+: qi A ++ [c] := List.prefix_append _ _
  have hle := tot_pre (E := E) hpre
  have ei : qi (qent A c) = qi A ++ [c] := rfl
  refine ⟨?_, ⟨by rw [h44]; exact d2.1, fun i hi => by rw [h98]; exact d2.2 i hi⟩, d3, d4, ?_, by rw [h59]; exact d6⟩
  · rw [ei]
    intro v
    refine ⟨fun hv => ⟨Nat.lt_of_lt_of_le hv ht, ?_⟩, fun hv => (d1 v).2 (fun q => hv (Nat.lt_of_lt_of_le q hle))⟩
    by_cases q : v < tot E (qi A)
    · rw [h97 v q]
      rcases ((d1 v).1 q).2 with k | ⟨t, k1, k2, k3, k4⟩
      · exact Or.inl k
      · exact Or.inr ⟨t, k1, k2, mTm_rw hr (mTm_pre hpre k3), fun w hw => Nat.lt_of_lt_of_le (k4 w hw) hle⟩
    · exact Or.inl ⟨(d1 v).2 q, h0 v (by omega) hv⟩
  · have hall := chK_all _ hk
    show mCc E ss m' (qi A ++ [c]) T B (qh A)
    refine mCc_fr (N := ce) hr (fun a j q1 q2 _ => hf a j q1 q2) _ (fun a p q1 q2 _ => hc a p q1 q2) (fun c' hc' => ⟨(hall c' hc').2.2, ⟨mCc_T _ d5 c' hc', rfl⟩, List.take_append_of_le_length (hall c' hc').1, rfl, fun v hv => h97 v ?_⟩) d5
    exact Nat.lt_of_lt_of_le (bRs_n hv).1 (tot_pre (List.take_prefix _ _))
/-- a new frame -/
theorem sp_252 {x1 x2 x3 x4 x5 : Int} {j : Nat} (hj : m 74 51 = j) (h : j < 1300) (hq : ∀ m' : hy_m, (∀ (a : Nat) (e : Int), ¬ (99 ≤ a ∧ a ≤ 103 ∧ e = (j : Int)) → ¬ (a = 74 ∧ e = 51) → m' a e = m a e) → m' 99 (j : Int) = x1 → m' 100 (j : Int) = x2 → m' 101 (j : Int) = x3 → m' 102 (j : Int) = x4 → m' 103 (j : Int) = x5 → m' 74 51 = (j : Int) + 1 → Q (j : Int) m') : wq_252 x1 x2 x3 x4 x5 m Q := by
  unfold wq_252
  rw [hj]
  refine ⟨by omega, by omega, by omega, by omega, by omega, by omega, by omega, by omega, by omega, by omega, show -2147483648 ≤ _ ∧ _ < 2147483648 by omega, show -2147483648 ≤ _ ∧ _ < 2147483648 by omega, ?_⟩
  rw [show (j : Int) + 1 - 1 = (j : Int) by omega]
  refine hq _ (fun a e q1 q2 => ?_) ?_ ?_ ?_ ?_ ?_ ?_
  · rw [hy_uf (by omega), hy_uf (by omega), hy_uf (by omega), hy_uf (by omega), hy_uf (by omega), hy_uf (by omega)]
  · rw [hy_ua (by decide), hy_ua (by decide), hy_ua (by decide), hy_ua (by decide), hy_ua (by decide), hy_us]
  · rw [hy_ua (by decide), hy_ua (by decide), hy_ua (by decide), hy_ua (by decide), hy_us]
  · rw [hy_ua (by decide), hy_ua (by decide), hy_ua (by decide), hy_us]
  · rw [hy_ua (by decide), hy_ua (by decide), hy_us]
  · rw [hy_ua (by decide), hy_us]
  · rw [hy_us]
theorem rOK_fr {k : Nat} (h : rOK m k) (h1 : m' 74 64 = m 74 64) (h2 : ∀ e, m' 113 e = m 113 e) : rOK m' k := ⟨by rw [h1]; exact h.1, h.2.1, fun v hv => by rw [h2]; exact h.2.2 v hv⟩
theorem tOK_fr {r : Nat} (h : tOK m r) (h1 : m' 74 66 = m 74 66) (h2 : ∀ e, m' 115 e = m 115 e) : tOK m' r := ⟨by rw [h1]; exact h.1, h.2.1, fun e q1 q2 => by rw [h2]; exact h.2.2 e q1 q2⟩
theorem mRd_fr {K R : Nat} (h : mRd m K R) (h1 : m' 74 64 = m 74 64) (h2 : ∀ e, m' 113 e = m 113 e) (h3 : m' 74 66 = m 74 66) (h4 : ∀ e, m' 115 e = m 115 e) : mRd m' K R := by
  obtain ⟨⟨k, k1, k2⟩, r, r1, r2⟩ := h
  exact ⟨⟨k, rOK_fr k1 h1 h2, k2⟩, r, tOK_fr r1 h3 h4, r2⟩
theorem mNm_fr (h : mNm m A) (h1 : ∀ e : Int, 34 ≤ e → e ≤ 38 → m' 74 e = m 74 e) (h2 : ∀ e, m' 95 e = m 95 e) (h3 : ∀ e, m' 96 e = m 96 e) : mNm m' A := by
  obtain ⟨n1, n2, n3, n4, n5, n6⟩ := h
  exact ⟨by rw [h1 34 (by decide) (by decide)]; exact n1, by rw [h1 35 (by decide) (by decide)]; exact n2, by rw [h1 36 (by decide) (by decide)]; exact n3, by rw [h1 37 (by decide) (by decide)]; exact n4, by rw [h1 38 (by decide) (by decide)]; exact n5, fun c hc => by rw [h2, h3]; exact n6 c hc⟩
theorem mCh_N {l : List Nat} {N N' : Nat} (h : N ≤ N') : ∀ (L : List qF) (x : Int), mCh E ss m l s N L x → mCh E ss m l s N' L x
  | [], _, h1 => h1
  | _ :: r, _, ⟨i, i1, i2, i3, i4⟩ => ⟨i, i1, by omega, i3, i4⟩
/-- a frame is pushed: memory m, then one more frame in m' -/
theorem push_se {f : qF} {L : List qF} {j : Nat} {I tr : Nat} (hk : chK E (qi A) I (qh A) (qi A).length tr (qn A 8)) (hS : mPr E ss m ∧ mNm m A ∧ (m 74 42 = tot E (qi A) ∧ m 74 51 = j ∧ qn A 8 = j ∧ ∃ x, m' 102 (j : Int) = x ∧ mCh E ss m (qi A) (qs A) j L x) ∧ ∃ B T, mDy E ss m A B T ∧ Res B (qs A) ∧ T.length = qn A 7) (h1 : ∀ (a : Nat) (e : Int), ¬ (99 ≤ a ∧ a ≤ 104 ∧ e = (j : Int)) → ¬ (a = 74 ∧ (e = 51 ∨ e = 52)) → m' a e = m a e) (h51 : m' 74 51 = (j : Int) + 1) (h52 : m' 74 52 = (j : Int)) (hf : mF1 E ss m' (qi A) (qs A) f j) : mSe E ss m' (qpush A f L) := by
  obtain ⟨s1, s2, ⟨s3, s4, s5, x, s6, s7⟩, B, T, s8, s9, s10⟩ := hS
  have hr : mRw m m' := fun a e q1 q2 => h1 a e (by omega) (by omega)
  have hf' : ∀ (a i : Nat), 99 ≤ a → a ≤ 104 → i < j → m' a (i : Int) = m a (i : Int) := fun a i _ _ q => h1 a i (by omega) (by omega)
  have hall := chK_all _ hk
  have e8 : qn (qpush A f L) 8 = j + 1 := by show qn A 8 + 1 = j + 1; rw [s5]
  refine ⟨mPr_rw hr (fun e => h1 85 e (by omega) (by omega)) s1, mNm_fr s2 (fun e _ _ => h1 74 e (by omega) (by omega)) (fun e => h1 95 e (by omega) (by omega)) (fun e => h1 96 e (by omega) (by omega)), ⟨?_, ?_, ?_⟩, B, T, ?_, s9, s10⟩
  · rw [h1 _ _ (by omega) (by omega)]; exact s3
  · rw [e8, h51]; omega
  · rw [e8, h52]
    refine ⟨j, rfl, Nat.lt_succ_self _, hf, ?_⟩
    rw [s6]
    exact mCh_fr hr hf' L x s7
  · exact mDy_fr (N := j) hr (fun e => h1 97 e (by omega) (by omega)) (fun e => h1 98 e (by omega) (by omega)) (h1 _ _ (by omega) (by omega)) (h1 _ _ (by omega) (by omega)) (fun a p q1 q2 _ => h1 a p (by omega) (by omega)) hf' (fun c hc => by have := (hall c hc).2.2; omega) s8
end MD
