/-! THE MODEL GOES BACK TO A CHOICE -/
section MB
variable {E : qE} {ss : List Nat} {m m' : hy_m} {l l' T T' : List Nat} {B B' : bM} {s s' : Nat → pE} {N N' : Nat} {Q : Int → hy_m → Prop}
theorem mFg_rw {x : Int} {g : pE} (h : mRw m m') (hg : mFg E ss m l s x g) : mFg E ss m' l s x g := by
  obtain ⟨t, h1, h2⟩ := hg
  exact ⟨t, mTm_rw h h1, h2⟩
theorem mFg_mo {x : Int} {g : pE} (h : l <+: l') (hs : ∀ v, SolS s' v → SolS s v) (hg : mFg E ss m l s x g) : mFg E ss m l' s' x g := by
  obtain ⟨t, h1, h2, h3, h4⟩ := hg
  exact ⟨t, mTm_pre h h1, fun w hw => Nat.lt_of_lt_of_le (h2 w hw) (tot_pre h), h3, fun v hv => h4 v (hs v hv)⟩
theorem mF1_fr {f : qF} {j : Nat} (h : mRw m m') (hf : ∀ a : Nat, 99 ≤ a → a ≤ 104 → m' a (j : Int) = m a (j : Int)) (h1 : mF1 E ss m l s f j) : mF1 E ss m' l s f j := by
  obtain ⟨a1, a2, a3⟩ := h1
  refine ⟨by rw [hf 100 (by decide) (by decide)]; exact a1, by rw [hf 103 (by decide) (by decide)]; exact a2, ?_⟩
  split at a3
  · rw [hf 99 (by decide) (by decide), hf 101 (by decide) (by decide)]
    exact a3
  · rw [hf 99 (by decide) (by decide), hf 104 (by decide) (by decide)]
    exact ⟨a3.1, fun q => mFg_rw h (a3.2 q)⟩
theorem mCh_fr {N : Nat} (h : mRw m m') (hf : ∀ (a j : Nat), 99 ≤ a → a ≤ 104 → j < N → m' a (j : Int) = m a (j : Int)) : ∀ (L : List qF) (x : Int), mCh E ss m l s N L x → mCh E ss m' l s N L x := by
  intro L
  induction L generalizing N with
  | nil => exact fun x h1 => h1
  | cons f r ih =>
    rintro x ⟨j, h1, h2, h3, h4⟩
    refine ⟨j, h1, h2, mF1_fr h (fun a q1 q2 => hf a j q1 q2 h2) h3, ?_⟩
    rw [hf 102 j (by decide) (by decide) h2]
    exact ih (fun a i q1 q2 q3 => hf a i q1 q2 (by omega)) _ h4
theorem sO_pre (h : l <+: l') {i : Nat} (hi : i < l.length + 2) (h2 : i = 0 ∨ 2 ≤ i) : sO ss l' i = sO ss l i ∧ plc E l' i = plc E l i := by
  unfold sO plc
  rcases h2 with h2 | h2
  · rw [if_pos h2, if_pos h2, if_pos h2, if_pos h2]
    exact ⟨rfl, rfl⟩
  · obtain ⟨-, e1, e2⟩ := pfx_at h (j := i - 2) (by omega)
    rw [if_neg (by omega), if_neg (by omega), if_neg (by omega), if_neg (by omega), e1, e2]
    exact ⟨rfl, rfl⟩
theorem mF1_mo {f : qF} {j : Nat} (h : l <+: l') (hs : ∀ v, SolS s' v → SolS s v) (hk : frK E l l.length f) (h1 : mF1 E ss m l s f j) : mF1 E ss m l' s' f j := by
  obtain ⟨a1, a2, a3⟩ := h1
  refine ⟨a1, a2, ?_⟩
  unfold frK at hk
  split at a3
  · rename_i hn
    rw [hn] at hk
    obtain ⟨e1, e2⟩ := sO_pre (E := E) (ss := ss) h hk.2.1 hk.1
    rw [e1, e2]
    exact a3
  · exact ⟨a3.1, fun q => mFg_mo h hs (a3.2 q)⟩
theorem mCh_mo {N N' : Nat} (h : l <+: l') (hs : ∀ v, SolS s' v → SolS s v) (hN : N ≤ N') : ∀ (L : List qF) (n : Nat) (x : Int), okF E l l.length L n → mCh E ss m l s N L x → mCh E ss m l' s' N' L x := by
  intro L
  induction L generalizing N N' with
  | nil => exact fun _ x _ h1 => h1
  | cons f r ih =>
    rintro n x hk ⟨j, h1, h2, h3, h4⟩
    exact ⟨j, h1, by omega, mF1_mo h hs hk.1 h3, ih (Nat.le_refl _) _ _ hk.2.2 h4⟩
theorem mCh_len {N : Nat} : ∀ (L : List qF) (x : Int), mCh E ss m l s N L x → L.length ≤ N := by
  intro L
  induction L generalizing N with
  | nil => exact fun _ _ => Nat.zero_le _
  | cons f r ih =>
    rintro x ⟨j, h1, h2, h3, h4⟩
    have := ih _ h4
    rw [List.length_cons]
    omega
/-- choices under another memory -/
theorem mCc_fr (hr : mRw m m') (hf : ∀ (a j : Nat), 99 ≤ a → a ≤ 104 → j < N → m' a (j : Int) = m a (j : Int)) : ∀ C : List qC, (∀ (a p : Nat), 105 ≤ a → a ≤ 110 → p < C.length → m' a (p : Int) = m a (p : Int)) → (∀ c ∈ C, c.2.2.2.1.2.2 ≤ N ∧ (c.2.2.2.1.2.1 ≤ T'.length ∧ T'.take c.2.2.2.1.2.1 = T.take c.2.2.2.1.2.1) ∧ l'.take c.2.2.2.1.1 = l.take c.2.2.2.1.1 ∧ bRs B' T' c.2.2.2.1.2.1 (tot E (l.take c.2.2.2.1.1)) = bRs B T c.2.2.2.1.2.1 (tot E (l.take c.2.2.2.1.1)) ∧ ∀ v : Nat, bRs B T c.2.2.2.1.2.1 (tot E (l.take c.2.2.2.1.1)) v ≠ none → m' 97 (v : Int) = m 97 (v : Int)) → mCc E ss m l T B C → mCc E ss m' l' T' B' C
  | [], _, _, _ => trivial
  | c :: r, hc, hB, h => by
    obtain ⟨⟨a1, a2, a3⟩, b, c1, d, e, f, g⟩ := h
    obtain ⟨k1, k2, k3, k4, k5⟩ := hB c (List.mem_cons_self ..)
    have hp : ∀ a : Nat, 105 ≤ a → a ≤ 110 → m' a (r.length : Int) = m a (r.length : Int) := fun a q1 q2 => hc a r.length q1 q2 (by simp only [List.length_cons]; omega)
    refine ⟨⟨?_, ?_, ?_⟩, ⟨k2.1, by rw [k2.2, k3]; exact b.2⟩, ?_, ?_, ?_, ?_, ?_⟩
    · rw [hp 108 (by decide) (by decide)]; exact a1
    · rw [hp 109 (by decide) (by decide), k3]; exact a2
    · rw [hp 110 (by decide) (by decide)]; exact a3
    · rw [k3]
      split at c1
      · rw [hp 106 (by decide) (by decide)]
        exact c1
      · rw [hp 106 (by decide) (by decide), hp 105 (by decide) (by decide)]
        exact ⟨c1.1, mFg_rw hr c1.2.1, c1.2.2⟩
    · rw [k3, hp 107 (by decide) (by decide)]
      exact mCh_fr hr (fun a j q1 q2 q3 => hf a j q1 q2 (by omega)) _ _ d
    · rw [k3, k4]; exact e
    · rw [k3, k4]
      intro v t hv
      obtain ⟨f1, f2⟩ := f v t hv
      rw [k5 v (by rw [hv]; simp)]
      exact ⟨mTm_rw hr f1, f2⟩
    · exact mCc_fr hr hf r (fun a p q1 q2 q3 => hc a p q1 q2 (by simp only [List.length_cons]; omega)) (fun c' hc' => hB c' (List.mem_cons_of_mem _ hc')) g
/-- chK, for each choice -/
theorem chK_all {I ni tr ce : Nat} : ∀ (C : List qC), chK E l I C ni tr ce → ∀ c ∈ C, c.2.2.2.1.1 ≤ ni ∧ c.2.2.2.1.2.1 ≤ tr ∧ c.2.2.2.1.2.2 ≤ ce
  | [], _, c, hc => by cases hc
  | d :: r, h, c, hc => by
    rcases List.mem_cons.mp hc with rfl | hc
    · exact h.1
    · have h1 := h.1
      have := chK_all r h.2.2.2.2.2.2 c hc
      omega
theorem bRs_s {k P v : Nat} {t : pE} (h : bRs B T k P v = some t) : (v < P ∧ v ∉ T.drop k) ∧ B v = some t := by
  unfold bRs at h
  split at h
  · rename_i q
    exact ⟨q, h⟩
  · cases h
theorem bRs_n {k P v : Nat} (h : bRs B T k P v ≠ none) : v < P ∧ v ∉ T.drop k := by
  unfold bRs at h
  split at h
  · rename_i q
    exact q
  · exact absurd rfl h
/-- what is undone twice -/
theorem bRs_2 {k k0 P P0 : Nat} (hk : k ≤ k0) (hP : P ≤ P0) (h0 : k0 ≤ T.length) : bRs (bRs B T k0 P0) (T.take k0) k P = bRs B T k P := by
  have e : T.drop k = (T.take k0).drop k ++ T.drop k0 := by
    have h1 : (T.take k0 ++ T.drop k0).drop k = (T.take k0).drop k ++ T.drop k0 := List.drop_append_of_le_length (by rw [List.length_take]; omega)
    rw [List.take_append_drop] at h1
    exact h1
  funext v
  unfold bRs
  rw [e]
  by_cases c : v < P ∧ v ∉ (T.take k0).drop k
  · rw [if_pos c]
    by_cases d : v ∈ T.drop k0
    · rw [if_neg (fun q => q.2 d), if_neg (fun q => q.2 (List.mem_append.mpr (Or.inr d)))]
    · rw [if_pos ⟨by omega, d⟩, if_pos ⟨c.1, fun q => by
        rcases List.mem_append.mp q with q | q
        · exact c.2 q
        · exact d q⟩]
  · rw [if_neg c, if_neg (fun q => c ⟨q.1, fun z => q.2 (List.mem_append.mpr (Or.inl z))⟩)]
/-- goesBack -/
theorem sp_256 {p k : Nat} (hp : p < 700) (hT : tR m T) (h5 : ∀ w ∈ T, w < 2500) (hn : T.length ≤ 2500) (h8 : m 108 (p : Int) = k) (hk : k ≤ T.length) (hq : ∀ m' : hy_m, (∀ (a : Nat) (e : Int), ¬ (a = 97 ∧ ∃ w ∈ T.drop k, e = (w : Int)) → ¬ (a = 74 ∧ (e = 44 ∨ e = 42 ∨ e = 51 ∨ e = 52)) → m' a e = m a e) → (∀ w ∈ T.drop k, m' 97 (w : Int) = -1) → m' 74 44 = k → m' 74 42 = m 109 (p : Int) → m' 74 51 = m 110 (p : Int) → m' 74 52 = m 107 (p : Int) → Q 0 m') : wq_256 (p : Int) m Q := by
  unfold wq_256
  refine wL0_rule (Nat.lt_wfRel.wf) (fun m' : hy_m => ∃ j : Nat, k ≤ j ∧ j ≤ T.length ∧ m' 74 44 = j ∧ (∀ w ∈ T.drop j, m' 97 (w : Int) = -1) ∧ ∀ (a : Nat) (e : Int), ¬ (a = 97 ∧ ∃ w ∈ T.drop j, e = (w : Int)) → ¬ (a = 74 ∧ e = 44) → m' a e = m a e) (fun m' : hy_m => (m' 74 44).toNat) ?_ ⟨T.length, hk, Nat.le_refl _, hT.1, (fun w hw => by rw [List.drop_length] at hw; cases hw), fun a e _ _ => rfl⟩
  rintro P m1 ⟨j, j1, j2, j3, j4, j5⟩ hP
  have e8 : m1 108 (p : Int) = k := by rw [j5 _ _ (by omega) (by omega)]; exact h8
  unfold wf_256_0
  rw [e8, j3]
  refine ⟨by omega, by omega, fun hle => ?_, fun hlt => ?_⟩
  · have : j = k := by omega
    subst this
    refine ⟨by omega, by omega, by omega, by omega, by omega, by omega, hq _ (fun a e q1 q2 => ?_) (fun w hw => ?_) ?_ ?_ ?_ ?_⟩
    · rw [hy_uf (by omega), hy_uf (by omega), hy_uf (by omega)]
      exact j5 a e q1 (by omega)
    · rw [hy_ua (by decide), hy_ua (by decide), hy_ua (by decide)]
      exact j4 w hw
    · rw [hy_uk (by decide), hy_uk (by decide), hy_uk (by decide)]
      exact j3
    · rw [hy_uk (by decide), hy_uk (by decide), hy_us]
      exact j5 _ _ (by omega) (by omega)
    · rw [hy_uk (by decide), hy_us]
      exact j5 _ _ (by omega) (by omega)
    · rw [hy_us]
      exact j5 _ _ (by omega) (by omega)
  · obtain ⟨i, rfl⟩ : ∃ i, j = i + 1 := ⟨j - 1, by omega⟩
    have hi : i < T.length := by omega
    have e98 : m1 98 (((i + 1 : Nat) : Int) - 1) = (T[i] : Nat) := by
      rw [j5 _ _ (by omega) (by omega), show ((i + 1 : Nat) : Int) - 1 = (i : Int) by omega]
      exact hT.2 i hi
    have hw5 := h5 T[i] (List.getElem_mem hi)
    have ed : T.drop i = T[i] :: T.drop (i + 1) := List.drop_eq_getElem_cons hi
    rw [e98]
    refine ⟨show -2147483648 ≤ _ ∧ _ < 2147483648 by omega, by omega, by omega, by omega, by omega, hP _ ⟨i, by omega, by omega, ?_, fun w hw => ?_, fun a e q1 q2 => ?_⟩ ?_⟩
    · rw [hy_ua (by decide), hy_us]
      omega
    · rw [ed] at hw
      by_cases c : w = T[i]
      · rw [c, hy_us]
      · rcases List.mem_cons.mp hw with hw | hw
        · exact absurd hw c
        · rw [hy_uk (by omega), hy_ua (by decide)]
          exact j4 w hw
    · rw [ed] at q1
      rw [hy_uf (fun q => q1 ⟨q.1, T[i], List.mem_cons_self .., q.2⟩), hy_uf q2]
      exact j5 a e (fun ⟨z1, w, z2, z3⟩ => q1 ⟨z1, w, List.mem_cons_of_mem _ z2, z3⟩) q2
    · show (hy_u _ 97 _ _ 74 44).toNat < (m1 74 44).toNat
      rw [hy_ua (by decide), hy_us, j3]
      omega
end MB
