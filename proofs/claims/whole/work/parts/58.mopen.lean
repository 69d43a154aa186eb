/-! THE MODEL'S PARSER: a compound is opened -/
section MO
variable {m m' : hy_m} {tx : List Int} {sl c : Nat} {vs : List Int} {stk : List pF} {css : List (List Int)} {K : List (pE × Int)} {p p' : Nat}
theorem mPs_r (m : hy_m) (d : Nat) (h n : Int) (a : Nat) (e : Int) (h1 : ¬ ((a = 88 ∨ a = 89 ∨ a = 90) ∧ e = d)) (h2 : ¬ (a = 74 ∧ e = 25)) : mPs m d h n a e = m a e := by
  unfold mPs hy_u
  rw [if_neg (by omega), if_neg (by omega), if_neg (by omega), if_neg (by omega)]
theorem mPs_v (m : hy_m) (d : Nat) (h n : Int) : mPs m d h n 88 (d : Int) = h ∧ mPs m d h n 89 (d : Int) = n ∧ mPs m d h n 90 (d : Int) = -9 ∧ mPs m d h n 74 25 = (d : Int) + 1 := by
  unfold mPs
  refine ⟨?_, ?_, ?_, ?_⟩
  · rw [hy_ua (by decide), hy_ua (by decide), hy_ua (by decide), hy_us]
  · rw [hy_ua (by decide), hy_ua (by decide), hy_us]
  · rw [hy_ua (by decide), hy_us]
  · rw [hy_us]
/-- the part, the text and the names, when only other rows change -/
theorem mS_low (h : mS m tx sl c vs stk css K p) (hf : ∀ a e, (a = 74 → e ≠ 25) → a ≠ 76 → a ≠ 77 → a ≠ 78 → a ≠ 79 → a ≠ 80 → a ≠ 88 → a ≠ 89 → a ≠ 90 → m' a e = m a e) : mTx m' tx ∧ mCu m' tx p ∧ mVs m' vs ∧ m' 74 18 = -9 ∧ m' 74 19 = sl := by
  obtain ⟨h1, h2, h3, h4, -, -, -⟩ := h
  have g : ∀ e, e ≠ 25 → m' 74 e = m 74 e := fun e he => hf 74 e (fun _ => he) (by decide) (by decide) (by decide) (by decide) (by decide) (by decide) (by decide) (by decide)
  refine ⟨⟨by rw [g _ (by decide)]; exact h1.1, h1.2.1, fun i hi => ?_, h1.2.2.2⟩, ⟨h2.1, by rw [g _ (by decide)]; exact h2.2.1, by rw [g _ (by decide)]; exact h2.2.2.1, by rw [g _ (by decide)]; exact h2.2.2.2.1, fun z => by rw [g _ (by decide)]; exact h2.2.2.2.2.1 z, fun z => by rw [g _ (by decide)]; exact h2.2.2.2.2.2 z⟩, ⟨by rw [g _ (by decide)]; exact h3.1, h3.2.1, fun i hi => ?_⟩, by rw [g _ (by decide)]; exact h4.1, by rw [g _ (by decide)]; exact h4.2.1⟩
  · rw [hf 75 _ (fun q => by cases q) (by decide) (by decide) (by decide) (by decide) (by decide) (by decide) (by decide) (by decide)]
    exact h1.2.2.1 i hi
  · rw [hf 87 _ (fun q => by cases q) (by decide) (by decide) (by decide) (by decide) (by decide) (by decide) (by decide) (by decide)]
    exact h3.2.2 i hi
/-- arguments: the node of the name is new, and is opened -/
theorem mS_openA (w : Int) (h : mS m tx sl c vs stk css K p) (hc : c < 128) (hd : stk.length < 130) : mS (mPs (mNd m sl c 3 w) stk.length 0 (128 * (sl : Int) + c)) tx sl (c + 1) vs ((0, w, []) :: stk) ([128 * (sl : Int) + c] :: css) K p ∧ pFr m (mPs (mNd m sl c 3 w) stk.length 0 (128 * (sl : Int) + c)) sl := by
  have hr := mNd_r m sl c 3 w
  have hv := mNd_v m sl c 3 w
  have hr2 := mPs_r (mNd m sl c 3 w) stk.length 0 (128 * (sl : Int) + c)
  have hv2 := mPs_v (mNd m sl c 3 w) stk.length 0 (128 * (sl : Int) + c)
  have h5' := h.2.2.2.2.1
  have hB : ∀ n, nA sl c css.flatten n → nA sl (c + 1) ([128 * (sl : Int) + c] :: css).flatten n := by
    intro n hn
    refine ⟨hn.1, by have := hn.2.1; omega, fun hm => ?_⟩
    rw [List.flatten_cons] at hm
    rcases List.mem_append.mp hm with hm | hm
    · have e : n = 128 * (sl : Int) + c := by simpa using hm
      have := hn.2.1
      omega
    · exact hn.2.2 hm
  have hu := mS_up (m' := mPs (mNd m sl c 3 w) stk.length 0 (128 * (sl : Int) + c)) h hB (fun n hn => ⟨(hr2 _ _ (by omega) (by omega)).trans (hr _ _ (by omega) (by omega)), (hr2 _ _ (by omega) (by omega)).trans (hr _ _ (by omega) (by omega)), (hr2 _ _ (by omega) (by omega)).trans (hr _ _ (by omega) (by omega)), fun j _ _ => (hr2 _ _ (by omega) (by omega)).trans (hr _ _ (by omega) (by omega))⟩) (fun i hi => ⟨(hr2 _ _ (by omega) (by omega)).trans (hr _ _ (by omega) (by omega)), (hr2 _ _ (by omega) (by omega)).trans (hr _ _ (by omega) (by omega)), (hr2 _ _ (by omega) (by omega)).trans (hr _ _ (by omega) (by omega))⟩)
  have hl := mS_low (m' := mPs (mNd m sl c 3 w) stk.length 0 (128 * (sl : Int) + c)) h (fun a e q1 q2 q3 q4 q5 q6 q7 q8 q9 => (hr2 _ _ (by omega) (by omega)).trans (hr _ _ (by omega) (by omega)))
  have h4 := h.2.2.2.1
  refine ⟨⟨hl.1, hl.2.1, hl.2.2.1, ⟨hl.2.2.2.1, hl.2.2.2.2, h4.2.2.1, ?_, ?_⟩, ⟨?_, ?_⟩, ⟨Or.inl ⟨rfl, hv2.1, Nat.zero_le _, _, rfl, hv2.2.1, ?_, ?_, ?_, fun j hj => absurd hj (Nat.not_lt_zero _)⟩, hu.1⟩, hu.2⟩, ?_⟩
  · rw [hr2 _ _ (by omega) (by omega), hv.2.2.2]; omega
  · rw [hv2.2.2.2]; simp
  · rw [List.flatten_cons, List.singleton_append, List.nodup_cons]
    exact ⟨fun hm => by have := (h5'.2 _ hm).2; omega, h5'.1⟩
  · intro n hn
    rw [List.flatten_cons, List.singleton_append] at hn
    rcases List.mem_cons.mp hn with rfl | hn
    · exact ⟨by omega, by omega⟩
    · exact ⟨(h5'.2 n hn).1, by have := (h5'.2 n hn).2; omega⟩
  · rw [hr2 _ _ (by omega) (by omega)]; exact hv.2.1
  · rw [hr2 _ _ (by omega) (by omega)]; exact hv.2.2.1
  · rw [hr2 _ _ (by omega) (by omega)]; exact hv.1
  · intro a e q1 q2 q3 q4 q5 q6 q7 q8
    rw [hr2 a e (by omega) (by omega)]
    exact hr a e q4 (fun z => q2 ⟨z.1, by omega, by omega⟩)
/-- a list is opened: no cell is there yet -/
theorem mS_openL (h : mS m tx sl c vs stk css K p) (hd : stk.length < 130) : mS (mPs m stk.length 1 (-9)) tx sl c vs ((1, 2, []) :: stk) ([] :: css) K p ∧ pFr m (mPs m stk.length 1 (-9)) sl := by
  have hr2 := mPs_r m stk.length 1 (-9)
  have hv2 := mPs_v m stk.length 1 (-9)
  have hB : ∀ n, nA sl c css.flatten n → nA sl c (([] : List Int) :: css).flatten n := fun n hn => hn
  have hu := mS_up (m' := mPs m stk.length 1 (-9)) h hB (fun n hn => ⟨hr2 _ _ (by omega) (by omega), hr2 _ _ (by omega) (by omega), hr2 _ _ (by omega) (by omega), fun j _ _ => hr2 _ _ (by omega) (by omega)⟩) (fun i hi => ⟨hr2 _ _ (by omega) (by omega), hr2 _ _ (by omega) (by omega), hr2 _ _ (by omega) (by omega)⟩)
  have hl := mS_low (m' := mPs m stk.length 1 (-9)) h (fun a e q1 q2 q3 q4 q5 q6 q7 q8 q9 => hr2 _ _ (by omega) (by omega))
  have h4 := h.2.2.2.1
  have h5' := h.2.2.2.2.1
  refine ⟨⟨hl.1, hl.2.1, hl.2.2.1, ⟨hl.2.2.2.1, hl.2.2.2.2, h4.2.2.1, ?_, ?_⟩, h5', ⟨Or.inr ⟨Or.inl rfl, hv2.1, rfl, trivial, fun _ => hv2.2.2.1, (fun x hx => by cases hx), (fun x hx => by cases hx)⟩, hu.1⟩, hu.2⟩, ?_⟩
  · rw [hr2 _ _ (by omega) (by omega)]; exact h4.2.2.2.1
  · rw [hv2.2.2.2]; simp
  · intro a e q1 q2 q3 q4 q5 q6 q7 q8
    exact hr2 a e (by omega) (by omega)
end MO
