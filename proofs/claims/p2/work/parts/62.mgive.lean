section MV
variable {m : hy_m} {tx : List Int} {sl c : Nat} {vs : List Int} {stk : List pF} {css : List (List Int)} {K : List (pE × Int)} {p : Nat}
theorem mGv_r (m : hy_m) (n : Int) (a : Nat) (x : Int) (b : Nat) (e : Int) (h1 : ¬ (b = 79 ∧ e = 3 * n + a)) (h2 : ¬ ((b = 78 ∨ b = 76) ∧ e = n)) : mGv m n a x b e = m b e := by
  unfold mGv hy_u
  rw [if_neg (by omega), if_neg (by omega), if_neg h1]
theorem mGv_v (m : hy_m) (n : Int) (a : Nat) (x : Int) : mGv m n a x 79 (3 * n + a) = x ∧ mGv m n a x 78 n = (a : Int) + 1 ∧ mGv m n a x 76 n = 4 := by
  unfold mGv
  refine ⟨?_, ?_, ?_⟩
  · rw [hy_ua (by decide), hy_ua (by decide), hy_us]
  · rw [hy_ua (by decide), hy_us]
  · rw [hy_us]
/-- an argument is given to the open compound -/
theorem mS_giveA {k : Int} {as : List pE} {cs : List Int} {t : pE} {r : Int} (h : mS m tx sl c vs ((0, k, as) :: stk) (cs :: css) ((t, r) :: K) p) : ∃ b, cs = [b] ∧ m 89 (stk.length : Int) = b ∧ (128 * (sl : Int) ≤ b ∧ b < 128 * (sl : Int) + c) ∧ m 78 b = as.length ∧ as.length ≤ 2 ∧ m 77 b = k ∧ sR (mGv m b as.length r) (nA sl c (cs :: css).flatten) stk css ∧ (∀ q ∈ K, rP (mGv m b as.length r) (nA sl c (cs :: css).flatten) q.1 (-1) q.2) ∧ ∀ j (hj : j < (as ++ [t]).length), rP (mGv m b as.length r) (nA sl c (cs :: css).flatten) (as ++ [t])[j] (-1) (mGv m b as.length r 79 (3 * b + (j : Int))) := by
  have h5 := h.2.2.2.2.1
  have hR := h.2.2.2.2.2.1
  have hK := h.2.2.2.2.2.2
  obtain ⟨hf, hrest⟩ := hR
  rcases hf with ⟨a1, a2, a3, b, rfl, a4, a5, a6, a7, a8⟩ | ⟨a1, -⟩
  · have hb := h5.2 b (by rw [List.flatten_cons]; exact List.mem_append_left _ (List.mem_cons_self ..))
    have hnd := h5.1
    rw [List.flatten_cons, List.singleton_append, List.nodup_cons] at hnd
    have hr := mGv_r m b as.length r
    have hv := mGv_v m b as.length r
    have a3 : as.length ≤ 2 := a3
    have hEA : rEq m (mGv m b as.length r) (nA sl c ([b] :: css).flatten) := by
      intro n hn
      have hne : n ≠ b := fun q => hn.2.2 (by rw [List.flatten_cons, q]; exact List.mem_append_left _ (List.mem_cons_self ..))
      exact ⟨hr _ _ (by omega) (by omega), hr _ _ (by omega) (by omega), hr _ _ (by omega) (by omega), fun j _ _ => hr _ _ (by omega) (by omega)⟩
    have hEO : rEq m (mGv m b as.length r) (fun n => n ∈ css.flatten) := by
      intro n hn
      have hne : n ≠ b := fun q => hnd.1 (by rw [← q]; exact hn)
      exact ⟨hr _ _ (by omega) (by omega), hr _ _ (by omega) (by omega), hr _ _ (by omega) (by omega), fun j _ _ => hr _ _ (by omega) (by omega)⟩
    refine ⟨b, rfl, a4, hb, a6, a3, a5, sR_eq (fun n hn => hn) hEA stk css hEO (fun i _ => ⟨hr _ _ (by omega) (by omega), hr _ _ (by omega) (by omega), hr _ _ (by omega) (by omega)⟩) hrest, fun q hq => rP_eq hEA _ (-1) _ (fun z => by omega) (hK q (List.mem_cons_of_mem _ hq)), fun j hj => ?_⟩
    by_cases e : j = as.length
    · subst e
      rw [hv.1]
      have := rP_eq hEA _ (-1) _ (fun z => by omega) (hK (t, r) (List.mem_cons_self ..))
      simpa using this
    · have hj' : j < as.length := by simp at hj; omega
      rw [hr _ _ (by omega) (by omega), List.getElem_append_left hj']
      exact rP_eq hEA _ (-1) _ (fun z => by omega) (a8 j hj')
  · rcases a1 with a1 | a1
    · exact absurd (show (0 : Nat) = 1 from a1) (by decide)
    · exact absurd (show (0 : Nat) = 2 from a1.1) (by decide)
end MV
