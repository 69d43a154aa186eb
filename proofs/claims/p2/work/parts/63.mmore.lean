section MW
variable {m : hy_m} {tx : List Int} {sl c : Nat} {vs : List Int} {stk : List pF} {css : List (List Int)} {K : List (pE × Int)} {p : Nat}
/-- the frame with one more argument -/
theorem mS_moreA {k : Int} {as : List pE} {cs : List Int} {t : pE} {r : Int} (h : mS m tx sl c vs ((0, k, as) :: stk) (cs :: css) ((t, r) :: K) p) (hl : as.length + 1 ≤ 2) (hc : c ≤ 128) {b : Int} (hb : m 89 (stk.length : Int) = b) : mS (mGv m b as.length r) tx sl c vs ((0, k, as ++ [t]) :: stk) (cs :: css) K p ∧ pFr m (mGv m b as.length r) sl := by
  obtain ⟨b', rfl, e1, e2, e3, e4, e5, e6, e7, e8⟩ := mS_giveA h
  have hbb : b' = b := e1.symm.trans hb
  subst hbb
  have hr := mGv_r m b' as.length r
  have hv := mGv_v m b' as.length r
  have hlo := mS_low (m' := mGv m b' as.length r) h (fun a e q1 q2 q3 q4 q5 q6 q7 q8 q9 => hr _ _ (by omega) (by omega))
  have h4 := h.2.2.2.1
  have h5 := h.2.2.2.2.1
  have hf := h.2.2.2.2.2.1.1
  have h88 : m 88 (stk.length : Int) = 0 := by
    rcases hf with hf | hf
    · exact hf.2.1
    · rcases hf.1 with a1 | a1
      · exact absurd (show (0 : Nat) = 1 from a1) (by decide)
      · exact absurd (show (0 : Nat) = 2 from a1.1) (by decide)
  refine ⟨⟨hlo.1, hlo.2.1, hlo.2.2.1, ⟨hlo.2.2.2.1, hlo.2.2.2.2, h4.2.2.1, ?_, ?_⟩, h5, ⟨Or.inl ⟨rfl, ?_, ?_, b', rfl, ?_, ?_, ?_, ?_, e8⟩, e6⟩, e7⟩, ?_⟩
  · rw [hr _ _ (by omega) (by omega)]; exact h4.2.2.2.1
  · rw [hr _ _ (by omega) (by omega)]; exact h4.2.2.2.2
  · rw [hr _ _ (by omega) (by omega)]; exact h88
  · show (as ++ [t]).length ≤ 2
    simp; omega
  · rw [hr _ _ (by omega) (by omega)]; exact e1
  · rw [hr _ _ (by omega) (by omega)]; exact e5
  · rw [hv.2.1]
    show _ = (((as ++ [t]).length : Nat) : Int)
    simp
  · rw [hv.2.2]
    show _ = if (as ++ [t]).length = 0 then _ else _
    rw [if_neg (by simp)]
  · intro a e q1 q2 q3 q4 q5 q6 q7 q8
    refine hr a e (fun z => q3 ⟨z.1, ?_, ?_⟩) (fun z => q2 ⟨by omega, ?_, ?_⟩)
    · omega
    · have := h4.2.2.1; omega
    · omega
    · omega
end MW
