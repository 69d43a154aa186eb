section MG
variable {m : hy_m} {tx : List Int} {sl c : Nat} {vs : List Int} {K : List (pE × Int)} {p : Nat} {Q : Int → hy_m → Prop} {qy : Bool} {hd : Option pE} {gs : List pE}
/-- a goal or a head begins -/
theorem sp_186g (t0 : pE) (nm0 : Bool) (stk0 : List pF) (h : mS m tx sl c vs [] [] K p) (hU : mU m sl c K []) (hcr : c ≤ p) (hq : ∀ r m', tO m m' tx qy sl (0, vs, hd, gs, t0, nm0, stk0, p) hd gs K p r → Q r m') : wq_186 1 (if (!qy && hd.isNone) = true then 1 else 0) m Q := by
  have hC := h.2.1
  have h15 := hC.2.2.1
  unfold wq_186
  rw [h15]
  refine ⟨fun n1 => ⟨fun _ => sp_180 hC.2.1 (hq _ _ ⟨pFr_18 _ _ _, Or.inr (Or.inr ⟨p, hy_us _ _ _ _, pRun_e tx qy ?_, mPg_fr hU.2 (fun e => hy_ua (by decide))⟩)⟩), fun q => absurd q (by decide)⟩, fun k1 => ?_⟩
  · unfold pSt
    dsimp only
    rw [if_pos rfl, if_neg n1]
  · refine sp_187 (hd := hd) (gs := gs) (qy := qy) (0, vs, hd, gs, t0, nm0, stk0, p) h hU k1 (by show c + 0 ≤ p; omega) (Nat.zero_le _) ?_ (fun hno => ?_) (fun hy => ?_) hq
    · split
      · exact Or.inr rfl
      · exact Or.inl rfl
    · unfold pSt
      dsimp only
      rw [if_pos rfl, if_pos k1, if_neg]
      intro q
      refine hno ⟨?_, ?_, q.2⟩
      · have := q.1
        rw [Bool.and_eq_true] at this
        rw [if_pos this.1]
      · have := q.1
        rw [Bool.and_eq_true] at this
        exact this.2
    · unfold pSt
      dsimp only
      rw [if_pos rfl, if_pos k1, if_pos]
      refine ⟨?_, hy.2.2⟩
      rw [Bool.and_eq_true]
      refine ⟨?_, hy.2.1⟩
      have h1 := hy.1
      split at h1
      · assumption
      · exact absurd h1 (by decide)
end MG
