/-! A COMPOUND IS REPLACED BY ITS ARGUMENTS -/
theorem vIn_ex {w : Nat} {b : pE} (hl : isL b) (h : vIn w b) : ∃ j, j < eN b ∧ vIn w (eAr b j) := by
  have := (ar_in (fun y => .var y) w b hl).mp (by rw [sb_var]; exact h)
  obtain ⟨j, h1, h2⟩ := this
  rw [sb_var] at h2
  exact ⟨j, h1, h2⟩
section CAR
variable {X : cX} {T : hy_T} {m : hy_m} {B : bM} {sus lf : Nat → Prop} {S N : List Int} {e k : Int} {b : pE}
theorem dI_args (hw : cW X T m) (h : dI (eTm X m) (mkf X) B sus (e :: S) lf) (he : cTm X m e (.mulL k b)) (e0 : 0 ≤ e) (hD : ∀ w, vIn w b → cDm X w) (hl : isL b) (hN : aPs X m b (eN b) N) : dI (eTm X m) (mkf X) B sus (N ++ S) lf := by
  obtain ⟨a1, a2, a3, a4⟩ := hN
  have het : eTm X m e (.mulL k b) := Or.inl ⟨e0, he, hD⟩
  refine dI_pop h (fun _ q => q) h.1 (fun t ht w hwt => ?_) (fun v hv s hs e' he' t ht => ?_) (fun s hm => ?_)
  · rw [eTm_uq hw ht het] at hwt
    obtain ⟨j, h1, h2⟩ := vIn_ex hl hwt
    obtain ⟨e', g1, g2⟩ := a3 j h1
    exact Or.inr ⟨e', g1, _, Or.inl ⟨(a2 e' g1).1, g2, fun z hz => hD z (vIn_ar z b j hl h1 hz)⟩, h2⟩
  · obtain ⟨g1, j, g2, g3⟩ := a2 e' he'
    have ht' : t = eAr b j := by
      rcases ht with ht | ⟨z, w, _, q, _⟩
      · exact cTm_uq ht.2.1 g3
      · omega
    rw [ht']
    have z1 := ar_sz v b j hl g2
    have z2 : sz (sb v (.mulL k b)) = 1 + sz (sb v b) := rfl
    rcases hs _ het with q | q
    · exact Or.inl (by omega)
    · exact Or.inl (by have := q.1; omega)
  · have := (a2 _ hm).1
    have := mkf_neg (X := X) s
    omega
end CAR
