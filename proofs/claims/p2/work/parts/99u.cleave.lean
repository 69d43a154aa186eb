/-! A VARIABLE IS LEFT -/
theorem slS_mono {g g' : Nat → Nat} : ∀ (n : Nat), (∀ e, g' e ≤ g e) → slS g' n ≤ slS g n
  | 0, _ => Nat.le_refl _
  | n + 1, h => by
    have := slS_mono n h
    have := h n
    show g' n + slS g' n ≤ g n + slS g n
    omega
theorem fil_drop {C : Int → pE → Prop} {v : Nat → pE} {r : Nat} {e : Int} {S : List Int} (h : yfP C v r ((e :: S).filter (fun e => decide (0 ≤ e)))) : yfP C v r (S.filter (fun e => decide (0 ≤ e))) := by
  by_cases c : 0 ≤ e
  · rw [List.filter_cons_of_pos (by exact decide_eq_true c)] at h
    exact yfP_drop h
  · rw [List.filter_cons_of_neg (by simp; omega)] at h
    exact h
section CLE
variable {X : cX} {U : uX} {T : hy_T} {m0 m m' : hy_m} {B : bM} {sus : Nat → Prop} {I L x1 e : Int} {S : List Int} {k z w : Nat}
theorem lIv_leave (hw : cW X T m0) (hO : cOr X) (hIL : I ≠ L) (hz : sV X z w) (het : eTm X m0 e (.var w)) (hacc : Acc (bEd B) w) (hd : dI (eTm X m0) (mkf X) B sus (e :: S) (fun w => ∃ z, sV X z w ∧ m (ym U) (z : Int) = L)) (hin : ∀ z w : Nat, sV X z w → m (ym U) (z : Int) = I → mkf X w ∈ e :: S) (hS : ∀ e' ∈ e :: S, ∃ t, eTm X m0 e' t) (hf : ∀ v, Sol B v → yfP (cTm X m0) v (8 * xcap X) ((e :: S).filter (fun e => decide (0 ≤ e)))) (hk : wgR (eTm X m0) (e :: S) k) (h0 : 0 ≤ x1) (hx : x1 + (k : Int) + ((slS (fun z => if m (ym U) (z : Int) = I ∨ m (ym U) (z : Int) = L then 0 else 363) (8 * xcap X) : Nat) : Int) ≤ 999999) (hl : (e :: S).length ≤ 76 * xcap X) (hfx : ∀ (a : Nat) (e : Int), a ≠ yp U → a ≠ ym U → ¬ (a = 47 ∧ e = 7) → m' a e = m0 a e) (hsk : sK U m' S) (hm : ∀ z' : Int, m' (ym U) z' = if z' = (z : Int) then L else m (ym U) z') : lIv X U m0 B sus I L (x1 + 1) m' := by
  obtain ⟨t, k', g1, g2, rfl⟩ := hk
  have hmz : ∀ z' : Nat, z' ≠ z → m' (ym U) (z' : Int) = m (ym U) (z' : Int) := fun z' q => by rw [hm, if_neg (by omega)]
  have hmL : m' (ym U) (z : Int) = L := by rw [hm, if_pos rfl]
  have hp := nd_pos t
  have hsl : slS (fun z => if m' (ym U) (z : Int) = I ∨ m' (ym U) (z : Int) = L then 0 else 363) (8 * xcap X) ≤ slS (fun z => if m (ym U) (z : Int) = I ∨ m (ym U) (z : Int) = L then 0 else 363) (8 * xcap X) := slS_mono _ (fun z' => by
    by_cases c : z' = z
    · subst c
      show (if m' (ym U) (z' : Int) = I ∨ m' (ym U) (z' : Int) = L then 0 else 363) ≤ _
      rw [if_pos (Or.inr hmL)]
      exact Nat.zero_le _
    · show (if m' (ym U) (z' : Int) = I ∨ m' (ym U) (z' : Int) = L then 0 else 363) ≤ _
      rw [hmz z' c]
      exact Nat.le_refl _)
  refine ⟨S, k', hfx, hsk, by rw [List.length_cons] at hl; omega, fun e' he' => hS e' (List.mem_cons_of_mem _ he'), ?_, fun z' w' hz' hI => ?_, fun v hv => fil_drop (hf v hv), g2, by omega, by omega⟩
  · refine dI_pop (N := []) hd (fun w' ⟨z', q1, q2⟩ => ⟨z', q1, ?_⟩) (fun w' ⟨z', q1, q2⟩ => ?_) (fun t' ht' w' hw' => ?_) (fun v hv s hs e' he' => by cases he') (fun s q => by cases q)
    · by_cases c : z' = z
      · rw [c]
        exact hmL
      · rw [hmz z' c]
        exact q2
    · by_cases c : z' = z
      · subst c
        rw [← sV_w hw hz q1]
        exact hacc
      · rw [hmz z' c] at q2
        exact hd.1 w' ⟨z', q1, q2⟩
    · rw [eTm_uq hw ht' het] at hw'
      have hw' : w = w' := hw'
      subst hw'
      exact Or.inl ⟨z, hz, hmL⟩
  · have c : z' ≠ z := by
      intro c
      rw [c, hmL] at hI
      exact hIL hI.symm
    rw [hmz z' c] at hI
    rcases List.mem_cons.mp (hin z' w' hz' hI) with q | q
    · rw [← q] at het
      have := eTm_mk hw hO het
      injection this with this
      have this : w = w' := this
      subst this
      exact absurd (sV_e hO hz' hz) c
    · exact q
end CLE
