/-! MARKS ON THE STACK, and how many steps are left -/
def sV (X : cX) (e w : Nat) : Prop := ∃ i n : Nat, xL X i ∧ n < xV X i ∧ e = 8 * i + n ∧ w = xP X i + n
def eTm (X : cX) (m : hy_m) (e : Int) (t : pE) : Prop := (0 ≤ e ∧ cTm X m e t ∧ ∀ w, vIn w t → cDm X w) ∨ ∃ s w : Nat, sV X s w ∧ e = -1 - (s : Int) ∧ t = .var w
noncomputable def mkf (X : cX) (w : Nat) : Int := @dite Int (∃ e, sV X e w) (Classical.propDecidable _) (fun h => -1 - ((Classical.choose h : Nat) : Int)) (fun _ => -100000 - (w : Int))
section MKF
variable {X : cX} {T : hy_T} {m : hy_m} {e w w' : Nat} {x : Int} {t t' : pE}
theorem sV_lt (hw : cW X T m) (h : sV X e w) : e < 8 * xcap X := by
  obtain ⟨i, n, h1, h2, rfl, rfl⟩ := h
  obtain ⟨g1, g2, g3, g4, g5⟩ := hw.2.2.2.2.2 i h1
  omega
theorem sV_w (hw : cW X T m) (h : sV X e w) (h' : sV X e w') : w = w' := by
  obtain ⟨i, n, h1, h2, rfl, rfl⟩ := h
  obtain ⟨i', n', h1', h2', e1, rfl⟩ := h'
  have g4 := (hw.2.2.2.2.2 i h1).2.2.2.1
  have g4' := (hw.2.2.2.2.2 i' h1').2.2.2.1
  have c : i = i' ∧ n = n' := by omega
  rw [c.1, c.2]
theorem sV_e {e' : Nat} (hO : cOr X) (h : sV X e w) (h' : sV X e' w) : e = e' := by
  obtain ⟨i, n, h1, h2, rfl, rfl⟩ := h
  obtain ⟨i', n', h1', h2', rfl, e1⟩ := h'
  obtain ⟨c1, c2⟩ := cOr_uq hO h1 h1' h2 h2' e1
  rw [c1, c2]
theorem mkf_e (hO : cOr X) (h : sV X e w) : mkf X w = -1 - (e : Int) := by
  have hh : ∃ e, sV X e w := ⟨e, h⟩
  unfold mkf
  rw [dif_pos hh, sV_e hO (Classical.choose_spec hh) h]
theorem mkf_n (h : ¬ ∃ e, sV X e w) : mkf X w = -100000 - (w : Int) := by
  unfold mkf
  rw [dif_neg h]
theorem mkf_inj (hw : cW X T m) (hO : cOr X) (h : mkf X w = mkf X w') : w = w' := by
  have hcap := hw.2.2.1
  by_cases c : ∃ e, sV X e w
  · obtain ⟨e, he⟩ := c
    have l1 := sV_lt hw he
    rw [mkf_e hO he] at h
    by_cases c' : ∃ e, sV X e w'
    · obtain ⟨e', he'⟩ := c'
      rw [mkf_e hO he'] at h
      have q : e = e' := by omega
      subst q
      exact sV_w hw he he'
    · rw [mkf_n c'] at h
      omega
  · rw [mkf_n c] at h
    by_cases c' : ∃ e, sV X e w'
    · obtain ⟨e', he'⟩ := c'
      have l1 := sV_lt hw he'
      rw [mkf_e hO he'] at h
      omega
    · rw [mkf_n c'] at h
      omega
theorem mkf_neg (w : Nat) : mkf X w < 0 := by
  unfold mkf
  split <;> omega
theorem eTm_mk (hw : cW X T m) (hO : cOr X) (h : eTm X m (mkf X w) t) : t = .var w := by
  have hcap := hw.2.2.1
  rcases h with h | ⟨s, w', h1, h2, rfl⟩
  · have := mkf_neg (X := X) w
    omega
  · have l1 := sV_lt hw h1
    by_cases c : ∃ e, sV X e w
    · obtain ⟨e, he⟩ := c
      rw [mkf_e hO he] at h2
      have q : e = s := by omega
      subst q
      rw [sV_w hw he h1]
    · rw [mkf_n c] at h2
      omega
theorem eTm_uq (hw : cW X T m) (h : eTm X m x t) (h' : eTm X m x t') : t = t' := by
  rcases h with ⟨h1, h2, -⟩ | ⟨s, w, h1, h2, rfl⟩
  · rcases h' with ⟨h1', h2', -⟩ | ⟨s', w', h1', h2', rfl⟩
    · exact cTm_uq h2 h2'
    · omega
  · rcases h' with ⟨h1', h2', -⟩ | ⟨s', w', h1', h2', rfl⟩
    · omega
    · have q : s = s' := by omega
      subst q
      rw [sV_w hw h1 h1']
end MKF
/-- how many nodes -/
def nd : pE → Nat
  | .mulL _ a => 1 + nd a
  | .add a r => nd a + nd r
  | _ => 1
theorem nd_pos : ∀ t : pE, 1 ≤ nd t
  | .mulL _ a => by show 1 ≤ 1 + nd a; omega
  | .add a r => by
    have := nd_pos a
    show 1 ≤ nd a + nd r
    omega
  | .num _ => Nat.le_refl _
  | .var _ => Nat.le_refl _
  | .sub _ _ => Nat.le_refl _
  | .neg _ => Nat.le_refl _
  | .mulR _ _ => Nat.le_refl _
/-- what the slots that weren't looked at may still cost -/
def slS (g : Nat → Nat) : Nat → Nat
  | 0 => 0
  | n + 1 => g n + slS g n
theorem slS_eq {g g' : Nat → Nat} : ∀ (n : Nat), (∀ e, e < n → g' e = g e) → slS g' n = slS g n
  | 0, _ => rfl
  | n + 1, h => by
    show g' n + slS g' n = g n + slS g n
    rw [h n (Nat.lt_succ_self n), slS_eq n (fun e he => h e (Nat.lt_succ_of_lt he))]
theorem slS_off {g g' : Nat → Nat} {e : Nat} (h0 : g' e = 0) (ho : ∀ z, z ≠ e → g' z = g z) : ∀ (n : Nat), e < n → slS g' n + g e = slS g n
  | 0, h => absurd h (Nat.not_lt_zero _)
  | n + 1, h => by
    show g' n + slS g' n + g e = g n + slS g n
    by_cases c : e = n
    · subst c
      rw [h0, slS_eq e (fun z hz => ho z (by omega))]
      omega
    · have := slS_off h0 ho n (by omega)
      rw [ho n (fun q => c q.symm)]
      omega
theorem slS_le {g : Nat → Nat} {K : Nat} : ∀ (n : Nat), (∀ e, g e ≤ K) → slS g n ≤ K * n
  | 0, _ => Nat.zero_le _
  | n + 1, h => by
    have := slS_le n h
    have := h n
    show g n + slS g n ≤ K * (n + 1)
    rw [Nat.mul_add]
    omega
