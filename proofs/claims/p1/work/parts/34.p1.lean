/-! p1: ONE CALL on the fresh state -/
/-- a closed pair of calls, by the kernel -/
noncomputable def fr_pr (M1 M2 : Nat) (as : List Value) : Bool := match im_rn mm_tb mx_kd mx_nf 100000 11 M1 (.ref 1 :: as) fr_h4 with
  | some r1 => match im_rn mm_tb mx_kd mx_nf 100000 11 M2 (.ref 74 :: as) r1.1 with
    | some r2 => (match r1.2 with
      | some (.int x) => decide (r2.2 = some (.int x))
      | _ => false) && ((match r1.1.2.2 74 with
      | some c => Nat.beq c.1 12
      | none => false) && ((match r2.1.2.2 1 with
      | some c => Nat.beq c.1 0
      | none => false) && (Nat.ble r2.1.1 600000 && Nat.ble r2.1.2.1 7000000)))
    | none => false
  | none => false
/-- a pair of calls on the fresh state, over every script -/
def fr_Pair (c0 : im_C) (M1 M2 : Nat) (as : List Value) : Prop := ∃ (h1 h2 : im_H) (x : Int32) (c1 c2 : im_C), wp_M 11 M1 (.ref 1 :: as) (im_rp c0 fr_h4) (fun r => r = (h1, some (.int x))) ∧ h1.2.2 0 = some c0 ∧ h1.2.2 74 = some c1 ∧ c1.1 = 12 ∧ wp_M 11 M2 (.ref 74 :: as) h1 (fun r => r = (h2, some (.int x))) ∧ h2.2.2 0 = some c0 ∧ h2.2.2 1 = some c2 ∧ c2.1 = 0 ∧ h2.1 ≤ 600000 + 1 ∧ h2.2.1 ≤ 7302250
theorem fr_pr_ok {M1 M2 : Nat} {as : List Value} (hp : fr_pr M1 M2 as = true) (c0 : im_C) : fr_Pair c0 M1 M2 as := by
  unfold fr_pr at hp
  split at hp
  · rename_i r1 g1
    split at hp
    · rename_i r2 g2
      simp only [Bool.and_eq_true] at hp
      obtain ⟨p1, p2, p3, p4, p5⟩ := hp
      split at p1
      · rename_i x hx
        split at p2
        · rename_i c1 hc1
          split at p3
          · rename_i c2 hc2
            have q1 := of_decide_eq_true p1
            obtain ⟨k1, k2⟩ := im_rn_rp (c0 := c0) fr_tb98 _ _ _ _ _ fr_ok0_4 g1
            obtain ⟨k3, k4⟩ := im_rn_rp (c0 := c0) fr_tb98 _ _ _ _ _ k2 g2
            have hc1' : (im_rp c0 r1.1).2.2 74 = some c1 := (im_rp_at k2 hc1 (by have := Nat.eq_of_beq_eq_true p2; omega)).1
            have hc2' : (im_rp c0 r2.1).2.2 1 = some c2 := (im_rp_at k4 hc2 (by have := Nat.eq_of_beq_eq_true p3; omega)).1
            refine ⟨im_rp c0 r1.1, im_rp c0 r2.1, x, c1, c2, ⟨_, _, k1, by rw [hx]⟩, im_rp_0 _ _, hc1', Nat.eq_of_beq_eq_true p2, ⟨_, _, k3, by rw [q1]⟩, im_rp_0 _ _, hc2', Nat.eq_of_beq_eq_true p3, ?_, ?_⟩
            · have := Nat.le_of_ble_eq_true p4
              show r2.1.1 ≤ _
              omega
            · have := Nat.le_of_ble_eq_true p5
              show r2.1.2.1 ≤ _
              omega
          · cases p3
        · cases p2
      · cases p1
    · cases hp
  · cases hp
theorem fr_same {c0 : im_C} {M1 M2 : Nat} {as : List Value} {x : Int32} (h1 : wp_M 9 M1 (.ref 1 :: as) (im_rp c0 fr_h4) (fun r => r = (im_rp c0 fr_h4, some (.int x)))) (h2 : wp_M 9 M2 (.ref 74 :: as) (im_rp c0 fr_h4) (fun r => r = (im_rp c0 fr_h4, some (.int x)))) : fr_Pair c0 M1 M2 as := by
  obtain ⟨f1, g1, -⟩ := fr_HF_rp c0 73 _ rfl
  obtain ⟨f2, g2, -⟩ := fr_HF_rp c0 0 _ rfl
  refine ⟨_, _, x, _, _, h1.deep (by decide), im_rp_0 _ _, g1, rfl, h2.deep (by decide), im_rp_0 _ _, g2, rfl, ?_, ?_⟩
  · rw [im_rp_1, fr_e4.2.1]
    decide
  · rw [im_rp_2, fr_e4.2.2]
    decide

theorem fk_wipe : fr_pr 2 70 [] = true := by decide +kernel
theorem fk_fault_0 : fr_pr 3 71 [.int 0] = true := by decide +kernel
theorem fk_fault_1 : fr_pr 3 71 [.int 1] = true := by decide +kernel
theorem fk_consult : fr_pr 4 75 [] = true := by decide +kernel
theorem fk_undo : fr_pr 7 78 [] = true := by decide +kernel
theorem fk_ask : fr_pr 13 88 [] = true := by decide +kernel
theorem fk_stop : fr_pr 15 89 [] = true := by decide +kernel
theorem fk_told_0 : fr_pr 8 81 [.int 0] = true := by decide +kernel
theorem fk_told_1 : fr_pr 8 81 [.int 1] = true := by decide +kernel
theorem fk_told_2 : fr_pr 8 81 [.int 2] = true := by decide +kernel
theorem fk_told_3 : fr_pr 8 81 [.int 3] = true := by decide +kernel
theorem fk_told_4 : fr_pr 8 81 [.int 4] = true := by decide +kernel
theorem fk_state_0 : fr_pr 16 92 [.int 0] = true := by decide +kernel
theorem fk_state_1 : fr_pr 16 92 [.int 1] = true := by decide +kernel
theorem fk_state_2 : fr_pr 16 92 [.int 2] = true := by decide +kernel
theorem fk_state_3 : fr_pr 16 92 [.int 3] = true := by decide +kernel
theorem fk_state_4 : fr_pr 16 92 [.int 4] = true := by decide +kernel
theorem fk_state_5 : fr_pr 16 92 [.int 5] = true := by decide +kernel
theorem fk_state_6 : fr_pr 16 92 [.int 6] = true := by decide +kernel
theorem fk_state_7 : fr_pr 16 92 [.int 7] = true := by decide +kernel
theorem fk_state_8 : fr_pr 16 92 [.int 8] = true := by decide +kernel
theorem fk_state_9 : fr_pr 16 92 [.int 9] = true := by decide +kernel
theorem fk_state_10 : fr_pr 16 92 [.int 10] = true := by decide +kernel
theorem fk_state_11 : fr_pr 16 92 [.int 11] = true := by decide +kernel
theorem fk_state_12 : fr_pr 16 92 [.int 12] = true := by decide +kernel
theorem fq_write (c0 : im_C) (c : Int32) : fr_Pair c0 1 69 [.int c] := by
  by_cases h1 : c < 32
  · exact fr_same (fp_write_a1 (fr_HF_rp c0) c h1) (fp_write_a2 (fr_HF_rp c0) c h1)
  · by_cases h2 : 126 < c
    · exact fr_same (fp_write_b1 (fr_HF_rp c0) c h1 h2) (fp_write_b2 (fr_HF_rp c0) c h1 h2)
    · obtain ⟨h3, h4, g1, g2, g3, g4, g5, g6, g7, g8⟩ := fp_write_w (fr_HF_rp c0) ⟨c0, im_rp_0 _ _⟩ c h1 h2
      obtain ⟨f1, k1, -⟩ := fr_HF_rp c0 73 _ rfl
      obtain ⟨f2, k2, -⟩ := fr_HF_rp c0 0 _ rfl
      refine ⟨h3, h4, _, _, _, g1.deep (by decide), g3.trans (im_rp_0 _ _), g5.trans k1, rfl, g2.deep (by decide), g4.trans (im_rp_0 _ _), g6.trans k2, rfl, ?_, ?_⟩
      · rw [g7, im_rp_1, fr_e4.2.1]; decide
      · rw [g8, im_rp_2, fr_e4.2.2]; decide
theorem fq_wipe (c0 : im_C)  : fr_Pair c0 2 70 [] := by
  exact fr_pr_ok fk_wipe c0
theorem fq_fault (c0 : im_C) (c : Int32) : fr_Pair c0 3 71 [.int c] := by
  by_cases h1 : c < 0
  · exact fr_same (fp_fault_a1 (fr_HF_rp c0) c h1) (fp_fault_a2 (fr_HF_rp c0) c h1)
  · by_cases h2 : 1 < c
    · exact fr_same (fp_fault_b1 (fr_HF_rp c0) c h2) (fp_fault_b2 (fr_HF_rp c0) c h2)
    · obtain ⟨j, hj, rfl⟩ := nI_of2 (n := 1) (M := 1) rfl h1 (Int32.not_lt.mp h2)
      match j, hj with
      | 0, _ => exact fr_pr_ok fk_fault_0 c0
      | 1, _ => exact fr_pr_ok fk_fault_1 c0
      | j + 2, hj => omega
theorem fq_consult (c0 : im_C)  : fr_Pair c0 4 75 [] := by
  exact fr_pr_ok fk_consult c0
theorem fq_retract (c0 : im_C) (c : Int32) : fr_Pair c0 5 76 [.int c] := by
  by_cases h1 : c < 0
  · exact fr_same (fp_retract_a1 (fr_HF_rp c0) c h1) (fp_retract_a2 (fr_HF_rp c0) c h1)
  · exact fr_same (fp_retract_b1 (fr_HF_rp c0) c h1) (fp_retract_b2 (fr_HF_rp c0) c h1)
theorem fq_move (c0 : im_C) (c : Int32) (d : Int32) : fr_Pair c0 6 77 [.int c, .int d] := by
  by_cases h1 : c < 0
  · exact fr_same (fp_move_a1 (fr_HF_rp c0) c d h1) (fp_move_a2 (fr_HF_rp c0) c d h1)
  · exact fr_same (fp_move_b1 (fr_HF_rp c0) c d h1) (fp_move_b2 (fr_HF_rp c0) c d h1)
theorem fq_undo (c0 : im_C)  : fr_Pair c0 7 78 [] := by
  exact fr_pr_ok fk_undo c0
theorem fq_told (c0 : im_C) (c : Int32) : fr_Pair c0 8 81 [.int c] := by
  by_cases h1 : c.toInt < 0
  · exact fr_same (fp_told_a1 (fr_HF_rp c0) c h1) (fp_told_a2 (fr_HF_rp c0) c h1)
  · by_cases h2 : 4 < c.toInt
    · exact fr_same (fp_told_b1 (fr_HF_rp c0) c h1 h2) (fp_told_b2 (fr_HF_rp c0) c h1 h2)
    · obtain ⟨j, hj, rfl⟩ := nI_of2 (n := 4) (M := 4) rfl (fun q => h1 (fr_t0r q)) (by rw [Int32.le_iff_toInt_le]; exact Int.not_lt.mp h2)
      match j, hj with
      | 0, _ => exact fr_pr_ok fk_told_0 c0
      | 1, _ => exact fr_pr_ok fk_told_1 c0
      | 2, _ => exact fr_pr_ok fk_told_2 c0
      | 3, _ => exact fr_pr_ok fk_told_3 c0
      | 4, _ => exact fr_pr_ok fk_told_4 c0
      | j + 5, hj => omega
theorem fq_clause (c0 : im_C) (c : Int32) (d : Int32) : fr_Pair c0 9 82 [.int c, .int d] := by
  by_cases h1 : c < 0
  · exact fr_same (fp_clause_a1 (fr_HF_rp c0) c d h1) (fp_clause_a2 (fr_HF_rp c0) c d h1)
  · exact fr_same (fp_clause_b1 (fr_HF_rp c0) c d h1) (fp_clause_b2 (fr_HF_rp c0) c d h1)
theorem fq_listing (c0 : im_C) (c : Int32) (d : Int32) : fr_Pair c0 10 95 [.int c, .int d] := by
  by_cases h1 : c < 0
  · exact fr_same (fp_listing_a1 (fr_HF_rp c0) c d h1) (fp_listing_a2 (fr_HF_rp c0) c d h1)
  · exact fr_same (fp_listing_b1 (fr_HF_rp c0) c d h1) (fp_listing_b2 (fr_HF_rp c0) c d h1)
theorem fq_overlaps (c0 : im_C) (c : Int32) : fr_Pair c0 11 83 [.int c] := by
  by_cases h1 : c < 0
  · exact fr_same (fp_overlaps_a1 (fr_HF_rp c0) c h1) (fp_overlaps_a2 (fr_HF_rp c0) c h1)
  · exact fr_same (fp_overlaps_b1 (fr_HF_rp c0) c h1) (fp_overlaps_b2 (fr_HF_rp c0) c h1)
theorem fq_reaches (c0 : im_C) (c : Int32) (d : Int32) : fr_Pair c0 12 84 [.int c, .int d] := by
  by_cases h1 : c < 0
  · exact fr_same (fp_reaches_a1 (fr_HF_rp c0) c d h1) (fp_reaches_a2 (fr_HF_rp c0) c d h1)
  · exact fr_same (fp_reaches_b1 (fr_HF_rp c0) c d h1) (fp_reaches_b2 (fr_HF_rp c0) c d h1)
theorem fq_ask (c0 : im_C)  : fr_Pair c0 13 88 [] := by
  exact fr_pr_ok fk_ask c0
theorem fq_run (c0 : im_C) (c : Int32) : fr_Pair c0 14 87 [.int c] := by
  by_cases h1 : c < 1
  · exact fr_same (fp_run_a1 (fr_HF_rp c0) c h1) (fp_run_a2 (fr_HF_rp c0) c h1)
  · by_cases h2 : 300 < c
    · exact fr_same (fp_run_b1 (fr_HF_rp c0) c h1 h2) (fp_run_b2 (fr_HF_rp c0) c h1 h2)
    · exact fr_same (fp_run_c1 (fr_HF_rp c0) c h1 h2) (fp_run_c2 (fr_HF_rp c0) c h1 h2)
theorem fq_stop (c0 : im_C)  : fr_Pair c0 15 89 [] := by
  exact fr_pr_ok fk_stop c0
theorem fq_state (c0 : im_C) (c : Int32) : fr_Pair c0 16 92 [.int c] := by
  by_cases h1 : c.toInt < 0
  · exact fr_same (fp_state_a1 (fr_HF_rp c0) c h1) (fp_state_a2 (fr_HF_rp c0) c h1)
  · by_cases h2 : 12 < c.toInt
    · exact fr_same (fp_state_b1 (fr_HF_rp c0) c h1 h2) (fp_state_b2 (fr_HF_rp c0) c h1 h2)
    · obtain ⟨j, hj, rfl⟩ := nI_of2 (n := 12) (M := 12) rfl (fun q => h1 (fr_t0r q)) (by rw [Int32.le_iff_toInt_le]; exact Int.not_lt.mp h2)
      match j, hj with
      | 0, _ => exact fr_pr_ok fk_state_0 c0
      | 1, _ => exact fr_pr_ok fk_state_1 c0
      | 2, _ => exact fr_pr_ok fk_state_2 c0
      | 3, _ => exact fr_pr_ok fk_state_3 c0
      | 4, _ => exact fr_pr_ok fk_state_4 c0
      | 5, _ => exact fr_pr_ok fk_state_5 c0
      | 6, _ => exact fr_pr_ok fk_state_6 c0
      | 7, _ => exact fr_pr_ok fk_state_7 c0
      | 8, _ => exact fr_pr_ok fk_state_8 c0
      | 9, _ => exact fr_pr_ok fk_state_9 c0
      | 10, _ => exact fr_pr_ok fk_state_10 c0
      | 11, _ => exact fr_pr_ok fk_state_11 c0
      | 12, _ => exact fr_pr_ok fk_state_12 c0
      | j + 13, hj => omega
theorem fq_variable (c0 : im_C) (c : Int32) (d : Int32) : fr_Pair c0 17 94 [.int c, .int d] := by
  exact fr_same (fp_variable_a1 (fr_HF_rp c0) c d ) (fp_variable_a2 (fr_HF_rp c0) c d )
theorem fq_value (c0 : im_C) (c : Int32) (d : Int32) : fr_Pair c0 18 96 [.int c, .int d] := by
  exact fr_same (fp_value_a1 (fr_HF_rp c0) c d ) (fp_value_a2 (fr_HF_rp c0) c d )
theorem fq_goal (c0 : im_C) (c : Int32) : fr_Pair c0 19 97 [.int c] := by
  by_cases h1 : c < 0
  · exact fr_same (fp_goal_a1 (fr_HF_rp c0) c h1) (fp_goal_a2 (fr_HF_rp c0) c h1)
  · exact fr_same (fp_goal_b1 (fr_HF_rp c0) c h1) (fp_goal_b2 (fr_HF_rp c0) c h1)
theorem fq_frame (c0 : im_C) (c : Int32) (d : Int32) : fr_Pair c0 20 98 [.int c, .int d] := by
  by_cases h1 : c < 0
  · exact fr_same (fp_frame_a1 (fr_HF_rp c0) c d h1) (fp_frame_a2 (fr_HF_rp c0) c d h1)
  · by_cases h2 : 0 < c
    · exact fr_same (fp_frame_b1 (fr_HF_rp c0) c d h2) (fp_frame_b2 (fr_HF_rp c0) c d h2)
    · have h0 : c = 0 := Int32.le_antisymm (Int32.not_lt.mp h2) (Int32.not_lt.mp h1)
      exact fr_same (fp_frame_z1 (fr_HF_rp c0) c d h0) (fp_frame_z2 (fr_HF_rp c0) c d h0)
theorem fq_choice (c0 : im_C) (c : Int32) (d : Int32) : fr_Pair c0 21 99 [.int c, .int d] := by
  by_cases h1 : c < 0
  · exact fr_same (fp_choice_a1 (fr_HF_rp c0) c d h1) (fp_choice_a2 (fr_HF_rp c0) c d h1)
  · exact fr_same (fp_choice_b1 (fr_HF_rp c0) c d h1) (fp_choice_b2 (fr_HF_rp c0) c d h1)
theorem fr_pairs (c0 : im_C) (xs : Nat → Int32) (j M1 M2 n : Nat) (hj : lw_ops[j]? = some (M1, M2, n)) : fr_Pair c0 M1 M2 (lw_as xs 0 n) := by
  match j, hj with
  | 0, hj => cases hj; exact fq_write c0 _
  | 1, hj => cases hj; exact fq_wipe c0 
  | 2, hj => cases hj; exact fq_fault c0 _
  | 3, hj => cases hj; exact fq_consult c0 
  | 4, hj => cases hj; exact fq_retract c0 _
  | 5, hj => cases hj; exact fq_move c0 _ _
  | 6, hj => cases hj; exact fq_undo c0 
  | 7, hj => cases hj; exact fq_told c0 _
  | 8, hj => cases hj; exact fq_clause c0 _ _
  | 9, hj => cases hj; exact fq_listing c0 _ _
  | 10, hj => cases hj; exact fq_overlaps c0 _
  | 11, hj => cases hj; exact fq_reaches c0 _ _
  | 12, hj => cases hj; exact fq_ask c0 
  | 13, hj => cases hj; exact fq_run c0 _
  | 14, hj => cases hj; exact fq_stop c0 
  | 15, hj => cases hj; exact fq_state c0 _
  | 16, hj => cases hj; exact fq_variable c0 _ _
  | 17, hj => cases hj; exact fq_value c0 _ _
  | 18, hj => cases hj; exact fq_goal c0 _
  | 19, hj => cases hj; exact fq_frame c0 _ _
  | 20, hj => cases hj; exact fq_choice c0 _ _
  | j + 21, hj => simp [lw_ops] at hj
theorem fr_goal {L : Nat} (hL : L ≤ 3) (xs : Nat → Int32) : im_Goal L xs := by
  refine wp_goal (lw_begin ?_)
  have ok : lw_Ok L xs (im_rp (99, L, fun j => .int (xs j)) fr_h4) := by
    obtain ⟨f2, k2, -⟩ := fr_HF_rp (99, L, fun j => .int (xs j)) 0 _ rfl
    refine ⟨im_rp_0 _ _, ⟨_, k2, rfl⟩, ?_, ?_⟩
    · rw [im_rp_1, fr_e4.2.1]
      decide
    · rw [im_rp_2, fr_e4.2.2]
      decide
  refine lw_loop (by omega) (fun k h => lw_Ok L xs h ∧ (k = 0 → h = im_rp (99, L, fun j => .int (xs j)) fr_h4)) (fun k h hi => hi.1) (fun k h hi => ⟨hi.1, fun q => absurd q (Nat.succ_ne_zero k)⟩) (fun k h hi hk j M1 M2 n hj => ?_) 2 0 _ (by omega) (by omega) (by omega) ⟨ok, fun _ => rfl⟩
  have hk0 : k = 0 := by omega
  subst hk0
  rw [hi.2 rfl]
  obtain ⟨h1, h2, x, c1, c2, g1, g2, g3, g4, g5, g6, g7, g8, g9, g10⟩ := fr_pairs (99, L, fun j => .int (xs j)) xs j M1 M2 n hj
  exact ⟨h1, h2, x, c1, g1, g2, g3, g4, g5, ⟨g6, ⟨c2, g7, g8⟩, g9, g10⟩, fun q => absurd q (Nat.succ_ne_zero 0)⟩

