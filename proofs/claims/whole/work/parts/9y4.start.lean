/-! GLUE: the empty state; the law holds of every script -/
def gF0 (z : Nat) : Prop := 74 ≤ z ∧ z < 119
def gZ0 : cZ := ([], [], [], 58, 59, 60, 20, (62, 63, 65, 64, 66, 61), (67, 68))
theorem g_po {q r : Nat} (h1 : gT0.1 q = some (5, 3)) (h2 : gm0 q 1 = (r : Nat)) (h3 : gT0.1 r = some (113, 20)) (h4 : gm0 q 2 = 0) (h5 : gm0 q 0 = 14) (h6 : fr_cells[r - 1]? = some (r, 113, 20, [(20, .ref 14)])) (hr : r ≠ 0) : cPo gT0 gm0 gF0 q r [] := ⟨h1, h2, h3, h4, Nat.zero_le _, (fun i cl h => by cases h), ⟨14, h5, rfl⟩, fun i hi => ⟨14, g_c14 h6 hr (by omega) (by omega), rfl⟩⟩
theorem g_ps : cPs gT0 gm0 gF0 [] [] := by
  refine ⟨g_po rfl rfl rfl rfl rfl rfl (by decide), rfl, Nat.zero_le _, [24, 26, 28, 30, 32, 34], [[], [], [], [], [], []], rfl, by decide, by decide, rfl, rfl, fun i q X h1 h2 => ?_⟩
  match i, h1, h2 with
  | 0, h1, h2 => cases h1; cases h2; exact ⟨rfl, g_po rfl rfl rfl rfl rfl rfl (by decide)⟩
  | 1, h1, h2 => cases h1; cases h2; exact ⟨rfl, g_po rfl rfl rfl rfl rfl rfl (by decide)⟩
  | 2, h1, h2 => cases h1; cases h2; exact ⟨rfl, g_po rfl rfl rfl rfl rfl rfl (by decide)⟩
  | 3, h1, h2 => cases h1; cases h2; exact ⟨rfl, g_po rfl rfl rfl rfl rfl rfl (by decide)⟩
  | 4, h1, h2 => cases h1; cases h2; exact ⟨rfl, g_po rfl rfl rfl rfl rfl rfl (by decide)⟩
  | 5, h1, h2 => cases h1; cases h2; exact ⟨rfl, g_po rfl rfl rfl rfl rfl rfl (by decide)⟩
  | i + 6, h1, h2 => cases h1
theorem g_ro : cRo gF0 gT0 gm0 gZ0 := by
  have z66 : gxz 66 = true := by decide +kernel
  have z62 : gxz 62 = true := by decide +kernel
  have z68 : gxz 68 = true := by decide +kernel
  have e47 : gm0 47 10 = 0 := rfl
  have e53 : gm0 53 7 = 0 := rfl
  refine ⟨⟨by decide, fun b hb => ?_⟩, fun b hb => Or.inr hb.1, ⟨by decide, by decide⟩, ⟨rfl, rfl⟩, ⟨rfl, rfl⟩, ⟨rfl, rfl⟩, ⟨⟨rfl, rfl⟩, ⟨rfl, rfl⟩, ⟨rfl, rfl⟩, ⟨rfl, rfl⟩, ⟨rfl, rfl⟩, rfl, rfl⟩, ⟨⟨rfl, rfl⟩, ⟨rfl, rfl⟩, ⟨rfl, rfl⟩, rfl, rfl⟩, ⟨fun z _ _ => g_z0 z62 z, fun z => ?_, ?_⟩, fun z => ?_, ?_⟩
  · have hb : b ∈ [58, 59, 60, 62, 63, 65, 64, 66, 61, 67, 68] := hb
    simp only [List.mem_cons, List.not_mem_nil, or_false] at hb
    refine ⟨by omega, by omega, by omega, by omega, by omega, fun q => ?_⟩
    have q : 74 ≤ b ∧ b < 119 := q
    omega
  · rw [e47]
    exact Int.le_of_eq (g_z0 z66 z)
  · rw [e47]
    exact Int.le_refl _
  · rw [e53]
    exact Int.le_of_eq (g_z0 z68 z)
  · rw [e53]
    exact Int.le_refl _
theorem g_id : cId gF0 0 gT0 gm0 gZ0 := by
  have z37 : gxz 37 = true := by decide +kernel
  have z38 : gxz 38 = true := by decide +kernel
  refine ⟨⟨g_ro, ⟨⟨Nat.zero_le _, (fun j c h => by cases h), fun j _ => g_z0 z37 j, List.nodup_nil⟩, Nat.zero_le _, (fun j c h => by cases h), fun j _ => g_z0 z38 j, List.nodup_nil⟩, ⟨fun b hb => ?_, fun i i1 i2 => ⟨14, 9, g_c14 rfl (by decide) i1 i2, rfl⟩, 9, rfl⟩, ?_, ?_⟩, rfl, rfl, rfl⟩
  · rw [show gT0.1 b = some (98, 0) from if_pos hb]
    simp
  · exact Int.le_of_eq rfl
  · exact Int.le_of_eq rfl
theorem g_wf : sWf gT0 119 := by
  intro b x h
  by_cases c : 74 ≤ b ∧ b < 119
  · exact c.2
  · have h : (if 74 ≤ b ∧ b < 119 then some (98, 0) else sT dC b) = some x := h
    rw [if_neg c] at h
    have h : (match dC b with
      | true => sT0 b
      | false => none) = some x := h
    split at h
    · exact (sT0_some h).2.1
    · cases h
theorem g_c : jC 0 ([], [], [], none) gT0 119 170454 gm0 := by
  refine ⟨⟨rfl, Nat.zero_le _, fun i hi => absurd hi (Nat.not_lt_zero i), fun c hc => by cases hc⟩, fun i i1 i2 => ?_, ⟨rfl, rfl, rfl, rfl, rfl, rfl, rfl, rfl, rfl, rfl, rfl, rfl, rfl⟩, ⟨rfl, rfl⟩, gF0, gZ0, 119, 170454, 0, 0, g_ps, ⟨Or.inl rfl, g_wf, by decide, rfl, rfl, rfl⟩, ⟨Nat.le_refl _, Nat.le_refl _, Nat.le_refl _⟩, Nat.le_refl _, fun z z1 z2 => ⟨z1, z2⟩, fun _ => g_id, fun q hq => by cases hq⟩
  have hi : i = 0 ∨ i = 1 ∨ i = 2 ∨ i = 3 ∨ i = 4 ∨ i = 5 ∨ i = 6 ∨ i = 7 := by omega
  rcases hi with rfl | rfl | rfl | rfl | rfl | rfl | rfl | rfl <;> rfl
theorem g_m : jM 0 ([], [], [], none) gm0 := by
  have z79 : gxz 79 = true := by decide +kernel
  have z83 : gxz 83 = true := by decide +kernel
  have z95 : gxz 95 = true := by decide +kernel
  have z96 : gxz 96 = true := by decide +kernel
  have z113 : gxz 113 = true := by decide +kernel
  have z115 : gxz 115 = true := by decide +kernel
  refine ⟨⟨rfl, Nat.zero_le _, fun i hi => absurd hi (Nat.not_lt_zero i), fun c hc => by cases hc⟩, fun sl _ _ => ⟨fun e _ _ => by rw [g_z0 z79]; decide, fun e _ _ => by rw [g_z0 z83]; decide⟩, fun e e1 e2 => g_97 e1 e2, [], [], 0, 0, ⟨⟨rfl, Nat.zero_le _, rfl, List.nodup_nil, fun k cl sl h => by cases h⟩, rfl, Nat.zero_le _, rfl, trivial, fun i X s h => by cases h⟩, Nat.le_refl _, fun _ => ⟨⟨fun e he => ?_, rfl, fun e _ _ => ⟨g_z0 z95 e, g_z0 z96 e⟩, fun e e1 e2 => g_97 e1 e2⟩, ⟨⟨0, ⟨rfl, by decide, fun v _ => ⟨0, Nat.le_refl _, ?_⟩⟩, Nat.le_refl _⟩, 0, ⟨rfl, by decide, fun e _ _ => ?_⟩, Nat.le_refl _⟩, Nat.le_refl _⟩, fun q hq => by cases hq⟩
  · rcases he with rfl | rfl | rfl | rfl | rfl | rfl | rfl | rfl | rfl | rfl | rfl <;> rfl
  · rw [g_z0 z113]
    rfl
  · rw [g_z0 z115]
    decide
theorem im_goal {L : Nat} (hL : L ≤ 1536) (xs : Nat → Int32) : im_Goal L xs := g_loop hL ⟨([], [], [], none), gT0, 119, 170454, gm0, gm0, ⟨(fun cl h => by cases h), (fun X h => by cases h), fun E B e => by cases e⟩, g_c, g_m, fun a h1 h2 => if_pos ⟨h1, h2⟩, gRC _, gRM _, im_rp_0 _ _⟩
