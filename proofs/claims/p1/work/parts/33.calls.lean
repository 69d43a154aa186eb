/-! THE CALLS ON THE FRESH STATE: symbolic paths by the tracer (wip/whole/tracer.py), closed ones by the kernel -/
theorem wp_top {d : Nat} {mi : im_M} {pc : Nat} {lv : im_L} {st : List Value} {h : im_H} {Q : im_R → Prop} {x : Int32} (k : ∀ y, y = x → wp_X d mi pc lv (.int y :: st) h Q) : wp_X d mi pc lv (.int x :: st) h Q := k x rfl
theorem fr_ne {c k : Int32} (h : c < 0) (hk : 0 ≤ k) : ¬ c = k := fun q => absurd h (Int32.not_lt.mpr (q ▸ hk))
theorem fr_ne2 {c k : Int32} (h : 1 < c) (hk : k ≤ 1) : ¬ c = k := fun q => absurd h (Int32.not_lt.mpr (q ▸ hk))
theorem fr_nl {c : Int32} (h : 1 < c) : ¬ c < 0 := by
  rw [Int32.lt_iff_toInt_lt] at h ⊢
  have e1 : (1 : Int32).toInt = 1 := rfl
  have e2 : (0 : Int32).toInt = 0 := rfl
  omega
theorem fr_m1 {c : Int32} (h : ¬ c < 0) : (-1) < c := by
  rw [Int32.lt_iff_toInt_lt] at h ⊢
  have e1 : (-1 : Int32).toInt = -1 := rfl
  have e2 : (0 : Int32).toInt = 0 := rfl
  omega
theorem fr_m2 {c : Int32} (h : ¬ c < 0) : (-1) - c < 0 := by
  obtain ⟨j, hj, rfl⟩ := nI_of h
  rw [Int32.lt_iff_toInt_lt, Int32.toInt_sub, nI_toInt hj]
  have e1 : (-1 : Int32).toInt = -1 := rfl
  have e2 : (0 : Int32).toInt = 0 := rfl
  rw [e1, e2, Int.bmod_eq_of_le (by omega) (by omega)]
  omega
theorem fr_t0 {c : Int32} (h : c.toInt < 0) : c < 0 := by
  rw [Int32.lt_iff_toInt_lt]
  exact h
theorem fr_t0r {c : Int32} (h : c < 0) : c.toInt < 0 := by
  rw [Int32.lt_iff_toInt_lt] at h
  exact h
theorem fr_t12 {c : Int32} (h : 12 < c.toInt) : ¬ c ≤ 12 := by
  rw [Int32.le_iff_toInt_le]
  have e1 : (12 : Int32).toInt = 12 := rfl
  omega
set_option maxRecDepth 20000 in
theorem fp_write_a1 {HF : im_H} (hHF : fr_HF HF) (c : Int32) (h1 : c < 32) :  wp_M 9 1 [.ref 1, .int c] HF (fun r => r = (HF, some (.int (-1)))) := by
  refine wp_of rfl (Nat.le_of_ble_eq_true rfl) ?_
  refine wp_s (pc' := 1) (lv' := [(0, .ref 1), (1, .int c)]) (st' := [.int c]) (h' := HF) rfl (fun _ => rfl) ?_
  refine wp_s (pc' := 3) (lv' := [(0, .ref 1), (1, .int c)]) (st' := [.int 32, .int c]) (h' := HF) rfl (fun _ => rfl) ?_
  refine wp_b (st' := []) (t := 12) rfl rfl (if_pos h1) rfl ?_
  refine wp_s (pc' := 13) (lv' := [(0, .ref 1), (1, .int c)]) (st' := [.int (-1)]) (h' := HF) rfl (fun _ => rfl) ?_
  exact wp_r (r := (HF, some (.int (-1)))) rfl (fun _ => rfl) rfl

set_option maxRecDepth 20000 in
theorem fp_write_a2 {HF : im_H} (hHF : fr_HF HF) (c : Int32) (h1 : c < 32) :  wp_M 9 69 [.ref 74, .int c] HF (fun r => r = (HF, some (.int (-1)))) := by
  have fp_write_a2_1 : wp_M 8 59 [.int c, .int 32, .int 126] HF (fun r => r = (HF, some (.int 0))) := by
    refine wp_of rfl (Nat.le_of_ble_eq_true rfl) ?_
    refine wp_s (pc' := 1) (lv' := [(0, .int c), (1, .int 32), (2, .int 126)]) (st' := [.int c]) (h' := HF) rfl (fun _ => rfl) ?_
    refine wp_s (pc' := 2) (lv' := [(0, .int c), (1, .int 32), (2, .int 126)]) (st' := [.int 32, .int c]) (h' := HF) rfl (fun _ => rfl) ?_
    refine wp_b (st' := []) (t := 14) rfl rfl (if_pos h1) rfl ?_
    refine wp_s (pc' := 15) (lv' := [(0, .int c), (1, .int 32), (2, .int 126)]) (st' := [.int 0]) (h' := HF) rfl (fun _ => rfl) ?_
    exact wp_r (r := (HF, some (.int 0))) rfl (fun _ => rfl) rfl
  refine wp_of rfl (Nat.le_of_ble_eq_true rfl) ?_
  refine wp_s (pc' := 1) (lv' := [(0, .ref 74), (1, .int c)]) (st' := [.int c]) (h' := HF) rfl (fun _ => rfl) ?_
  refine wp_s (pc' := 3) (lv' := [(0, .ref 74), (1, .int c)]) (st' := [.int 32, .int c]) (h' := HF) rfl (fun _ => rfl) ?_
  refine wp_s (pc' := 5) (lv' := [(0, .ref 74), (1, .int c)]) (st' := [.int 126, .int 32, .int c]) (h' := HF) rfl (fun _ => rfl) ?_
  refine wp_vs (t := 8) rfl rfl (Or.inl rfl) rfl rfl (Nat.le_of_ble_eq_true rfl) (wp_M.deep fp_write_a2_1 (by decide)) rfl (fun h' v hP => ?_)
  cases hP
  show wp_X _ _ 8 [(0, .ref 74), (1, .int c)] [.int 0] HF _
  refine wp_b (o := none) (st' := []) (t := 11) rfl rfl rfl rfl ?_
  refine wp_s (pc' := 12) (lv' := [(0, .ref 74), (1, .int c)]) (st' := [.int (-1)]) (h' := HF) rfl (fun _ => rfl) ?_
  exact wp_r (r := (HF, some (.int (-1)))) rfl (fun _ => rfl) rfl

set_option maxRecDepth 20000 in
theorem fp_write_b1 {HF : im_H} (hHF : fr_HF HF) (c : Int32) (h1 : ¬ c < 32) (h2 : 126 < c) :  wp_M 9 1 [.ref 1, .int c] HF (fun r => r = (HF, some (.int (-1)))) := by
  refine wp_of rfl (Nat.le_of_ble_eq_true rfl) ?_
  refine wp_s (pc' := 1) (lv' := [(0, .ref 1), (1, .int c)]) (st' := [.int c]) (h' := HF) rfl (fun _ => rfl) ?_
  refine wp_s (pc' := 3) (lv' := [(0, .ref 1), (1, .int c)]) (st' := [.int 32, .int c]) (h' := HF) rfl (fun _ => rfl) ?_
  refine wp_b (st' := []) (t := 6) rfl rfl (if_neg h1) rfl ?_
  refine wp_s (pc' := 7) (lv' := [(0, .ref 1), (1, .int c)]) (st' := [.int c]) (h' := HF) rfl (fun _ => rfl) ?_
  refine wp_s (pc' := 9) (lv' := [(0, .ref 1), (1, .int c)]) (st' := [.int 126, .int c]) (h' := HF) rfl (fun _ => rfl) ?_
  refine wp_b (st' := []) (t := 12) rfl rfl (if_neg (Int32.not_le.mpr h2)) rfl ?_
  refine wp_s (pc' := 13) (lv' := [(0, .ref 1), (1, .int c)]) (st' := [.int (-1)]) (h' := HF) rfl (fun _ => rfl) ?_
  exact wp_r (r := (HF, some (.int (-1)))) rfl (fun _ => rfl) rfl

set_option maxRecDepth 20000 in
theorem fp_write_b2 {HF : im_H} (hHF : fr_HF HF) (c : Int32) (h1 : ¬ c < 32) (h2 : 126 < c) :  wp_M 9 69 [.ref 74, .int c] HF (fun r => r = (HF, some (.int (-1)))) := by
  have fp_write_b2_1 : wp_M 8 59 [.int c, .int 32, .int 126] HF (fun r => r = (HF, some (.int 0))) := by
    refine wp_of rfl (Nat.le_of_ble_eq_true rfl) ?_
    refine wp_s (pc' := 1) (lv' := [(0, .int c), (1, .int 32), (2, .int 126)]) (st' := [.int c]) (h' := HF) rfl (fun _ => rfl) ?_
    refine wp_s (pc' := 2) (lv' := [(0, .int c), (1, .int 32), (2, .int 126)]) (st' := [.int 32, .int c]) (h' := HF) rfl (fun _ => rfl) ?_
    refine wp_b (st' := []) (t := 5) rfl rfl (if_neg h1) rfl ?_
    refine wp_s (pc' := 6) (lv' := [(0, .int c), (1, .int 32), (2, .int 126)]) (st' := [.int c]) (h' := HF) rfl (fun _ => rfl) ?_
    refine wp_s (pc' := 7) (lv' := [(0, .int c), (1, .int 32), (2, .int 126)]) (st' := [.int 126, .int c]) (h' := HF) rfl (fun _ => rfl) ?_
    refine wp_b (st' := []) (t := 14) rfl rfl (if_pos h2) rfl ?_
    refine wp_s (pc' := 15) (lv' := [(0, .int c), (1, .int 32), (2, .int 126)]) (st' := [.int 0]) (h' := HF) rfl (fun _ => rfl) ?_
    exact wp_r (r := (HF, some (.int 0))) rfl (fun _ => rfl) rfl
  refine wp_of rfl (Nat.le_of_ble_eq_true rfl) ?_
  refine wp_s (pc' := 1) (lv' := [(0, .ref 74), (1, .int c)]) (st' := [.int c]) (h' := HF) rfl (fun _ => rfl) ?_
  refine wp_s (pc' := 3) (lv' := [(0, .ref 74), (1, .int c)]) (st' := [.int 32, .int c]) (h' := HF) rfl (fun _ => rfl) ?_
  refine wp_s (pc' := 5) (lv' := [(0, .ref 74), (1, .int c)]) (st' := [.int 126, .int 32, .int c]) (h' := HF) rfl (fun _ => rfl) ?_
  refine wp_vs (t := 8) rfl rfl (Or.inl rfl) rfl rfl (Nat.le_of_ble_eq_true rfl) (wp_M.deep fp_write_b2_1 (by decide)) rfl (fun h' v hP => ?_)
  cases hP
  show wp_X _ _ 8 [(0, .ref 74), (1, .int c)] [.int 0] HF _
  refine wp_b (o := none) (st' := []) (t := 11) rfl rfl rfl rfl ?_
  refine wp_s (pc' := 12) (lv' := [(0, .ref 74), (1, .int c)]) (st' := [.int (-1)]) (h' := HF) rfl (fun _ => rfl) ?_
  exact wp_r (r := (HF, some (.int (-1)))) rfl (fun _ => rfl) rfl

set_option maxRecDepth 20000 in
theorem fp_fault_a1 {HF : im_H} (hHF : fr_HF HF) (c : Int32) (h1 : c < 0) :  wp_M 9 3 [.ref 1, .int c] HF (fun r => r = (HF, some (.int (-1)))) := by
  refine wp_of rfl (Nat.le_of_ble_eq_true rfl) ?_
  refine wp_s (pc' := 1) (lv' := [(0, .ref 1), (1, .int c)]) (st' := [.int c]) (h' := HF) rfl (fun _ => rfl) ?_
  refine wp_b (st' := []) (t := 22) rfl rfl (if_neg (fr_ne h1 (by decide))) rfl ?_
  refine wp_s (pc' := 23) (lv' := [(0, .ref 1), (1, .int c)]) (st' := [.int c]) (h' := HF) rfl (fun _ => rfl) ?_
  refine wp_s (pc' := 24) (lv' := [(0, .ref 1), (1, .int c)]) (st' := [.int 1, .int c]) (h' := HF) rfl (fun _ => rfl) ?_
  refine wp_b (st' := []) (t := 37) rfl rfl (if_neg (fr_ne h1 (by decide))) rfl ?_
  refine wp_s (pc' := 38) (lv' := [(0, .ref 1), (1, .int c)]) (st' := [.int (-1)]) (h' := HF) rfl (fun _ => rfl) ?_
  exact wp_r (r := (HF, some (.int (-1)))) rfl (fun _ => rfl) rfl

set_option maxRecDepth 20000 in
theorem fp_fault_a2 {HF : im_H} (hHF : fr_HF HF) (c : Int32) (h1 : c < 0) :  wp_M 9 71 [.ref 74, .int c] HF (fun r => r = (HF, some (.int (-1)))) := by
  have fp_fault_a2_1 : wp_M 8 59 [.int c, .int 0, .int 1] HF (fun r => r = (HF, some (.int 0))) := by
    refine wp_of rfl (Nat.le_of_ble_eq_true rfl) ?_
    refine wp_s (pc' := 1) (lv' := [(0, .int c), (1, .int 0), (2, .int 1)]) (st' := [.int c]) (h' := HF) rfl (fun _ => rfl) ?_
    refine wp_s (pc' := 2) (lv' := [(0, .int c), (1, .int 0), (2, .int 1)]) (st' := [.int 0, .int c]) (h' := HF) rfl (fun _ => rfl) ?_
    refine wp_b (st' := []) (t := 14) rfl rfl (if_pos h1) rfl ?_
    refine wp_s (pc' := 15) (lv' := [(0, .int c), (1, .int 0), (2, .int 1)]) (st' := [.int 0]) (h' := HF) rfl (fun _ => rfl) ?_
    exact wp_r (r := (HF, some (.int 0))) rfl (fun _ => rfl) rfl
  refine wp_of rfl (Nat.le_of_ble_eq_true rfl) ?_
  refine wp_s (pc' := 1) (lv' := [(0, .ref 74), (1, .int c)]) (st' := [.int c]) (h' := HF) rfl (fun _ => rfl) ?_
  refine wp_s (pc' := 2) (lv' := [(0, .ref 74), (1, .int c)]) (st' := [.int 0, .int c]) (h' := HF) rfl (fun _ => rfl) ?_
  refine wp_s (pc' := 3) (lv' := [(0, .ref 74), (1, .int c)]) (st' := [.int 1, .int 0, .int c]) (h' := HF) rfl (fun _ => rfl) ?_
  refine wp_vs (t := 6) rfl rfl (Or.inl rfl) rfl rfl (Nat.le_of_ble_eq_true rfl) (wp_M.deep fp_fault_a2_1 (by decide)) rfl (fun h' v hP => ?_)
  cases hP
  show wp_X _ _ 6 [(0, .ref 74), (1, .int c)] [.int 0] HF _
  refine wp_b (o := some (11)) (st' := []) (t := 17) rfl rfl rfl rfl ?_
  refine wp_s (pc' := 18) (lv' := [(0, .ref 74), (1, .int c)]) (st' := [.int (-1)]) (h' := HF) rfl (fun _ => rfl) ?_
  exact wp_r (r := (HF, some (.int (-1)))) rfl (fun _ => rfl) rfl

set_option maxRecDepth 20000 in
theorem fp_fault_b1 {HF : im_H} (hHF : fr_HF HF) (c : Int32) (h1 : 1 < c) :  wp_M 9 3 [.ref 1, .int c] HF (fun r => r = (HF, some (.int (-1)))) := by
  refine wp_of rfl (Nat.le_of_ble_eq_true rfl) ?_
  refine wp_s (pc' := 1) (lv' := [(0, .ref 1), (1, .int c)]) (st' := [.int c]) (h' := HF) rfl (fun _ => rfl) ?_
  refine wp_b (st' := []) (t := 22) rfl rfl (if_neg (fr_ne2 h1 (by decide))) rfl ?_
  refine wp_s (pc' := 23) (lv' := [(0, .ref 1), (1, .int c)]) (st' := [.int c]) (h' := HF) rfl (fun _ => rfl) ?_
  refine wp_s (pc' := 24) (lv' := [(0, .ref 1), (1, .int c)]) (st' := [.int 1, .int c]) (h' := HF) rfl (fun _ => rfl) ?_
  refine wp_b (st' := []) (t := 37) rfl rfl (if_neg (fr_ne2 h1 (by decide))) rfl ?_
  refine wp_s (pc' := 38) (lv' := [(0, .ref 1), (1, .int c)]) (st' := [.int (-1)]) (h' := HF) rfl (fun _ => rfl) ?_
  exact wp_r (r := (HF, some (.int (-1)))) rfl (fun _ => rfl) rfl

set_option maxRecDepth 20000 in
theorem fp_fault_b2 {HF : im_H} (hHF : fr_HF HF) (c : Int32) (h1 : 1 < c) :  wp_M 9 71 [.ref 74, .int c] HF (fun r => r = (HF, some (.int (-1)))) := by
  have fp_fault_b2_1 : wp_M 8 59 [.int c, .int 0, .int 1] HF (fun r => r = (HF, some (.int 0))) := by
    refine wp_of rfl (Nat.le_of_ble_eq_true rfl) ?_
    refine wp_s (pc' := 1) (lv' := [(0, .int c), (1, .int 0), (2, .int 1)]) (st' := [.int c]) (h' := HF) rfl (fun _ => rfl) ?_
    refine wp_s (pc' := 2) (lv' := [(0, .int c), (1, .int 0), (2, .int 1)]) (st' := [.int 0, .int c]) (h' := HF) rfl (fun _ => rfl) ?_
    refine wp_b (st' := []) (t := 5) rfl rfl (if_neg (fr_nl h1)) rfl ?_
    refine wp_s (pc' := 6) (lv' := [(0, .int c), (1, .int 0), (2, .int 1)]) (st' := [.int c]) (h' := HF) rfl (fun _ => rfl) ?_
    refine wp_s (pc' := 7) (lv' := [(0, .int c), (1, .int 0), (2, .int 1)]) (st' := [.int 1, .int c]) (h' := HF) rfl (fun _ => rfl) ?_
    refine wp_b (st' := []) (t := 14) rfl rfl (if_pos h1) rfl ?_
    refine wp_s (pc' := 15) (lv' := [(0, .int c), (1, .int 0), (2, .int 1)]) (st' := [.int 0]) (h' := HF) rfl (fun _ => rfl) ?_
    exact wp_r (r := (HF, some (.int 0))) rfl (fun _ => rfl) rfl
  refine wp_of rfl (Nat.le_of_ble_eq_true rfl) ?_
  refine wp_s (pc' := 1) (lv' := [(0, .ref 74), (1, .int c)]) (st' := [.int c]) (h' := HF) rfl (fun _ => rfl) ?_
  refine wp_s (pc' := 2) (lv' := [(0, .ref 74), (1, .int c)]) (st' := [.int 0, .int c]) (h' := HF) rfl (fun _ => rfl) ?_
  refine wp_s (pc' := 3) (lv' := [(0, .ref 74), (1, .int c)]) (st' := [.int 1, .int 0, .int c]) (h' := HF) rfl (fun _ => rfl) ?_
  refine wp_vs (t := 6) rfl rfl (Or.inl rfl) rfl rfl (Nat.le_of_ble_eq_true rfl) (wp_M.deep fp_fault_b2_1 (by decide)) rfl (fun h' v hP => ?_)
  cases hP
  show wp_X _ _ 6 [(0, .ref 74), (1, .int c)] [.int 0] HF _
  refine wp_b (o := some (11)) (st' := []) (t := 17) rfl rfl rfl rfl ?_
  refine wp_s (pc' := 18) (lv' := [(0, .ref 74), (1, .int c)]) (st' := [.int (-1)]) (h' := HF) rfl (fun _ => rfl) ?_
  exact wp_r (r := (HF, some (.int (-1)))) rfl (fun _ => rfl) rfl

set_option maxRecDepth 20000 in
theorem fp_retract_a1 {HF : im_H} (hHF : fr_HF HF) (c : Int32) (h1 : c < 0) :  wp_M 9 5 [.ref 1, .int c] HF (fun r => r = (HF, some (.int (-1)))) := by
  obtain ⟨f_1, hc_1, hf_1⟩ := hHF 0 _ rfl
  dsimp only at hc_1 hf_1
  obtain ⟨f_21, hc_21, hf_21⟩ := hHF 20 _ rfl
  dsimp only at hc_21 hf_21
  have fp_retract_a1_1 : wp_M 8 27 [.ref 21, .int c] HF (fun r => r = (HF, some (.int 0))) := by
    refine wp_of rfl (Nat.le_of_ble_eq_true rfl) ?_
    refine wp_s (pc' := 1) (lv' := [(0, .ref 21), (1, .int c)]) (st' := [.int c]) (h' := HF) rfl (fun _ => rfl) ?_
    refine wp_b (st' := []) (t := 16) rfl rfl (if_pos h1) rfl ?_
    refine wp_s (pc' := 17) (lv' := [(0, .ref 21), (1, .int c)]) (st' := [.int 0]) (h' := HF) rfl (fun _ => rfl) ?_
    exact wp_r (r := (HF, some (.int 0))) rfl (fun _ => rfl) rfl
  refine wp_of rfl (Nat.le_of_ble_eq_true rfl) ?_
  refine wp_s (pc' := 1) (lv' := [(0, .ref 1), (1, .int c)]) (st' := [.ref 1]) (h' := HF) rfl (fun _ => rfl) ?_
  refine wp_h (t := 4) rfl rfl (wh_gf (v := .ref 21) hc_1 (by decide) (hf_1 2 (by decide))) rfl ?_
  refine wp_s (pc' := 5) (lv' := [(0, .ref 1), (1, .int c)]) (st' := [.int c, .ref 21]) (h' := HF) rfl (fun _ => rfl) ?_
  refine wp_vi (t := 8) rfl rfl (Or.inl rfl) rfl rfl (Nat.le_of_ble_eq_true rfl) hc_21 rfl (wp_M.deep fp_retract_a1_1 (by decide)) rfl (fun h' v hP => ?_)
  cases hP
  show wp_X _ _ 8 [(0, .ref 1), (1, .int c)] [.int 0] HF _
  refine wp_b (o := none) (st' := []) (t := 11) rfl rfl rfl rfl ?_
  refine wp_s (pc' := 12) (lv' := [(0, .ref 1), (1, .int c)]) (st' := [.int (-1)]) (h' := HF) rfl (fun _ => rfl) ?_
  exact wp_r (r := (HF, some (.int (-1)))) rfl (fun _ => rfl) rfl

set_option maxRecDepth 20000 in
theorem fp_retract_a2 {HF : im_H} (hHF : fr_HF HF) (c : Int32) (h1 : c < 0) :  wp_M 9 76 [.ref 74, .int c] HF (fun r => r = (HF, some (.int (-1)))) := by
  obtain ⟨f_74, hc_74, hf_74⟩ := hHF 73 _ rfl
  dsimp only at hc_74 hf_74
  obtain ⟨f_85, hc_85, hf_85⟩ := hHF 84 _ rfl
  dsimp only at hc_85 hf_85
  have fp_retract_a2_1_2 : wp_M 7 59 [.int c, .int 0, .int (-1)] HF (fun r => r = (HF, some (.int 0))) := by
    refine wp_of rfl (Nat.le_of_ble_eq_true rfl) ?_
    refine wp_s (pc' := 1) (lv' := [(0, .int c), (1, .int 0), (2, .int (-1))]) (st' := [.int c]) (h' := HF) rfl (fun _ => rfl) ?_
    refine wp_s (pc' := 2) (lv' := [(0, .int c), (1, .int 0), (2, .int (-1))]) (st' := [.int 0, .int c]) (h' := HF) rfl (fun _ => rfl) ?_
    refine wp_b (st' := []) (t := 14) rfl rfl (if_pos h1) rfl ?_
    refine wp_s (pc' := 15) (lv' := [(0, .int c), (1, .int 0), (2, .int (-1))]) (st' := [.int 0]) (h' := HF) rfl (fun _ => rfl) ?_
    exact wp_r (r := (HF, some (.int 0))) rfl (fun _ => rfl) rfl
  have fp_retract_a2_1 : wp_M 8 74 [.ref 74, .int c] HF (fun r => r = (HF, some (.int 0))) := by
    refine wp_of rfl (Nat.le_of_ble_eq_true rfl) ?_
    refine wp_s (pc' := 1) (lv' := [(0, .ref 74), (1, .int c)]) (st' := [.int c]) (h' := HF) rfl (fun _ => rfl) ?_
    refine wp_s (pc' := 2) (lv' := [(0, .ref 74), (1, .int c)]) (st' := [.int 0, .int c]) (h' := HF) rfl (fun _ => rfl) ?_
    refine wp_s (pc' := 3) (lv' := [(0, .ref 74), (1, .int c)]) (st' := [.ref 74, .int 0, .int c]) (h' := HF) rfl (fun _ => rfl) ?_
    refine wp_h (t := 6) rfl rfl (wh_gf (v := .ref 85) hc_74 (by decide) (hf_74 11 (by decide))) rfl ?_
    refine wp_s (pc' := 7) (lv' := [(0, .ref 74), (1, .int c)]) (st' := [.int 0, .ref 85, .int 0, .int c]) (h' := HF) rfl (fun _ => rfl) ?_
    refine wp_h (t := 8) rfl rfl (wh_ia (j := 0) (v := .int 0) hc_85 (by decide) (by decide) (hf_85 0 (by decide))) rfl ?_
    refine wp_s (pc' := 9) (lv' := [(0, .ref 74), (1, .int c)]) (st' := [.int 1, .int 0, .int 0, .int c]) (h' := HF) rfl (fun _ => rfl) ?_
    refine wp_s (pc' := 10) (lv' := [(0, .ref 74), (1, .int c)]) (st' := [.int (-1), .int 0, .int c]) (h' := HF) rfl (fun _ => rfl) ?_
    refine wp_vs (t := 13) rfl rfl (Or.inl rfl) rfl rfl (Nat.le_of_ble_eq_true rfl) (wp_M.deep fp_retract_a2_1_2 (by decide)) rfl (fun h' v hP => ?_)
    cases hP
    show wp_X _ _ 13 [(0, .ref 74), (1, .int c)] [.int 0] HF _
    exact wp_r (r := (HF, some (.int 0))) rfl (fun _ => rfl) rfl
  refine wp_of rfl (Nat.le_of_ble_eq_true rfl) ?_
  refine wp_s (pc' := 1) (lv' := [(0, .ref 74), (1, .int c)]) (st' := [.ref 74]) (h' := HF) rfl (fun _ => rfl) ?_
  refine wp_s (pc' := 2) (lv' := [(0, .ref 74), (1, .int c)]) (st' := [.int c, .ref 74]) (h' := HF) rfl (fun _ => rfl) ?_
  refine wp_vi (t := 5) rfl rfl (Or.inl rfl) rfl rfl (Nat.le_of_ble_eq_true rfl) hc_74 rfl (wp_M.deep fp_retract_a2_1 (by decide)) rfl (fun h' v hP => ?_)
  cases hP
  show wp_X _ _ 5 [(0, .ref 74), (1, .int c)] [.int 0] HF _
  refine wp_b (o := none) (st' := []) (t := 8) rfl rfl rfl rfl ?_
  refine wp_s (pc' := 9) (lv' := [(0, .ref 74), (1, .int c)]) (st' := [.int (-1)]) (h' := HF) rfl (fun _ => rfl) ?_
  exact wp_r (r := (HF, some (.int (-1)))) rfl (fun _ => rfl) rfl

set_option maxRecDepth 20000 in
theorem fp_retract_b1 {HF : im_H} (hHF : fr_HF HF) (c : Int32) (h1 : ¬ c < 0) :  wp_M 9 5 [.ref 1, .int c] HF (fun r => r = (HF, some (.int (-1)))) := by
  obtain ⟨f_1, hc_1, hf_1⟩ := hHF 0 _ rfl
  dsimp only at hc_1 hf_1
  obtain ⟨f_21, hc_21, hf_21⟩ := hHF 20 _ rfl
  dsimp only at hc_21 hf_21
  have fp_retract_b1_1 : wp_M 8 27 [.ref 21, .int c] HF (fun r => r = (HF, some (.int 0))) := by
    refine wp_of rfl (Nat.le_of_ble_eq_true rfl) ?_
    refine wp_s (pc' := 1) (lv' := [(0, .ref 21), (1, .int c)]) (st' := [.int c]) (h' := HF) rfl (fun _ => rfl) ?_
    refine wp_b (st' := []) (t := 4) rfl rfl (if_neg h1) rfl ?_
    refine wp_s (pc' := 5) (lv' := [(0, .ref 21), (1, .int c)]) (st' := [.int c]) (h' := HF) rfl (fun _ => rfl) ?_
    refine wp_s (pc' := 6) (lv' := [(0, .ref 21), (1, .int c)]) (st' := [.ref 21, .int c]) (h' := HF) rfl (fun _ => rfl) ?_
    refine wp_h (t := 9) rfl rfl (wh_gf (v := .int 0) hc_21 (by decide) (hf_21 2 (by decide))) rfl ?_
    refine wp_b (st' := []) (t := 16) rfl rfl (if_pos (Int32.not_lt.mp h1)) rfl ?_
    refine wp_s (pc' := 17) (lv' := [(0, .ref 21), (1, .int c)]) (st' := [.int 0]) (h' := HF) rfl (fun _ => rfl) ?_
    exact wp_r (r := (HF, some (.int 0))) rfl (fun _ => rfl) rfl
  refine wp_of rfl (Nat.le_of_ble_eq_true rfl) ?_
  refine wp_s (pc' := 1) (lv' := [(0, .ref 1), (1, .int c)]) (st' := [.ref 1]) (h' := HF) rfl (fun _ => rfl) ?_
  refine wp_h (t := 4) rfl rfl (wh_gf (v := .ref 21) hc_1 (by decide) (hf_1 2 (by decide))) rfl ?_
  refine wp_s (pc' := 5) (lv' := [(0, .ref 1), (1, .int c)]) (st' := [.int c, .ref 21]) (h' := HF) rfl (fun _ => rfl) ?_
  refine wp_vi (t := 8) rfl rfl (Or.inl rfl) rfl rfl (Nat.le_of_ble_eq_true rfl) hc_21 rfl (wp_M.deep fp_retract_b1_1 (by decide)) rfl (fun h' v hP => ?_)
  cases hP
  show wp_X _ _ 8 [(0, .ref 1), (1, .int c)] [.int 0] HF _
  refine wp_b (o := none) (st' := []) (t := 11) rfl rfl rfl rfl ?_
  refine wp_s (pc' := 12) (lv' := [(0, .ref 1), (1, .int c)]) (st' := [.int (-1)]) (h' := HF) rfl (fun _ => rfl) ?_
  exact wp_r (r := (HF, some (.int (-1)))) rfl (fun _ => rfl) rfl

set_option maxRecDepth 20000 in
theorem fp_retract_b2 {HF : im_H} (hHF : fr_HF HF) (c : Int32) (h1 : ¬ c < 0) :  wp_M 9 76 [.ref 74, .int c] HF (fun r => r = (HF, some (.int (-1)))) := by
  obtain ⟨f_74, hc_74, hf_74⟩ := hHF 73 _ rfl
  dsimp only at hc_74 hf_74
  obtain ⟨f_85, hc_85, hf_85⟩ := hHF 84 _ rfl
  dsimp only at hc_85 hf_85
  have fp_retract_b2_1_2 : wp_M 7 59 [.int c, .int 0, .int (-1)] HF (fun r => r = (HF, some (.int 0))) := by
    refine wp_of rfl (Nat.le_of_ble_eq_true rfl) ?_
    refine wp_s (pc' := 1) (lv' := [(0, .int c), (1, .int 0), (2, .int (-1))]) (st' := [.int c]) (h' := HF) rfl (fun _ => rfl) ?_
    refine wp_s (pc' := 2) (lv' := [(0, .int c), (1, .int 0), (2, .int (-1))]) (st' := [.int 0, .int c]) (h' := HF) rfl (fun _ => rfl) ?_
    refine wp_b (st' := []) (t := 5) rfl rfl (if_neg h1) rfl ?_
    refine wp_s (pc' := 6) (lv' := [(0, .int c), (1, .int 0), (2, .int (-1))]) (st' := [.int c]) (h' := HF) rfl (fun _ => rfl) ?_
    refine wp_s (pc' := 7) (lv' := [(0, .int c), (1, .int 0), (2, .int (-1))]) (st' := [.int (-1), .int c]) (h' := HF) rfl (fun _ => rfl) ?_
    refine wp_b (st' := []) (t := 14) rfl rfl (if_pos (fr_m1 h1)) rfl ?_
    refine wp_s (pc' := 15) (lv' := [(0, .int c), (1, .int 0), (2, .int (-1))]) (st' := [.int 0]) (h' := HF) rfl (fun _ => rfl) ?_
    exact wp_r (r := (HF, some (.int 0))) rfl (fun _ => rfl) rfl
  have fp_retract_b2_1 : wp_M 8 74 [.ref 74, .int c] HF (fun r => r = (HF, some (.int 0))) := by
    refine wp_of rfl (Nat.le_of_ble_eq_true rfl) ?_
    refine wp_s (pc' := 1) (lv' := [(0, .ref 74), (1, .int c)]) (st' := [.int c]) (h' := HF) rfl (fun _ => rfl) ?_
    refine wp_s (pc' := 2) (lv' := [(0, .ref 74), (1, .int c)]) (st' := [.int 0, .int c]) (h' := HF) rfl (fun _ => rfl) ?_
    refine wp_s (pc' := 3) (lv' := [(0, .ref 74), (1, .int c)]) (st' := [.ref 74, .int 0, .int c]) (h' := HF) rfl (fun _ => rfl) ?_
    refine wp_h (t := 6) rfl rfl (wh_gf (v := .ref 85) hc_74 (by decide) (hf_74 11 (by decide))) rfl ?_
    refine wp_s (pc' := 7) (lv' := [(0, .ref 74), (1, .int c)]) (st' := [.int 0, .ref 85, .int 0, .int c]) (h' := HF) rfl (fun _ => rfl) ?_
    refine wp_h (t := 8) rfl rfl (wh_ia (j := 0) (v := .int 0) hc_85 (by decide) (by decide) (hf_85 0 (by decide))) rfl ?_
    refine wp_s (pc' := 9) (lv' := [(0, .ref 74), (1, .int c)]) (st' := [.int 1, .int 0, .int 0, .int c]) (h' := HF) rfl (fun _ => rfl) ?_
    refine wp_s (pc' := 10) (lv' := [(0, .ref 74), (1, .int c)]) (st' := [.int (-1), .int 0, .int c]) (h' := HF) rfl (fun _ => rfl) ?_
    refine wp_vs (t := 13) rfl rfl (Or.inl rfl) rfl rfl (Nat.le_of_ble_eq_true rfl) (wp_M.deep fp_retract_b2_1_2 (by decide)) rfl (fun h' v hP => ?_)
    cases hP
    show wp_X _ _ 13 [(0, .ref 74), (1, .int c)] [.int 0] HF _
    exact wp_r (r := (HF, some (.int 0))) rfl (fun _ => rfl) rfl
  refine wp_of rfl (Nat.le_of_ble_eq_true rfl) ?_
  refine wp_s (pc' := 1) (lv' := [(0, .ref 74), (1, .int c)]) (st' := [.ref 74]) (h' := HF) rfl (fun _ => rfl) ?_
  refine wp_s (pc' := 2) (lv' := [(0, .ref 74), (1, .int c)]) (st' := [.int c, .ref 74]) (h' := HF) rfl (fun _ => rfl) ?_
  refine wp_vi (t := 5) rfl rfl (Or.inl rfl) rfl rfl (Nat.le_of_ble_eq_true rfl) hc_74 rfl (wp_M.deep fp_retract_b2_1 (by decide)) rfl (fun h' v hP => ?_)
  cases hP
  show wp_X _ _ 5 [(0, .ref 74), (1, .int c)] [.int 0] HF _
  refine wp_b (o := none) (st' := []) (t := 8) rfl rfl rfl rfl ?_
  refine wp_s (pc' := 9) (lv' := [(0, .ref 74), (1, .int c)]) (st' := [.int (-1)]) (h' := HF) rfl (fun _ => rfl) ?_
  exact wp_r (r := (HF, some (.int (-1)))) rfl (fun _ => rfl) rfl

set_option maxRecDepth 20000 in
theorem fp_move_a1 {HF : im_H} (hHF : fr_HF HF) (c : Int32) (d : Int32) (h1 : c < 0) :  wp_M 9 6 [.ref 1, .int c, .int d] HF (fun r => r = (HF, some (.int (-1)))) := by
  obtain ⟨f_1, hc_1, hf_1⟩ := hHF 0 _ rfl
  dsimp only at hc_1 hf_1
  obtain ⟨f_21, hc_21, hf_21⟩ := hHF 20 _ rfl
  dsimp only at hc_21 hf_21
  have fp_move_a1_1 : wp_M 8 27 [.ref 21, .int c] HF (fun r => r = (HF, some (.int 0))) := by
    refine wp_of rfl (Nat.le_of_ble_eq_true rfl) ?_
    refine wp_s (pc' := 1) (lv' := [(0, .ref 21), (1, .int c)]) (st' := [.int c]) (h' := HF) rfl (fun _ => rfl) ?_
    refine wp_b (st' := []) (t := 16) rfl rfl (if_pos h1) rfl ?_
    refine wp_s (pc' := 17) (lv' := [(0, .ref 21), (1, .int c)]) (st' := [.int 0]) (h' := HF) rfl (fun _ => rfl) ?_
    exact wp_r (r := (HF, some (.int 0))) rfl (fun _ => rfl) rfl
  refine wp_of rfl (Nat.le_of_ble_eq_true rfl) ?_
  refine wp_s (pc' := 1) (lv' := [(0, .ref 1), (1, .int c), (2, .int d)]) (st' := [.ref 1]) (h' := HF) rfl (fun _ => rfl) ?_
  refine wp_h (t := 4) rfl rfl (wh_gf (v := .ref 21) hc_1 (by decide) (hf_1 2 (by decide))) rfl ?_
  refine wp_s (pc' := 5) (lv' := [(0, .ref 1), (1, .int c), (2, .int d)]) (st' := [.int c, .ref 21]) (h' := HF) rfl (fun _ => rfl) ?_
  refine wp_vi (t := 8) rfl rfl (Or.inl rfl) rfl rfl (Nat.le_of_ble_eq_true rfl) hc_21 rfl (wp_M.deep fp_move_a1_1 (by decide)) rfl (fun h' v hP => ?_)
  cases hP
  show wp_X _ _ 8 [(0, .ref 1), (1, .int c), (2, .int d)] [.int 0] HF _
  refine wp_b (o := some (14)) (st' := []) (t := 22) rfl rfl rfl rfl ?_
  refine wp_s (pc' := 23) (lv' := [(0, .ref 1), (1, .int c), (2, .int d)]) (st' := [.int (-1)]) (h' := HF) rfl (fun _ => rfl) ?_
  exact wp_r (r := (HF, some (.int (-1)))) rfl (fun _ => rfl) rfl

set_option maxRecDepth 20000 in
theorem fp_move_a2 {HF : im_H} (hHF : fr_HF HF) (c : Int32) (d : Int32) (h1 : c < 0) :  wp_M 9 77 [.ref 74, .int c, .int d] HF (fun r => r = (HF, some (.int (-1)))) := by
  obtain ⟨f_74, hc_74, hf_74⟩ := hHF 73 _ rfl
  dsimp only at hc_74 hf_74
  obtain ⟨f_85, hc_85, hf_85⟩ := hHF 84 _ rfl
  dsimp only at hc_85 hf_85
  have fp_move_a2_1_2 : wp_M 7 59 [.int c, .int 0, .int (-1)] HF (fun r => r = (HF, some (.int 0))) := by
    refine wp_of rfl (Nat.le_of_ble_eq_true rfl) ?_
    refine wp_s (pc' := 1) (lv' := [(0, .int c), (1, .int 0), (2, .int (-1))]) (st' := [.int c]) (h' := HF) rfl (fun _ => rfl) ?_
    refine wp_s (pc' := 2) (lv' := [(0, .int c), (1, .int 0), (2, .int (-1))]) (st' := [.int 0, .int c]) (h' := HF) rfl (fun _ => rfl) ?_
    refine wp_b (st' := []) (t := 14) rfl rfl (if_pos h1) rfl ?_
    refine wp_s (pc' := 15) (lv' := [(0, .int c), (1, .int 0), (2, .int (-1))]) (st' := [.int 0]) (h' := HF) rfl (fun _ => rfl) ?_
    exact wp_r (r := (HF, some (.int 0))) rfl (fun _ => rfl) rfl
  have fp_move_a2_1 : wp_M 8 74 [.ref 74, .int c] HF (fun r => r = (HF, some (.int 0))) := by
    refine wp_of rfl (Nat.le_of_ble_eq_true rfl) ?_
    refine wp_s (pc' := 1) (lv' := [(0, .ref 74), (1, .int c)]) (st' := [.int c]) (h' := HF) rfl (fun _ => rfl) ?_
    refine wp_s (pc' := 2) (lv' := [(0, .ref 74), (1, .int c)]) (st' := [.int 0, .int c]) (h' := HF) rfl (fun _ => rfl) ?_
    refine wp_s (pc' := 3) (lv' := [(0, .ref 74), (1, .int c)]) (st' := [.ref 74, .int 0, .int c]) (h' := HF) rfl (fun _ => rfl) ?_
    refine wp_h (t := 6) rfl rfl (wh_gf (v := .ref 85) hc_74 (by decide) (hf_74 11 (by decide))) rfl ?_
    refine wp_s (pc' := 7) (lv' := [(0, .ref 74), (1, .int c)]) (st' := [.int 0, .ref 85, .int 0, .int c]) (h' := HF) rfl (fun _ => rfl) ?_
    refine wp_h (t := 8) rfl rfl (wh_ia (j := 0) (v := .int 0) hc_85 (by decide) (by decide) (hf_85 0 (by decide))) rfl ?_
    refine wp_s (pc' := 9) (lv' := [(0, .ref 74), (1, .int c)]) (st' := [.int 1, .int 0, .int 0, .int c]) (h' := HF) rfl (fun _ => rfl) ?_
    refine wp_s (pc' := 10) (lv' := [(0, .ref 74), (1, .int c)]) (st' := [.int (-1), .int 0, .int c]) (h' := HF) rfl (fun _ => rfl) ?_
    refine wp_vs (t := 13) rfl rfl (Or.inl rfl) rfl rfl (Nat.le_of_ble_eq_true rfl) (wp_M.deep fp_move_a2_1_2 (by decide)) rfl (fun h' v hP => ?_)
    cases hP
    show wp_X _ _ 13 [(0, .ref 74), (1, .int c)] [.int 0] HF _
    exact wp_r (r := (HF, some (.int 0))) rfl (fun _ => rfl) rfl
  refine wp_of rfl (Nat.le_of_ble_eq_true rfl) ?_
  refine wp_s (pc' := 1) (lv' := [(0, .ref 74), (1, .int c), (2, .int d)]) (st' := [.ref 74]) (h' := HF) rfl (fun _ => rfl) ?_
  refine wp_s (pc' := 2) (lv' := [(0, .ref 74), (1, .int c), (2, .int d)]) (st' := [.int c, .ref 74]) (h' := HF) rfl (fun _ => rfl) ?_
  refine wp_vi (t := 5) rfl rfl (Or.inl rfl) rfl rfl (Nat.le_of_ble_eq_true rfl) hc_74 rfl (wp_M.deep fp_move_a2_1 (by decide)) rfl (fun h' v hP => ?_)
  cases hP
  show wp_X _ _ 5 [(0, .ref 74), (1, .int c), (2, .int d)] [.int 0] HF _
  refine wp_b (o := some (11)) (st' := []) (t := 16) rfl rfl rfl rfl ?_
  refine wp_s (pc' := 17) (lv' := [(0, .ref 74), (1, .int c), (2, .int d)]) (st' := [.int (-1)]) (h' := HF) rfl (fun _ => rfl) ?_
  exact wp_r (r := (HF, some (.int (-1)))) rfl (fun _ => rfl) rfl

set_option maxRecDepth 20000 in
theorem fp_move_b1 {HF : im_H} (hHF : fr_HF HF) (c : Int32) (d : Int32) (h1 : ¬ c < 0) :  wp_M 9 6 [.ref 1, .int c, .int d] HF (fun r => r = (HF, some (.int (-1)))) := by
  obtain ⟨f_1, hc_1, hf_1⟩ := hHF 0 _ rfl
  dsimp only at hc_1 hf_1
  obtain ⟨f_21, hc_21, hf_21⟩ := hHF 20 _ rfl
  dsimp only at hc_21 hf_21
  have fp_move_b1_1 : wp_M 8 27 [.ref 21, .int c] HF (fun r => r = (HF, some (.int 0))) := by
    refine wp_of rfl (Nat.le_of_ble_eq_true rfl) ?_
    refine wp_s (pc' := 1) (lv' := [(0, .ref 21), (1, .int c)]) (st' := [.int c]) (h' := HF) rfl (fun _ => rfl) ?_
    refine wp_b (st' := []) (t := 4) rfl rfl (if_neg h1) rfl ?_
    refine wp_s (pc' := 5) (lv' := [(0, .ref 21), (1, .int c)]) (st' := [.int c]) (h' := HF) rfl (fun _ => rfl) ?_
    refine wp_s (pc' := 6) (lv' := [(0, .ref 21), (1, .int c)]) (st' := [.ref 21, .int c]) (h' := HF) rfl (fun _ => rfl) ?_
    refine wp_h (t := 9) rfl rfl (wh_gf (v := .int 0) hc_21 (by decide) (hf_21 2 (by decide))) rfl ?_
    refine wp_b (st' := []) (t := 16) rfl rfl (if_pos (Int32.not_lt.mp h1)) rfl ?_
    refine wp_s (pc' := 17) (lv' := [(0, .ref 21), (1, .int c)]) (st' := [.int 0]) (h' := HF) rfl (fun _ => rfl) ?_
    exact wp_r (r := (HF, some (.int 0))) rfl (fun _ => rfl) rfl
  refine wp_of rfl (Nat.le_of_ble_eq_true rfl) ?_
  refine wp_s (pc' := 1) (lv' := [(0, .ref 1), (1, .int c), (2, .int d)]) (st' := [.ref 1]) (h' := HF) rfl (fun _ => rfl) ?_
  refine wp_h (t := 4) rfl rfl (wh_gf (v := .ref 21) hc_1 (by decide) (hf_1 2 (by decide))) rfl ?_
  refine wp_s (pc' := 5) (lv' := [(0, .ref 1), (1, .int c), (2, .int d)]) (st' := [.int c, .ref 21]) (h' := HF) rfl (fun _ => rfl) ?_
  refine wp_vi (t := 8) rfl rfl (Or.inl rfl) rfl rfl (Nat.le_of_ble_eq_true rfl) hc_21 rfl (wp_M.deep fp_move_b1_1 (by decide)) rfl (fun h' v hP => ?_)
  cases hP
  show wp_X _ _ 8 [(0, .ref 1), (1, .int c), (2, .int d)] [.int 0] HF _
  refine wp_b (o := some (14)) (st' := []) (t := 22) rfl rfl rfl rfl ?_
  refine wp_s (pc' := 23) (lv' := [(0, .ref 1), (1, .int c), (2, .int d)]) (st' := [.int (-1)]) (h' := HF) rfl (fun _ => rfl) ?_
  exact wp_r (r := (HF, some (.int (-1)))) rfl (fun _ => rfl) rfl

set_option maxRecDepth 20000 in
theorem fp_move_b2 {HF : im_H} (hHF : fr_HF HF) (c : Int32) (d : Int32) (h1 : ¬ c < 0) :  wp_M 9 77 [.ref 74, .int c, .int d] HF (fun r => r = (HF, some (.int (-1)))) := by
  obtain ⟨f_74, hc_74, hf_74⟩ := hHF 73 _ rfl
  dsimp only at hc_74 hf_74
  obtain ⟨f_85, hc_85, hf_85⟩ := hHF 84 _ rfl
  dsimp only at hc_85 hf_85
  have fp_move_b2_1_2 : wp_M 7 59 [.int c, .int 0, .int (-1)] HF (fun r => r = (HF, some (.int 0))) := by
    refine wp_of rfl (Nat.le_of_ble_eq_true rfl) ?_
    refine wp_s (pc' := 1) (lv' := [(0, .int c), (1, .int 0), (2, .int (-1))]) (st' := [.int c]) (h' := HF) rfl (fun _ => rfl) ?_
    refine wp_s (pc' := 2) (lv' := [(0, .int c), (1, .int 0), (2, .int (-1))]) (st' := [.int 0, .int c]) (h' := HF) rfl (fun _ => rfl) ?_
    refine wp_b (st' := []) (t := 5) rfl rfl (if_neg h1) rfl ?_
    refine wp_s (pc' := 6) (lv' := [(0, .int c), (1, .int 0), (2, .int (-1))]) (st' := [.int c]) (h' := HF) rfl (fun _ => rfl) ?_
    refine wp_s (pc' := 7) (lv' := [(0, .int c), (1, .int 0), (2, .int (-1))]) (st' := [.int (-1), .int c]) (h' := HF) rfl (fun _ => rfl) ?_
    refine wp_b (st' := []) (t := 14) rfl rfl (if_pos (fr_m1 h1)) rfl ?_
    refine wp_s (pc' := 15) (lv' := [(0, .int c), (1, .int 0), (2, .int (-1))]) (st' := [.int 0]) (h' := HF) rfl (fun _ => rfl) ?_
    exact wp_r (r := (HF, some (.int 0))) rfl (fun _ => rfl) rfl
  have fp_move_b2_1 : wp_M 8 74 [.ref 74, .int c] HF (fun r => r = (HF, some (.int 0))) := by
    refine wp_of rfl (Nat.le_of_ble_eq_true rfl) ?_
    refine wp_s (pc' := 1) (lv' := [(0, .ref 74), (1, .int c)]) (st' := [.int c]) (h' := HF) rfl (fun _ => rfl) ?_
    refine wp_s (pc' := 2) (lv' := [(0, .ref 74), (1, .int c)]) (st' := [.int 0, .int c]) (h' := HF) rfl (fun _ => rfl) ?_
    refine wp_s (pc' := 3) (lv' := [(0, .ref 74), (1, .int c)]) (st' := [.ref 74, .int 0, .int c]) (h' := HF) rfl (fun _ => rfl) ?_
    refine wp_h (t := 6) rfl rfl (wh_gf (v := .ref 85) hc_74 (by decide) (hf_74 11 (by decide))) rfl ?_
    refine wp_s (pc' := 7) (lv' := [(0, .ref 74), (1, .int c)]) (st' := [.int 0, .ref 85, .int 0, .int c]) (h' := HF) rfl (fun _ => rfl) ?_
    refine wp_h (t := 8) rfl rfl (wh_ia (j := 0) (v := .int 0) hc_85 (by decide) (by decide) (hf_85 0 (by decide))) rfl ?_
    refine wp_s (pc' := 9) (lv' := [(0, .ref 74), (1, .int c)]) (st' := [.int 1, .int 0, .int 0, .int c]) (h' := HF) rfl (fun _ => rfl) ?_
    refine wp_s (pc' := 10) (lv' := [(0, .ref 74), (1, .int c)]) (st' := [.int (-1), .int 0, .int c]) (h' := HF) rfl (fun _ => rfl) ?_
    refine wp_vs (t := 13) rfl rfl (Or.inl rfl) rfl rfl (Nat.le_of_ble_eq_true rfl) (wp_M.deep fp_move_b2_1_2 (by decide)) rfl (fun h' v hP => ?_)
    cases hP
    show wp_X _ _ 13 [(0, .ref 74), (1, .int c)] [.int 0] HF _
    exact wp_r (r := (HF, some (.int 0))) rfl (fun _ => rfl) rfl
  refine wp_of rfl (Nat.le_of_ble_eq_true rfl) ?_
  refine wp_s (pc' := 1) (lv' := [(0, .ref 74), (1, .int c), (2, .int d)]) (st' := [.ref 74]) (h' := HF) rfl (fun _ => rfl) ?_
  refine wp_s (pc' := 2) (lv' := [(0, .ref 74), (1, .int c), (2, .int d)]) (st' := [.int c, .ref 74]) (h' := HF) rfl (fun _ => rfl) ?_
  refine wp_vi (t := 5) rfl rfl (Or.inl rfl) rfl rfl (Nat.le_of_ble_eq_true rfl) hc_74 rfl (wp_M.deep fp_move_b2_1 (by decide)) rfl (fun h' v hP => ?_)
  cases hP
  show wp_X _ _ 5 [(0, .ref 74), (1, .int c), (2, .int d)] [.int 0] HF _
  refine wp_b (o := some (11)) (st' := []) (t := 16) rfl rfl rfl rfl ?_
  refine wp_s (pc' := 17) (lv' := [(0, .ref 74), (1, .int c), (2, .int d)]) (st' := [.int (-1)]) (h' := HF) rfl (fun _ => rfl) ?_
  exact wp_r (r := (HF, some (.int (-1)))) rfl (fun _ => rfl) rfl

set_option maxRecDepth 20000 in
theorem fp_told_a1 {HF : im_H} (hHF : fr_HF HF) (c : Int32) (h1 : c.toInt < 0) :  wp_M 9 8 [.ref 1, .int c] HF (fun r => r = (HF, some (.int (-1)))) := by
  refine wp_of rfl (Nat.le_of_ble_eq_true rfl) ?_
  refine wp_s (pc' := 1) (lv' := [(0, .ref 1), (1, .int c)]) (st' := [.int c]) (h' := HF) rfl (fun _ => rfl) ?_
  refine wp_b (o := some (72)) (st' := []) (t := 73) rfl rfl (if_pos h1) rfl ?_
  refine wp_s (pc' := 74) (lv' := [(0, .ref 1), (1, .int c)]) (st' := [.int (-1)]) (h' := HF) rfl (fun _ => rfl) ?_
  exact wp_r (r := (HF, some (.int (-1)))) rfl (fun _ => rfl) rfl

set_option maxRecDepth 20000 in
theorem fp_told_a2 {HF : im_H} (hHF : fr_HF HF) (c : Int32) (h1 : c.toInt < 0) :  wp_M 9 81 [.ref 74, .int c] HF (fun r => r = (HF, some (.int (-1)))) := by
  refine wp_of rfl (Nat.le_of_ble_eq_true rfl) ?_
  refine wp_s (pc' := 1) (lv' := [(0, .ref 74), (1, .int c)]) (st' := [.int c]) (h' := HF) rfl (fun _ => rfl) ?_
  refine wp_b (o := some (62)) (st' := []) (t := 63) rfl rfl (if_pos h1) rfl ?_
  refine wp_s (pc' := 64) (lv' := [(0, .ref 74), (1, .int c)]) (st' := [.int (-1)]) (h' := HF) rfl (fun _ => rfl) ?_
  exact wp_r (r := (HF, some (.int (-1)))) rfl (fun _ => rfl) rfl

set_option maxRecDepth 20000 in
theorem fp_told_b1 {HF : im_H} (hHF : fr_HF HF) (c : Int32) (h1 : ¬ c.toInt < 0) (h2 : 4 < c.toInt) :  wp_M 9 8 [.ref 1, .int c] HF (fun r => r = (HF, some (.int (-1)))) := by
  refine wp_of rfl (Nat.le_of_ble_eq_true rfl) ?_
  refine wp_s (pc' := 1) (lv' := [(0, .ref 1), (1, .int c)]) (st' := [.int c]) (h' := HF) rfl (fun _ => rfl) ?_
  refine wp_b (o := some (72)) (st' := []) (t := 73) rfl rfl ((if_neg h1).trans (if_pos h2)) rfl ?_
  refine wp_s (pc' := 74) (lv' := [(0, .ref 1), (1, .int c)]) (st' := [.int (-1)]) (h' := HF) rfl (fun _ => rfl) ?_
  exact wp_r (r := (HF, some (.int (-1)))) rfl (fun _ => rfl) rfl

set_option maxRecDepth 20000 in
theorem fp_told_b2 {HF : im_H} (hHF : fr_HF HF) (c : Int32) (h1 : ¬ c.toInt < 0) (h2 : 4 < c.toInt) :  wp_M 9 81 [.ref 74, .int c] HF (fun r => r = (HF, some (.int (-1)))) := by
  refine wp_of rfl (Nat.le_of_ble_eq_true rfl) ?_
  refine wp_s (pc' := 1) (lv' := [(0, .ref 74), (1, .int c)]) (st' := [.int c]) (h' := HF) rfl (fun _ => rfl) ?_
  refine wp_b (o := some (62)) (st' := []) (t := 63) rfl rfl ((if_neg h1).trans (if_pos h2)) rfl ?_
  refine wp_s (pc' := 64) (lv' := [(0, .ref 74), (1, .int c)]) (st' := [.int (-1)]) (h' := HF) rfl (fun _ => rfl) ?_
  exact wp_r (r := (HF, some (.int (-1)))) rfl (fun _ => rfl) rfl

set_option maxRecDepth 20000 in
theorem fp_clause_a1 {HF : im_H} (hHF : fr_HF HF) (c : Int32) (d : Int32) (h1 : c < 0) :  wp_M 9 9 [.ref 1, .int c, .int d] HF (fun r => r = (HF, some (.int (-1)))) := by
  obtain ⟨f_1, hc_1, hf_1⟩ := hHF 0 _ rfl
  dsimp only at hc_1 hf_1
  obtain ⟨f_21, hc_21, hf_21⟩ := hHF 20 _ rfl
  dsimp only at hc_21 hf_21
  have fp_clause_a1_1 : wp_M 8 27 [.ref 21, .int c] HF (fun r => r = (HF, some (.int 0))) := by
    refine wp_of rfl (Nat.le_of_ble_eq_true rfl) ?_
    refine wp_s (pc' := 1) (lv' := [(0, .ref 21), (1, .int c)]) (st' := [.int c]) (h' := HF) rfl (fun _ => rfl) ?_
    refine wp_b (st' := []) (t := 16) rfl rfl (if_pos h1) rfl ?_
    refine wp_s (pc' := 17) (lv' := [(0, .ref 21), (1, .int c)]) (st' := [.int 0]) (h' := HF) rfl (fun _ => rfl) ?_
    exact wp_r (r := (HF, some (.int 0))) rfl (fun _ => rfl) rfl
  refine wp_of rfl (Nat.le_of_ble_eq_true rfl) ?_
  refine wp_s (pc' := 1) (lv' := [(0, .ref 1), (1, .int c), (2, .int d)]) (st' := [.ref 1]) (h' := HF) rfl (fun _ => rfl) ?_
  refine wp_h (t := 4) rfl rfl (wh_gf (v := .ref 21) hc_1 (by decide) (hf_1 2 (by decide))) rfl ?_
  refine wp_s (pc' := 5) (lv' := [(0, .ref 1), (1, .int c), (2, .int d)]) (st' := [.int c, .ref 21]) (h' := HF) rfl (fun _ => rfl) ?_
  refine wp_vi (t := 8) rfl rfl (Or.inl rfl) rfl rfl (Nat.le_of_ble_eq_true rfl) hc_21 rfl (wp_M.deep fp_clause_a1_1 (by decide)) rfl (fun h' v hP => ?_)
  cases hP
  show wp_X _ _ 8 [(0, .ref 1), (1, .int c), (2, .int d)] [.int 0] HF _
  refine wp_b (o := some (13)) (st' := []) (t := 21) rfl rfl rfl rfl ?_
  refine wp_s (pc' := 22) (lv' := [(0, .ref 1), (1, .int c), (2, .int d)]) (st' := [.int (-1)]) (h' := HF) rfl (fun _ => rfl) ?_
  exact wp_r (r := (HF, some (.int (-1)))) rfl (fun _ => rfl) rfl

set_option maxRecDepth 20000 in
theorem fp_clause_a2 {HF : im_H} (hHF : fr_HF HF) (c : Int32) (d : Int32) (h1 : c < 0) :  wp_M 9 82 [.ref 74, .int c, .int d] HF (fun r => r = (HF, some (.int (-1)))) := by
  obtain ⟨f_74, hc_74, hf_74⟩ := hHF 73 _ rfl
  dsimp only at hc_74 hf_74
  obtain ⟨f_85, hc_85, hf_85⟩ := hHF 84 _ rfl
  dsimp only at hc_85 hf_85
  have fp_clause_a2_1_2 : wp_M 7 59 [.int c, .int 0, .int (-1)] HF (fun r => r = (HF, some (.int 0))) := by
    refine wp_of rfl (Nat.le_of_ble_eq_true rfl) ?_
    refine wp_s (pc' := 1) (lv' := [(0, .int c), (1, .int 0), (2, .int (-1))]) (st' := [.int c]) (h' := HF) rfl (fun _ => rfl) ?_
    refine wp_s (pc' := 2) (lv' := [(0, .int c), (1, .int 0), (2, .int (-1))]) (st' := [.int 0, .int c]) (h' := HF) rfl (fun _ => rfl) ?_
    refine wp_b (st' := []) (t := 14) rfl rfl (if_pos h1) rfl ?_
    refine wp_s (pc' := 15) (lv' := [(0, .int c), (1, .int 0), (2, .int (-1))]) (st' := [.int 0]) (h' := HF) rfl (fun _ => rfl) ?_
    exact wp_r (r := (HF, some (.int 0))) rfl (fun _ => rfl) rfl
  have fp_clause_a2_1 : wp_M 8 74 [.ref 74, .int c] HF (fun r => r = (HF, some (.int 0))) := by
    refine wp_of rfl (Nat.le_of_ble_eq_true rfl) ?_
    refine wp_s (pc' := 1) (lv' := [(0, .ref 74), (1, .int c)]) (st' := [.int c]) (h' := HF) rfl (fun _ => rfl) ?_
    refine wp_s (pc' := 2) (lv' := [(0, .ref 74), (1, .int c)]) (st' := [.int 0, .int c]) (h' := HF) rfl (fun _ => rfl) ?_
    refine wp_s (pc' := 3) (lv' := [(0, .ref 74), (1, .int c)]) (st' := [.ref 74, .int 0, .int c]) (h' := HF) rfl (fun _ => rfl) ?_
    refine wp_h (t := 6) rfl rfl (wh_gf (v := .ref 85) hc_74 (by decide) (hf_74 11 (by decide))) rfl ?_
    refine wp_s (pc' := 7) (lv' := [(0, .ref 74), (1, .int c)]) (st' := [.int 0, .ref 85, .int 0, .int c]) (h' := HF) rfl (fun _ => rfl) ?_
    refine wp_h (t := 8) rfl rfl (wh_ia (j := 0) (v := .int 0) hc_85 (by decide) (by decide) (hf_85 0 (by decide))) rfl ?_
    refine wp_s (pc' := 9) (lv' := [(0, .ref 74), (1, .int c)]) (st' := [.int 1, .int 0, .int 0, .int c]) (h' := HF) rfl (fun _ => rfl) ?_
    refine wp_s (pc' := 10) (lv' := [(0, .ref 74), (1, .int c)]) (st' := [.int (-1), .int 0, .int c]) (h' := HF) rfl (fun _ => rfl) ?_
    refine wp_vs (t := 13) rfl rfl (Or.inl rfl) rfl rfl (Nat.le_of_ble_eq_true rfl) (wp_M.deep fp_clause_a2_1_2 (by decide)) rfl (fun h' v hP => ?_)
    cases hP
    show wp_X _ _ 13 [(0, .ref 74), (1, .int c)] [.int 0] HF _
    exact wp_r (r := (HF, some (.int 0))) rfl (fun _ => rfl) rfl
  refine wp_of rfl (Nat.le_of_ble_eq_true rfl) ?_
  refine wp_s (pc' := 1) (lv' := [(0, .ref 74), (1, .int c), (2, .int d)]) (st' := [.ref 74]) (h' := HF) rfl (fun _ => rfl) ?_
  refine wp_s (pc' := 2) (lv' := [(0, .ref 74), (1, .int c), (2, .int d)]) (st' := [.int c, .ref 74]) (h' := HF) rfl (fun _ => rfl) ?_
  refine wp_vi (t := 5) rfl rfl (Or.inl rfl) rfl rfl (Nat.le_of_ble_eq_true rfl) hc_74 rfl (wp_M.deep fp_clause_a2_1 (by decide)) rfl (fun h' v hP => ?_)
  cases hP
  show wp_X _ _ 5 [(0, .ref 74), (1, .int c), (2, .int d)] [.int 0] HF _
  refine wp_b (o := none) (st' := []) (t := 8) rfl rfl rfl rfl ?_
  refine wp_s (pc' := 9) (lv' := [(0, .ref 74), (1, .int c), (2, .int d)]) (st' := [.int (-1)]) (h' := HF) rfl (fun _ => rfl) ?_
  exact wp_r (r := (HF, some (.int (-1)))) rfl (fun _ => rfl) rfl

set_option maxRecDepth 20000 in
theorem fp_clause_b1 {HF : im_H} (hHF : fr_HF HF) (c : Int32) (d : Int32) (h1 : ¬ c < 0) :  wp_M 9 9 [.ref 1, .int c, .int d] HF (fun r => r = (HF, some (.int (-1)))) := by
  obtain ⟨f_1, hc_1, hf_1⟩ := hHF 0 _ rfl
  dsimp only at hc_1 hf_1
  obtain ⟨f_21, hc_21, hf_21⟩ := hHF 20 _ rfl
  dsimp only at hc_21 hf_21
  have fp_clause_b1_1 : wp_M 8 27 [.ref 21, .int c] HF (fun r => r = (HF, some (.int 0))) := by
    refine wp_of rfl (Nat.le_of_ble_eq_true rfl) ?_
    refine wp_s (pc' := 1) (lv' := [(0, .ref 21), (1, .int c)]) (st' := [.int c]) (h' := HF) rfl (fun _ => rfl) ?_
    refine wp_b (st' := []) (t := 4) rfl rfl (if_neg h1) rfl ?_
    refine wp_s (pc' := 5) (lv' := [(0, .ref 21), (1, .int c)]) (st' := [.int c]) (h' := HF) rfl (fun _ => rfl) ?_
    refine wp_s (pc' := 6) (lv' := [(0, .ref 21), (1, .int c)]) (st' := [.ref 21, .int c]) (h' := HF) rfl (fun _ => rfl) ?_
    refine wp_h (t := 9) rfl rfl (wh_gf (v := .int 0) hc_21 (by decide) (hf_21 2 (by decide))) rfl ?_
    refine wp_b (st' := []) (t := 16) rfl rfl (if_pos (Int32.not_lt.mp h1)) rfl ?_
    refine wp_s (pc' := 17) (lv' := [(0, .ref 21), (1, .int c)]) (st' := [.int 0]) (h' := HF) rfl (fun _ => rfl) ?_
    exact wp_r (r := (HF, some (.int 0))) rfl (fun _ => rfl) rfl
  refine wp_of rfl (Nat.le_of_ble_eq_true rfl) ?_
  refine wp_s (pc' := 1) (lv' := [(0, .ref 1), (1, .int c), (2, .int d)]) (st' := [.ref 1]) (h' := HF) rfl (fun _ => rfl) ?_
  refine wp_h (t := 4) rfl rfl (wh_gf (v := .ref 21) hc_1 (by decide) (hf_1 2 (by decide))) rfl ?_
  refine wp_s (pc' := 5) (lv' := [(0, .ref 1), (1, .int c), (2, .int d)]) (st' := [.int c, .ref 21]) (h' := HF) rfl (fun _ => rfl) ?_
  refine wp_vi (t := 8) rfl rfl (Or.inl rfl) rfl rfl (Nat.le_of_ble_eq_true rfl) hc_21 rfl (wp_M.deep fp_clause_b1_1 (by decide)) rfl (fun h' v hP => ?_)
  cases hP
  show wp_X _ _ 8 [(0, .ref 1), (1, .int c), (2, .int d)] [.int 0] HF _
  refine wp_b (o := some (13)) (st' := []) (t := 21) rfl rfl rfl rfl ?_
  refine wp_s (pc' := 22) (lv' := [(0, .ref 1), (1, .int c), (2, .int d)]) (st' := [.int (-1)]) (h' := HF) rfl (fun _ => rfl) ?_
  exact wp_r (r := (HF, some (.int (-1)))) rfl (fun _ => rfl) rfl

set_option maxRecDepth 20000 in
theorem fp_clause_b2 {HF : im_H} (hHF : fr_HF HF) (c : Int32) (d : Int32) (h1 : ¬ c < 0) :  wp_M 9 82 [.ref 74, .int c, .int d] HF (fun r => r = (HF, some (.int (-1)))) := by
  obtain ⟨f_74, hc_74, hf_74⟩ := hHF 73 _ rfl
  dsimp only at hc_74 hf_74
  obtain ⟨f_85, hc_85, hf_85⟩ := hHF 84 _ rfl
  dsimp only at hc_85 hf_85
  have fp_clause_b2_1_2 : wp_M 7 59 [.int c, .int 0, .int (-1)] HF (fun r => r = (HF, some (.int 0))) := by
    refine wp_of rfl (Nat.le_of_ble_eq_true rfl) ?_
    refine wp_s (pc' := 1) (lv' := [(0, .int c), (1, .int 0), (2, .int (-1))]) (st' := [.int c]) (h' := HF) rfl (fun _ => rfl) ?_
    refine wp_s (pc' := 2) (lv' := [(0, .int c), (1, .int 0), (2, .int (-1))]) (st' := [.int 0, .int c]) (h' := HF) rfl (fun _ => rfl) ?_
    refine wp_b (st' := []) (t := 5) rfl rfl (if_neg h1) rfl ?_
    refine wp_s (pc' := 6) (lv' := [(0, .int c), (1, .int 0), (2, .int (-1))]) (st' := [.int c]) (h' := HF) rfl (fun _ => rfl) ?_
    refine wp_s (pc' := 7) (lv' := [(0, .int c), (1, .int 0), (2, .int (-1))]) (st' := [.int (-1), .int c]) (h' := HF) rfl (fun _ => rfl) ?_
    refine wp_b (st' := []) (t := 14) rfl rfl (if_pos (fr_m1 h1)) rfl ?_
    refine wp_s (pc' := 15) (lv' := [(0, .int c), (1, .int 0), (2, .int (-1))]) (st' := [.int 0]) (h' := HF) rfl (fun _ => rfl) ?_
    exact wp_r (r := (HF, some (.int 0))) rfl (fun _ => rfl) rfl
  have fp_clause_b2_1 : wp_M 8 74 [.ref 74, .int c] HF (fun r => r = (HF, some (.int 0))) := by
    refine wp_of rfl (Nat.le_of_ble_eq_true rfl) ?_
    refine wp_s (pc' := 1) (lv' := [(0, .ref 74), (1, .int c)]) (st' := [.int c]) (h' := HF) rfl (fun _ => rfl) ?_
    refine wp_s (pc' := 2) (lv' := [(0, .ref 74), (1, .int c)]) (st' := [.int 0, .int c]) (h' := HF) rfl (fun _ => rfl) ?_
    refine wp_s (pc' := 3) (lv' := [(0, .ref 74), (1, .int c)]) (st' := [.ref 74, .int 0, .int c]) (h' := HF) rfl (fun _ => rfl) ?_
    refine wp_h (t := 6) rfl rfl (wh_gf (v := .ref 85) hc_74 (by decide) (hf_74 11 (by decide))) rfl ?_
    refine wp_s (pc' := 7) (lv' := [(0, .ref 74), (1, .int c)]) (st' := [.int 0, .ref 85, .int 0, .int c]) (h' := HF) rfl (fun _ => rfl) ?_
    refine wp_h (t := 8) rfl rfl (wh_ia (j := 0) (v := .int 0) hc_85 (by decide) (by decide) (hf_85 0 (by decide))) rfl ?_
    refine wp_s (pc' := 9) (lv' := [(0, .ref 74), (1, .int c)]) (st' := [.int 1, .int 0, .int 0, .int c]) (h' := HF) rfl (fun _ => rfl) ?_
    refine wp_s (pc' := 10) (lv' := [(0, .ref 74), (1, .int c)]) (st' := [.int (-1), .int 0, .int c]) (h' := HF) rfl (fun _ => rfl) ?_
    refine wp_vs (t := 13) rfl rfl (Or.inl rfl) rfl rfl (Nat.le_of_ble_eq_true rfl) (wp_M.deep fp_clause_b2_1_2 (by decide)) rfl (fun h' v hP => ?_)
    cases hP
    show wp_X _ _ 13 [(0, .ref 74), (1, .int c)] [.int 0] HF _
    exact wp_r (r := (HF, some (.int 0))) rfl (fun _ => rfl) rfl
  refine wp_of rfl (Nat.le_of_ble_eq_true rfl) ?_
  refine wp_s (pc' := 1) (lv' := [(0, .ref 74), (1, .int c), (2, .int d)]) (st' := [.ref 74]) (h' := HF) rfl (fun _ => rfl) ?_
  refine wp_s (pc' := 2) (lv' := [(0, .ref 74), (1, .int c), (2, .int d)]) (st' := [.int c, .ref 74]) (h' := HF) rfl (fun _ => rfl) ?_
  refine wp_vi (t := 5) rfl rfl (Or.inl rfl) rfl rfl (Nat.le_of_ble_eq_true rfl) hc_74 rfl (wp_M.deep fp_clause_b2_1 (by decide)) rfl (fun h' v hP => ?_)
  cases hP
  show wp_X _ _ 5 [(0, .ref 74), (1, .int c), (2, .int d)] [.int 0] HF _
  refine wp_b (o := none) (st' := []) (t := 8) rfl rfl rfl rfl ?_
  refine wp_s (pc' := 9) (lv' := [(0, .ref 74), (1, .int c), (2, .int d)]) (st' := [.int (-1)]) (h' := HF) rfl (fun _ => rfl) ?_
  exact wp_r (r := (HF, some (.int (-1)))) rfl (fun _ => rfl) rfl

set_option maxRecDepth 20000 in
theorem fp_listing_a1 {HF : im_H} (hHF : fr_HF HF) (c : Int32) (d : Int32) (h1 : c < 0) :  wp_M 9 10 [.ref 1, .int c, .int d] HF (fun r => r = (HF, some (.int (-1)))) := by
  obtain ⟨f_1, hc_1, hf_1⟩ := hHF 0 _ rfl
  dsimp only at hc_1 hf_1
  obtain ⟨f_21, hc_21, hf_21⟩ := hHF 20 _ rfl
  dsimp only at hc_21 hf_21
  have fp_listing_a1_1 : wp_M 8 27 [.ref 21, .int c] HF (fun r => r = (HF, some (.int 0))) := by
    refine wp_of rfl (Nat.le_of_ble_eq_true rfl) ?_
    refine wp_s (pc' := 1) (lv' := [(0, .ref 21), (1, .int c)]) (st' := [.int c]) (h' := HF) rfl (fun _ => rfl) ?_
    refine wp_b (st' := []) (t := 16) rfl rfl (if_pos h1) rfl ?_
    refine wp_s (pc' := 17) (lv' := [(0, .ref 21), (1, .int c)]) (st' := [.int 0]) (h' := HF) rfl (fun _ => rfl) ?_
    exact wp_r (r := (HF, some (.int 0))) rfl (fun _ => rfl) rfl
  refine wp_of rfl (Nat.le_of_ble_eq_true rfl) ?_
  refine wp_s (pc' := 1) (lv' := [(0, .ref 1), (1, .int c), (2, .int d)]) (st' := [.ref 1]) (h' := HF) rfl (fun _ => rfl) ?_
  refine wp_h (t := 4) rfl rfl (wh_gf (v := .ref 21) hc_1 (by decide) (hf_1 2 (by decide))) rfl ?_
  refine wp_s (pc' := 5) (lv' := [(0, .ref 1), (1, .int c), (2, .int d)]) (st' := [.int c, .ref 21]) (h' := HF) rfl (fun _ => rfl) ?_
  refine wp_vi (t := 8) rfl rfl (Or.inl rfl) rfl rfl (Nat.le_of_ble_eq_true rfl) hc_21 rfl (wp_M.deep fp_listing_a1_1 (by decide)) rfl (fun h' v hP => ?_)
  cases hP
  show wp_X _ _ 8 [(0, .ref 1), (1, .int c), (2, .int d)] [.int 0] HF _
  refine wp_b (o := some (7)) (st' := []) (t := 15) rfl rfl rfl rfl ?_
  refine wp_s (pc' := 16) (lv' := [(0, .ref 1), (1, .int c), (2, .int d)]) (st' := [.int (-1)]) (h' := HF) rfl (fun _ => rfl) ?_
  exact wp_r (r := (HF, some (.int (-1)))) rfl (fun _ => rfl) rfl

set_option maxRecDepth 20000 in
theorem fp_listing_a2 {HF : im_H} (hHF : fr_HF HF) (c : Int32) (d : Int32) (h1 : c < 0) :  wp_M 9 95 [.ref 74, .int c, .int d] HF (fun r => r = (HF, some (.int (-1)))) := by
  obtain ⟨f_74, hc_74, hf_74⟩ := hHF 73 _ rfl
  dsimp only at hc_74 hf_74
  obtain ⟨f_85, hc_85, hf_85⟩ := hHF 84 _ rfl
  dsimp only at hc_85 hf_85
  have fp_listing_a2_1_2 : wp_M 7 59 [.int c, .int 0, .int (-1)] HF (fun r => r = (HF, some (.int 0))) := by
    refine wp_of rfl (Nat.le_of_ble_eq_true rfl) ?_
    refine wp_s (pc' := 1) (lv' := [(0, .int c), (1, .int 0), (2, .int (-1))]) (st' := [.int c]) (h' := HF) rfl (fun _ => rfl) ?_
    refine wp_s (pc' := 2) (lv' := [(0, .int c), (1, .int 0), (2, .int (-1))]) (st' := [.int 0, .int c]) (h' := HF) rfl (fun _ => rfl) ?_
    refine wp_b (st' := []) (t := 14) rfl rfl (if_pos h1) rfl ?_
    refine wp_s (pc' := 15) (lv' := [(0, .int c), (1, .int 0), (2, .int (-1))]) (st' := [.int 0]) (h' := HF) rfl (fun _ => rfl) ?_
    exact wp_r (r := (HF, some (.int 0))) rfl (fun _ => rfl) rfl
  have fp_listing_a2_1 : wp_M 8 74 [.ref 74, .int c] HF (fun r => r = (HF, some (.int 0))) := by
    refine wp_of rfl (Nat.le_of_ble_eq_true rfl) ?_
    refine wp_s (pc' := 1) (lv' := [(0, .ref 74), (1, .int c)]) (st' := [.int c]) (h' := HF) rfl (fun _ => rfl) ?_
    refine wp_s (pc' := 2) (lv' := [(0, .ref 74), (1, .int c)]) (st' := [.int 0, .int c]) (h' := HF) rfl (fun _ => rfl) ?_
    refine wp_s (pc' := 3) (lv' := [(0, .ref 74), (1, .int c)]) (st' := [.ref 74, .int 0, .int c]) (h' := HF) rfl (fun _ => rfl) ?_
    refine wp_h (t := 6) rfl rfl (wh_gf (v := .ref 85) hc_74 (by decide) (hf_74 11 (by decide))) rfl ?_
    refine wp_s (pc' := 7) (lv' := [(0, .ref 74), (1, .int c)]) (st' := [.int 0, .ref 85, .int 0, .int c]) (h' := HF) rfl (fun _ => rfl) ?_
    refine wp_h (t := 8) rfl rfl (wh_ia (j := 0) (v := .int 0) hc_85 (by decide) (by decide) (hf_85 0 (by decide))) rfl ?_
    refine wp_s (pc' := 9) (lv' := [(0, .ref 74), (1, .int c)]) (st' := [.int 1, .int 0, .int 0, .int c]) (h' := HF) rfl (fun _ => rfl) ?_
    refine wp_s (pc' := 10) (lv' := [(0, .ref 74), (1, .int c)]) (st' := [.int (-1), .int 0, .int c]) (h' := HF) rfl (fun _ => rfl) ?_
    refine wp_vs (t := 13) rfl rfl (Or.inl rfl) rfl rfl (Nat.le_of_ble_eq_true rfl) (wp_M.deep fp_listing_a2_1_2 (by decide)) rfl (fun h' v hP => ?_)
    cases hP
    show wp_X _ _ 13 [(0, .ref 74), (1, .int c)] [.int 0] HF _
    exact wp_r (r := (HF, some (.int 0))) rfl (fun _ => rfl) rfl
  refine wp_of rfl (Nat.le_of_ble_eq_true rfl) ?_
  refine wp_s (pc' := 1) (lv' := [(0, .ref 74), (1, .int c), (2, .int d)]) (st' := [.ref 74]) (h' := HF) rfl (fun _ => rfl) ?_
  refine wp_s (pc' := 2) (lv' := [(0, .ref 74), (1, .int c), (2, .int d)]) (st' := [.int c, .ref 74]) (h' := HF) rfl (fun _ => rfl) ?_
  refine wp_vi (t := 5) rfl rfl (Or.inl rfl) rfl rfl (Nat.le_of_ble_eq_true rfl) hc_74 rfl (wp_M.deep fp_listing_a2_1 (by decide)) rfl (fun h' v hP => ?_)
  cases hP
  show wp_X _ _ 5 [(0, .ref 74), (1, .int c), (2, .int d)] [.int 0] HF _
  refine wp_b (o := some (7)) (st' := []) (t := 12) rfl rfl rfl rfl ?_
  refine wp_s (pc' := 13) (lv' := [(0, .ref 74), (1, .int c), (2, .int d)]) (st' := [.int (-1)]) (h' := HF) rfl (fun _ => rfl) ?_
  exact wp_r (r := (HF, some (.int (-1)))) rfl (fun _ => rfl) rfl

set_option maxRecDepth 20000 in
theorem fp_listing_b1 {HF : im_H} (hHF : fr_HF HF) (c : Int32) (d : Int32) (h1 : ¬ c < 0) :  wp_M 9 10 [.ref 1, .int c, .int d] HF (fun r => r = (HF, some (.int (-1)))) := by
  obtain ⟨f_1, hc_1, hf_1⟩ := hHF 0 _ rfl
  dsimp only at hc_1 hf_1
  obtain ⟨f_21, hc_21, hf_21⟩ := hHF 20 _ rfl
  dsimp only at hc_21 hf_21
  have fp_listing_b1_1 : wp_M 8 27 [.ref 21, .int c] HF (fun r => r = (HF, some (.int 0))) := by
    refine wp_of rfl (Nat.le_of_ble_eq_true rfl) ?_
    refine wp_s (pc' := 1) (lv' := [(0, .ref 21), (1, .int c)]) (st' := [.int c]) (h' := HF) rfl (fun _ => rfl) ?_
    refine wp_b (st' := []) (t := 4) rfl rfl (if_neg h1) rfl ?_
    refine wp_s (pc' := 5) (lv' := [(0, .ref 21), (1, .int c)]) (st' := [.int c]) (h' := HF) rfl (fun _ => rfl) ?_
    refine wp_s (pc' := 6) (lv' := [(0, .ref 21), (1, .int c)]) (st' := [.ref 21, .int c]) (h' := HF) rfl (fun _ => rfl) ?_
    refine wp_h (t := 9) rfl rfl (wh_gf (v := .int 0) hc_21 (by decide) (hf_21 2 (by decide))) rfl ?_
    refine wp_b (st' := []) (t := 16) rfl rfl (if_pos (Int32.not_lt.mp h1)) rfl ?_
    refine wp_s (pc' := 17) (lv' := [(0, .ref 21), (1, .int c)]) (st' := [.int 0]) (h' := HF) rfl (fun _ => rfl) ?_
    exact wp_r (r := (HF, some (.int 0))) rfl (fun _ => rfl) rfl
  refine wp_of rfl (Nat.le_of_ble_eq_true rfl) ?_
  refine wp_s (pc' := 1) (lv' := [(0, .ref 1), (1, .int c), (2, .int d)]) (st' := [.ref 1]) (h' := HF) rfl (fun _ => rfl) ?_
  refine wp_h (t := 4) rfl rfl (wh_gf (v := .ref 21) hc_1 (by decide) (hf_1 2 (by decide))) rfl ?_
  refine wp_s (pc' := 5) (lv' := [(0, .ref 1), (1, .int c), (2, .int d)]) (st' := [.int c, .ref 21]) (h' := HF) rfl (fun _ => rfl) ?_
  refine wp_vi (t := 8) rfl rfl (Or.inl rfl) rfl rfl (Nat.le_of_ble_eq_true rfl) hc_21 rfl (wp_M.deep fp_listing_b1_1 (by decide)) rfl (fun h' v hP => ?_)
  cases hP
  show wp_X _ _ 8 [(0, .ref 1), (1, .int c), (2, .int d)] [.int 0] HF _
  refine wp_b (o := some (7)) (st' := []) (t := 15) rfl rfl rfl rfl ?_
  refine wp_s (pc' := 16) (lv' := [(0, .ref 1), (1, .int c), (2, .int d)]) (st' := [.int (-1)]) (h' := HF) rfl (fun _ => rfl) ?_
  exact wp_r (r := (HF, some (.int (-1)))) rfl (fun _ => rfl) rfl

set_option maxRecDepth 20000 in
theorem fp_listing_b2 {HF : im_H} (hHF : fr_HF HF) (c : Int32) (d : Int32) (h1 : ¬ c < 0) :  wp_M 9 95 [.ref 74, .int c, .int d] HF (fun r => r = (HF, some (.int (-1)))) := by
  obtain ⟨f_74, hc_74, hf_74⟩ := hHF 73 _ rfl
  dsimp only at hc_74 hf_74
  obtain ⟨f_85, hc_85, hf_85⟩ := hHF 84 _ rfl
  dsimp only at hc_85 hf_85
  have fp_listing_b2_1_2 : wp_M 7 59 [.int c, .int 0, .int (-1)] HF (fun r => r = (HF, some (.int 0))) := by
    refine wp_of rfl (Nat.le_of_ble_eq_true rfl) ?_
    refine wp_s (pc' := 1) (lv' := [(0, .int c), (1, .int 0), (2, .int (-1))]) (st' := [.int c]) (h' := HF) rfl (fun _ => rfl) ?_
    refine wp_s (pc' := 2) (lv' := [(0, .int c), (1, .int 0), (2, .int (-1))]) (st' := [.int 0, .int c]) (h' := HF) rfl (fun _ => rfl) ?_
    refine wp_b (st' := []) (t := 5) rfl rfl (if_neg h1) rfl ?_
    refine wp_s (pc' := 6) (lv' := [(0, .int c), (1, .int 0), (2, .int (-1))]) (st' := [.int c]) (h' := HF) rfl (fun _ => rfl) ?_
    refine wp_s (pc' := 7) (lv' := [(0, .int c), (1, .int 0), (2, .int (-1))]) (st' := [.int (-1), .int c]) (h' := HF) rfl (fun _ => rfl) ?_
    refine wp_b (st' := []) (t := 14) rfl rfl (if_pos (fr_m1 h1)) rfl ?_
    refine wp_s (pc' := 15) (lv' := [(0, .int c), (1, .int 0), (2, .int (-1))]) (st' := [.int 0]) (h' := HF) rfl (fun _ => rfl) ?_
    exact wp_r (r := (HF, some (.int 0))) rfl (fun _ => rfl) rfl
  have fp_listing_b2_1 : wp_M 8 74 [.ref 74, .int c] HF (fun r => r = (HF, some (.int 0))) := by
    refine wp_of rfl (Nat.le_of_ble_eq_true rfl) ?_
    refine wp_s (pc' := 1) (lv' := [(0, .ref 74), (1, .int c)]) (st' := [.int c]) (h' := HF) rfl (fun _ => rfl) ?_
    refine wp_s (pc' := 2) (lv' := [(0, .ref 74), (1, .int c)]) (st' := [.int 0, .int c]) (h' := HF) rfl (fun _ => rfl) ?_
    refine wp_s (pc' := 3) (lv' := [(0, .ref 74), (1, .int c)]) (st' := [.ref 74, .int 0, .int c]) (h' := HF) rfl (fun _ => rfl) ?_
    refine wp_h (t := 6) rfl rfl (wh_gf (v := .ref 85) hc_74 (by decide) (hf_74 11 (by decide))) rfl ?_
    refine wp_s (pc' := 7) (lv' := [(0, .ref 74), (1, .int c)]) (st' := [.int 0, .ref 85, .int 0, .int c]) (h' := HF) rfl (fun _ => rfl) ?_
    refine wp_h (t := 8) rfl rfl (wh_ia (j := 0) (v := .int 0) hc_85 (by decide) (by decide) (hf_85 0 (by decide))) rfl ?_
    refine wp_s (pc' := 9) (lv' := [(0, .ref 74), (1, .int c)]) (st' := [.int 1, .int 0, .int 0, .int c]) (h' := HF) rfl (fun _ => rfl) ?_
    refine wp_s (pc' := 10) (lv' := [(0, .ref 74), (1, .int c)]) (st' := [.int (-1), .int 0, .int c]) (h' := HF) rfl (fun _ => rfl) ?_
    refine wp_vs (t := 13) rfl rfl (Or.inl rfl) rfl rfl (Nat.le_of_ble_eq_true rfl) (wp_M.deep fp_listing_b2_1_2 (by decide)) rfl (fun h' v hP => ?_)
    cases hP
    show wp_X _ _ 13 [(0, .ref 74), (1, .int c)] [.int 0] HF _
    exact wp_r (r := (HF, some (.int 0))) rfl (fun _ => rfl) rfl
  refine wp_of rfl (Nat.le_of_ble_eq_true rfl) ?_
  refine wp_s (pc' := 1) (lv' := [(0, .ref 74), (1, .int c), (2, .int d)]) (st' := [.ref 74]) (h' := HF) rfl (fun _ => rfl) ?_
  refine wp_s (pc' := 2) (lv' := [(0, .ref 74), (1, .int c), (2, .int d)]) (st' := [.int c, .ref 74]) (h' := HF) rfl (fun _ => rfl) ?_
  refine wp_vi (t := 5) rfl rfl (Or.inl rfl) rfl rfl (Nat.le_of_ble_eq_true rfl) hc_74 rfl (wp_M.deep fp_listing_b2_1 (by decide)) rfl (fun h' v hP => ?_)
  cases hP
  show wp_X _ _ 5 [(0, .ref 74), (1, .int c), (2, .int d)] [.int 0] HF _
  refine wp_b (o := some (7)) (st' := []) (t := 12) rfl rfl rfl rfl ?_
  refine wp_s (pc' := 13) (lv' := [(0, .ref 74), (1, .int c), (2, .int d)]) (st' := [.int (-1)]) (h' := HF) rfl (fun _ => rfl) ?_
  exact wp_r (r := (HF, some (.int (-1)))) rfl (fun _ => rfl) rfl

set_option maxRecDepth 20000 in
theorem fp_overlaps_a1 {HF : im_H} (hHF : fr_HF HF) (c : Int32) (h1 : c < 0) :  wp_M 9 11 [.ref 1, .int c] HF (fun r => r = (HF, some (.int (-1)))) := by
  obtain ⟨f_1, hc_1, hf_1⟩ := hHF 0 _ rfl
  dsimp only at hc_1 hf_1
  obtain ⟨f_21, hc_21, hf_21⟩ := hHF 20 _ rfl
  dsimp only at hc_21 hf_21
  have fp_overlaps_a1_1 : wp_M 8 27 [.ref 21, .int c] HF (fun r => r = (HF, some (.int 0))) := by
    refine wp_of rfl (Nat.le_of_ble_eq_true rfl) ?_
    refine wp_s (pc' := 1) (lv' := [(0, .ref 21), (1, .int c)]) (st' := [.int c]) (h' := HF) rfl (fun _ => rfl) ?_
    refine wp_b (st' := []) (t := 16) rfl rfl (if_pos h1) rfl ?_
    refine wp_s (pc' := 17) (lv' := [(0, .ref 21), (1, .int c)]) (st' := [.int 0]) (h' := HF) rfl (fun _ => rfl) ?_
    exact wp_r (r := (HF, some (.int 0))) rfl (fun _ => rfl) rfl
  refine wp_of rfl (Nat.le_of_ble_eq_true rfl) ?_
  refine wp_s (pc' := 1) (lv' := [(0, .ref 1), (1, .int c)]) (st' := [.ref 1]) (h' := HF) rfl (fun _ => rfl) ?_
  refine wp_h (t := 4) rfl rfl (wh_gf (v := .ref 21) hc_1 (by decide) (hf_1 2 (by decide))) rfl ?_
  refine wp_s (pc' := 5) (lv' := [(0, .ref 1), (1, .int c)]) (st' := [.int c, .ref 21]) (h' := HF) rfl (fun _ => rfl) ?_
  refine wp_vi (t := 8) rfl rfl (Or.inl rfl) rfl rfl (Nat.le_of_ble_eq_true rfl) hc_21 rfl (wp_M.deep fp_overlaps_a1_1 (by decide)) rfl (fun h' v hP => ?_)
  cases hP
  show wp_X _ _ 8 [(0, .ref 1), (1, .int c)] [.int 0] HF _
  refine wp_b (o := some (14)) (st' := []) (t := 22) rfl rfl rfl rfl ?_
  refine wp_s (pc' := 23) (lv' := [(0, .ref 1), (1, .int c)]) (st' := [.int (-1)]) (h' := HF) rfl (fun _ => rfl) ?_
  exact wp_r (r := (HF, some (.int (-1)))) rfl (fun _ => rfl) rfl

set_option maxRecDepth 20000 in
theorem fp_overlaps_a2 {HF : im_H} (hHF : fr_HF HF) (c : Int32) (h1 : c < 0) :  wp_M 9 83 [.ref 74, .int c] HF (fun r => r = (HF, some (.int (-1)))) := by
  obtain ⟨f_74, hc_74, hf_74⟩ := hHF 73 _ rfl
  dsimp only at hc_74 hf_74
  obtain ⟨f_85, hc_85, hf_85⟩ := hHF 84 _ rfl
  dsimp only at hc_85 hf_85
  have fp_overlaps_a2_1_2 : wp_M 7 59 [.int c, .int 0, .int (-1)] HF (fun r => r = (HF, some (.int 0))) := by
    refine wp_of rfl (Nat.le_of_ble_eq_true rfl) ?_
    refine wp_s (pc' := 1) (lv' := [(0, .int c), (1, .int 0), (2, .int (-1))]) (st' := [.int c]) (h' := HF) rfl (fun _ => rfl) ?_
    refine wp_s (pc' := 2) (lv' := [(0, .int c), (1, .int 0), (2, .int (-1))]) (st' := [.int 0, .int c]) (h' := HF) rfl (fun _ => rfl) ?_
    refine wp_b (st' := []) (t := 14) rfl rfl (if_pos h1) rfl ?_
    refine wp_s (pc' := 15) (lv' := [(0, .int c), (1, .int 0), (2, .int (-1))]) (st' := [.int 0]) (h' := HF) rfl (fun _ => rfl) ?_
    exact wp_r (r := (HF, some (.int 0))) rfl (fun _ => rfl) rfl
  have fp_overlaps_a2_1 : wp_M 8 74 [.ref 74, .int c] HF (fun r => r = (HF, some (.int 0))) := by
    refine wp_of rfl (Nat.le_of_ble_eq_true rfl) ?_
    refine wp_s (pc' := 1) (lv' := [(0, .ref 74), (1, .int c)]) (st' := [.int c]) (h' := HF) rfl (fun _ => rfl) ?_
    refine wp_s (pc' := 2) (lv' := [(0, .ref 74), (1, .int c)]) (st' := [.int 0, .int c]) (h' := HF) rfl (fun _ => rfl) ?_
    refine wp_s (pc' := 3) (lv' := [(0, .ref 74), (1, .int c)]) (st' := [.ref 74, .int 0, .int c]) (h' := HF) rfl (fun _ => rfl) ?_
    refine wp_h (t := 6) rfl rfl (wh_gf (v := .ref 85) hc_74 (by decide) (hf_74 11 (by decide))) rfl ?_
    refine wp_s (pc' := 7) (lv' := [(0, .ref 74), (1, .int c)]) (st' := [.int 0, .ref 85, .int 0, .int c]) (h' := HF) rfl (fun _ => rfl) ?_
    refine wp_h (t := 8) rfl rfl (wh_ia (j := 0) (v := .int 0) hc_85 (by decide) (by decide) (hf_85 0 (by decide))) rfl ?_
    refine wp_s (pc' := 9) (lv' := [(0, .ref 74), (1, .int c)]) (st' := [.int 1, .int 0, .int 0, .int c]) (h' := HF) rfl (fun _ => rfl) ?_
    refine wp_s (pc' := 10) (lv' := [(0, .ref 74), (1, .int c)]) (st' := [.int (-1), .int 0, .int c]) (h' := HF) rfl (fun _ => rfl) ?_
    refine wp_vs (t := 13) rfl rfl (Or.inl rfl) rfl rfl (Nat.le_of_ble_eq_true rfl) (wp_M.deep fp_overlaps_a2_1_2 (by decide)) rfl (fun h' v hP => ?_)
    cases hP
    show wp_X _ _ 13 [(0, .ref 74), (1, .int c)] [.int 0] HF _
    exact wp_r (r := (HF, some (.int 0))) rfl (fun _ => rfl) rfl
  refine wp_of rfl (Nat.le_of_ble_eq_true rfl) ?_
  refine wp_s (pc' := 1) (lv' := [(0, .ref 74), (1, .int c)]) (st' := [.ref 74]) (h' := HF) rfl (fun _ => rfl) ?_
  refine wp_s (pc' := 2) (lv' := [(0, .ref 74), (1, .int c)]) (st' := [.int c, .ref 74]) (h' := HF) rfl (fun _ => rfl) ?_
  refine wp_vi (t := 5) rfl rfl (Or.inl rfl) rfl rfl (Nat.le_of_ble_eq_true rfl) hc_74 rfl (wp_M.deep fp_overlaps_a2_1 (by decide)) rfl (fun h' v hP => ?_)
  cases hP
  show wp_X _ _ 5 [(0, .ref 74), (1, .int c)] [.int 0] HF _
  refine wp_b (o := none) (st' := []) (t := 8) rfl rfl rfl rfl ?_
  refine wp_s (pc' := 9) (lv' := [(0, .ref 74), (1, .int c)]) (st' := [.int (-1)]) (h' := HF) rfl (fun _ => rfl) ?_
  exact wp_r (r := (HF, some (.int (-1)))) rfl (fun _ => rfl) rfl

set_option maxRecDepth 20000 in
theorem fp_overlaps_b1 {HF : im_H} (hHF : fr_HF HF) (c : Int32) (h1 : ¬ c < 0) :  wp_M 9 11 [.ref 1, .int c] HF (fun r => r = (HF, some (.int (-1)))) := by
  obtain ⟨f_1, hc_1, hf_1⟩ := hHF 0 _ rfl
  dsimp only at hc_1 hf_1
  obtain ⟨f_21, hc_21, hf_21⟩ := hHF 20 _ rfl
  dsimp only at hc_21 hf_21
  have fp_overlaps_b1_1 : wp_M 8 27 [.ref 21, .int c] HF (fun r => r = (HF, some (.int 0))) := by
    refine wp_of rfl (Nat.le_of_ble_eq_true rfl) ?_
    refine wp_s (pc' := 1) (lv' := [(0, .ref 21), (1, .int c)]) (st' := [.int c]) (h' := HF) rfl (fun _ => rfl) ?_
    refine wp_b (st' := []) (t := 4) rfl rfl (if_neg h1) rfl ?_
    refine wp_s (pc' := 5) (lv' := [(0, .ref 21), (1, .int c)]) (st' := [.int c]) (h' := HF) rfl (fun _ => rfl) ?_
    refine wp_s (pc' := 6) (lv' := [(0, .ref 21), (1, .int c)]) (st' := [.ref 21, .int c]) (h' := HF) rfl (fun _ => rfl) ?_
    refine wp_h (t := 9) rfl rfl (wh_gf (v := .int 0) hc_21 (by decide) (hf_21 2 (by decide))) rfl ?_
    refine wp_b (st' := []) (t := 16) rfl rfl (if_pos (Int32.not_lt.mp h1)) rfl ?_
    refine wp_s (pc' := 17) (lv' := [(0, .ref 21), (1, .int c)]) (st' := [.int 0]) (h' := HF) rfl (fun _ => rfl) ?_
    exact wp_r (r := (HF, some (.int 0))) rfl (fun _ => rfl) rfl
  refine wp_of rfl (Nat.le_of_ble_eq_true rfl) ?_
  refine wp_s (pc' := 1) (lv' := [(0, .ref 1), (1, .int c)]) (st' := [.ref 1]) (h' := HF) rfl (fun _ => rfl) ?_
  refine wp_h (t := 4) rfl rfl (wh_gf (v := .ref 21) hc_1 (by decide) (hf_1 2 (by decide))) rfl ?_
  refine wp_s (pc' := 5) (lv' := [(0, .ref 1), (1, .int c)]) (st' := [.int c, .ref 21]) (h' := HF) rfl (fun _ => rfl) ?_
  refine wp_vi (t := 8) rfl rfl (Or.inl rfl) rfl rfl (Nat.le_of_ble_eq_true rfl) hc_21 rfl (wp_M.deep fp_overlaps_b1_1 (by decide)) rfl (fun h' v hP => ?_)
  cases hP
  show wp_X _ _ 8 [(0, .ref 1), (1, .int c)] [.int 0] HF _
  refine wp_b (o := some (14)) (st' := []) (t := 22) rfl rfl rfl rfl ?_
  refine wp_s (pc' := 23) (lv' := [(0, .ref 1), (1, .int c)]) (st' := [.int (-1)]) (h' := HF) rfl (fun _ => rfl) ?_
  exact wp_r (r := (HF, some (.int (-1)))) rfl (fun _ => rfl) rfl

set_option maxRecDepth 20000 in
theorem fp_overlaps_b2 {HF : im_H} (hHF : fr_HF HF) (c : Int32) (h1 : ¬ c < 0) :  wp_M 9 83 [.ref 74, .int c] HF (fun r => r = (HF, some (.int (-1)))) := by
  obtain ⟨f_74, hc_74, hf_74⟩ := hHF 73 _ rfl
  dsimp only at hc_74 hf_74
  obtain ⟨f_85, hc_85, hf_85⟩ := hHF 84 _ rfl
  dsimp only at hc_85 hf_85
  have fp_overlaps_b2_1_2 : wp_M 7 59 [.int c, .int 0, .int (-1)] HF (fun r => r = (HF, some (.int 0))) := by
    refine wp_of rfl (Nat.le_of_ble_eq_true rfl) ?_
    refine wp_s (pc' := 1) (lv' := [(0, .int c), (1, .int 0), (2, .int (-1))]) (st' := [.int c]) (h' := HF) rfl (fun _ => rfl) ?_
    refine wp_s (pc' := 2) (lv' := [(0, .int c), (1, .int 0), (2, .int (-1))]) (st' := [.int 0, .int c]) (h' := HF) rfl (fun _ => rfl) ?_
    refine wp_b (st' := []) (t := 5) rfl rfl (if_neg h1) rfl ?_
    refine wp_s (pc' := 6) (lv' := [(0, .int c), (1, .int 0), (2, .int (-1))]) (st' := [.int c]) (h' := HF) rfl (fun _ => rfl) ?_
    refine wp_s (pc' := 7) (lv' := [(0, .int c), (1, .int 0), (2, .int (-1))]) (st' := [.int (-1), .int c]) (h' := HF) rfl (fun _ => rfl) ?_
    refine wp_b (st' := []) (t := 14) rfl rfl (if_pos (fr_m1 h1)) rfl ?_
    refine wp_s (pc' := 15) (lv' := [(0, .int c), (1, .int 0), (2, .int (-1))]) (st' := [.int 0]) (h' := HF) rfl (fun _ => rfl) ?_
    exact wp_r (r := (HF, some (.int 0))) rfl (fun _ => rfl) rfl
  have fp_overlaps_b2_1 : wp_M 8 74 [.ref 74, .int c] HF (fun r => r = (HF, some (.int 0))) := by
    refine wp_of rfl (Nat.le_of_ble_eq_true rfl) ?_
    refine wp_s (pc' := 1) (lv' := [(0, .ref 74), (1, .int c)]) (st' := [.int c]) (h' := HF) rfl (fun _ => rfl) ?_
    refine wp_s (pc' := 2) (lv' := [(0, .ref 74), (1, .int c)]) (st' := [.int 0, .int c]) (h' := HF) rfl (fun _ => rfl) ?_
    refine wp_s (pc' := 3) (lv' := [(0, .ref 74), (1, .int c)]) (st' := [.ref 74, .int 0, .int c]) (h' := HF) rfl (fun _ => rfl) ?_
    refine wp_h (t := 6) rfl rfl (wh_gf (v := .ref 85) hc_74 (by decide) (hf_74 11 (by decide))) rfl ?_
    refine wp_s (pc' := 7) (lv' := [(0, .ref 74), (1, .int c)]) (st' := [.int 0, .ref 85, .int 0, .int c]) (h' := HF) rfl (fun _ => rfl) ?_
    refine wp_h (t := 8) rfl rfl (wh_ia (j := 0) (v := .int 0) hc_85 (by decide) (by decide) (hf_85 0 (by decide))) rfl ?_
    refine wp_s (pc' := 9) (lv' := [(0, .ref 74), (1, .int c)]) (st' := [.int 1, .int 0, .int 0, .int c]) (h' := HF) rfl (fun _ => rfl) ?_
    refine wp_s (pc' := 10) (lv' := [(0, .ref 74), (1, .int c)]) (st' := [.int (-1), .int 0, .int c]) (h' := HF) rfl (fun _ => rfl) ?_
    refine wp_vs (t := 13) rfl rfl (Or.inl rfl) rfl rfl (Nat.le_of_ble_eq_true rfl) (wp_M.deep fp_overlaps_b2_1_2 (by decide)) rfl (fun h' v hP => ?_)
    cases hP
    show wp_X _ _ 13 [(0, .ref 74), (1, .int c)] [.int 0] HF _
    exact wp_r (r := (HF, some (.int 0))) rfl (fun _ => rfl) rfl
  refine wp_of rfl (Nat.le_of_ble_eq_true rfl) ?_
  refine wp_s (pc' := 1) (lv' := [(0, .ref 74), (1, .int c)]) (st' := [.ref 74]) (h' := HF) rfl (fun _ => rfl) ?_
  refine wp_s (pc' := 2) (lv' := [(0, .ref 74), (1, .int c)]) (st' := [.int c, .ref 74]) (h' := HF) rfl (fun _ => rfl) ?_
  refine wp_vi (t := 5) rfl rfl (Or.inl rfl) rfl rfl (Nat.le_of_ble_eq_true rfl) hc_74 rfl (wp_M.deep fp_overlaps_b2_1 (by decide)) rfl (fun h' v hP => ?_)
  cases hP
  show wp_X _ _ 5 [(0, .ref 74), (1, .int c)] [.int 0] HF _
  refine wp_b (o := none) (st' := []) (t := 8) rfl rfl rfl rfl ?_
  refine wp_s (pc' := 9) (lv' := [(0, .ref 74), (1, .int c)]) (st' := [.int (-1)]) (h' := HF) rfl (fun _ => rfl) ?_
  exact wp_r (r := (HF, some (.int (-1)))) rfl (fun _ => rfl) rfl

set_option maxRecDepth 20000 in
theorem fp_reaches_a1 {HF : im_H} (hHF : fr_HF HF) (c : Int32) (d : Int32) (h1 : c < 0) :  wp_M 9 12 [.ref 1, .int c, .int d] HF (fun r => r = (HF, some (.int (-1)))) := by
  obtain ⟨f_1, hc_1, hf_1⟩ := hHF 0 _ rfl
  dsimp only at hc_1 hf_1
  obtain ⟨f_21, hc_21, hf_21⟩ := hHF 20 _ rfl
  dsimp only at hc_21 hf_21
  have fp_reaches_a1_1 : wp_M 8 27 [.ref 21, .int c] HF (fun r => r = (HF, some (.int 0))) := by
    refine wp_of rfl (Nat.le_of_ble_eq_true rfl) ?_
    refine wp_s (pc' := 1) (lv' := [(0, .ref 21), (1, .int c)]) (st' := [.int c]) (h' := HF) rfl (fun _ => rfl) ?_
    refine wp_b (st' := []) (t := 16) rfl rfl (if_pos h1) rfl ?_
    refine wp_s (pc' := 17) (lv' := [(0, .ref 21), (1, .int c)]) (st' := [.int 0]) (h' := HF) rfl (fun _ => rfl) ?_
    exact wp_r (r := (HF, some (.int 0))) rfl (fun _ => rfl) rfl
  refine wp_of rfl (Nat.le_of_ble_eq_true rfl) ?_
  refine wp_s (pc' := 1) (lv' := [(0, .ref 1), (1, .int c), (2, .int d)]) (st' := [.ref 1]) (h' := HF) rfl (fun _ => rfl) ?_
  refine wp_h (t := 4) rfl rfl (wh_gf (v := .ref 21) hc_1 (by decide) (hf_1 2 (by decide))) rfl ?_
  refine wp_s (pc' := 5) (lv' := [(0, .ref 1), (1, .int c), (2, .int d)]) (st' := [.int c, .ref 21]) (h' := HF) rfl (fun _ => rfl) ?_
  refine wp_vi (t := 8) rfl rfl (Or.inl rfl) rfl rfl (Nat.le_of_ble_eq_true rfl) hc_21 rfl (wp_M.deep fp_reaches_a1_1 (by decide)) rfl (fun h' v hP => ?_)
  cases hP
  show wp_X _ _ 8 [(0, .ref 1), (1, .int c), (2, .int d)] [.int 0] HF _
  refine wp_b (o := some (26)) (st' := []) (t := 34) rfl rfl rfl rfl ?_
  refine wp_s (pc' := 35) (lv' := [(0, .ref 1), (1, .int c), (2, .int d)]) (st' := [.int (-1)]) (h' := HF) rfl (fun _ => rfl) ?_
  exact wp_r (r := (HF, some (.int (-1)))) rfl (fun _ => rfl) rfl

set_option maxRecDepth 20000 in
theorem fp_reaches_a2 {HF : im_H} (hHF : fr_HF HF) (c : Int32) (d : Int32) (h1 : c < 0) :  wp_M 9 84 [.ref 74, .int c, .int d] HF (fun r => r = (HF, some (.int (-1)))) := by
  obtain ⟨f_74, hc_74, hf_74⟩ := hHF 73 _ rfl
  dsimp only at hc_74 hf_74
  obtain ⟨f_85, hc_85, hf_85⟩ := hHF 84 _ rfl
  dsimp only at hc_85 hf_85
  have fp_reaches_a2_1_2 : wp_M 7 59 [.int c, .int 0, .int (-1)] HF (fun r => r = (HF, some (.int 0))) := by
    refine wp_of rfl (Nat.le_of_ble_eq_true rfl) ?_
    refine wp_s (pc' := 1) (lv' := [(0, .int c), (1, .int 0), (2, .int (-1))]) (st' := [.int c]) (h' := HF) rfl (fun _ => rfl) ?_
    refine wp_s (pc' := 2) (lv' := [(0, .int c), (1, .int 0), (2, .int (-1))]) (st' := [.int 0, .int c]) (h' := HF) rfl (fun _ => rfl) ?_
    refine wp_b (st' := []) (t := 14) rfl rfl (if_pos h1) rfl ?_
    refine wp_s (pc' := 15) (lv' := [(0, .int c), (1, .int 0), (2, .int (-1))]) (st' := [.int 0]) (h' := HF) rfl (fun _ => rfl) ?_
    exact wp_r (r := (HF, some (.int 0))) rfl (fun _ => rfl) rfl
  have fp_reaches_a2_1 : wp_M 8 74 [.ref 74, .int c] HF (fun r => r = (HF, some (.int 0))) := by
    refine wp_of rfl (Nat.le_of_ble_eq_true rfl) ?_
    refine wp_s (pc' := 1) (lv' := [(0, .ref 74), (1, .int c)]) (st' := [.int c]) (h' := HF) rfl (fun _ => rfl) ?_
    refine wp_s (pc' := 2) (lv' := [(0, .ref 74), (1, .int c)]) (st' := [.int 0, .int c]) (h' := HF) rfl (fun _ => rfl) ?_
    refine wp_s (pc' := 3) (lv' := [(0, .ref 74), (1, .int c)]) (st' := [.ref 74, .int 0, .int c]) (h' := HF) rfl (fun _ => rfl) ?_
    refine wp_h (t := 6) rfl rfl (wh_gf (v := .ref 85) hc_74 (by decide) (hf_74 11 (by decide))) rfl ?_
    refine wp_s (pc' := 7) (lv' := [(0, .ref 74), (1, .int c)]) (st' := [.int 0, .ref 85, .int 0, .int c]) (h' := HF) rfl (fun _ => rfl) ?_
    refine wp_h (t := 8) rfl rfl (wh_ia (j := 0) (v := .int 0) hc_85 (by decide) (by decide) (hf_85 0 (by decide))) rfl ?_
    refine wp_s (pc' := 9) (lv' := [(0, .ref 74), (1, .int c)]) (st' := [.int 1, .int 0, .int 0, .int c]) (h' := HF) rfl (fun _ => rfl) ?_
    refine wp_s (pc' := 10) (lv' := [(0, .ref 74), (1, .int c)]) (st' := [.int (-1), .int 0, .int c]) (h' := HF) rfl (fun _ => rfl) ?_
    refine wp_vs (t := 13) rfl rfl (Or.inl rfl) rfl rfl (Nat.le_of_ble_eq_true rfl) (wp_M.deep fp_reaches_a2_1_2 (by decide)) rfl (fun h' v hP => ?_)
    cases hP
    show wp_X _ _ 13 [(0, .ref 74), (1, .int c)] [.int 0] HF _
    exact wp_r (r := (HF, some (.int 0))) rfl (fun _ => rfl) rfl
  refine wp_of rfl (Nat.le_of_ble_eq_true rfl) ?_
  refine wp_s (pc' := 1) (lv' := [(0, .ref 74), (1, .int c), (2, .int d)]) (st' := [.ref 74]) (h' := HF) rfl (fun _ => rfl) ?_
  refine wp_s (pc' := 2) (lv' := [(0, .ref 74), (1, .int c), (2, .int d)]) (st' := [.int c, .ref 74]) (h' := HF) rfl (fun _ => rfl) ?_
  refine wp_vi (t := 5) rfl rfl (Or.inl rfl) rfl rfl (Nat.le_of_ble_eq_true rfl) hc_74 rfl (wp_M.deep fp_reaches_a2_1 (by decide)) rfl (fun h' v hP => ?_)
  cases hP
  show wp_X _ _ 5 [(0, .ref 74), (1, .int c), (2, .int d)] [.int 0] HF _
  refine wp_b (o := some (11)) (st' := []) (t := 16) rfl rfl rfl rfl ?_
  refine wp_s (pc' := 17) (lv' := [(0, .ref 74), (1, .int c), (2, .int d)]) (st' := [.int (-1)]) (h' := HF) rfl (fun _ => rfl) ?_
  exact wp_r (r := (HF, some (.int (-1)))) rfl (fun _ => rfl) rfl

set_option maxRecDepth 20000 in
theorem fp_reaches_b1 {HF : im_H} (hHF : fr_HF HF) (c : Int32) (d : Int32) (h1 : ¬ c < 0) :  wp_M 9 12 [.ref 1, .int c, .int d] HF (fun r => r = (HF, some (.int (-1)))) := by
  obtain ⟨f_1, hc_1, hf_1⟩ := hHF 0 _ rfl
  dsimp only at hc_1 hf_1
  obtain ⟨f_21, hc_21, hf_21⟩ := hHF 20 _ rfl
  dsimp only at hc_21 hf_21
  have fp_reaches_b1_1 : wp_M 8 27 [.ref 21, .int c] HF (fun r => r = (HF, some (.int 0))) := by
    refine wp_of rfl (Nat.le_of_ble_eq_true rfl) ?_
    refine wp_s (pc' := 1) (lv' := [(0, .ref 21), (1, .int c)]) (st' := [.int c]) (h' := HF) rfl (fun _ => rfl) ?_
    refine wp_b (st' := []) (t := 4) rfl rfl (if_neg h1) rfl ?_
    refine wp_s (pc' := 5) (lv' := [(0, .ref 21), (1, .int c)]) (st' := [.int c]) (h' := HF) rfl (fun _ => rfl) ?_
    refine wp_s (pc' := 6) (lv' := [(0, .ref 21), (1, .int c)]) (st' := [.ref 21, .int c]) (h' := HF) rfl (fun _ => rfl) ?_
    refine wp_h (t := 9) rfl rfl (wh_gf (v := .int 0) hc_21 (by decide) (hf_21 2 (by decide))) rfl ?_
    refine wp_b (st' := []) (t := 16) rfl rfl (if_pos (Int32.not_lt.mp h1)) rfl ?_
    refine wp_s (pc' := 17) (lv' := [(0, .ref 21), (1, .int c)]) (st' := [.int 0]) (h' := HF) rfl (fun _ => rfl) ?_
    exact wp_r (r := (HF, some (.int 0))) rfl (fun _ => rfl) rfl
  refine wp_of rfl (Nat.le_of_ble_eq_true rfl) ?_
  refine wp_s (pc' := 1) (lv' := [(0, .ref 1), (1, .int c), (2, .int d)]) (st' := [.ref 1]) (h' := HF) rfl (fun _ => rfl) ?_
  refine wp_h (t := 4) rfl rfl (wh_gf (v := .ref 21) hc_1 (by decide) (hf_1 2 (by decide))) rfl ?_
  refine wp_s (pc' := 5) (lv' := [(0, .ref 1), (1, .int c), (2, .int d)]) (st' := [.int c, .ref 21]) (h' := HF) rfl (fun _ => rfl) ?_
  refine wp_vi (t := 8) rfl rfl (Or.inl rfl) rfl rfl (Nat.le_of_ble_eq_true rfl) hc_21 rfl (wp_M.deep fp_reaches_b1_1 (by decide)) rfl (fun h' v hP => ?_)
  cases hP
  show wp_X _ _ 8 [(0, .ref 1), (1, .int c), (2, .int d)] [.int 0] HF _
  refine wp_b (o := some (26)) (st' := []) (t := 34) rfl rfl rfl rfl ?_
  refine wp_s (pc' := 35) (lv' := [(0, .ref 1), (1, .int c), (2, .int d)]) (st' := [.int (-1)]) (h' := HF) rfl (fun _ => rfl) ?_
  exact wp_r (r := (HF, some (.int (-1)))) rfl (fun _ => rfl) rfl

set_option maxRecDepth 20000 in
theorem fp_reaches_b2 {HF : im_H} (hHF : fr_HF HF) (c : Int32) (d : Int32) (h1 : ¬ c < 0) :  wp_M 9 84 [.ref 74, .int c, .int d] HF (fun r => r = (HF, some (.int (-1)))) := by
  obtain ⟨f_74, hc_74, hf_74⟩ := hHF 73 _ rfl
  dsimp only at hc_74 hf_74
  obtain ⟨f_85, hc_85, hf_85⟩ := hHF 84 _ rfl
  dsimp only at hc_85 hf_85
  have fp_reaches_b2_1_2 : wp_M 7 59 [.int c, .int 0, .int (-1)] HF (fun r => r = (HF, some (.int 0))) := by
    refine wp_of rfl (Nat.le_of_ble_eq_true rfl) ?_
    refine wp_s (pc' := 1) (lv' := [(0, .int c), (1, .int 0), (2, .int (-1))]) (st' := [.int c]) (h' := HF) rfl (fun _ => rfl) ?_
    refine wp_s (pc' := 2) (lv' := [(0, .int c), (1, .int 0), (2, .int (-1))]) (st' := [.int 0, .int c]) (h' := HF) rfl (fun _ => rfl) ?_
    refine wp_b (st' := []) (t := 5) rfl rfl (if_neg h1) rfl ?_
    refine wp_s (pc' := 6) (lv' := [(0, .int c), (1, .int 0), (2, .int (-1))]) (st' := [.int c]) (h' := HF) rfl (fun _ => rfl) ?_
    refine wp_s (pc' := 7) (lv' := [(0, .int c), (1, .int 0), (2, .int (-1))]) (st' := [.int (-1), .int c]) (h' := HF) rfl (fun _ => rfl) ?_
    refine wp_b (st' := []) (t := 14) rfl rfl (if_pos (fr_m1 h1)) rfl ?_
    refine wp_s (pc' := 15) (lv' := [(0, .int c), (1, .int 0), (2, .int (-1))]) (st' := [.int 0]) (h' := HF) rfl (fun _ => rfl) ?_
    exact wp_r (r := (HF, some (.int 0))) rfl (fun _ => rfl) rfl
  have fp_reaches_b2_1 : wp_M 8 74 [.ref 74, .int c] HF (fun r => r = (HF, some (.int 0))) := by
    refine wp_of rfl (Nat.le_of_ble_eq_true rfl) ?_
    refine wp_s (pc' := 1) (lv' := [(0, .ref 74), (1, .int c)]) (st' := [.int c]) (h' := HF) rfl (fun _ => rfl) ?_
    refine wp_s (pc' := 2) (lv' := [(0, .ref 74), (1, .int c)]) (st' := [.int 0, .int c]) (h' := HF) rfl (fun _ => rfl) ?_
    refine wp_s (pc' := 3) (lv' := [(0, .ref 74), (1, .int c)]) (st' := [.ref 74, .int 0, .int c]) (h' := HF) rfl (fun _ => rfl) ?_
    refine wp_h (t := 6) rfl rfl (wh_gf (v := .ref 85) hc_74 (by decide) (hf_74 11 (by decide))) rfl ?_
    refine wp_s (pc' := 7) (lv' := [(0, .ref 74), (1, .int c)]) (st' := [.int 0, .ref 85, .int 0, .int c]) (h' := HF) rfl (fun _ => rfl) ?_
    refine wp_h (t := 8) rfl rfl (wh_ia (j := 0) (v := .int 0) hc_85 (by decide) (by decide) (hf_85 0 (by decide))) rfl ?_
    refine wp_s (pc' := 9) (lv' := [(0, .ref 74), (1, .int c)]) (st' := [.int 1, .int 0, .int 0, .int c]) (h' := HF) rfl (fun _ => rfl) ?_
    refine wp_s (pc' := 10) (lv' := [(0, .ref 74), (1, .int c)]) (st' := [.int (-1), .int 0, .int c]) (h' := HF) rfl (fun _ => rfl) ?_
    refine wp_vs (t := 13) rfl rfl (Or.inl rfl) rfl rfl (Nat.le_of_ble_eq_true rfl) (wp_M.deep fp_reaches_b2_1_2 (by decide)) rfl (fun h' v hP => ?_)
    cases hP
    show wp_X _ _ 13 [(0, .ref 74), (1, .int c)] [.int 0] HF _
    exact wp_r (r := (HF, some (.int 0))) rfl (fun _ => rfl) rfl
  refine wp_of rfl (Nat.le_of_ble_eq_true rfl) ?_
  refine wp_s (pc' := 1) (lv' := [(0, .ref 74), (1, .int c), (2, .int d)]) (st' := [.ref 74]) (h' := HF) rfl (fun _ => rfl) ?_
  refine wp_s (pc' := 2) (lv' := [(0, .ref 74), (1, .int c), (2, .int d)]) (st' := [.int c, .ref 74]) (h' := HF) rfl (fun _ => rfl) ?_
  refine wp_vi (t := 5) rfl rfl (Or.inl rfl) rfl rfl (Nat.le_of_ble_eq_true rfl) hc_74 rfl (wp_M.deep fp_reaches_b2_1 (by decide)) rfl (fun h' v hP => ?_)
  cases hP
  show wp_X _ _ 5 [(0, .ref 74), (1, .int c), (2, .int d)] [.int 0] HF _
  refine wp_b (o := some (11)) (st' := []) (t := 16) rfl rfl rfl rfl ?_
  refine wp_s (pc' := 17) (lv' := [(0, .ref 74), (1, .int c), (2, .int d)]) (st' := [.int (-1)]) (h' := HF) rfl (fun _ => rfl) ?_
  exact wp_r (r := (HF, some (.int (-1)))) rfl (fun _ => rfl) rfl

set_option maxRecDepth 20000 in
theorem fp_run_a1 {HF : im_H} (hHF : fr_HF HF) (c : Int32) (h1 : c < 1) :  wp_M 9 14 [.ref 1, .int c] HF (fun r => r = (HF, some (.int (-1)))) := by
  refine wp_of rfl (Nat.le_of_ble_eq_true rfl) ?_
  refine wp_s (pc' := 1) (lv' := [(0, .ref 1), (1, .int c)]) (st' := [.int c]) (h' := HF) rfl (fun _ => rfl) ?_
  refine wp_s (pc' := 2) (lv' := [(0, .ref 1), (1, .int c)]) (st' := [.int 1, .int c]) (h' := HF) rfl (fun _ => rfl) ?_
  refine wp_b (st' := []) (t := 12) rfl rfl (if_pos h1) rfl ?_
  refine wp_s (pc' := 13) (lv' := [(0, .ref 1), (1, .int c)]) (st' := [.int (-1)]) (h' := HF) rfl (fun _ => rfl) ?_
  exact wp_r (r := (HF, some (.int (-1)))) rfl (fun _ => rfl) rfl

set_option maxRecDepth 20000 in
theorem fp_run_a2 {HF : im_H} (hHF : fr_HF HF) (c : Int32) (h1 : c < 1) :  wp_M 9 87 [.ref 74, .int c] HF (fun r => r = (HF, some (.int (-1)))) := by
  have fp_run_a2_1 : wp_M 8 59 [.int c, .int 1, .int 300] HF (fun r => r = (HF, some (.int 0))) := by
    refine wp_of rfl (Nat.le_of_ble_eq_true rfl) ?_
    refine wp_s (pc' := 1) (lv' := [(0, .int c), (1, .int 1), (2, .int 300)]) (st' := [.int c]) (h' := HF) rfl (fun _ => rfl) ?_
    refine wp_s (pc' := 2) (lv' := [(0, .int c), (1, .int 1), (2, .int 300)]) (st' := [.int 1, .int c]) (h' := HF) rfl (fun _ => rfl) ?_
    refine wp_b (st' := []) (t := 14) rfl rfl (if_pos h1) rfl ?_
    refine wp_s (pc' := 15) (lv' := [(0, .int c), (1, .int 1), (2, .int 300)]) (st' := [.int 0]) (h' := HF) rfl (fun _ => rfl) ?_
    exact wp_r (r := (HF, some (.int 0))) rfl (fun _ => rfl) rfl
  refine wp_of rfl (Nat.le_of_ble_eq_true rfl) ?_
  refine wp_s (pc' := 1) (lv' := [(0, .ref 74), (1, .int c)]) (st' := [.int c]) (h' := HF) rfl (fun _ => rfl) ?_
  refine wp_s (pc' := 2) (lv' := [(0, .ref 74), (1, .int c)]) (st' := [.int 1, .int c]) (h' := HF) rfl (fun _ => rfl) ?_
  refine wp_s (pc' := 5) (lv' := [(0, .ref 74), (1, .int c)]) (st' := [.int 300, .int 1, .int c]) (h' := HF) rfl (fun _ => rfl) ?_
  refine wp_vs (t := 8) rfl rfl (Or.inl rfl) rfl rfl (Nat.le_of_ble_eq_true rfl) (wp_M.deep fp_run_a2_1 (by decide)) rfl (fun h' v hP => ?_)
  cases hP
  show wp_X _ _ 8 [(0, .ref 74), (1, .int c)] [.int 0] HF _
  refine wp_b (o := none) (st' := []) (t := 11) rfl rfl rfl rfl ?_
  refine wp_s (pc' := 12) (lv' := [(0, .ref 74), (1, .int c)]) (st' := [.int (-1)]) (h' := HF) rfl (fun _ => rfl) ?_
  exact wp_r (r := (HF, some (.int (-1)))) rfl (fun _ => rfl) rfl

set_option maxRecDepth 20000 in
theorem fp_run_b1 {HF : im_H} (hHF : fr_HF HF) (c : Int32) (h1 : ¬ c < 1) (h2 : 300 < c) :  wp_M 9 14 [.ref 1, .int c] HF (fun r => r = (HF, some (.int (-1)))) := by
  refine wp_of rfl (Nat.le_of_ble_eq_true rfl) ?_
  refine wp_s (pc' := 1) (lv' := [(0, .ref 1), (1, .int c)]) (st' := [.int c]) (h' := HF) rfl (fun _ => rfl) ?_
  refine wp_s (pc' := 2) (lv' := [(0, .ref 1), (1, .int c)]) (st' := [.int 1, .int c]) (h' := HF) rfl (fun _ => rfl) ?_
  refine wp_b (st' := []) (t := 5) rfl rfl (if_neg h1) rfl ?_
  refine wp_s (pc' := 6) (lv' := [(0, .ref 1), (1, .int c)]) (st' := [.int c]) (h' := HF) rfl (fun _ => rfl) ?_
  refine wp_s (pc' := 9) (lv' := [(0, .ref 1), (1, .int c)]) (st' := [.int 300, .int c]) (h' := HF) rfl (fun _ => rfl) ?_
  refine wp_b (st' := []) (t := 12) rfl rfl (if_neg (Int32.not_le.mpr h2)) rfl ?_
  refine wp_s (pc' := 13) (lv' := [(0, .ref 1), (1, .int c)]) (st' := [.int (-1)]) (h' := HF) rfl (fun _ => rfl) ?_
  exact wp_r (r := (HF, some (.int (-1)))) rfl (fun _ => rfl) rfl

set_option maxRecDepth 20000 in
theorem fp_run_b2 {HF : im_H} (hHF : fr_HF HF) (c : Int32) (h1 : ¬ c < 1) (h2 : 300 < c) :  wp_M 9 87 [.ref 74, .int c] HF (fun r => r = (HF, some (.int (-1)))) := by
  have fp_run_b2_1 : wp_M 8 59 [.int c, .int 1, .int 300] HF (fun r => r = (HF, some (.int 0))) := by
    refine wp_of rfl (Nat.le_of_ble_eq_true rfl) ?_
    refine wp_s (pc' := 1) (lv' := [(0, .int c), (1, .int 1), (2, .int 300)]) (st' := [.int c]) (h' := HF) rfl (fun _ => rfl) ?_
    refine wp_s (pc' := 2) (lv' := [(0, .int c), (1, .int 1), (2, .int 300)]) (st' := [.int 1, .int c]) (h' := HF) rfl (fun _ => rfl) ?_
    refine wp_b (st' := []) (t := 5) rfl rfl (if_neg h1) rfl ?_
    refine wp_s (pc' := 6) (lv' := [(0, .int c), (1, .int 1), (2, .int 300)]) (st' := [.int c]) (h' := HF) rfl (fun _ => rfl) ?_
    refine wp_s (pc' := 7) (lv' := [(0, .int c), (1, .int 1), (2, .int 300)]) (st' := [.int 300, .int c]) (h' := HF) rfl (fun _ => rfl) ?_
    refine wp_b (st' := []) (t := 14) rfl rfl (if_pos h2) rfl ?_
    refine wp_s (pc' := 15) (lv' := [(0, .int c), (1, .int 1), (2, .int 300)]) (st' := [.int 0]) (h' := HF) rfl (fun _ => rfl) ?_
    exact wp_r (r := (HF, some (.int 0))) rfl (fun _ => rfl) rfl
  refine wp_of rfl (Nat.le_of_ble_eq_true rfl) ?_
  refine wp_s (pc' := 1) (lv' := [(0, .ref 74), (1, .int c)]) (st' := [.int c]) (h' := HF) rfl (fun _ => rfl) ?_
  refine wp_s (pc' := 2) (lv' := [(0, .ref 74), (1, .int c)]) (st' := [.int 1, .int c]) (h' := HF) rfl (fun _ => rfl) ?_
  refine wp_s (pc' := 5) (lv' := [(0, .ref 74), (1, .int c)]) (st' := [.int 300, .int 1, .int c]) (h' := HF) rfl (fun _ => rfl) ?_
  refine wp_vs (t := 8) rfl rfl (Or.inl rfl) rfl rfl (Nat.le_of_ble_eq_true rfl) (wp_M.deep fp_run_b2_1 (by decide)) rfl (fun h' v hP => ?_)
  cases hP
  show wp_X _ _ 8 [(0, .ref 74), (1, .int c)] [.int 0] HF _
  refine wp_b (o := none) (st' := []) (t := 11) rfl rfl rfl rfl ?_
  refine wp_s (pc' := 12) (lv' := [(0, .ref 74), (1, .int c)]) (st' := [.int (-1)]) (h' := HF) rfl (fun _ => rfl) ?_
  exact wp_r (r := (HF, some (.int (-1)))) rfl (fun _ => rfl) rfl

set_option maxRecDepth 20000 in
theorem fp_run_c1 {HF : im_H} (hHF : fr_HF HF) (c : Int32) (h1 : ¬ c < 1) (h2 : ¬ 300 < c) :  wp_M 9 14 [.ref 1, .int c] HF (fun r => r = (HF, some (.int (-2)))) := by
  obtain ⟨f_1, hc_1, hf_1⟩ := hHF 0 _ rfl
  dsimp only at hc_1 hf_1
  obtain ⟨f_36, hc_36, hf_36⟩ := hHF 35 _ rfl
  dsimp only at hc_36 hf_36
  refine wp_of rfl (Nat.le_of_ble_eq_true rfl) ?_
  refine wp_s (pc' := 1) (lv' := [(0, .ref 1), (1, .int c)]) (st' := [.int c]) (h' := HF) rfl (fun _ => rfl) ?_
  refine wp_s (pc' := 2) (lv' := [(0, .ref 1), (1, .int c)]) (st' := [.int 1, .int c]) (h' := HF) rfl (fun _ => rfl) ?_
  refine wp_b (st' := []) (t := 5) rfl rfl (if_neg h1) rfl ?_
  refine wp_s (pc' := 6) (lv' := [(0, .ref 1), (1, .int c)]) (st' := [.int c]) (h' := HF) rfl (fun _ => rfl) ?_
  refine wp_s (pc' := 9) (lv' := [(0, .ref 1), (1, .int c)]) (st' := [.int 300, .int c]) (h' := HF) rfl (fun _ => rfl) ?_
  refine wp_b (st' := []) (t := 14) rfl rfl (if_pos (Int32.not_lt.mp h2)) rfl ?_
  refine wp_s (pc' := 15) (lv' := [(0, .ref 1), (1, .int c)]) (st' := [.ref 1]) (h' := HF) rfl (fun _ => rfl) ?_
  refine wp_h (t := 18) rfl rfl (wh_gf (v := .ref 36) hc_1 (by decide) (hf_1 5 (by decide))) rfl ?_
  refine wp_h (t := 21) rfl rfl (wh_gf (v := .int 0) hc_36 (by decide) (hf_36 10 (by decide))) rfl ?_
  refine wp_s (pc' := 22) (lv' := [(0, .ref 1), (1, .int c)]) (st' := [.int 1, .int 0]) (h' := HF) rfl (fun _ => rfl) ?_
  refine wp_b (o := none) (st' := []) (t := 25) rfl rfl rfl rfl ?_
  refine wp_s (pc' := 26) (lv' := [(0, .ref 1), (1, .int c)]) (st' := [.ref 1]) (h' := HF) rfl (fun _ => rfl) ?_
  refine wp_h (t := 29) rfl rfl (wh_gf (v := .ref 36) hc_1 (by decide) (hf_1 5 (by decide))) rfl ?_
  refine wp_h (t := 32) rfl rfl (wh_gf (v := .int 0) hc_36 (by decide) (hf_36 10 (by decide))) rfl ?_
  refine wp_s (pc' := 33) (lv' := [(0, .ref 1), (1, .int c)]) (st' := [.int 2, .int 0]) (h' := HF) rfl (fun _ => rfl) ?_
  refine wp_b (o := none) (st' := []) (t := 36) rfl rfl rfl rfl ?_
  refine wp_s (pc' := 38) (lv' := [(0, .ref 1), (1, .int c)]) (st' := [.int (-2)]) (h' := HF) rfl (fun _ => rfl) ?_
  exact wp_r (r := (HF, some (.int (-2)))) rfl (fun _ => rfl) rfl

set_option maxRecDepth 20000 in
theorem fp_run_c2 {HF : im_H} (hHF : fr_HF HF) (c : Int32) (h1 : ¬ c < 1) (h2 : ¬ 300 < c) :  wp_M 9 87 [.ref 74, .int c] HF (fun r => r = (HF, some (.int (-2)))) := by
  obtain ⟨f_74, hc_74, hf_74⟩ := hHF 73 _ rfl
  dsimp only at hc_74 hf_74
  have fp_run_c2_1 : wp_M 8 59 [.int c, .int 1, .int 300] HF (fun r => r = (HF, some (.int 1))) := by
    refine wp_of rfl (Nat.le_of_ble_eq_true rfl) ?_
    refine wp_s (pc' := 1) (lv' := [(0, .int c), (1, .int 1), (2, .int 300)]) (st' := [.int c]) (h' := HF) rfl (fun _ => rfl) ?_
    refine wp_s (pc' := 2) (lv' := [(0, .int c), (1, .int 1), (2, .int 300)]) (st' := [.int 1, .int c]) (h' := HF) rfl (fun _ => rfl) ?_
    refine wp_b (st' := []) (t := 5) rfl rfl (if_neg h1) rfl ?_
    refine wp_s (pc' := 6) (lv' := [(0, .int c), (1, .int 1), (2, .int 300)]) (st' := [.int c]) (h' := HF) rfl (fun _ => rfl) ?_
    refine wp_s (pc' := 7) (lv' := [(0, .int c), (1, .int 1), (2, .int 300)]) (st' := [.int 300, .int c]) (h' := HF) rfl (fun _ => rfl) ?_
    refine wp_b (st' := []) (t := 10) rfl rfl (if_neg h2) rfl ?_
    refine wp_s (pc' := 11) (lv' := [(0, .int c), (1, .int 1), (2, .int 300)]) (st' := [.int 1]) (h' := HF) rfl (fun _ => rfl) ?_
    refine wp_b (t := 15) rfl rfl rfl rfl ?_
    exact wp_r (r := (HF, some (.int 1))) rfl (fun _ => rfl) rfl
  refine wp_of rfl (Nat.le_of_ble_eq_true rfl) ?_
  refine wp_s (pc' := 1) (lv' := [(0, .ref 74), (1, .int c)]) (st' := [.int c]) (h' := HF) rfl (fun _ => rfl) ?_
  refine wp_s (pc' := 2) (lv' := [(0, .ref 74), (1, .int c)]) (st' := [.int 1, .int c]) (h' := HF) rfl (fun _ => rfl) ?_
  refine wp_s (pc' := 5) (lv' := [(0, .ref 74), (1, .int c)]) (st' := [.int 300, .int 1, .int c]) (h' := HF) rfl (fun _ => rfl) ?_
  refine wp_vs (t := 8) rfl rfl (Or.inl rfl) rfl rfl (Nat.le_of_ble_eq_true rfl) (wp_M.deep fp_run_c2_1 (by decide)) rfl (fun h' v hP => ?_)
  cases hP
  show wp_X _ _ 8 [(0, .ref 74), (1, .int c)] [.int 1] HF _
  refine wp_b (o := some (5)) (st' := []) (t := 13) rfl rfl rfl rfl ?_
  refine wp_s (pc' := 14) (lv' := [(0, .ref 74), (1, .int c)]) (st' := [.ref 74]) (h' := HF) rfl (fun _ => rfl) ?_
  refine wp_h (t := 17) rfl rfl (wh_gf (v := .int 0) hc_74 (by decide) (hf_74 32 (by decide))) rfl ?_
  refine wp_s (pc' := 18) (lv' := [(0, .ref 74), (1, .int c)]) (st' := [.int 1, .int 0]) (h' := HF) rfl (fun _ => rfl) ?_
  refine wp_b (o := none) (st' := []) (t := 21) rfl rfl rfl rfl ?_
  refine wp_s (pc' := 22) (lv' := [(0, .ref 74), (1, .int c)]) (st' := [.ref 74]) (h' := HF) rfl (fun _ => rfl) ?_
  refine wp_h (t := 25) rfl rfl (wh_gf (v := .int 0) hc_74 (by decide) (hf_74 32 (by decide))) rfl ?_
  refine wp_s (pc' := 26) (lv' := [(0, .ref 74), (1, .int c)]) (st' := [.int 2, .int 0]) (h' := HF) rfl (fun _ => rfl) ?_
  refine wp_b (o := none) (st' := []) (t := 29) rfl rfl rfl rfl ?_
  refine wp_s (pc' := 31) (lv' := [(0, .ref 74), (1, .int c)]) (st' := [.int (-2)]) (h' := HF) rfl (fun _ => rfl) ?_
  exact wp_r (r := (HF, some (.int (-2)))) rfl (fun _ => rfl) rfl

set_option maxRecDepth 20000 in
theorem fp_state_a1 {HF : im_H} (hHF : fr_HF HF) (c : Int32) (h1 : c.toInt < 0) :  wp_M 9 16 [.ref 1, .int c] HF (fun r => r = (HF, some (.int (-1)))) := by
  refine wp_of rfl (Nat.le_of_ble_eq_true rfl) ?_
  refine wp_s (pc' := 1) (lv' := [(0, .ref 1), (1, .int c)]) (st' := [.int c]) (h' := HF) rfl (fun _ => rfl) ?_
  refine wp_b (st' := []) (t := 10) rfl rfl (if_pos (fr_t0 h1)) rfl ?_
  refine wp_s (pc' := 11) (lv' := [(0, .ref 1), (1, .int c)]) (st' := [.int (-1)]) (h' := HF) rfl (fun _ => rfl) ?_
  exact wp_r (r := (HF, some (.int (-1)))) rfl (fun _ => rfl) rfl

set_option maxRecDepth 20000 in
theorem fp_state_a2 {HF : im_H} (hHF : fr_HF HF) (c : Int32) (h1 : c.toInt < 0) :  wp_M 9 92 [.ref 74, .int c] HF (fun r => r = (HF, some (.int (-1)))) := by
  refine wp_of rfl (Nat.le_of_ble_eq_true rfl) ?_
  refine wp_s (pc' := 1) (lv' := [(0, .ref 74), (1, .int c)]) (st' := [.int c]) (h' := HF) rfl (fun _ => rfl) ?_
  refine wp_b (o := some (132)) (st' := []) (t := 133) rfl rfl (if_pos h1) rfl ?_
  refine wp_s (pc' := 134) (lv' := [(0, .ref 74), (1, .int c)]) (st' := [.int (-1)]) (h' := HF) rfl (fun _ => rfl) ?_
  exact wp_r (r := (HF, some (.int (-1)))) rfl (fun _ => rfl) rfl

set_option maxRecDepth 20000 in
theorem fp_state_b1 {HF : im_H} (hHF : fr_HF HF) (c : Int32) (h1 : ¬ c.toInt < 0) (h2 : 12 < c.toInt) :  wp_M 9 16 [.ref 1, .int c] HF (fun r => r = (HF, some (.int (-1)))) := by
  refine wp_of rfl (Nat.le_of_ble_eq_true rfl) ?_
  refine wp_s (pc' := 1) (lv' := [(0, .ref 1), (1, .int c)]) (st' := [.int c]) (h' := HF) rfl (fun _ => rfl) ?_
  refine wp_b (st' := []) (t := 4) rfl rfl (if_neg (fun q => h1 (fr_t0r q))) rfl ?_
  refine wp_s (pc' := 5) (lv' := [(0, .ref 1), (1, .int c)]) (st' := [.int c]) (h' := HF) rfl (fun _ => rfl) ?_
  refine wp_s (pc' := 7) (lv' := [(0, .ref 1), (1, .int c)]) (st' := [.int 12, .int c]) (h' := HF) rfl (fun _ => rfl) ?_
  refine wp_b (st' := []) (t := 10) rfl rfl (if_neg (fr_t12 h2)) rfl ?_
  refine wp_s (pc' := 11) (lv' := [(0, .ref 1), (1, .int c)]) (st' := [.int (-1)]) (h' := HF) rfl (fun _ => rfl) ?_
  exact wp_r (r := (HF, some (.int (-1)))) rfl (fun _ => rfl) rfl

set_option maxRecDepth 20000 in
theorem fp_state_b2 {HF : im_H} (hHF : fr_HF HF) (c : Int32) (h1 : ¬ c.toInt < 0) (h2 : 12 < c.toInt) :  wp_M 9 92 [.ref 74, .int c] HF (fun r => r = (HF, some (.int (-1)))) := by
  refine wp_of rfl (Nat.le_of_ble_eq_true rfl) ?_
  refine wp_s (pc' := 1) (lv' := [(0, .ref 74), (1, .int c)]) (st' := [.int c]) (h' := HF) rfl (fun _ => rfl) ?_
  refine wp_b (o := some (132)) (st' := []) (t := 133) rfl rfl ((if_neg h1).trans (if_pos h2)) rfl ?_
  refine wp_s (pc' := 134) (lv' := [(0, .ref 74), (1, .int c)]) (st' := [.int (-1)]) (h' := HF) rfl (fun _ => rfl) ?_
  exact wp_r (r := (HF, some (.int (-1)))) rfl (fun _ => rfl) rfl

set_option maxRecDepth 20000 in
theorem fp_variable_a1 {HF : im_H} (hHF : fr_HF HF) (c : Int32) (d : Int32)  :  wp_M 9 17 [.ref 1, .int c, .int d] HF (fun r => r = (HF, some (.int (-1)))) := by
  obtain ⟨f_1, hc_1, hf_1⟩ := hHF 0 _ rfl
  dsimp only at hc_1 hf_1
  obtain ⟨f_36, hc_36, hf_36⟩ := hHF 35 _ rfl
  dsimp only at hc_36 hf_36
  have fp_variable_a1_1 : wp_M 8 43 [.ref 36, .int c] HF (fun r => r = (HF, some (.int 0))) := by
    refine wp_of rfl (Nat.le_of_ble_eq_true rfl) ?_
    refine wp_s (pc' := 1) (lv' := [(0, .ref 36), (1, .int c)]) (st' := [.ref 36]) (h' := HF) rfl (fun _ => rfl) ?_
    refine wp_h (t := 4) rfl rfl (wh_gf (v := .int 0) hc_36 (by decide) (hf_36 10 (by decide))) rfl ?_
    refine wp_b (o := some (26)) (st' := []) (t := 30) rfl rfl rfl rfl ?_
    refine wp_s (pc' := 31) (lv' := [(0, .ref 36), (1, .int c)]) (st' := [.int 0]) (h' := HF) rfl (fun _ => rfl) ?_
    exact wp_r (r := (HF, some (.int 0))) rfl (fun _ => rfl) rfl
  refine wp_of rfl (Nat.le_of_ble_eq_true rfl) ?_
  refine wp_s (pc' := 1) (lv' := [(0, .ref 1), (1, .int c), (2, .int d)]) (st' := [.ref 1]) (h' := HF) rfl (fun _ => rfl) ?_
  refine wp_h (t := 4) rfl rfl (wh_gf (v := .ref 36) hc_1 (by decide) (hf_1 5 (by decide))) rfl ?_
  refine wp_s (pc' := 5) (lv' := [(0, .ref 1), (1, .int c), (2, .int d)]) (st' := [.int c, .ref 36]) (h' := HF) rfl (fun _ => rfl) ?_
  refine wp_vi (t := 8) rfl rfl (Or.inl rfl) rfl rfl (Nat.le_of_ble_eq_true rfl) hc_36 rfl (wp_M.deep fp_variable_a1_1 (by decide)) rfl (fun h' v hP => ?_)
  cases hP
  show wp_X _ _ 8 [(0, .ref 1), (1, .int c), (2, .int d)] [.int 0] HF _
  refine wp_b (o := some (12)) (st' := []) (t := 20) rfl rfl rfl rfl ?_
  refine wp_s (pc' := 21) (lv' := [(0, .ref 1), (1, .int c), (2, .int d)]) (st' := [.int (-1)]) (h' := HF) rfl (fun _ => rfl) ?_
  exact wp_r (r := (HF, some (.int (-1)))) rfl (fun _ => rfl) rfl

set_option maxRecDepth 20000 in
theorem fp_variable_a2 {HF : im_H} (hHF : fr_HF HF) (c : Int32) (d : Int32)  :  wp_M 9 94 [.ref 74, .int c, .int d] HF (fun r => r = (HF, some (.int (-1)))) := by
  obtain ⟨f_74, hc_74, hf_74⟩ := hHF 73 _ rfl
  dsimp only at hc_74 hf_74
  have fp_variable_a2_1 : wp_M 8 93 [.ref 74, .int c] HF (fun r => r = (HF, some (.int 0))) := by
    refine wp_of rfl (Nat.le_of_ble_eq_true rfl) ?_
    refine wp_s (pc' := 1) (lv' := [(0, .ref 74), (1, .int c)]) (st' := [.ref 74]) (h' := HF) rfl (fun _ => rfl) ?_
    refine wp_h (t := 4) rfl rfl (wh_gf (v := .int 0) hc_74 (by decide) (hf_74 32 (by decide))) rfl ?_
    refine wp_b (o := some (24)) (st' := []) (t := 28) rfl rfl rfl rfl ?_
    refine wp_s (pc' := 29) (lv' := [(0, .ref 74), (1, .int c)]) (st' := [.int 0]) (h' := HF) rfl (fun _ => rfl) ?_
    exact wp_r (r := (HF, some (.int 0))) rfl (fun _ => rfl) rfl
  refine wp_of rfl (Nat.le_of_ble_eq_true rfl) ?_
  refine wp_s (pc' := 1) (lv' := [(0, .ref 74), (1, .int c), (2, .int d)]) (st' := [.ref 74]) (h' := HF) rfl (fun _ => rfl) ?_
  refine wp_s (pc' := 2) (lv' := [(0, .ref 74), (1, .int c), (2, .int d)]) (st' := [.int c, .ref 74]) (h' := HF) rfl (fun _ => rfl) ?_
  refine wp_vi (t := 5) rfl rfl (Or.inl rfl) rfl rfl (Nat.le_of_ble_eq_true rfl) hc_74 rfl (wp_M.deep fp_variable_a2_1 (by decide)) rfl (fun h' v hP => ?_)
  cases hP
  show wp_X _ _ 5 [(0, .ref 74), (1, .int c), (2, .int d)] [.int 0] HF _
  refine wp_b (o := none) (st' := []) (t := 8) rfl rfl rfl rfl ?_
  refine wp_s (pc' := 9) (lv' := [(0, .ref 74), (1, .int c), (2, .int d)]) (st' := [.int (-1)]) (h' := HF) rfl (fun _ => rfl) ?_
  exact wp_r (r := (HF, some (.int (-1)))) rfl (fun _ => rfl) rfl

set_option maxRecDepth 20000 in
theorem fp_value_a1 {HF : im_H} (hHF : fr_HF HF) (c : Int32) (d : Int32)  :  wp_M 9 18 [.ref 1, .int c, .int d] HF (fun r => r = (HF, some (.int (-1)))) := by
  obtain ⟨f_1, hc_1, hf_1⟩ := hHF 0 _ rfl
  dsimp only at hc_1 hf_1
  obtain ⟨f_36, hc_36, hf_36⟩ := hHF 35 _ rfl
  dsimp only at hc_36 hf_36
  have fp_value_a1_1 : wp_M 8 43 [.ref 36, .int c] HF (fun r => r = (HF, some (.int 0))) := by
    refine wp_of rfl (Nat.le_of_ble_eq_true rfl) ?_
    refine wp_s (pc' := 1) (lv' := [(0, .ref 36), (1, .int c)]) (st' := [.ref 36]) (h' := HF) rfl (fun _ => rfl) ?_
    refine wp_h (t := 4) rfl rfl (wh_gf (v := .int 0) hc_36 (by decide) (hf_36 10 (by decide))) rfl ?_
    refine wp_b (o := some (26)) (st' := []) (t := 30) rfl rfl rfl rfl ?_
    refine wp_s (pc' := 31) (lv' := [(0, .ref 36), (1, .int c)]) (st' := [.int 0]) (h' := HF) rfl (fun _ => rfl) ?_
    exact wp_r (r := (HF, some (.int 0))) rfl (fun _ => rfl) rfl
  refine wp_of rfl (Nat.le_of_ble_eq_true rfl) ?_
  refine wp_s (pc' := 1) (lv' := [(0, .ref 1), (1, .int c), (2, .int d)]) (st' := [.ref 1]) (h' := HF) rfl (fun _ => rfl) ?_
  refine wp_h (t := 4) rfl rfl (wh_gf (v := .ref 36) hc_1 (by decide) (hf_1 5 (by decide))) rfl ?_
  refine wp_s (pc' := 5) (lv' := [(0, .ref 1), (1, .int c), (2, .int d)]) (st' := [.int c, .ref 36]) (h' := HF) rfl (fun _ => rfl) ?_
  refine wp_vi (t := 8) rfl rfl (Or.inl rfl) rfl rfl (Nat.le_of_ble_eq_true rfl) hc_36 rfl (wp_M.deep fp_value_a1_1 (by decide)) rfl (fun h' v hP => ?_)
  cases hP
  show wp_X _ _ 8 [(0, .ref 1), (1, .int c), (2, .int d)] [.int 0] HF _
  refine wp_b (o := some (7)) (st' := []) (t := 15) rfl rfl rfl rfl ?_
  refine wp_s (pc' := 16) (lv' := [(0, .ref 1), (1, .int c), (2, .int d)]) (st' := [.int (-1)]) (h' := HF) rfl (fun _ => rfl) ?_
  exact wp_r (r := (HF, some (.int (-1)))) rfl (fun _ => rfl) rfl

set_option maxRecDepth 20000 in
theorem fp_value_a2 {HF : im_H} (hHF : fr_HF HF) (c : Int32) (d : Int32)  :  wp_M 9 96 [.ref 74, .int c, .int d] HF (fun r => r = (HF, some (.int (-1)))) := by
  obtain ⟨f_74, hc_74, hf_74⟩ := hHF 73 _ rfl
  dsimp only at hc_74 hf_74
  have fp_value_a2_1 : wp_M 8 93 [.ref 74, .int c] HF (fun r => r = (HF, some (.int 0))) := by
    refine wp_of rfl (Nat.le_of_ble_eq_true rfl) ?_
    refine wp_s (pc' := 1) (lv' := [(0, .ref 74), (1, .int c)]) (st' := [.ref 74]) (h' := HF) rfl (fun _ => rfl) ?_
    refine wp_h (t := 4) rfl rfl (wh_gf (v := .int 0) hc_74 (by decide) (hf_74 32 (by decide))) rfl ?_
    refine wp_b (o := some (24)) (st' := []) (t := 28) rfl rfl rfl rfl ?_
    refine wp_s (pc' := 29) (lv' := [(0, .ref 74), (1, .int c)]) (st' := [.int 0]) (h' := HF) rfl (fun _ => rfl) ?_
    exact wp_r (r := (HF, some (.int 0))) rfl (fun _ => rfl) rfl
  refine wp_of rfl (Nat.le_of_ble_eq_true rfl) ?_
  refine wp_s (pc' := 1) (lv' := [(0, .ref 74), (1, .int c), (2, .int d)]) (st' := [.ref 74]) (h' := HF) rfl (fun _ => rfl) ?_
  refine wp_s (pc' := 2) (lv' := [(0, .ref 74), (1, .int c), (2, .int d)]) (st' := [.int c, .ref 74]) (h' := HF) rfl (fun _ => rfl) ?_
  refine wp_vi (t := 5) rfl rfl (Or.inl rfl) rfl rfl (Nat.le_of_ble_eq_true rfl) hc_74 rfl (wp_M.deep fp_value_a2_1 (by decide)) rfl (fun h' v hP => ?_)
  cases hP
  show wp_X _ _ 5 [(0, .ref 74), (1, .int c), (2, .int d)] [.int 0] HF _
  refine wp_b (o := some (7)) (st' := []) (t := 12) rfl rfl rfl rfl ?_
  refine wp_s (pc' := 13) (lv' := [(0, .ref 74), (1, .int c), (2, .int d)]) (st' := [.int (-1)]) (h' := HF) rfl (fun _ => rfl) ?_
  exact wp_r (r := (HF, some (.int (-1)))) rfl (fun _ => rfl) rfl

set_option maxRecDepth 20000 in
theorem fp_goal_a1 {HF : im_H} (hHF : fr_HF HF) (c : Int32) (h1 : c < 0) :  wp_M 9 19 [.ref 1, .int c] HF (fun r => r = (HF, some (.int (-1)))) := by
  refine wp_of rfl (Nat.le_of_ble_eq_true rfl) ?_
  refine wp_s (pc' := 1) (lv' := [(0, .ref 1), (1, .int c)]) (st' := [.int c]) (h' := HF) rfl (fun _ => rfl) ?_
  refine wp_b (st' := []) (t := 4) rfl rfl (if_neg (Int32.not_le.mpr h1)) rfl ?_
  refine wp_s (pc' := 5) (lv' := [(0, .ref 1), (1, .int c)]) (st' := [.int (-1)]) (h' := HF) rfl (fun _ => rfl) ?_
  exact wp_r (r := (HF, some (.int (-1)))) rfl (fun _ => rfl) rfl

set_option maxRecDepth 20000 in
theorem fp_goal_a2 {HF : im_H} (hHF : fr_HF HF) (c : Int32) (h1 : c < 0) :  wp_M 9 97 [.ref 74, .int c] HF (fun r => r = (HF, some (.int (-1)))) := by
  refine wp_of rfl (Nat.le_of_ble_eq_true rfl) ?_
  refine wp_s (pc' := 1) (lv' := [(0, .ref 74), (1, .int c)]) (st' := [.int c]) (h' := HF) rfl (fun _ => rfl) ?_
  refine wp_b (st' := []) (t := 4) rfl rfl (if_neg (Int32.not_le.mpr h1)) rfl ?_
  refine wp_s (pc' := 5) (lv' := [(0, .ref 74), (1, .int c)]) (st' := [.int (-1)]) (h' := HF) rfl (fun _ => rfl) ?_
  exact wp_r (r := (HF, some (.int (-1)))) rfl (fun _ => rfl) rfl

set_option maxRecDepth 20000 in
theorem fp_goal_b1 {HF : im_H} (hHF : fr_HF HF) (c : Int32) (h1 : ¬ c < 0) :  wp_M 9 19 [.ref 1, .int c] HF (fun r => r = (HF, some (.int (-9)))) := by
  obtain ⟨f_1, hc_1, hf_1⟩ := hHF 0 _ rfl
  dsimp only at hc_1 hf_1
  obtain ⟨f_36, hc_36, hf_36⟩ := hHF 35 _ rfl
  dsimp only at hc_36 hf_36
  refine wp_of rfl (Nat.le_of_ble_eq_true rfl) ?_
  refine wp_s (pc' := 1) (lv' := [(0, .ref 1), (1, .int c)]) (st' := [.int c]) (h' := HF) rfl (fun _ => rfl) ?_
  refine wp_b (st' := []) (t := 6) rfl rfl (if_pos (Int32.not_lt.mp h1)) rfl ?_
  refine wp_s (pc' := 7) (lv' := [(0, .ref 1), (1, .int c)]) (st' := [.ref 1]) (h' := HF) rfl (fun _ => rfl) ?_
  refine wp_h (t := 10) rfl rfl (wh_gf (v := .ref 36) hc_1 (by decide) (hf_1 5 (by decide))) rfl ?_
  refine wp_h (t := 13) rfl rfl (wh_gf (v := .null) hc_36 (by decide) (hf_36 6 (by decide))) rfl ?_
  refine wp_s (pc' := 14) (lv' := [(2, .null), (0, .ref 1), (1, .int c)]) (st' := []) (h' := HF) rfl (fun _ => rfl) ?_
  refine wp_s (pc' := 15) (lv' := [(2, .null), (0, .ref 1), (1, .int c)]) (st' := [.null]) (h' := HF) rfl (fun _ => rfl) ?_
  refine wp_b (st' := []) (t := 18) rfl rfl rfl rfl ?_
  refine wp_s (pc' := 20) (lv' := [(2, .null), (0, .ref 1), (1, .int c)]) (st' := [.int (-9)]) (h' := HF) rfl (fun _ => rfl) ?_
  exact wp_r (r := (HF, some (.int (-9)))) rfl (fun _ => rfl) rfl

set_option maxRecDepth 20000 in
theorem fp_goal_b2 {HF : im_H} (hHF : fr_HF HF) (c : Int32) (h1 : ¬ c < 0) :  wp_M 9 97 [.ref 74, .int c] HF (fun r => r = (HF, some (.int (-9)))) := by
  obtain ⟨f_74, hc_74, hf_74⟩ := hHF 73 _ rfl
  dsimp only at hc_74 hf_74
  refine wp_of rfl (Nat.le_of_ble_eq_true rfl) ?_
  refine wp_s (pc' := 1) (lv' := [(0, .ref 74), (1, .int c)]) (st' := [.int c]) (h' := HF) rfl (fun _ => rfl) ?_
  refine wp_b (st' := []) (t := 6) rfl rfl (if_pos (Int32.not_lt.mp h1)) rfl ?_
  refine wp_s (pc' := 7) (lv' := [(0, .ref 74), (1, .int c)]) (st' := [.ref 74]) (h' := HF) rfl (fun _ => rfl) ?_
  refine wp_h (t := 10) rfl rfl (wh_gf (v := .int (-9)) hc_74 (by decide) (hf_74 52 (by decide))) rfl ?_
  refine wp_s (pc' := 12) (lv' := [(0, .ref 74), (1, .int c)]) (st' := [.int (-9), .int (-9)]) (h' := HF) rfl (fun _ => rfl) ?_
  refine wp_b (o := none) (st' := []) (t := 15) rfl rfl rfl rfl ?_
  refine wp_s (pc' := 17) (lv' := [(0, .ref 74), (1, .int c)]) (st' := [.int (-9)]) (h' := HF) rfl (fun _ => rfl) ?_
  exact wp_r (r := (HF, some (.int (-9)))) rfl (fun _ => rfl) rfl

set_option maxRecDepth 20000 in
theorem fp_frame_a1 {HF : im_H} (hHF : fr_HF HF) (c : Int32) (d : Int32) (h1 : c < 0) :  wp_M 9 20 [.ref 1, .int c, .int d] HF (fun r => r = (HF, some (.int (-1)))) := by
  obtain ⟨f_1, hc_1, hf_1⟩ := hHF 0 _ rfl
  dsimp only at hc_1 hf_1
  obtain ⟨f_36, hc_36, hf_36⟩ := hHF 35 _ rfl
  dsimp only at hc_36 hf_36
  have fp_frame_a1_1 : wp_M 8 44 [.ref 36, .int c] HF (fun r => r = (HF, some (.null))) := by
    refine wp_of rfl (Nat.le_of_ble_eq_true rfl) ?_
    refine wp_s (pc' := 1) (lv' := [(0, .ref 36), (1, .int c)]) (st' := [.int c]) (h' := HF) rfl (fun _ => rfl) ?_
    refine wp_b (st' := []) (t := 4) rfl rfl (if_neg (Int32.not_le.mpr h1)) rfl ?_
    refine wp_s (pc' := 5) (lv' := [(0, .ref 36), (1, .int c)]) (st' := [.null]) (h' := HF) rfl (fun _ => rfl) ?_
    refine wp_b (t := 12) rfl rfl rfl rfl ?_
    refine wp_s (pc' := 13) (lv' := [(2, .null), (0, .ref 36), (1, .int c)]) (st' := []) (h' := HF) rfl (fun _ => rfl) ?_
    refine wp_s (pc' := 14) (lv' := [(2, .null), (0, .ref 36), (1, .int c)]) (st' := [.int 0]) (h' := HF) rfl (fun _ => rfl) ?_
    refine wp_s (pc' := 15) (lv' := [(3, .int 0), (2, .null), (0, .ref 36), (1, .int c)]) (st' := []) (h' := HF) rfl (fun _ => rfl) ?_
    refine wp_s (pc' := 16) (lv' := [(3, .int 0), (2, .null), (0, .ref 36), (1, .int c)]) (st' := [.int 0]) (h' := HF) rfl (fun _ => rfl) ?_
    refine wp_s (pc' := 17) (lv' := [(3, .int 0), (2, .null), (0, .ref 36), (1, .int c)]) (st' := [.int c, .int 0]) (h' := HF) rfl (fun _ => rfl) ?_
    refine wp_b (st' := []) (t := 35) rfl rfl (if_pos (Int32.le_of_lt h1)) rfl ?_
    refine wp_s (pc' := 36) (lv' := [(3, .int 0), (2, .null), (0, .ref 36), (1, .int c)]) (st' := [.null]) (h' := HF) rfl (fun _ => rfl) ?_
    exact wp_r (r := (HF, some (.null))) rfl (fun _ => rfl) rfl
  refine wp_of rfl (Nat.le_of_ble_eq_true rfl) ?_
  refine wp_s (pc' := 1) (lv' := [(0, .ref 1), (1, .int c), (2, .int d)]) (st' := [.ref 1]) (h' := HF) rfl (fun _ => rfl) ?_
  refine wp_h (t := 4) rfl rfl (wh_gf (v := .ref 36) hc_1 (by decide) (hf_1 5 (by decide))) rfl ?_
  refine wp_s (pc' := 5) (lv' := [(0, .ref 1), (1, .int c), (2, .int d)]) (st' := [.int c, .ref 36]) (h' := HF) rfl (fun _ => rfl) ?_
  refine wp_vi (t := 8) rfl rfl (Or.inl rfl) rfl rfl (Nat.le_of_ble_eq_true rfl) hc_36 rfl (wp_M.deep fp_frame_a1_1 (by decide)) rfl (fun h' v hP => ?_)
  cases hP
  show wp_X _ _ 8 [(0, .ref 1), (1, .int c), (2, .int d)] [.null] HF _
  refine wp_s (pc' := 9) (lv' := [(3, .null), (0, .ref 1), (1, .int c), (2, .int d)]) (st' := []) (h' := HF) rfl (fun _ => rfl) ?_
  refine wp_s (pc' := 10) (lv' := [(3, .null), (0, .ref 1), (1, .int c), (2, .int d)]) (st' := [.null]) (h' := HF) rfl (fun _ => rfl) ?_
  refine wp_b (st' := []) (t := 13) rfl rfl rfl rfl ?_
  refine wp_s (pc' := 14) (lv' := [(3, .null), (0, .ref 1), (1, .int c), (2, .int d)]) (st' := [.int (-1)]) (h' := HF) rfl (fun _ => rfl) ?_
  exact wp_r (r := (HF, some (.int (-1)))) rfl (fun _ => rfl) rfl

set_option maxRecDepth 20000 in
theorem fp_frame_a2 {HF : im_H} (hHF : fr_HF HF) (c : Int32) (d : Int32) (h1 : c < 0) :  wp_M 9 98 [.ref 74, .int c, .int d] HF (fun r => r = (HF, some (.int (-1)))) := by
  refine wp_of rfl (Nat.le_of_ble_eq_true rfl) ?_
  refine wp_s (pc' := 1) (lv' := [(0, .ref 74), (1, .int c), (2, .int d)]) (st' := [.int c]) (h' := HF) rfl (fun _ => rfl) ?_
  refine wp_b (st' := []) (t := 16) rfl rfl (if_pos h1) rfl ?_
  refine wp_s (pc' := 17) (lv' := [(0, .ref 74), (1, .int c), (2, .int d)]) (st' := [.int (-1)]) (h' := HF) rfl (fun _ => rfl) ?_
  exact wp_r (r := (HF, some (.int (-1)))) rfl (fun _ => rfl) rfl

set_option maxRecDepth 20000 in
theorem fp_frame_b1 {HF : im_H} (hHF : fr_HF HF) (c : Int32) (d : Int32) (h2 : 0 < c) :  wp_M 9 20 [.ref 1, .int c, .int d] HF (fun r => r = (HF, some (.int (-1)))) := by
  obtain ⟨f_1, hc_1, hf_1⟩ := hHF 0 _ rfl
  dsimp only at hc_1 hf_1
  obtain ⟨f_36, hc_36, hf_36⟩ := hHF 35 _ rfl
  dsimp only at hc_36 hf_36
  have fp_frame_b1_1 : wp_M 8 44 [.ref 36, .int c] HF (fun r => r = (HF, some (.null))) := by
    refine wp_of rfl (Nat.le_of_ble_eq_true rfl) ?_
    refine wp_s (pc' := 1) (lv' := [(0, .ref 36), (1, .int c)]) (st' := [.int c]) (h' := HF) rfl (fun _ => rfl) ?_
    refine wp_b (st' := []) (t := 8) rfl rfl (if_pos (Int32.le_of_lt h2)) rfl ?_
    refine wp_s (pc' := 9) (lv' := [(0, .ref 36), (1, .int c)]) (st' := [.ref 36]) (h' := HF) rfl (fun _ => rfl) ?_
    refine wp_h (t := 12) rfl rfl (wh_gf (v := .null) hc_36 (by decide) (hf_36 6 (by decide))) rfl ?_
    refine wp_s (pc' := 13) (lv' := [(2, .null), (0, .ref 36), (1, .int c)]) (st' := []) (h' := HF) rfl (fun _ => rfl) ?_
    refine wp_s (pc' := 14) (lv' := [(2, .null), (0, .ref 36), (1, .int c)]) (st' := [.int 0]) (h' := HF) rfl (fun _ => rfl) ?_
    refine wp_s (pc' := 15) (lv' := [(3, .int 0), (2, .null), (0, .ref 36), (1, .int c)]) (st' := []) (h' := HF) rfl (fun _ => rfl) ?_
    refine wp_s (pc' := 16) (lv' := [(3, .int 0), (2, .null), (0, .ref 36), (1, .int c)]) (st' := [.int 0]) (h' := HF) rfl (fun _ => rfl) ?_
    refine wp_s (pc' := 17) (lv' := [(3, .int 0), (2, .null), (0, .ref 36), (1, .int c)]) (st' := [.int c, .int 0]) (h' := HF) rfl (fun _ => rfl) ?_
    refine wp_b (st' := []) (t := 20) rfl rfl (if_neg (Int32.not_le.mpr h2)) rfl ?_
    refine wp_s (pc' := 21) (lv' := [(3, .int 0), (2, .null), (0, .ref 36), (1, .int c)]) (st' := [.null]) (h' := HF) rfl (fun _ => rfl) ?_
    refine wp_b (st' := []) (t := 35) rfl rfl rfl rfl ?_
    refine wp_s (pc' := 36) (lv' := [(3, .int 0), (2, .null), (0, .ref 36), (1, .int c)]) (st' := [.null]) (h' := HF) rfl (fun _ => rfl) ?_
    exact wp_r (r := (HF, some (.null))) rfl (fun _ => rfl) rfl
  refine wp_of rfl (Nat.le_of_ble_eq_true rfl) ?_
  refine wp_s (pc' := 1) (lv' := [(0, .ref 1), (1, .int c), (2, .int d)]) (st' := [.ref 1]) (h' := HF) rfl (fun _ => rfl) ?_
  refine wp_h (t := 4) rfl rfl (wh_gf (v := .ref 36) hc_1 (by decide) (hf_1 5 (by decide))) rfl ?_
  refine wp_s (pc' := 5) (lv' := [(0, .ref 1), (1, .int c), (2, .int d)]) (st' := [.int c, .ref 36]) (h' := HF) rfl (fun _ => rfl) ?_
  refine wp_vi (t := 8) rfl rfl (Or.inl rfl) rfl rfl (Nat.le_of_ble_eq_true rfl) hc_36 rfl (wp_M.deep fp_frame_b1_1 (by decide)) rfl (fun h' v hP => ?_)
  cases hP
  show wp_X _ _ 8 [(0, .ref 1), (1, .int c), (2, .int d)] [.null] HF _
  refine wp_s (pc' := 9) (lv' := [(3, .null), (0, .ref 1), (1, .int c), (2, .int d)]) (st' := []) (h' := HF) rfl (fun _ => rfl) ?_
  refine wp_s (pc' := 10) (lv' := [(3, .null), (0, .ref 1), (1, .int c), (2, .int d)]) (st' := [.null]) (h' := HF) rfl (fun _ => rfl) ?_
  refine wp_b (st' := []) (t := 13) rfl rfl rfl rfl ?_
  refine wp_s (pc' := 14) (lv' := [(3, .null), (0, .ref 1), (1, .int c), (2, .int d)]) (st' := [.int (-1)]) (h' := HF) rfl (fun _ => rfl) ?_
  exact wp_r (r := (HF, some (.int (-1)))) rfl (fun _ => rfl) rfl

set_option maxRecDepth 20000 in
theorem fp_frame_b2 {HF : im_H} (hHF : fr_HF HF) (c : Int32) (d : Int32) (h2 : 0 < c) :  wp_M 9 98 [.ref 74, .int c, .int d] HF (fun r => r = (HF, some (.int (-1)))) := by
  obtain ⟨f_74, hc_74, hf_74⟩ := hHF 73 _ rfl
  dsimp only at hc_74 hf_74
  have fp_frame_b2_1 : wp_M 8 86 [.ref 74, .int (-9)] HF (fun r => r = (HF, some (.int 0))) := by
    refine wp_of rfl (Nat.le_of_ble_eq_true rfl) ?_
    refine wp_s (pc' := 1) (lv' := [(0, .ref 74), (1, .int (-9))]) (st' := [.int 0]) (h' := HF) rfl (fun _ => rfl) ?_
    refine wp_s (pc' := 2) (lv' := [(2, .int 0), (0, .ref 74), (1, .int (-9))]) (st' := []) (h' := HF) rfl (fun _ => rfl) ?_
    refine wp_s (pc' := 3) (lv' := [(2, .int 0), (0, .ref 74), (1, .int (-9))]) (st' := [.int (-9)]) (h' := HF) rfl (fun _ => rfl) ?_
    refine wp_s (pc' := 4) (lv' := [(3, .int (-9)), (2, .int 0), (0, .ref 74), (1, .int (-9))]) (st' := []) (h' := HF) rfl (fun _ => rfl) ?_
    refine wp_s (pc' := 5) (lv' := [(3, .int (-9)), (2, .int 0), (0, .ref 74), (1, .int (-9))]) (st' := [.int (-9)]) (h' := HF) rfl (fun _ => rfl) ?_
    refine wp_s (pc' := 7) (lv' := [(3, .int (-9)), (2, .int 0), (0, .ref 74), (1, .int (-9))]) (st' := [.int (-9), .int (-9)]) (h' := HF) rfl (fun _ => rfl) ?_
    refine wp_b (o := some (16)) (st' := []) (t := 23) rfl rfl rfl rfl ?_
    refine wp_s (pc' := 24) (lv' := [(3, .int (-9)), (2, .int 0), (0, .ref 74), (1, .int (-9))]) (st' := [.int 0]) (h' := HF) rfl (fun _ => rfl) ?_
    exact wp_r (r := (HF, some (.int 0))) rfl (fun _ => rfl) rfl
  refine wp_of rfl (Nat.le_of_ble_eq_true rfl) ?_
  refine wp_s (pc' := 1) (lv' := [(0, .ref 74), (1, .int c), (2, .int d)]) (st' := [.int c]) (h' := HF) rfl (fun _ => rfl) ?_
  refine wp_b (st' := []) (t := 4) rfl rfl (if_neg (Int32.not_lt.mpr (Int32.le_of_lt h2))) rfl ?_
  refine wp_s (pc' := 5) (lv' := [(0, .ref 74), (1, .int c), (2, .int d)]) (st' := [.int c]) (h' := HF) rfl (fun _ => rfl) ?_
  refine wp_s (pc' := 6) (lv' := [(0, .ref 74), (1, .int c), (2, .int d)]) (st' := [.ref 74, .int c]) (h' := HF) rfl (fun _ => rfl) ?_
  refine wp_s (pc' := 7) (lv' := [(0, .ref 74), (1, .int c), (2, .int d)]) (st' := [.ref 74, .ref 74, .int c]) (h' := HF) rfl (fun _ => rfl) ?_
  refine wp_h (t := 10) rfl rfl (wh_gf (v := .int (-9)) hc_74 (by decide) (hf_74 52 (by decide))) rfl ?_
  refine wp_vi (t := 13) rfl rfl (Or.inl rfl) rfl rfl (Nat.le_of_ble_eq_true rfl) hc_74 rfl (wp_M.deep fp_frame_b2_1 (by decide)) rfl (fun h' v hP => ?_)
  cases hP
  show wp_X _ _ 13 [(0, .ref 74), (1, .int c), (2, .int d)] [.int 0, .int c] HF _
  refine wp_b (st' := []) (t := 16) rfl rfl (if_neg (Int32.not_lt.mpr (Int32.le_of_lt h2))) rfl ?_
  refine wp_s (pc' := 17) (lv' := [(0, .ref 74), (1, .int c), (2, .int d)]) (st' := [.int (-1)]) (h' := HF) rfl (fun _ => rfl) ?_
  exact wp_r (r := (HF, some (.int (-1)))) rfl (fun _ => rfl) rfl

set_option maxRecDepth 20000 in
theorem fp_frame_z1 {HF : im_H} (hHF : fr_HF HF) (c : Int32) (d : Int32) (h0 : c = 0) :  wp_M 9 20 [.ref 1, .int c, .int d] HF (fun r => r = (HF, some (.int (-1)))) := by
  obtain ⟨f_1, hc_1, hf_1⟩ := hHF 0 _ rfl
  dsimp only at hc_1 hf_1
  obtain ⟨f_36, hc_36, hf_36⟩ := hHF 35 _ rfl
  dsimp only at hc_36 hf_36
  have fp_frame_z1_1 : wp_M 8 44 [.ref 36, .int c] HF (fun r => r = (HF, some (.null))) := by
    refine wp_of rfl (Nat.le_of_ble_eq_true rfl) ?_
    refine wp_s (pc' := 1) (lv' := [(0, .ref 36), (1, .int c)]) (st' := [.int c]) (h' := HF) rfl (fun _ => rfl) ?_
    refine wp_b (st' := []) (t := 8) rfl rfl (if_pos (by rw [h0]; decide)) rfl ?_
    refine wp_s (pc' := 9) (lv' := [(0, .ref 36), (1, .int c)]) (st' := [.ref 36]) (h' := HF) rfl (fun _ => rfl) ?_
    refine wp_h (t := 12) rfl rfl (wh_gf (v := .null) hc_36 (by decide) (hf_36 6 (by decide))) rfl ?_
    refine wp_s (pc' := 13) (lv' := [(2, .null), (0, .ref 36), (1, .int c)]) (st' := []) (h' := HF) rfl (fun _ => rfl) ?_
    refine wp_s (pc' := 14) (lv' := [(2, .null), (0, .ref 36), (1, .int c)]) (st' := [.int 0]) (h' := HF) rfl (fun _ => rfl) ?_
    refine wp_s (pc' := 15) (lv' := [(3, .int 0), (2, .null), (0, .ref 36), (1, .int c)]) (st' := []) (h' := HF) rfl (fun _ => rfl) ?_
    refine wp_s (pc' := 16) (lv' := [(3, .int 0), (2, .null), (0, .ref 36), (1, .int c)]) (st' := [.int 0]) (h' := HF) rfl (fun _ => rfl) ?_
    refine wp_s (pc' := 17) (lv' := [(3, .int 0), (2, .null), (0, .ref 36), (1, .int c)]) (st' := [.int c, .int 0]) (h' := HF) rfl (fun _ => rfl) ?_
    refine wp_b (st' := []) (t := 35) rfl rfl (if_pos (by rw [h0]; decide)) rfl ?_
    refine wp_s (pc' := 36) (lv' := [(3, .int 0), (2, .null), (0, .ref 36), (1, .int c)]) (st' := [.null]) (h' := HF) rfl (fun _ => rfl) ?_
    exact wp_r (r := (HF, some (.null))) rfl (fun _ => rfl) rfl
  refine wp_of rfl (Nat.le_of_ble_eq_true rfl) ?_
  refine wp_s (pc' := 1) (lv' := [(0, .ref 1), (1, .int c), (2, .int d)]) (st' := [.ref 1]) (h' := HF) rfl (fun _ => rfl) ?_
  refine wp_h (t := 4) rfl rfl (wh_gf (v := .ref 36) hc_1 (by decide) (hf_1 5 (by decide))) rfl ?_
  refine wp_s (pc' := 5) (lv' := [(0, .ref 1), (1, .int c), (2, .int d)]) (st' := [.int c, .ref 36]) (h' := HF) rfl (fun _ => rfl) ?_
  refine wp_vi (t := 8) rfl rfl (Or.inl rfl) rfl rfl (Nat.le_of_ble_eq_true rfl) hc_36 rfl (wp_M.deep fp_frame_z1_1 (by decide)) rfl (fun h' v hP => ?_)
  cases hP
  show wp_X _ _ 8 [(0, .ref 1), (1, .int c), (2, .int d)] [.null] HF _
  refine wp_s (pc' := 9) (lv' := [(3, .null), (0, .ref 1), (1, .int c), (2, .int d)]) (st' := []) (h' := HF) rfl (fun _ => rfl) ?_
  refine wp_s (pc' := 10) (lv' := [(3, .null), (0, .ref 1), (1, .int c), (2, .int d)]) (st' := [.null]) (h' := HF) rfl (fun _ => rfl) ?_
  refine wp_b (st' := []) (t := 13) rfl rfl rfl rfl ?_
  refine wp_s (pc' := 14) (lv' := [(3, .null), (0, .ref 1), (1, .int c), (2, .int d)]) (st' := [.int (-1)]) (h' := HF) rfl (fun _ => rfl) ?_
  exact wp_r (r := (HF, some (.int (-1)))) rfl (fun _ => rfl) rfl

set_option maxRecDepth 20000 in
theorem fp_frame_z2 {HF : im_H} (hHF : fr_HF HF) (c : Int32) (d : Int32) (h0 : c = 0) :  wp_M 9 98 [.ref 74, .int c, .int d] HF (fun r => r = (HF, some (.int (-1)))) := by
  obtain ⟨f_74, hc_74, hf_74⟩ := hHF 73 _ rfl
  dsimp only at hc_74 hf_74
  have fp_frame_z2_1 : wp_M 8 86 [.ref 74, .int (-9)] HF (fun r => r = (HF, some (.int 0))) := by
    refine wp_of rfl (Nat.le_of_ble_eq_true rfl) ?_
    refine wp_s (pc' := 1) (lv' := [(0, .ref 74), (1, .int (-9))]) (st' := [.int 0]) (h' := HF) rfl (fun _ => rfl) ?_
    refine wp_s (pc' := 2) (lv' := [(2, .int 0), (0, .ref 74), (1, .int (-9))]) (st' := []) (h' := HF) rfl (fun _ => rfl) ?_
    refine wp_s (pc' := 3) (lv' := [(2, .int 0), (0, .ref 74), (1, .int (-9))]) (st' := [.int (-9)]) (h' := HF) rfl (fun _ => rfl) ?_
    refine wp_s (pc' := 4) (lv' := [(3, .int (-9)), (2, .int 0), (0, .ref 74), (1, .int (-9))]) (st' := []) (h' := HF) rfl (fun _ => rfl) ?_
    refine wp_s (pc' := 5) (lv' := [(3, .int (-9)), (2, .int 0), (0, .ref 74), (1, .int (-9))]) (st' := [.int (-9)]) (h' := HF) rfl (fun _ => rfl) ?_
    refine wp_s (pc' := 7) (lv' := [(3, .int (-9)), (2, .int 0), (0, .ref 74), (1, .int (-9))]) (st' := [.int (-9), .int (-9)]) (h' := HF) rfl (fun _ => rfl) ?_
    refine wp_b (o := some (16)) (st' := []) (t := 23) rfl rfl rfl rfl ?_
    refine wp_s (pc' := 24) (lv' := [(3, .int (-9)), (2, .int 0), (0, .ref 74), (1, .int (-9))]) (st' := [.int 0]) (h' := HF) rfl (fun _ => rfl) ?_
    exact wp_r (r := (HF, some (.int 0))) rfl (fun _ => rfl) rfl
  refine wp_of rfl (Nat.le_of_ble_eq_true rfl) ?_
  refine wp_s (pc' := 1) (lv' := [(0, .ref 74), (1, .int c), (2, .int d)]) (st' := [.int c]) (h' := HF) rfl (fun _ => rfl) ?_
  refine wp_b (st' := []) (t := 4) rfl rfl (if_neg (by rw [h0]; decide)) rfl ?_
  refine wp_s (pc' := 5) (lv' := [(0, .ref 74), (1, .int c), (2, .int d)]) (st' := [.int c]) (h' := HF) rfl (fun _ => rfl) ?_
  refine wp_s (pc' := 6) (lv' := [(0, .ref 74), (1, .int c), (2, .int d)]) (st' := [.ref 74, .int c]) (h' := HF) rfl (fun _ => rfl) ?_
  refine wp_s (pc' := 7) (lv' := [(0, .ref 74), (1, .int c), (2, .int d)]) (st' := [.ref 74, .ref 74, .int c]) (h' := HF) rfl (fun _ => rfl) ?_
  refine wp_h (t := 10) rfl rfl (wh_gf (v := .int (-9)) hc_74 (by decide) (hf_74 52 (by decide))) rfl ?_
  refine wp_vi (t := 13) rfl rfl (Or.inl rfl) rfl rfl (Nat.le_of_ble_eq_true rfl) hc_74 rfl (wp_M.deep fp_frame_z2_1 (by decide)) rfl (fun h' v hP => ?_)
  cases hP
  show wp_X _ _ 13 [(0, .ref 74), (1, .int c), (2, .int d)] [.int 0, .int c] HF _
  refine wp_b (st' := []) (t := 16) rfl rfl (if_neg (by rw [h0]; decide)) rfl ?_
  refine wp_s (pc' := 17) (lv' := [(0, .ref 74), (1, .int c), (2, .int d)]) (st' := [.int (-1)]) (h' := HF) rfl (fun _ => rfl) ?_
  exact wp_r (r := (HF, some (.int (-1)))) rfl (fun _ => rfl) rfl

set_option maxRecDepth 20000 in
theorem fp_choice_a1 {HF : im_H} (hHF : fr_HF HF) (c : Int32) (d : Int32) (h1 : c < 0) :  wp_M 9 21 [.ref 1, .int c, .int d] HF (fun r => r = (HF, some (.int (-1)))) := by
  obtain ⟨f_1, hc_1, hf_1⟩ := hHF 0 _ rfl
  dsimp only at hc_1 hf_1
  obtain ⟨f_36, hc_36, hf_36⟩ := hHF 35 _ rfl
  dsimp only at hc_36 hf_36
  have fp_choice_a1_1 : wp_M 8 45 [.ref 36, .int c] HF (fun r => r = (HF, some (.null))) := by
    refine wp_of rfl (Nat.le_of_ble_eq_true rfl) ?_
    refine wp_s (pc' := 1) (lv' := [(0, .ref 36), (1, .int c)]) (st' := [.ref 36]) (h' := HF) rfl (fun _ => rfl) ?_
    refine wp_h (t := 4) rfl rfl (wh_gf (v := .int 0) hc_36 (by decide) (hf_36 8 (by decide))) rfl ?_
    refine wp_s (pc' := 5) (lv' := [(0, .ref 36), (1, .int c)]) (st' := [.int 1, .int 0]) (h' := HF) rfl (fun _ => rfl) ?_
    refine wp_s (pc' := 6) (lv' := [(0, .ref 36), (1, .int c)]) (st' := [.int (-1)]) (h' := HF) rfl (fun _ => rfl) ?_
    refine wp_s (pc' := 7) (lv' := [(0, .ref 36), (1, .int c)]) (st' := [.int c, .int (-1)]) (h' := HF) rfl (fun _ => rfl) ?_
    refine wp_s (pc' := 8) (lv' := [(0, .ref 36), (1, .int c)]) (st' := [.int ((-1) - c)]) (h' := HF) rfl (fun _ => rfl) ?_
    refine wp_top (fun w1 hw1 => ?_)
    refine wp_s (pc' := 9) (lv' := [(2, .int w1), (0, .ref 36), (1, .int c)]) (st' := []) (h' := HF) rfl (fun _ => rfl) ?_
    refine wp_s (pc' := 10) (lv' := [(2, .int w1), (0, .ref 36), (1, .int c)]) (st' := [.int c]) (h' := HF) rfl (fun _ => rfl) ?_
    refine wp_b (st' := []) (t := 26) rfl rfl (if_pos h1) rfl ?_
    refine wp_s (pc' := 27) (lv' := [(2, .int w1), (0, .ref 36), (1, .int c)]) (st' := [.null]) (h' := HF) rfl (fun _ => rfl) ?_
    refine wp_b (t := 36) rfl rfl rfl rfl ?_
    exact wp_r (r := (HF, some (.null))) rfl (fun _ => rfl) rfl
  refine wp_of rfl (Nat.le_of_ble_eq_true rfl) ?_
  refine wp_s (pc' := 1) (lv' := [(0, .ref 1), (1, .int c), (2, .int d)]) (st' := [.ref 1]) (h' := HF) rfl (fun _ => rfl) ?_
  refine wp_h (t := 4) rfl rfl (wh_gf (v := .ref 36) hc_1 (by decide) (hf_1 5 (by decide))) rfl ?_
  refine wp_s (pc' := 5) (lv' := [(0, .ref 1), (1, .int c), (2, .int d)]) (st' := [.int c, .ref 36]) (h' := HF) rfl (fun _ => rfl) ?_
  refine wp_vi (t := 8) rfl rfl (Or.inl rfl) rfl rfl (Nat.le_of_ble_eq_true rfl) hc_36 rfl (wp_M.deep fp_choice_a1_1 (by decide)) rfl (fun h' v hP => ?_)
  cases hP
  show wp_X _ _ 8 [(0, .ref 1), (1, .int c), (2, .int d)] [.null] HF _
  refine wp_s (pc' := 9) (lv' := [(3, .null), (0, .ref 1), (1, .int c), (2, .int d)]) (st' := []) (h' := HF) rfl (fun _ => rfl) ?_
  refine wp_s (pc' := 10) (lv' := [(3, .null), (0, .ref 1), (1, .int c), (2, .int d)]) (st' := [.null]) (h' := HF) rfl (fun _ => rfl) ?_
  refine wp_b (st' := []) (t := 13) rfl rfl rfl rfl ?_
  refine wp_s (pc' := 14) (lv' := [(3, .null), (0, .ref 1), (1, .int c), (2, .int d)]) (st' := [.int (-1)]) (h' := HF) rfl (fun _ => rfl) ?_
  exact wp_r (r := (HF, some (.int (-1)))) rfl (fun _ => rfl) rfl

set_option maxRecDepth 20000 in
theorem fp_choice_a2 {HF : im_H} (hHF : fr_HF HF) (c : Int32) (d : Int32) (h1 : c < 0) :  wp_M 9 99 [.ref 74, .int c, .int d] HF (fun r => r = (HF, some (.int (-1)))) := by
  refine wp_of rfl (Nat.le_of_ble_eq_true rfl) ?_
  refine wp_s (pc' := 1) (lv' := [(0, .ref 74), (1, .int c), (2, .int d)]) (st' := [.int c]) (h' := HF) rfl (fun _ => rfl) ?_
  refine wp_b (st' := []) (t := 12) rfl rfl (if_pos h1) rfl ?_
  refine wp_s (pc' := 13) (lv' := [(0, .ref 74), (1, .int c), (2, .int d)]) (st' := [.int (-1)]) (h' := HF) rfl (fun _ => rfl) ?_
  exact wp_r (r := (HF, some (.int (-1)))) rfl (fun _ => rfl) rfl

set_option maxRecDepth 20000 in
theorem fp_choice_b1 {HF : im_H} (hHF : fr_HF HF) (c : Int32) (d : Int32) (h1 : ¬ c < 0) :  wp_M 9 21 [.ref 1, .int c, .int d] HF (fun r => r = (HF, some (.int (-1)))) := by
  obtain ⟨f_1, hc_1, hf_1⟩ := hHF 0 _ rfl
  dsimp only at hc_1 hf_1
  obtain ⟨f_36, hc_36, hf_36⟩ := hHF 35 _ rfl
  dsimp only at hc_36 hf_36
  have fp_choice_b1_1 : wp_M 8 45 [.ref 36, .int c] HF (fun r => r = (HF, some (.null))) := by
    refine wp_of rfl (Nat.le_of_ble_eq_true rfl) ?_
    refine wp_s (pc' := 1) (lv' := [(0, .ref 36), (1, .int c)]) (st' := [.ref 36]) (h' := HF) rfl (fun _ => rfl) ?_
    refine wp_h (t := 4) rfl rfl (wh_gf (v := .int 0) hc_36 (by decide) (hf_36 8 (by decide))) rfl ?_
    refine wp_s (pc' := 5) (lv' := [(0, .ref 36), (1, .int c)]) (st' := [.int 1, .int 0]) (h' := HF) rfl (fun _ => rfl) ?_
    refine wp_s (pc' := 6) (lv' := [(0, .ref 36), (1, .int c)]) (st' := [.int (-1)]) (h' := HF) rfl (fun _ => rfl) ?_
    refine wp_s (pc' := 7) (lv' := [(0, .ref 36), (1, .int c)]) (st' := [.int c, .int (-1)]) (h' := HF) rfl (fun _ => rfl) ?_
    refine wp_s (pc' := 8) (lv' := [(0, .ref 36), (1, .int c)]) (st' := [.int ((-1) - c)]) (h' := HF) rfl (fun _ => rfl) ?_
    refine wp_top (fun w1 hw1 => ?_)
    refine wp_s (pc' := 9) (lv' := [(2, .int w1), (0, .ref 36), (1, .int c)]) (st' := []) (h' := HF) rfl (fun _ => rfl) ?_
    refine wp_s (pc' := 10) (lv' := [(2, .int w1), (0, .ref 36), (1, .int c)]) (st' := [.int c]) (h' := HF) rfl (fun _ => rfl) ?_
    refine wp_b (st' := []) (t := 13) rfl rfl (if_neg h1) rfl ?_
    refine wp_s (pc' := 14) (lv' := [(2, .int w1), (0, .ref 36), (1, .int c)]) (st' := [.int w1]) (h' := HF) rfl (fun _ => rfl) ?_
    refine wp_b (st' := []) (t := 26) rfl rfl (if_pos (by rw [hw1]; exact (fr_m2 h1))) rfl ?_
    refine wp_s (pc' := 27) (lv' := [(2, .int w1), (0, .ref 36), (1, .int c)]) (st' := [.null]) (h' := HF) rfl (fun _ => rfl) ?_
    refine wp_b (t := 36) rfl rfl rfl rfl ?_
    exact wp_r (r := (HF, some (.null))) rfl (fun _ => rfl) rfl
  refine wp_of rfl (Nat.le_of_ble_eq_true rfl) ?_
  refine wp_s (pc' := 1) (lv' := [(0, .ref 1), (1, .int c), (2, .int d)]) (st' := [.ref 1]) (h' := HF) rfl (fun _ => rfl) ?_
  refine wp_h (t := 4) rfl rfl (wh_gf (v := .ref 36) hc_1 (by decide) (hf_1 5 (by decide))) rfl ?_
  refine wp_s (pc' := 5) (lv' := [(0, .ref 1), (1, .int c), (2, .int d)]) (st' := [.int c, .ref 36]) (h' := HF) rfl (fun _ => rfl) ?_
  refine wp_vi (t := 8) rfl rfl (Or.inl rfl) rfl rfl (Nat.le_of_ble_eq_true rfl) hc_36 rfl (wp_M.deep fp_choice_b1_1 (by decide)) rfl (fun h' v hP => ?_)
  cases hP
  show wp_X _ _ 8 [(0, .ref 1), (1, .int c), (2, .int d)] [.null] HF _
  refine wp_s (pc' := 9) (lv' := [(3, .null), (0, .ref 1), (1, .int c), (2, .int d)]) (st' := []) (h' := HF) rfl (fun _ => rfl) ?_
  refine wp_s (pc' := 10) (lv' := [(3, .null), (0, .ref 1), (1, .int c), (2, .int d)]) (st' := [.null]) (h' := HF) rfl (fun _ => rfl) ?_
  refine wp_b (st' := []) (t := 13) rfl rfl rfl rfl ?_
  refine wp_s (pc' := 14) (lv' := [(3, .null), (0, .ref 1), (1, .int c), (2, .int d)]) (st' := [.int (-1)]) (h' := HF) rfl (fun _ => rfl) ?_
  exact wp_r (r := (HF, some (.int (-1)))) rfl (fun _ => rfl) rfl

set_option maxRecDepth 20000 in
theorem fp_choice_b2 {HF : im_H} (hHF : fr_HF HF) (c : Int32) (d : Int32) (h1 : ¬ c < 0) :  wp_M 9 99 [.ref 74, .int c, .int d] HF (fun r => r = (HF, some (.int (-1)))) := by
  obtain ⟨f_74, hc_74, hf_74⟩ := hHF 73 _ rfl
  dsimp only at hc_74 hf_74
  refine wp_of rfl (Nat.le_of_ble_eq_true rfl) ?_
  refine wp_s (pc' := 1) (lv' := [(0, .ref 74), (1, .int c), (2, .int d)]) (st' := [.int c]) (h' := HF) rfl (fun _ => rfl) ?_
  refine wp_b (st' := []) (t := 4) rfl rfl (if_neg h1) rfl ?_
  refine wp_s (pc' := 5) (lv' := [(0, .ref 74), (1, .int c), (2, .int d)]) (st' := [.int c]) (h' := HF) rfl (fun _ => rfl) ?_
  refine wp_s (pc' := 6) (lv' := [(0, .ref 74), (1, .int c), (2, .int d)]) (st' := [.ref 74, .int c]) (h' := HF) rfl (fun _ => rfl) ?_
  refine wp_h (t := 9) rfl rfl (wh_gf (v := .int 0) hc_74 (by decide) (hf_74 59 (by decide))) rfl ?_
  refine wp_b (st' := []) (t := 12) rfl rfl (if_neg h1) rfl ?_
  refine wp_s (pc' := 13) (lv' := [(0, .ref 74), (1, .int c), (2, .int d)]) (st' := [.int (-1)]) (h' := HF) rfl (fun _ => rfl) ?_
  exact wp_r (r := (HF, some (.int (-1)))) rfl (fun _ => rfl) rfl

set_option maxRecDepth 20000 in
theorem fp_write_w {HF : im_H} (hHF : fr_HF HF) (h0c : ∃ c0, HF.2.2 0 = some c0) (c : Int32) (h1 : ¬ c < 32) (h2 : ¬ 126 < c) : ∃ (h1 h2 : im_H), wp_M 9 1 [.ref 1, .int c] HF (fun r => r = (h1, some (.int 1))) ∧ wp_M 9 69 [.ref 74, .int c] h1 (fun r => r = (h2, some (.int 1))) ∧ h1.2.2 0 = HF.2.2 0 ∧ h2.2.2 0 = HF.2.2 0 ∧ h1.2.2 74 = HF.2.2 74 ∧ h2.2.2 1 = HF.2.2 1 ∧ h2.1 = HF.1 ∧ h2.2.1 = HF.2.1 := by
  obtain ⟨f_1, hc_1, hf_1⟩ := hHF 0 _ rfl
  dsimp only at hc_1 hf_1
  obtain ⟨f_2, hc_2, hf_2⟩ := hHF 1 _ rfl
  dsimp only at hc_2 hf_2
  obtain ⟨f_3, hc_3, hf_3⟩ := hHF 2 _ rfl
  dsimp only at hc_3 hf_3
  obtain ⟨f_74, hc_74, hf_74⟩ := hHF 73 _ rfl
  dsimp only at hc_74 hf_74
  obtain ⟨f_75, hc_75, hf_75⟩ := hHF 74 _ rfl
  dsimp only at hc_75 hf_75
  have fp_write_w1_1 : wp_M 8 51 [.ref 2, .int c] HF (fun r => r = ((im_wr (im_wr HF 3 (102, 120, (updV f_3 0 (.int (vp_nar .char ((Int32.toUInt32 c % 65536).toInt32)))))) 2 (9, 6, (updV f_2 1 (.int 1)))), none)) := by
    refine wp_of rfl (Nat.le_of_ble_eq_true rfl) ?_
    refine wp_s (pc' := 1) (lv' := [(0, .ref 2), (1, .int c)]) (st' := [.ref 2]) (h' := HF) rfl (fun _ => rfl) ?_
    refine wp_h (t := 4) rfl rfl (wh_gf (v := .int 0) hc_2 (by decide) (hf_2 1 (by decide))) rfl ?_
    refine wp_s (pc' := 5) (lv' := [(0, .ref 2), (1, .int c)]) (st' := [.ref 2, .int 0]) (h' := HF) rfl (fun _ => rfl) ?_
    refine wp_h (t := 8) rfl rfl (wh_gf (v := .ref 3) hc_2 (by decide) (hf_2 0 (by decide))) rfl ?_
    refine wp_h (t := 9) rfl rfl (wh_al hc_3 (by decide)) rfl ?_
    show wp_X _ _ 9 [(0, .ref 2), (1, .int c)] [.int 120, .int 0] HF _
    refine wp_b (o := none) (st' := []) (t := 12) rfl rfl rfl rfl ?_
    refine wp_s (pc' := 13) (lv' := [(0, .ref 2), (1, .int c)]) (st' := [.ref 2]) (h' := HF) rfl (fun _ => rfl) ?_
    refine wp_h (t := 16) rfl rfl (wh_gf (v := .ref 3) hc_2 (by decide) (hf_2 0 (by decide))) rfl ?_
    refine wp_s (pc' := 17) (lv' := [(0, .ref 2), (1, .int c)]) (st' := [.ref 2, .ref 3]) (h' := HF) rfl (fun _ => rfl) ?_
    refine wp_h (t := 20) rfl rfl (wh_gf (v := .int 0) hc_2 (by decide) (hf_2 1 (by decide))) rfl ?_
    refine wp_s (pc' := 21) (lv' := [(0, .ref 2), (1, .int c)]) (st' := [.int c, .int 0, .ref 3]) (h' := HF) rfl (fun _ => rfl) ?_
    refine wp_s (pc' := 22) (lv' := [(0, .ref 2), (1, .int c)]) (st' := [.int ((Int32.toUInt32 c % 65536).toInt32), .int 0, .ref 3]) (h' := HF) rfl (fun _ => rfl) ?_
    refine wp_h (t := 23) rfl rfl (wh_cs (j := 0) hc_3 (by decide)) rfl ?_
    show wp_X _ _ 23 [(0, .ref 2), (1, .int c)] [] (im_wr HF 3 (102, 120, (updV f_3 0 (.int (vp_nar .char ((Int32.toUInt32 c % 65536).toInt32)))))) _
    refine wp_s (pc' := 24) (lv' := [(0, .ref 2), (1, .int c)]) (st' := [.ref 2]) (h' := (im_wr HF 3 (102, 120, (updV f_3 0 (.int (vp_nar .char ((Int32.toUInt32 c % 65536).toInt32))))))) rfl (fun _ => rfl) ?_
    refine wp_s (pc' := 25) (lv' := [(0, .ref 2), (1, .int c)]) (st' := [.ref 2, .ref 2]) (h' := (im_wr HF 3 (102, 120, (updV f_3 0 (.int (vp_nar .char ((Int32.toUInt32 c % 65536).toInt32))))))) rfl (fun _ => rfl) ?_
    refine wp_h (t := 28) rfl rfl (wh_gf (v := .int 0) ((im_wr_ne _ _ (by decide)).trans hc_2) (by decide) (hf_2 1 (by decide))) rfl ?_
    refine wp_s (pc' := 29) (lv' := [(0, .ref 2), (1, .int c)]) (st' := [.int 1, .int 0, .ref 2]) (h' := (im_wr HF 3 (102, 120, (updV f_3 0 (.int (vp_nar .char ((Int32.toUInt32 c % 65536).toInt32))))))) rfl (fun _ => rfl) ?_
    refine wp_s (pc' := 30) (lv' := [(0, .ref 2), (1, .int c)]) (st' := [.int 1, .ref 2]) (h' := (im_wr HF 3 (102, 120, (updV f_3 0 (.int (vp_nar .char ((Int32.toUInt32 c % 65536).toInt32))))))) rfl (fun _ => rfl) ?_
    refine wp_h (t := 33) rfl rfl (wh_pf ((im_wr_ne _ _ (by decide)).trans hc_2) (by decide) rfl) rfl ?_
    show wp_X _ _ 33 [(0, .ref 2), (1, .int c)] [] (im_wr (im_wr HF 3 (102, 120, (updV f_3 0 (.int (vp_nar .char ((Int32.toUInt32 c % 65536).toInt32)))))) 2 (9, 6, (updV f_2 1 (.int 1)))) _
    exact wp_r (r := ((im_wr (im_wr HF 3 (102, 120, (updV f_3 0 (.int (vp_nar .char ((Int32.toUInt32 c % 65536).toInt32)))))) 2 (9, 6, (updV f_2 1 (.int 1)))), none)) rfl (fun _ => rfl) rfl
  have fp_write_w1 : wp_M 9 1 [.ref 1, .int c] HF (fun r => r = ((im_wr (im_wr HF 3 (102, 120, (updV f_3 0 (.int (vp_nar .char ((Int32.toUInt32 c % 65536).toInt32)))))) 2 (9, 6, (updV f_2 1 (.int 1)))), some (.int 1))) := by
    refine wp_of rfl (Nat.le_of_ble_eq_true rfl) ?_
    refine wp_s (pc' := 1) (lv' := [(0, .ref 1), (1, .int c)]) (st' := [.int c]) (h' := HF) rfl (fun _ => rfl) ?_
    refine wp_s (pc' := 3) (lv' := [(0, .ref 1), (1, .int c)]) (st' := [.int 32, .int c]) (h' := HF) rfl (fun _ => rfl) ?_
    refine wp_b (st' := []) (t := 6) rfl rfl (if_neg h1) rfl ?_
    refine wp_s (pc' := 7) (lv' := [(0, .ref 1), (1, .int c)]) (st' := [.int c]) (h' := HF) rfl (fun _ => rfl) ?_
    refine wp_s (pc' := 9) (lv' := [(0, .ref 1), (1, .int c)]) (st' := [.int 126, .int c]) (h' := HF) rfl (fun _ => rfl) ?_
    refine wp_b (st' := []) (t := 14) rfl rfl (if_pos (Int32.not_lt.mp h2)) rfl ?_
    refine wp_s (pc' := 15) (lv' := [(0, .ref 1), (1, .int c)]) (st' := [.ref 1]) (h' := HF) rfl (fun _ => rfl) ?_
    refine wp_h (t := 18) rfl rfl (wh_gf (v := .ref 2) hc_1 (by decide) (hf_1 0 (by decide))) rfl ?_
    refine wp_h (t := 21) rfl rfl (wh_gf (v := .int 0) hc_2 (by decide) (hf_2 1 (by decide))) rfl ?_
    refine wp_s (pc' := 23) (lv' := [(0, .ref 1), (1, .int c)]) (st' := [.int 120, .int 0]) (h' := HF) rfl (fun _ => rfl) ?_
    refine wp_b (o := some (6)) (st' := []) (t := 29) rfl rfl rfl rfl ?_
    refine wp_s (pc' := 30) (lv' := [(0, .ref 1), (1, .int c)]) (st' := [.ref 1]) (h' := HF) rfl (fun _ => rfl) ?_
    refine wp_h (t := 33) rfl rfl (wh_gf (v := .ref 2) hc_1 (by decide) (hf_1 0 (by decide))) rfl ?_
    refine wp_s (pc' := 34) (lv' := [(0, .ref 1), (1, .int c)]) (st' := [.int c, .ref 2]) (h' := HF) rfl (fun _ => rfl) ?_
    refine wp_vi (t := 37) rfl rfl (Or.inl rfl) rfl rfl (Nat.le_of_ble_eq_true rfl) hc_2 rfl (wp_M.deep fp_write_w1_1 (by decide)) rfl (fun h' v hP => ?_)
    cases hP
    show wp_X _ _ 37 [(0, .ref 1), (1, .int c)] [] (im_wr (im_wr HF 3 (102, 120, (updV f_3 0 (.int (vp_nar .char ((Int32.toUInt32 c % 65536).toInt32)))))) 2 (9, 6, (updV f_2 1 (.int 1)))) _
    refine wp_s (pc' := 38) (lv' := [(0, .ref 1), (1, .int c)]) (st' := [.ref 1]) (h' := (im_wr (im_wr HF 3 (102, 120, (updV f_3 0 (.int (vp_nar .char ((Int32.toUInt32 c % 65536).toInt32)))))) 2 (9, 6, (updV f_2 1 (.int 1))))) rfl (fun _ => rfl) ?_
    refine wp_h (t := 41) rfl rfl (wh_gf (v := .ref 2) ((im_wr_ne _ _ (by decide)).trans ((im_wr_ne _ _ (by decide)).trans hc_1)) (by decide) (hf_1 0 (by decide))) rfl ?_
    refine wp_h (t := 44) rfl rfl (wh_gf (v := .int 1) (im_wr_eq _ _ _) (by decide) rfl) rfl ?_
    exact wp_r (r := ((im_wr (im_wr HF 3 (102, 120, (updV f_3 0 (.int (vp_nar .char ((Int32.toUInt32 c % 65536).toInt32)))))) 2 (9, 6, (updV f_2 1 (.int 1)))), some (.int 1))) rfl (fun _ => rfl) rfl
  have fp_write_w2_1 : wp_M 8 59 [.int c, .int 32, .int 126] (im_wr (im_wr HF 3 (102, 120, (updV f_3 0 (.int (vp_nar .char ((Int32.toUInt32 c % 65536).toInt32)))))) 2 (9, 6, (updV f_2 1 (.int 1)))) (fun r => r = ((im_wr (im_wr HF 3 (102, 120, (updV f_3 0 (.int (vp_nar .char ((Int32.toUInt32 c % 65536).toInt32)))))) 2 (9, 6, (updV f_2 1 (.int 1)))), some (.int 1))) := by
    refine wp_of rfl (Nat.le_of_ble_eq_true rfl) ?_
    refine wp_s (pc' := 1) (lv' := [(0, .int c), (1, .int 32), (2, .int 126)]) (st' := [.int c]) (h' := (im_wr (im_wr HF 3 (102, 120, (updV f_3 0 (.int (vp_nar .char ((Int32.toUInt32 c % 65536).toInt32)))))) 2 (9, 6, (updV f_2 1 (.int 1))))) rfl (fun _ => rfl) ?_
    refine wp_s (pc' := 2) (lv' := [(0, .int c), (1, .int 32), (2, .int 126)]) (st' := [.int 32, .int c]) (h' := (im_wr (im_wr HF 3 (102, 120, (updV f_3 0 (.int (vp_nar .char ((Int32.toUInt32 c % 65536).toInt32)))))) 2 (9, 6, (updV f_2 1 (.int 1))))) rfl (fun _ => rfl) ?_
    refine wp_b (st' := []) (t := 5) rfl rfl (if_neg h1) rfl ?_
    refine wp_s (pc' := 6) (lv' := [(0, .int c), (1, .int 32), (2, .int 126)]) (st' := [.int c]) (h' := (im_wr (im_wr HF 3 (102, 120, (updV f_3 0 (.int (vp_nar .char ((Int32.toUInt32 c % 65536).toInt32)))))) 2 (9, 6, (updV f_2 1 (.int 1))))) rfl (fun _ => rfl) ?_
    refine wp_s (pc' := 7) (lv' := [(0, .int c), (1, .int 32), (2, .int 126)]) (st' := [.int 126, .int c]) (h' := (im_wr (im_wr HF 3 (102, 120, (updV f_3 0 (.int (vp_nar .char ((Int32.toUInt32 c % 65536).toInt32)))))) 2 (9, 6, (updV f_2 1 (.int 1))))) rfl (fun _ => rfl) ?_
    refine wp_b (st' := []) (t := 10) rfl rfl (if_neg h2) rfl ?_
    refine wp_s (pc' := 11) (lv' := [(0, .int c), (1, .int 32), (2, .int 126)]) (st' := [.int 1]) (h' := (im_wr (im_wr HF 3 (102, 120, (updV f_3 0 (.int (vp_nar .char ((Int32.toUInt32 c % 65536).toInt32)))))) 2 (9, 6, (updV f_2 1 (.int 1))))) rfl (fun _ => rfl) ?_
    refine wp_b (t := 15) rfl rfl rfl rfl ?_
    exact wp_r (r := ((im_wr (im_wr HF 3 (102, 120, (updV f_3 0 (.int (vp_nar .char ((Int32.toUInt32 c % 65536).toInt32)))))) 2 (9, 6, (updV f_2 1 (.int 1)))), some (.int 1))) rfl (fun _ => rfl) rfl
  have fp_write_w2 : wp_M 9 69 [.ref 74, .int c] (im_wr (im_wr HF 3 (102, 120, (updV f_3 0 (.int (vp_nar .char ((Int32.toUInt32 c % 65536).toInt32)))))) 2 (9, 6, (updV f_2 1 (.int 1)))) (fun r => r = ((im_wr (im_wr (im_wr (im_wr HF 3 (102, 120, (updV f_3 0 (.int (vp_nar .char ((Int32.toUInt32 c % 65536).toInt32)))))) 2 (9, 6, (updV f_2 1 (.int 1)))) 75 (100, 120, (updV f_75 0 (.int c)))) 74 (12, 74, (updV f_74 1 (.int 1)))), some (.int 1))) := by
    refine wp_of rfl (Nat.le_of_ble_eq_true rfl) ?_
    refine wp_s (pc' := 1) (lv' := [(0, .ref 74), (1, .int c)]) (st' := [.int c]) (h' := (im_wr (im_wr HF 3 (102, 120, (updV f_3 0 (.int (vp_nar .char ((Int32.toUInt32 c % 65536).toInt32)))))) 2 (9, 6, (updV f_2 1 (.int 1))))) rfl (fun _ => rfl) ?_
    refine wp_s (pc' := 3) (lv' := [(0, .ref 74), (1, .int c)]) (st' := [.int 32, .int c]) (h' := (im_wr (im_wr HF 3 (102, 120, (updV f_3 0 (.int (vp_nar .char ((Int32.toUInt32 c % 65536).toInt32)))))) 2 (9, 6, (updV f_2 1 (.int 1))))) rfl (fun _ => rfl) ?_
    refine wp_s (pc' := 5) (lv' := [(0, .ref 74), (1, .int c)]) (st' := [.int 126, .int 32, .int c]) (h' := (im_wr (im_wr HF 3 (102, 120, (updV f_3 0 (.int (vp_nar .char ((Int32.toUInt32 c % 65536).toInt32)))))) 2 (9, 6, (updV f_2 1 (.int 1))))) rfl (fun _ => rfl) ?_
    refine wp_vs (t := 8) rfl rfl (Or.inl rfl) rfl rfl (Nat.le_of_ble_eq_true rfl) (wp_M.deep fp_write_w2_1 (by decide)) rfl (fun h' v hP => ?_)
    cases hP
    show wp_X _ _ 8 [(0, .ref 74), (1, .int c)] [.int 1] (im_wr (im_wr HF 3 (102, 120, (updV f_3 0 (.int (vp_nar .char ((Int32.toUInt32 c % 65536).toInt32)))))) 2 (9, 6, (updV f_2 1 (.int 1)))) _
    refine wp_b (o := some (5)) (st' := []) (t := 13) rfl rfl rfl rfl ?_
    refine wp_s (pc' := 14) (lv' := [(0, .ref 74), (1, .int c)]) (st' := [.ref 74]) (h' := (im_wr (im_wr HF 3 (102, 120, (updV f_3 0 (.int (vp_nar .char ((Int32.toUInt32 c % 65536).toInt32)))))) 2 (9, 6, (updV f_2 1 (.int 1))))) rfl (fun _ => rfl) ?_
    refine wp_h (t := 17) rfl rfl (wh_gf (v := .int 0) ((im_wr_ne _ _ (by decide)).trans ((im_wr_ne _ _ (by decide)).trans hc_74)) (by decide) (hf_74 1 (by decide))) rfl ?_
    refine wp_s (pc' := 19) (lv' := [(0, .ref 74), (1, .int c)]) (st' := [.int 120, .int 0]) (h' := (im_wr (im_wr HF 3 (102, 120, (updV f_3 0 (.int (vp_nar .char ((Int32.toUInt32 c % 65536).toInt32)))))) 2 (9, 6, (updV f_2 1 (.int 1))))) rfl (fun _ => rfl) ?_
    refine wp_b (o := some (6)) (st' := []) (t := 25) rfl rfl rfl rfl ?_
    refine wp_s (pc' := 26) (lv' := [(0, .ref 74), (1, .int c)]) (st' := [.ref 74]) (h' := (im_wr (im_wr HF 3 (102, 120, (updV f_3 0 (.int (vp_nar .char ((Int32.toUInt32 c % 65536).toInt32)))))) 2 (9, 6, (updV f_2 1 (.int 1))))) rfl (fun _ => rfl) ?_
    refine wp_h (t := 29) rfl rfl (wh_gf (v := .ref 75) ((im_wr_ne _ _ (by decide)).trans ((im_wr_ne _ _ (by decide)).trans hc_74)) (by decide) (hf_74 0 (by decide))) rfl ?_
    refine wp_s (pc' := 30) (lv' := [(0, .ref 74), (1, .int c)]) (st' := [.ref 74, .ref 75]) (h' := (im_wr (im_wr HF 3 (102, 120, (updV f_3 0 (.int (vp_nar .char ((Int32.toUInt32 c % 65536).toInt32)))))) 2 (9, 6, (updV f_2 1 (.int 1))))) rfl (fun _ => rfl) ?_
    refine wp_h (t := 33) rfl rfl (wh_gf (v := .int 0) ((im_wr_ne _ _ (by decide)).trans ((im_wr_ne _ _ (by decide)).trans hc_74)) (by decide) (hf_74 1 (by decide))) rfl ?_
    refine wp_s (pc' := 34) (lv' := [(0, .ref 74), (1, .int c)]) (st' := [.int c, .int 0, .ref 75]) (h' := (im_wr (im_wr HF 3 (102, 120, (updV f_3 0 (.int (vp_nar .char ((Int32.toUInt32 c % 65536).toInt32)))))) 2 (9, 6, (updV f_2 1 (.int 1))))) rfl (fun _ => rfl) ?_
    refine wp_h (t := 35) rfl rfl (wh_is (j := 0) ((im_wr_ne _ _ (by decide)).trans ((im_wr_ne _ _ (by decide)).trans hc_75)) (by decide)) rfl ?_
    show wp_X _ _ 35 [(0, .ref 74), (1, .int c)] [] (im_wr (im_wr (im_wr HF 3 (102, 120, (updV f_3 0 (.int (vp_nar .char ((Int32.toUInt32 c % 65536).toInt32)))))) 2 (9, 6, (updV f_2 1 (.int 1)))) 75 (100, 120, (updV f_75 0 (.int c)))) _
    refine wp_s (pc' := 36) (lv' := [(0, .ref 74), (1, .int c)]) (st' := [.ref 74]) (h' := (im_wr (im_wr (im_wr HF 3 (102, 120, (updV f_3 0 (.int (vp_nar .char ((Int32.toUInt32 c % 65536).toInt32)))))) 2 (9, 6, (updV f_2 1 (.int 1)))) 75 (100, 120, (updV f_75 0 (.int c))))) rfl (fun _ => rfl) ?_
    refine wp_s (pc' := 37) (lv' := [(0, .ref 74), (1, .int c)]) (st' := [.ref 74, .ref 74]) (h' := (im_wr (im_wr (im_wr HF 3 (102, 120, (updV f_3 0 (.int (vp_nar .char ((Int32.toUInt32 c % 65536).toInt32)))))) 2 (9, 6, (updV f_2 1 (.int 1)))) 75 (100, 120, (updV f_75 0 (.int c))))) rfl (fun _ => rfl) ?_
    refine wp_h (t := 40) rfl rfl (wh_gf (v := .int 0) ((im_wr_ne _ _ (by decide)).trans ((im_wr_ne _ _ (by decide)).trans ((im_wr_ne _ _ (by decide)).trans hc_74))) (by decide) (hf_74 1 (by decide))) rfl ?_
    refine wp_s (pc' := 41) (lv' := [(0, .ref 74), (1, .int c)]) (st' := [.int 1, .int 0, .ref 74]) (h' := (im_wr (im_wr (im_wr HF 3 (102, 120, (updV f_3 0 (.int (vp_nar .char ((Int32.toUInt32 c % 65536).toInt32)))))) 2 (9, 6, (updV f_2 1 (.int 1)))) 75 (100, 120, (updV f_75 0 (.int c))))) rfl (fun _ => rfl) ?_
    refine wp_s (pc' := 42) (lv' := [(0, .ref 74), (1, .int c)]) (st' := [.int 1, .ref 74]) (h' := (im_wr (im_wr (im_wr HF 3 (102, 120, (updV f_3 0 (.int (vp_nar .char ((Int32.toUInt32 c % 65536).toInt32)))))) 2 (9, 6, (updV f_2 1 (.int 1)))) 75 (100, 120, (updV f_75 0 (.int c))))) rfl (fun _ => rfl) ?_
    refine wp_h (t := 45) rfl rfl (wh_pf ((im_wr_ne _ _ (by decide)).trans ((im_wr_ne _ _ (by decide)).trans ((im_wr_ne _ _ (by decide)).trans hc_74))) (by decide) rfl) rfl ?_
    show wp_X _ _ 45 [(0, .ref 74), (1, .int c)] [] (im_wr (im_wr (im_wr (im_wr HF 3 (102, 120, (updV f_3 0 (.int (vp_nar .char ((Int32.toUInt32 c % 65536).toInt32)))))) 2 (9, 6, (updV f_2 1 (.int 1)))) 75 (100, 120, (updV f_75 0 (.int c)))) 74 (12, 74, (updV f_74 1 (.int 1)))) _
    refine wp_s (pc' := 46) (lv' := [(0, .ref 74), (1, .int c)]) (st' := [.ref 74]) (h' := (im_wr (im_wr (im_wr (im_wr HF 3 (102, 120, (updV f_3 0 (.int (vp_nar .char ((Int32.toUInt32 c % 65536).toInt32)))))) 2 (9, 6, (updV f_2 1 (.int 1)))) 75 (100, 120, (updV f_75 0 (.int c)))) 74 (12, 74, (updV f_74 1 (.int 1))))) rfl (fun _ => rfl) ?_
    refine wp_h (t := 49) rfl rfl (wh_gf (v := .int 1) (im_wr_eq _ _ _) (by decide) rfl) rfl ?_
    exact wp_r (r := ((im_wr (im_wr (im_wr (im_wr HF 3 (102, 120, (updV f_3 0 (.int (vp_nar .char ((Int32.toUInt32 c % 65536).toInt32)))))) 2 (9, 6, (updV f_2 1 (.int 1)))) 75 (100, 120, (updV f_75 0 (.int c)))) 74 (12, 74, (updV f_74 1 (.int 1)))), some (.int 1))) rfl (fun _ => rfl) rfl
  exact ⟨_, _, fp_write_w1, fp_write_w2, ((im_wr_ne _ _ (by decide)).trans (im_wr_ne _ _ (by decide))), ((im_wr_ne _ _ (by decide)).trans ((im_wr_ne _ _ (by decide)).trans ((im_wr_ne _ _ (by decide)).trans (im_wr_ne _ _ (by decide))))), ((im_wr_ne _ _ (by decide)).trans (im_wr_ne _ _ (by decide))), ((im_wr_ne _ _ (by decide)).trans ((im_wr_ne _ _ (by decide)).trans ((im_wr_ne _ _ (by decide)).trans (im_wr_ne _ _ (by decide))))), rfl, rfl⟩
