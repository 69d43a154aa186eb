/-! HOW LONG THE STACK IS, pure -/
theorem fil_len : ∀ S : List Int, S.length = (S.filter (fun e => decide (e < 0))).length + (S.filter (fun e => decide (0 ≤ e))).length
  | [] => rfl
  | e :: S => by
    have ih := fil_len S
    by_cases c : e < 0
    · rw [List.filter_cons_of_pos (by exact decide_eq_true c), List.filter_cons_of_neg (by simp; omega), List.length_cons, List.length_cons]
      omega
    · rw [List.filter_cons_of_neg (by simp; omega), List.filter_cons_of_pos (by exact decide_eq_true (by omega)), List.length_cons, List.length_cons]
      omega
section COV
variable {eT : Int → pE → Prop} {mk : Nat → Int} {B : bM} {sus : Nat → Prop} {S : List Int} {lf : Nat → Prop} {v : Nat → pE}
/-- with a solution no mark stands there twice -/
theorem mk_nd (h : dI eT mk B sus S lf) (hv : Sol B v) (hm : ∀ e ∈ S, e < 0 → ∃ s, e = mk s ∧ eT e (.var s)) : ∀ (S2 pre : List Int), S = pre ++ S2 → (S2.filter (fun e => decide (e < 0))).Nodup
  | [], _, _ => List.nodup_nil
  | e :: be, pre, hS => by
    have ih := mk_nd h hv hm be (pre ++ [e]) (by rw [hS, List.append_assoc]; rfl)
    by_cases c : e < 0
    · rw [List.filter_cons_of_pos (by exact decide_eq_true c)]
      refine List.nodup_cons.mpr ⟨fun q => ?_, ih⟩
      have q := (List.mem_filter.mp q).1
      obtain ⟨s, rfl, ht⟩ := hm e (by rw [hS]; exact List.mem_append.mpr (Or.inr (List.mem_cons_self ..))) c
      obtain ⟨b1, b2, rfl⟩ := List.append_of_mem q
      have hd : S = (pre ++ mk s :: b1) ++ mk s :: b2 := by rw [hS, List.append_assoc]; rfl
      rcases h.2.2.2 v hv _ s b2 hd (mk s) (List.mem_append.mpr (Or.inr (List.mem_cons_self ..))) _ ht with r | ⟨-, r⟩
      · exact absurd r (Nat.lt_irrefl _)
      · exact absurd (r s rfl) (Nat.lt_irrefl _)
    · rw [List.filter_cons_of_neg (by simp; omega)]
      exact ih
end COV
