/-! THE STACK IS LONG ENOUGH, if there is a solution -/
/-- arguments, beyond the first, of different compounds of the class -/
def cGW (X : cX) (m : hy_m) : Prop := ∀ ps : List yfr, (ps.map Prod.fst).Nodup → (∀ q ∈ ps, cTm X m q.1 q.2.1 ∧ 1 ≤ eNa q.2.1) → (ps.map (fun p => eNa p.2.1 - 1)).sum ≤ 59 * xcap X
theorem no_over {X : cX} {T : hy_T} {m : hy_m} {B : bM} {sus lf : Nat → Prop} {S : List Int} {v : Nat → pE} (hw : cW X T m) (hO : cOr X) (hW : cGW X m) (h4 : 4 ≤ xcap X) (h : dI (eTm X m) (mkf X) B sus S lf) (hv : Sol B v) (hm : ∀ e ∈ S, e < 0 → ∃ z w : Nat, sV X z w ∧ e = -1 - (z : Int)) (hf : yfP (cTm X m) v (8 * xcap X) (S.filter (fun e => decide (0 ≤ e)))) : S.length + 3 ≤ 76 * xcap X := by
  have nd := mk_nd h hv (fun e he hn => by
    obtain ⟨z, w, g1, rfl⟩ := hm e he hn
    exact ⟨w, (mkf_e hO g1).symm, Or.inr ⟨z, w, g1, rfl, rfl⟩⟩) S [] rfl
  have l1 := nd.length_le_of_subset (l₂ := (List.range (8 * xcap X)).map (fun (z : Nat) => -1 - (z : Int))) (fun e he => by
    obtain ⟨he, hn⟩ := List.mem_filter.mp he
    obtain ⟨z, w, g1, rfl⟩ := hm e he (of_decide_eq_true hn)
    exact List.mem_map.mpr ⟨z, List.mem_range.mpr (sV_lt hw g1), rfl⟩)
  rw [List.length_map, List.length_range] at l1
  have l2 := yfP_len (C := cTm X m) (fun _ _ _ a b => cTm_uq a b) hW hf
  have l3 := fil_len S
  omega
