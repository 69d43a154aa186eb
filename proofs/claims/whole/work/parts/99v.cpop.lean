/-! A TERM IS TAKEN FROM THE STACK -/
theorem wgR_app {C : Int → pE → Prop} {S : List Int} {b : Nat} (hb : wgR C S b) : ∀ (N : List Int) (a : Nat), wgR C N a → wgR C (N ++ S) (a + b)
  | [], a, h => by
    have h : a = 0 := h
    rw [h, Nat.zero_add]
    exact hb
  | e :: N, a, ⟨t, k', h1, h2, h3⟩ => ⟨t, k' + b, h1, wgR_app hb N k' h2, by omega⟩
theorem wgR_mo {C C' : Int → pE → Prop} : ∀ (N : List Int) (a : Nat), (∀ e ∈ N, ∀ t, C e t → C' e t) → wgR C N a → wgR C' N a
  | [], _, _, h => h
  | e :: N, a, hc, ⟨t, k', h1, h2, h3⟩ => ⟨t, k', hc e (List.mem_cons_self ..) t h1, wgR_mo N k' (fun e' he' => hc e' (List.mem_cons_of_mem _ he')) h2, h3⟩
section CPO
variable {X : cX} {U : uX} {T : hy_T} {m0 m m' : hy_m} {B : bM} {sus : Nat → Prop} {I L x1 e : Int} {S N : List Int} {k kn : Nat} {t : pE}
theorem lIv_pop (hw : cW X T m0) (e0 : 0 ≤ e) (het : eTm X m0 e t) (hd : dI (eTm X m0) (mkf X) B sus (N ++ S) (fun w => ∃ z, sV X z w ∧ m (ym U) (z : Int) = L)) (hin : ∀ z w : Nat, sV X z w → m (ym U) (z : Int) = I → mkf X w ∈ e :: S) (hS : ∀ e' ∈ e :: S, ∃ t, eTm X m0 e' t) (hN : ∀ e' ∈ N, ∃ t, eTm X m0 e' t) (hf : ∀ v, Sol B v → yfP (cTm X m0) v (8 * xcap X) ((N ++ S).filter (fun e => decide (0 ≤ e)))) (hk : wgR (eTm X m0) (e :: S) k) (hkn : wgR (eTm X m0) N kn) (hn : kn + 1 ≤ nd t) (h0 : 0 ≤ x1) (hx : x1 + (k : Int) + ((slS (fun z => if m (ym U) (z : Int) = I ∨ m (ym U) (z : Int) = L then 0 else 363) (8 * xcap X) : Nat) : Int) ≤ 999999) (hl : (N ++ S).length ≤ 76 * xcap X) (hfx : ∀ (a : Nat) (e : Int), a ≠ yp U → a ≠ ym U → ¬ (a = 47 ∧ e = 7) → m' a e = m0 a e) (hsk : sK U m' (N ++ S)) (hm : m' (ym U) = m (ym U)) : lIv X U m0 B sus I L (x1 + 1) m' := by
  obtain ⟨t', k', g1, g2, rfl⟩ := hk
  rw [eTm_uq hw g1 het] at hx
  refine ⟨N ++ S, kn + k', hfx, hsk, hl, fun e' he' => ?_, ?_, fun z w hz hI => ?_, hf, wgR_app g2 N kn hkn, by omega, ?_⟩
  · rcases List.mem_append.mp he' with q | q
    · exact hN e' q
    · exact hS e' (List.mem_cons_of_mem _ q)
  · rw [hm]
    exact hd
  · rw [hm] at hI
    rcases List.mem_cons.mp (hin z w hz hI) with q | q
    · have := mkf_neg (X := X) w
      omega
    · exact List.mem_append.mpr (Or.inr q)
  · rw [hm]
    omega
end CPO
