/-! A VARIABLE IS ENTERED -/
section CEN
variable {X : cX} {U : uX} {T : hy_T} {m0 m m' : hy_m} {B : bM} {sus : Nat → Prop} {I L x1 e y : Int} {S : List Int} {k z w : Nat} {u : pE}
theorem lIv_enter (hw : cW X T m0) (hO : cOr X) (hIL : I ≠ L) (hlive : ∀ a, B a ≠ none → ∃ z, sV X z a) (e0 : 0 ≤ e) (hz : sV X z w) (he : cTm X m0 e (.var w)) (heD : ∀ a, vIn a (.var w) → cDm X a) (hb : B w = some u) (ho : ∀ a : Nat, u = .var a → a < w) (y0 : 0 ≤ y) (hy : cTm X m0 y u) (hyD : ∀ a, vIn a u → cDm X a) (hnd : nd u ≤ 360) (hzI : m (ym U) (z : Int) ≠ I) (hzL : m (ym U) (z : Int) ≠ L) (hd : dI (eTm X m0) (mkf X) B sus (e :: S) (fun w => ∃ z, sV X z w ∧ m (ym U) (z : Int) = L)) (hin : ∀ z w : Nat, sV X z w → m (ym U) (z : Int) = I → mkf X w ∈ e :: S) (hS : ∀ e' ∈ e :: S, ∃ t, eTm X m0 e' t) (hf : ∀ v, Sol B v → yfP (cTm X m0) v (8 * xcap X) ((e :: S).filter (fun e => decide (0 ≤ e)))) (hk : wgR (eTm X m0) (e :: S) k) (h0 : 0 ≤ x1) (hx : x1 + (k : Int) + ((slS (fun z => if m (ym U) (z : Int) = I ∨ m (ym U) (z : Int) = L then 0 else 363) (8 * xcap X) : Nat) : Int) ≤ 999999) (hl : S.length + 2 ≤ 76 * xcap X) (hfx : ∀ (a : Nat) (e : Int), a ≠ yp U → a ≠ ym U → ¬ (a = 47 ∧ e = 7) → m' a e = m0 a e) (hsk : sK U m' (y :: (-1 - (z : Int)) :: S)) (hm : ∀ z' : Int, m' (ym U) z' = if z' = (z : Int) then I else m (ym U) z') : lIv X U m0 B sus I L (x1 + 1) m' := by
  obtain ⟨t, k', g1, g2, rfl⟩ := hk
  have hev : eTm X m0 e (.var w) := Or.inl ⟨e0, he, heD⟩
  have hyv : eTm X m0 y u := Or.inl ⟨y0, hy, hyD⟩
  have hmk := mkf_e hO hz
  have hmkv : eTm X m0 (-1 - (z : Int)) (.var w) := Or.inr ⟨z, w, hz, rfl, rfl⟩
  rw [eTm_uq hw g1 hev] at hx
  have hx : x1 + ((1 + k' : Nat) : Int) + ((slS (fun z => if m (ym U) (z : Int) = I ∨ m (ym U) (z : Int) = L then 0 else 363) (8 * xcap X) : Nat) : Int) ≤ 999999 := hx
  have hmz : ∀ z' : Nat, z' ≠ z → m' (ym U) (z' : Int) = m (ym U) (z' : Int) := fun z' q => by rw [hm, if_neg (by omega)]
  have hmI : m' (ym U) (z : Int) = I := by rw [hm, if_pos rfl]
  have hsl := slS_off (g := fun z => if m (ym U) (z : Int) = I ∨ m (ym U) (z : Int) = L then 0 else 363) (g' := fun z => if m' (ym U) (z : Int) = I ∨ m' (ym U) (z : Int) = L then 0 else 363) (e := z) (if_pos (Or.inl hmI)) (fun z' q => by
    show (if m' (ym U) (z' : Int) = I ∨ m' (ym U) (z' : Int) = L then 0 else 363) = _
    rw [hmz z' q]) (8 * xcap X) (sV_lt hw hz)
  rw [if_neg (fun q => q.elim hzI hzL)] at hsl
  have hlf : (fun w => ∃ z : Nat, sV X z w ∧ m' (ym U) (z : Int) = L) = (fun w => ∃ z : Nat, sV X z w ∧ m (ym U) (z : Int) = L) := by
    funext a
    refine propext ⟨fun ⟨z', q1, q2⟩ => ?_, fun ⟨z', q1, q2⟩ => ?_⟩
    · by_cases c : z' = z
      · rw [c, hmI] at q2
        exact absurd q2 hIL
      · exact ⟨z', q1, by rw [← hmz z' c]; exact q2⟩
    · by_cases c : z' = z
      · rw [c] at q2
        exact absurd q2 hzL
      · exact ⟨z', q1, by rw [hmz z' c]; exact q2⟩
  refine ⟨y :: (-1 - (z : Int)) :: S, nd u + (1 + k'), hfx, hsk, by rw [List.length_cons, List.length_cons]; omega, fun e' he' => ?_, ?_, fun z' w' hz' hI => ?_, fun v hv => ?_, ⟨u, 1 + k', hyv, ⟨_, k', hmkv, g2, rfl⟩, rfl⟩, by omega, by omega⟩
  · rcases List.mem_cons.mp he' with rfl | he'
    · exact ⟨u, hyv⟩
    · rcases List.mem_cons.mp he' with rfl | he'
      · exact ⟨_, hmkv⟩
      · exact hS e' (List.mem_cons_of_mem _ he')
  · rw [hlf, ← hmk]
    refine dI_enter (fun a b q => mkf_inj hw hO q) (fun a t q => eTm_mk hw hO q) (fun a q => ?_) (fun t q => eTm_uq hw q hyv) hyv (fun s q => ?_) hb ho hev hd (fun t q => eTm_uq hw q hev)
    · obtain ⟨za, hza⟩ := hlive a q
      rw [mkf_e hO hza]
      exact Or.inr ⟨za, a, hza, rfl, rfl⟩
    · have := mkf_neg (X := X) s
      omega
  · by_cases c : z' = z
    · subst c
      rw [← sV_w hw hz hz', hmk]
      exact List.mem_cons_of_mem _ (List.mem_cons_self ..)
    · rw [hmz z' c] at hI
      rcases List.mem_cons.mp (hin z' w' hz' hI) with q | q
      · have := mkf_neg (X := X) w'
        omega
      · exact List.mem_cons_of_mem _ (List.mem_cons_of_mem _ q)
  · have h1 := hf v hv
    rw [List.filter_cons_of_pos (by exact decide_eq_true e0)] at h1
    rw [List.filter_cons_of_pos (by exact decide_eq_true y0), List.filter_cons_of_neg (by simp; omega)]
    refine yfP_repl h1 he (fun t ht => ?_)
    rw [cTm_uq ht hy]
    show sz (sb v u) = sz (v w)
    rw [hv w u hb]
end CEN
