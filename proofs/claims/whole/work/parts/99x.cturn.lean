/-! TURNS OF THE SEARCH FOR LOOPS -/
/-- what is known while it goes on -/
def lPr (X : cX) (U : uX) (T : hy_T) (m0 : hy_m) (B : bM) (I L : Int) : Prop := uSep X U ∧ cW X T m0 ∧ uW X U T m0 ∧ cOr X ∧ cGW X m0 ∧ 4 ≤ xcap X ∧ (∀ x t, cTm X m0 x t → nd t ≤ 360) ∧ cBd X m0 B ∧ (∀ w y : Nat, B w = some (.var y) → y < w) ∧ m0 47 9 = I ∧ m0 47 10 = L ∧ I < L
/-- what it leaves alone -/
def lFr (U : uX) (m0 : hy_m) (L : Int) (m : hy_m) : Prop := (∀ (a : Nat) (e : Int), a ≠ yp U → a ≠ ym U → ¬ (a = 47 ∧ e = 7) → m a e = m0 a e) ∧ ∀ z : Int, m (ym U) z ≤ L
/-- the stack and its parts -/
def lSt (X : cX) (U : uX) (m0 : hy_m) (B : bM) (sus : Nat → Prop) (I L : Int) (x1 : Int) (m : hy_m) (S : List Int) (k : Nat) : Prop := sK U m S ∧ (∀ e ∈ S, ∃ t, eTm X m0 e t) ∧ dI (eTm X m0) (mkf X) B sus S (fun w => ∃ z, sV X z w ∧ m (ym U) (z : Int) = L) ∧ (∀ z w : Nat, sV X z w → m (ym U) (z : Int) = I → mkf X w ∈ S) ∧ (∀ v, Sol B v → yfP (cTm X m0) v (8 * xcap X) (S.filter (fun e => decide (0 ≤ e)))) ∧ wgR (eTm X m0) S k ∧ 0 ≤ x1 ∧ x1 + (k : Int) + ((slS (fun z => if m (ym U) (z : Int) = I ∨ m (ym U) (z : Int) = L then 0 else 363) (8 * xcap X) : Nat) : Int) ≤ 999999
section CTU
variable {X : cX} {U : uX} {T : hy_T} {m0 m : hy_m} {B : bM} {sus : Nat → Prop} {I L x1 e : Int} {S : List Int} {k : Nat} {Q P : Int → hy_m → Prop}
theorem lFr_47 (hs : uSep X U) {a : Int} (h : lFr U m0 L m) (ha : a ≠ 7) : m 47 a = m0 47 a := h.1 47 a (fun q => hs.n47.2.2.2.1 q.symm) (fun q => hs.n47.2.2.2.2.1 q.symm) (fun q => ha q.2)
theorem lFr_pop (hs : uSep X U) {v : Int} (h : lFr U m0 L m) : lFr U m0 L (hy_u m 47 7 v) := by
  refine ⟨fun a e q1 q2 q3 => ?_, fun z => ?_⟩
  · rw [hy_uf q3]
    exact h.1 a e q1 q2 q3
  · rw [hy_ua hs.n47.2.2.2.2.1]
    exact h.2 z
theorem lFr_mk {z v : Int} (hs : uSep X U) (hv : v ≤ L) (h : lFr U m0 L m) : lFr U m0 L (hy_u m (ym U) z v) := by
  refine ⟨fun a e q1 q2 q3 => ?_, fun z' => ?_⟩
  · rw [hy_ua q2]
    exact h.1 a e q1 q2 q3
  · by_cases c : z' = z
    · rw [c, hy_us]
      exact hv
    · rw [hy_uf (fun q => c q.2)]
      exact h.2 z'
theorem lFr_pu {j : Nat} {x : Int} (hs : uSep X U) (h : lFr U m0 L m) : lFr U m0 L (uPu U m j x) := by
  refine ⟨fun a e q1 q2 q3 => ?_, fun z' => ?_⟩
  · rw [uPu_sk a e q1 q3]
    exact h.1 a e q1 q2 q3
  · rw [uPu_sk (ym U) z' (fun q => hs.ne.2.2.2.1.2.2.2.1 q.symm) (fun q => hs.n47.2.2.2.2.1 q.1)]
    exact h.2 z'
/-- a term on the top that leads nowhere, or is known already -/
theorem lT_none {t : pE} (hp : lPr X U T m0 B I L) (hF : lFr U m0 L m) (h : lSt X U m0 B sus I L x1 m (e :: S) k) (hl : (e :: S).length ≤ 76 * xcap X) (e0 : 0 ≤ e) (het : eTm X m0 e t) (hv : ∀ w, vIn w t → ∃ z, sV X z w ∧ m (ym U) (z : Int) = L) : lIv X U m0 B sus I L (x1 + 1) (hy_u m 47 7 (S.length : Int)) := by
  obtain ⟨hs, hw, hU, hO, hG, h4, hN, hB, ho, hI, hL, hIL⟩ := hp
  obtain ⟨hsk, hS, hd, hin, hf, hk, h0, hx⟩ := h
  rw [List.length_cons] at hl
  refine lIv_pop (N := []) (kn := 0) hw e0 het ?_ hin hS (fun _ q => absurd q (List.not_mem_nil)) (fun v hv => fil_drop (hf v hv)) hk rfl (nd_pos t) h0 hx (show S.length ≤ _ by omega) (lFr_pop hs hF).1 (sK_pop hs hsk) ?_
  · refine dI_pop hd (fun _ q => q) hd.1 (fun t' ht' w hwt => Or.inl ?_) (fun v _ s _ e' q => absurd q (List.not_mem_nil)) (fun s => List.not_mem_nil)
    rw [eTm_uq hw ht' het] at hwt
    exact hv w hwt
  · funext z
    exact hy_ua hs.n47.2.2.2.2.1
/-- a mark -/
theorem lT_mark {z w : Nat} (hp : lPr X U T m0 B I L) (hF : lFr U m0 L m) (h : lSt X U m0 B sus I L x1 m ((-1 - (z : Int)) :: S) k) (hl : S.length + 1 ≤ 76 * xcap X) (hz : sV X z w) : lIv X U m0 B sus I L (x1 + 1) (hy_u (hy_u m 47 7 (S.length : Int)) (ym U) (z : Int) L) := by
  obtain ⟨hs, hw, hU, hO, hG, h4, hN, hB, ho, hI, hL, hIL⟩ := hp
  obtain ⟨hsk, hS, hd, hin, hf, hk, h0, hx⟩ := h
  have hmk := mkf_e hO hz
  refine lIv_leave hw hO (by omega) hz (Or.inr ⟨z, w, hz, rfl, rfl⟩) ?_ hd hin hS hf hk h0 hx hl (lFr_mk (X := X) hs (Int.le_refl L) (lFr_pop hs hF)).1 (sK_k ?_ ?_ (sK_pop hs hsk)) (fun z' => ?_)
  · rw [← hmk] at hd
    exact dI_leave hd
  · exact hy_ua (fun q => hs.n47.2.2.2.2.1 q.symm)
  · funext a
    exact hy_ua hs.ne.2.2.2.1.2.2.2.1
  · by_cases c : z' = (z : Int)
    · rw [if_pos c, c, hy_us]
    · rw [if_neg c, hy_uf (fun q => c q.2), hy_ua hs.n47.2.2.2.2.1]
end CTU
