/-! THE CLASS WRITES A TERM: small steps -/
def cNa (X : cX) (m0 m : hy_m) (nm : List Nat) : Prop := m 69 4 = nm.length ∧ nm.Nodup ∧ ∀ (i : Nat) (v : Nat), nm[i]? = some v → cTm X m0 (m 71 (i : Int)) (.var v)
def dFx (m m' : hy_m) : Prop := ∀ (a : Nat) (e : Int), ¬ (70 ≤ a ∧ a ≤ 73) → ¬ (a = 69 ∧ (e = 2 ∨ e = 4 ∨ e = 7)) → m' a e = m a e
/-- no cell of the store lies on the writer's -/
def dSep (X : cX) : Prop := (xc1 X < 69 ∨ 73 < xc1 X) ∧ (xb4 X < 69 ∨ 73 < xb4 X) ∧ ∀ i, xL X i → (xA X i < 69 ∨ 73 < xA X i) ∧ (xK0 X i < 69 ∨ 73 < xK0 X i) ∧ (xK1 X i < 69 ∨ 73 < xK1 X i) ∧ (xK2 X i < 69 ∨ 73 < xK2 X i)
/-- where the writing stands -/
def dSt (X : cX) (m0 m : hy_m) (d : Nat) (o : List Int) (nm : List Nat) : Prop := dFx m0 m ∧ m 69 7 = d ∧ cOu m o ∧ cNa X m0 m nm ∧ 2 * nm.length ≤ o.length ∧ d ≤ o.length
section CWR
variable {X : cX} {T : hy_T} {B : bM} {s : Nat → pE} {m m' m0 : hy_m} {Q : Int → hy_m → Prop} {o : List Int} {nm : List Nat} {d : Nat} {t : pE} {x : Int}
theorem dFx.tr {m'' : hy_m} (h : dFx m m') (h' : dFx m' m'') : dFx m m'' := fun a e q1 q2 => (h' a e q1 q2).trans (h a e q1 q2)
theorem wFc_x (h : wFc m m') : dFx m m' := fun a e q1 q2 => h a e (by omega) (by omega)
theorem dFx_ag (hs : dSep X) (h : dFx m m') : cAg X m m' := by
  obtain ⟨s1, s2, s3⟩ := hs
  exact ⟨fun e => h 46 e (by omega) (by omega), fun e _ => h 41 e (by omega) (by omega), fun e => h _ e (by omega) (by omega), fun i hi => ⟨fun e => h _ e (by have := (s3 i hi).1; omega) (by have := (s3 i hi).1; omega), fun e => h _ e (by have := (s3 i hi).2.1; omega) (by have := (s3 i hi).2.1; omega), fun e => h _ e (by have := (s3 i hi).2.2.1; omega) (by have := (s3 i hi).2.2.1; omega), fun e => h _ e (by have := (s3 i hi).2.2.2; omega) (by have := (s3 i hi).2.2.2; omega)⟩⟩
theorem dFx_b4 (hs : dSep X) (h : dFx m m') (e : Int) : m' (xb4 X) e = m (xb4 X) e := h _ e (by have := hs.2.1; omega) (by have := hs.2.1; omega)
theorem cNa_fc (h : wFc m m') (hn : cNa X m0 m nm) : cNa X m0 m' nm := by
  refine ⟨by rw [h 69 4 (by decide) (by decide)]; exact hn.1, hn.2.1, fun i v hv => ?_⟩
  rw [h 71 _ (by decide) (by omega)]
  exact hn.2.2 i v hv
/-- one variable, one ref -/
theorem ref_uq (hO : cOr X) {y : Int} {v : Nat} (h : cTm X m0 x (.var v)) (h' : cTm X m0 y (.var v)) : x = y := by
  obtain ⟨i, n, a1, a2, -, a4, a5⟩ := cTm_v h
  obtain ⟨i', n', b1, b2, -, b4, b5⟩ := cTm_v h'
  obtain ⟨e1, e2⟩ := cOr_uq hO a1 b1 a4 b4 (a5.symm.trans b5)
  rw [a2, b2, e1, e2]
/-- addVariable -/
theorem sp_165 {v : Nat} (hO : cOr X) (hx : cTm X m0 x (.var v)) (ho : cOu m o) (hn : cNa X m0 m nm) (hl : nm.length < 120) (hq : ∀ m', (∀ (a : Nat) (e : Int), a ≠ 70 → a ≠ 71 → ¬ (a = 69 ∧ (e = 2 ∨ e = 4)) → m' a e = m a e) → cOu m' (tkp o (95 :: nT (nm.idxOf v : Nat))) → cNa X m0 m' (if v ∈ nm then nm else nm ++ [v]) → Q 0 m') : wq_165 x m Q := by
  obtain ⟨n1, n2, n3⟩ := hn
  have fin : ∀ (m1 : hy_m) (j : Nat) (nm' : List Nat), j < 200 → (∀ (a : Nat) (e : Int), a ≠ 71 → ¬ (a = 69 ∧ e = 4) → m1 a e = m a e) → cNa X m0 m1 nm' → j = nm.idxOf v → nm' = (if v ∈ nm then nm else nm ++ [v]) → wq_165_66 (j : Int) m1 Q := fun m1 j nm' hj f1 h1 e1 e2 => by
    unfold wq_165_66
    have ho1 : cOu m1 o := ⟨by rw [f1 69 2 (by decide) (by decide)]; exact ho.1, ho.2.1, fun i c hc => by rw [f1 70 _ (by decide) (by omega)]; exact ho.2.2.1 i c hc, by
      have hnl : nm'.length ≤ 120 := by
        rw [e2]
        split
        · omega
        · rw [List.length_append]
          show nm.length + 1 ≤ 120
          omega
      rw [h1.1]
      omega⟩
    refine sp_168 (by decide) ho1 (fun m2 f2 o2 => sp_166 (by have : (10 : Nat) ^ 10 = 10000000000 := by decide
                                                              omega) o2 (fun m3 f3 o3 => hq m3 (fun a e q1 q2 q3 => ?_) ?_ ?_))
    · rw [f3 a e q1 (by omega), f2 a e q1 (by omega), f1 a e q2 (by omega)]
    · rw [tkp_tkp, e1] at o3
      exact o3
    · rw [← e2]
      exact cNa_fc f3 (cNa_fc f2 h1)
  have h26 : ∀ j : Nat, j ≤ nm.length → j = nm.idxOf v → wq_165_26 x (j : Int) m Q := fun j hj e => by
    unfold wq_165_26
    rw [n1]
    refine ⟨fun q => fin m j nm (by omega) (fun _ _ _ _ => rfl) ⟨n1, n2, n3⟩ e ?_, fun q => ⟨fun q2 => by omega, fun _ => ⟨by omega, by omega, show -2147483648 ≤ _ ∧ _ < 2147483648 by omega, fin _ j (nm ++ [v]) (by omega) (fun a e q1 q2 => by rw [hy_uf q2, hy_ua q1]) ?_ e ?_⟩⟩⟩
    · rw [if_pos (idxOf_lt.mp (by omega))]
    · have hni : v ∉ nm := fun h => by
        have := idxOf_lt.mpr h
        omega
      refine ⟨?_, nd_snoc n2 hni, fun i x' hx' => ?_⟩
      · rw [hy_us, List.length_append]
        rfl
      · rw [hy_ua (by decide)]
        by_cases ci : i < nm.length
        · rw [List.getElem?_append_left ci] at hx'
          rw [hy_uk (by omega)]
          exact n3 i x' hx'
        · have hil := (List.getElem?_eq_some_iff.mp hx').1
          rw [List.length_append] at hil
          have ei : i = nm.length := by
            have : [v].length = 1 := rfl
            omega
          subst ei
          rw [List.getElem?_append_right (Nat.le_refl _), Nat.sub_self] at hx'
          injection hx' with hx'
          rw [← hx', hy_us]
          exact hx
    · rw [if_neg (fun h => ?_)]
      have := idxOf_lt.mpr h
      omega
  unfold wq_165 wq_165_2
  refine wL1_rule (Nat.lt_wfRel.wf) (fun x3 m' => m' = m ∧ ∃ j : Nat, x3 = j ∧ j ≤ nm.length ∧ j ≤ nm.idxOf v) (fun x3 _ => 300 - x3.toNat) ?_ ⟨rfl, 0, rfl, Nat.zero_le _, Nat.zero_le _⟩
  rintro P x3 m1 ⟨e1, j, rfl, hj, hji⟩ hP
  unfold wf_165_2
  rw [e1, n1]
  refine ⟨fun q => h26 j hj ?_, fun q => ⟨by omega, by omega, fun q2 => h26 j hj ?_, fun q2 => ⟨show -2147483648 ≤ _ ∧ _ < 2147483648 by omega, hP _ _ ⟨rfl, j + 1, by omega, by omega, ?_⟩ ?_⟩⟩⟩
  · have := List.idxOf_le_length (a := v) (l := nm)
    omega
  · have hjl : j < nm.length := by omega
    have hc := n3 j _ (List.getElem?_eq_getElem hjl)
    rw [q2] at hc
    have hjv : nm[j] = v := by
      have := cTm_uq hc hx
      injection this
    have h1 : nm.idxOf nm[j] = j := List.Nodup.idxOf_getElem n2 j hjl
    rw [hjv] at h1
    exact h1.symm
  · have hjl : j < nm.length := by omega
    have hc := n3 j _ (List.getElem?_eq_getElem hjl)
    by_cases c : j = nm.idxOf v
    · exfalso
      have hm : nm.idxOf v < nm.length := by omega
      have h1 : nm[nm.idxOf v] = v := List.getElem_idxOf hm
      have h2 : nm[j] = v := by rw [← h1]; congr 1
      rw [h2] at hc
      exact q2 (ref_uq hO hc hx)
    · omega
  · show 300 - _ < 300 - _
    omega
/-- signs were added -/
theorem dSt_out {w : List Int} (h : dSt X m0 m d o nm) (hf : wFc m m') (ho : cOu m' (tkp o w)) : dSt X m0 m' d (tkp o w) nm ∧ (∀ i, m' 72 i = m 72 i) ∧ ∀ i, m' 73 i = m 73 i := by
  obtain ⟨h1, h2, h3, h4, h5, h6⟩ := h
  have hl : o.length ≤ (tkp o w).length := by
    rw [tkp_len]
    have := h3.2.1
    omega
  exact ⟨⟨h1.tr (wFc_x hf), by rw [hf 69 7 (by decide) (by decide)]; exact h2, ho, cNa_fc hf h4, by omega, by omega⟩, fun i => hf 72 i (by decide) (by omega), fun i => hf 73 i (by decide) (by omega)⟩
/-- the places of the open compounds change -/
theorem dSt_k {d' : Nat} (h : dSt X m0 m d o nm) (hf : ∀ (a : Nat) (e : Int), a ≠ 72 → a ≠ 73 → ¬ (a = 69 ∧ e = 7) → m' a e = m a e) (hd : m' 69 7 = d') (hl : d' ≤ o.length) : dSt X m0 m' d' o nm := by
  obtain ⟨h1, h2, h3, h4, h5, h6⟩ := h
  exact ⟨h1.tr (fun a e q1 q2 => hf a e (by omega) (by omega) (by omega)), hd, ⟨by rw [hf 69 2 (by decide) (by decide) (by decide)]; exact h3.1, h3.2.1, fun i c hc => by rw [hf 70 _ (by decide) (by decide) (by omega)]; exact h3.2.2.1 i c hc, by rw [hf 69 4 (by decide) (by decide) (by decide)]; exact h3.2.2.2⟩, ⟨by rw [hf 69 4 (by decide) (by decide) (by decide)]; exact h4.1, h4.2.1, fun i v hv => by rw [hf 71 _ (by decide) (by decide) (by omega)]; exact h4.2.2 i v hv⟩, h5, hl⟩
end CWR
