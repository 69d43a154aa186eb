/-! WRITING A TERM: what is written; the model's small steps -/
/-- 0: a term; 1: arguments; 2: the rest of a list; 3, 4: of a list's cell -/
def wM : pE → Nat → List Nat → List Int × List Nat
  | .var v, md, nm => if md = 2 then (124 :: (95 :: nT (nm.idxOf v : Nat)) ++ [93], if v ∈ nm then nm else nm ++ [v]) else (95 :: nT (nm.idxOf v : Nat), if v ∈ nm then nm else nm ++ [v])
  | .num i, md, nm => if md = 0 then (nT i, nm) else if md = 2 then (124 :: nT i ++ [93], nm) else ([], nm)
  | .mulL k a, md, nm =>
    if md = 2 then
      if eN a = 0 then (if k = 1 then ([93], nm) else (124 :: nmT k ++ [93], nm))
      else if k = 2 then (44 :: (wM a 3 nm).1, (wM a 3 nm).2)
      else (124 :: (nmT k ++ 40 :: (wM a 1 nm).1) ++ [93], (wM a 1 nm).2)
    else
      if eN a = 0 then (nmT k, nm)
      else if k = 2 then (91 :: (wM a 3 nm).1, (wM a 3 nm).2)
      else (nmT k ++ 40 :: (wM a 1 nm).1, (wM a 1 nm).2)
  | .add x r, md, nm =>
    if md = 1 then (if eN r = 0 then ((wM x 0 nm).1 ++ [41], (wM x 0 nm).2) else ((wM x 0 nm).1 ++ 44 :: (wM r 1 (wM x 0 nm).2).1, (wM r 1 (wM x 0 nm).2).2))
    else if md = 3 then ((wM x 0 nm).1 ++ (wM r 4 (wM x 0 nm).2).1, (wM r 4 (wM x 0 nm).2).2)
    else wM x 2 nm
  | _, _, nm => ([], nm)
/-- the variables that have been written -/
def mNa (m : hy_m) (nm : List Nat) : Prop := m 74 72 = nm.length ∧ nm.Nodup ∧ ∀ (i : Nat) (v : Nat), nm[i]? = some v → m 118 (i : Int) = mF v
def wFx (m m' : hy_m) : Prop := ∀ (a : Nat) (e : Int), a ≠ 112 → a ≠ 117 → a ≠ 118 → ¬ (a = 74 ∧ (e = 70 ∨ e = 72 ∨ e = 73)) → m' a e = m a e
/-- where the writing stands: signs, variables, what waits -/
def wSt (m0 m : hy_m) (many : Nat) (o : List Int) (nm : List Nat) : Prop := wFx m0 m ∧ m 74 73 = many ∧ mOu m o ∧ mNa m nm ∧ nm.length ≤ o.length ∧ many ≤ 6 * o.length + 1
theorem mNa_fm {m m' : hy_m} {nm : List Nat} (h : wFm m m') (hn : mNa m nm) : mNa m' nm := by
  refine ⟨by rw [h 74 72 (by decide) (by decide)]; exact hn.1, hn.2.1, fun i v hv => ?_⟩
  rw [h 118 _ (by decide) (by omega)]
  exact hn.2.2 i v hv
theorem wFm_x {m m' : hy_m} (h : wFm m m') : wFx m m' := fun a e q1 q2 q3 q4 => h a e q2 (fun q => q4 ⟨q.1, Or.inl q.2⟩)
theorem wFx.tr {m m' m'' : hy_m} (h : wFx m m') (h' : wFx m' m'') : wFx m m'' := fun a e q1 q2 q3 q4 => (h' a e q1 q2 q3 q4).trans (h a e q1 q2 q3 q4)
theorem tkp_len {o w : List Int} : (tkp o w).length = min 120 (o.length + w.length) := by
  unfold tkp
  rw [List.length_take, List.length_append]
theorem idxOf_lt {nm : List Nat} {v : Nat} : nm.idxOf v < nm.length ↔ v ∈ nm := List.idxOf_lt_length_iff
section MWR
variable {m m' m0 : hy_m} {Q : Int → hy_m → Prop} {o : List Int} {nm : List Nat}
/-- putFree -/
theorem sp_289 {v : Nat} (ho : mOu m o) (hn : mNa m nm) (hl : nm.length < 125) (hq : ∀ m', (∀ (a : Nat) (e : Int), a ≠ 117 → a ≠ 118 → ¬ (a = 74 ∧ (e = 70 ∨ e = 72)) → m' a e = m a e) → mOu m' (tkp o (95 :: nT (nm.idxOf v : Nat))) → mNa m' (if v ∈ nm then nm else nm ++ [v]) → Q 0 m') : wq_289 (mF v) m Q := by
  obtain ⟨n1, n2, n3⟩ := hn
  have fin : ∀ (m1 : hy_m) (j : Nat) (nm' : List Nat), j < 200 → (∀ (a : Nat) (e : Int), a ≠ 118 → ¬ (a = 74 ∧ e = 72) → m1 a e = m a e) → mNa m1 nm' → j = nm.idxOf v → nm' = (if v ∈ nm then nm else nm ++ [v]) → wq_289_52 (j : Int) m1 Q := fun m1 j nm' hj f1 h1 e1 e2 => by
    unfold wq_289_52
    have ho1 : mOu m1 o := ⟨by rw [f1 74 70 (by decide) (by decide)]; exact ho.1, ho.2.1, fun i c hc => by rw [f1 117 _ (by decide) (by omega)]; exact ho.2.2 i c hc⟩
    refine sp_286 ho1 (fun m2 f2 o2 => sp_287 (by have : (10 : Nat) ^ 12 = 1000000000000 := by decide
                                                  omega) o2 (fun m3 f3 o3 => hq m3 (fun a e q1 q2 q3 => ?_) ?_ ?_))
    · rw [f3 a e q1 (by omega), f2 a e q1 (by omega), f1 a e q2 (by omega)]
    · rw [tkp_tkp, e1] at o3
      exact o3
    · rw [← e2]
      exact mNa_fm f3 (mNa_fm f2 h1)
  have h27 : ∀ j : Nat, j ≤ nm.length → j = nm.idxOf v → wq_289_27 (mF v) (j : Int) m Q := fun j hj e => by
    unfold wq_289_27
    rw [n1]
    refine ⟨fun q => fin m j nm (by omega) (fun _ _ _ _ => rfl) ⟨n1, n2, n3⟩ e ?_, fun q => ⟨by omega, by omega, show -2147483648 ≤ _ ∧ _ < 2147483648 by omega, fin _ j (nm ++ [v]) (by omega) (fun a e q1 q2 => by rw [hy_uf q2, hy_ua q1]) ?_ e ?_⟩⟩
    · rw [if_pos (idxOf_lt.mp (by omega))]
    · have hni : v ∉ nm := fun h => by
        have := idxOf_lt.mpr h
        omega
      refine ⟨?_, nd_snoc n2 hni, fun i x hx => ?_⟩
      · rw [hy_us, List.length_append]
        rfl
      · rw [hy_ua (by decide)]
        by_cases ci : i < nm.length
        · rw [List.getElem?_append_left ci] at hx
          rw [hy_uk (by omega)]
          exact n3 i x hx
        · have hil := (List.getElem?_eq_some_iff.mp hx).1
          rw [List.length_append] at hil
          have ei : i = nm.length := by
            have : [v].length = 1 := rfl
            omega
          subst ei
          rw [List.getElem?_append_right (Nat.le_refl _), Nat.sub_self] at hx
          injection hx with hx
          rw [← hx, show (nm.length : Int) = (j : Int) by omega, hy_us]
    · rw [if_neg (fun h => ?_)]
      have := idxOf_lt.mpr h
      omega
  unfold wq_289 wq_289_2
  refine wL1_rule (Nat.lt_wfRel.wf) (fun x3 m' => m' = m ∧ ∃ j : Nat, x3 = j ∧ j ≤ nm.length ∧ j ≤ nm.idxOf v) (fun x3 _ => 300 - x3.toNat) ?_ ⟨rfl, 0, rfl, Nat.zero_le _, Nat.zero_le _⟩
  rintro P x3 m1 ⟨e1, j, rfl, hj, hji⟩ hP
  unfold wf_289_2
  rw [e1, n1]
  refine ⟨fun q => h27 j hj ?_, fun q => ⟨by omega, by omega, fun q2 => h27 j hj ?_, fun q2 => ⟨show -2147483648 ≤ _ ∧ _ < 2147483648 by omega, hP _ _ ⟨rfl, j + 1, by omega, by omega, ?_⟩ ?_⟩⟩⟩
  · have := List.idxOf_le_length (a := v) (l := nm)
    omega
  · have hjl : j < nm.length := by omega
    rw [n3 j _ (List.getElem?_eq_getElem hjl)] at q2
    unfold mF at q2
    have hjv : nm[j] = v := by omega
    have h1 : nm.idxOf nm[j] = j := List.Nodup.idxOf_getElem n2 j hjl
    rw [hjv] at h1
    exact h1.symm
  · have hjl : j < nm.length := by omega
    rw [n3 j _ (List.getElem?_eq_getElem hjl)] at q2
    by_cases c : j = nm.idxOf v
    · exfalso
      have hm : nm.idxOf v < nm.length := by omega
      have h1 : nm[nm.idxOf v] = v := List.getElem_idxOf hm
      apply q2
      rw [show nm[j] = v by rw [← h1]; congr 1]
    · omega
  · show 300 - _ < 300 - _
    omega
/-- later -/
theorem sp_290 {many : Nat} {x : Int} (h : m 74 73 = many) (hl : many < 29000) (hq : Q 0 (hy_u (hy_u m 112 (many : Int) x) 74 73 ((many : Int) + 1))) : wq_290 x m Q := by
  unfold wq_290
  rw [h]
  exact ⟨by omega, by omega, show -2147483648 ≤ _ ∧ _ < 2147483648 by omega, hq⟩
end MWR
