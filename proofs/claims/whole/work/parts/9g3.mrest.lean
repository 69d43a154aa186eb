/-! THE MODEL: behind goesBack, and behind a unification -/
section MC
variable {E : qE} {ss : List Nat} {m m' : hy_m} {T : List Nat} {B B' : bM} {s s' : Nat → pE} {A : qA} {c : qC} {r : List qC}
theorem mCc_at (h : mCc E ss m (qi A) T B (c :: r)) : c.2.2.2.1.2.1 ≤ T.length := h.2.1.1
theorem tak_tak {α : Type} {L : List α} {i j : Nat} (h : j ≤ i) : (L.take i).take j = L.take j := by
  rw [List.take_take, Nat.min_eq_left h]
theorem nd_td {L : List Nat} {k w : Nat} (h : L.Nodup) (h1 : w ∈ L.take k) (h2 : w ∈ L.drop k) : False := by
  rw [← List.take_append_drop k L, List.nodup_append] at h
  exact h.2.2 w h1 w h2 rfl
theorem back_se (hq : qFl E A) (he : qh A = c :: r) (hP : mPr E ss m) (hN : mNm m A) (hD : mDy E ss m A B T) (g1 : ∀ (a : Nat) (e : Int), ¬ (a = 97 ∧ ∃ w ∈ T.drop c.2.2.2.1.2.1, e = (w : Int)) → ¬ (a = 74 ∧ (e = 44 ∨ e = 42 ∨ e = 51 ∨ e = 52)) → m' a e = m a e) (g2 : ∀ w ∈ T.drop c.2.2.2.1.2.1, m' 97 (w : Int) = -1) (g3 : m' 74 44 = (c.2.2.2.1.2.1 : Nat)) (g4 : m' 74 42 = m 109 (r.length : Int)) (g5 : m' 74 51 = m 110 (r.length : Int)) (g6 : m' 74 52 = m 107 (r.length : Int)) : mSe E ss m' (qrest A c (c :: r)) := by
  obtain ⟨d1, d2, d3, d4, d5, d6⟩ := hD
  have hrw : mRw m m' := fun a e q1 q2 => g1 a e (by omega) (by omega)
  have hC := d5
  rw [he] at hC
  obtain ⟨⟨a1, a2, a3⟩, b, c1, d, e, f, g⟩ := hC
  have hk := hq.1
  rw [he] at hk
  have hall := chK_all (c :: r) hk
  have hni := (hall c (List.mem_cons_self ..)).1
  have hpre : (qi A).take c.2.2.2.1.1 <+: qi A := List.take_prefix _ _
  have ei : qi (qrest A c (c :: r)) = (qi A).take c.2.2.2.1.1 := rfl
  have eh : qh (qrest A c (c :: r)) = c :: r := rfl
  have h97 : ∀ v : Nat, v ∉ T.drop c.2.2.2.1.2.1 → m' 97 (v : Int) = m 97 (v : Int) := fun v hv => g1 97 v (fun ⟨_, w, hw, q⟩ => hv (by rw [show v = w by omega]; exact hw)) (by omega)
  refine ⟨mPr_rw hrw (fun e => g1 85 e (by omega) (by omega)) hP, ?_, ⟨?_, ?_, ?_⟩, bRs B T c.2.2.2.1.2.1 (tot E ((qi A).take c.2.2.2.1.1)), T.take c.2.2.2.1.2.1, ⟨?_, ?_, ?_, ?_, ?_, ?_⟩, e, ?_⟩
  · obtain ⟨n1, n2, n3, n4, n5, n6⟩ := hN
    refine ⟨?_, ?_, ?_, ?_, ?_, fun k hk => ?_⟩
    · rw [g1 _ _ (by omega) (by omega)]; exact n1
    · rw [g1 _ _ (by omega) (by omega)]; exact n2
    · rw [g1 _ _ (by omega) (by omega)]; exact n3
    · rw [g1 _ _ (by omega) (by omega)]; exact n4
    · rw [g1 _ _ (by omega) (by omega)]; exact n5
    · rw [g1 _ _ (by omega) (by omega), g1 _ _ (by omega) (by omega)]; exact n6 k hk
  · rw [g4]; exact a2
  · rw [g5]; exact a3
  · rw [g6]
    exact mCh_fr hrw (fun a j q1 q2 _ => g1 a j (by omega) (by omega)) _ _ d
  · rw [ei]
    intro v
    have hv0 := d1 v
    refine ⟨fun hv => ?_, fun hv => ?_⟩
    · have hv : v < tot E ((qi A).take c.2.2.2.1.1) := hv
      have hvt : v < tot E (qi A) := Nat.lt_of_lt_of_le hv (tot_pre hpre)
      obtain ⟨k1, k2⟩ := hv0.1 hvt
      refine ⟨k1, ?_⟩
      by_cases q : v ∈ T.drop c.2.2.2.1.2.1
      · refine Or.inl ⟨?_, g2 v q⟩
        unfold bRs
        rw [if_neg (fun z => z.2 q)]
      · have eB : bRs B T c.2.2.2.1.2.1 (tot E ((qi A).take c.2.2.2.1.1)) v = B v := by
          unfold bRs
          rw [if_pos ⟨hv, q⟩]
        rw [eB, h97 v q]
        rcases k2 with k2 | ⟨t, k2, k3, k4, k5⟩
        · exact Or.inl k2
        · obtain ⟨f1, f2⟩ := f v t (by rw [eB]; exact k2)
          exact Or.inr ⟨t, k2, k3, mTm_rw hrw f1, f2⟩
    · unfold bRs
      rw [if_neg (fun z => hv z.1)]
  · refine ⟨?_, fun i hi => ?_⟩
    · rw [g3, List.length_take]
      have := b.1
      omega
    · rw [List.length_take] at hi
      rw [g1 _ _ (by omega) (by omega), List.getElem_take]
      exact d2.2 i (by omega)
  · exact List.Nodup.sublist (List.take_sublist _ _) d3
  · intro w hw
    unfold bRs
    rw [if_pos ⟨b.2 w hw, fun q => nd_td d3 hw q⟩]
    exact d4 w (List.mem_of_mem_take hw)
  · rw [ei, eh]
    rw [he] at d5
    refine mCc_fr (N := qn A 8) hrw (fun a j q1 q2 _ => g1 a j (by omega) (by omega)) (c :: r) (fun a p q1 q2 _ => g1 a p (by omega) (by omega)) (fun c' hc' => ?_) d5
    have hc2 : c'.2.2.2.1.1 ≤ c.2.2.2.1.1 ∧ c'.2.2.2.1.2.1 ≤ c.2.2.2.1.2.1 ∧ c'.2.2.2.1.2.2 ≤ qn A 8 := by
      refine ⟨?_, ?_, (hall c' hc').2.2⟩
      · rcases List.mem_cons.mp hc' with rfl | h
        · exact Nat.le_refl _
        · exact (chK_all r hk.2.2.2.2.2.2 c' h).1
      · rcases List.mem_cons.mp hc' with rfl | h
        · exact Nat.le_refl _
        · exact (chK_all r hk.2.2.2.2.2.2 c' h).2.1
    refine ⟨hc2.2.2, ⟨?_, tak_tak hc2.2.1⟩, tak_tak hc2.1, bRs_2 hc2.2.1 ?_ b.1, fun v hv => ?_⟩
    · rw [List.length_take]
      have := b.1
      omega
    · refine tot_pre ?_
      rw [← tak_tak (L := qi A) hc2.1]
      exact List.take_prefix _ _
    · refine h97 v (fun q => (bRs_n hv).2 ?_)
      have e2 : T.drop c.2.2.2.1.2.1 = (T.drop c'.2.2.2.1.2.1).drop (c.2.2.2.1.2.1 - c'.2.2.2.1.2.1) := by
        rw [List.drop_drop]
        congr 1
        omega
      rw [e2] at q
      exact List.mem_of_mem_drop q
  · rw [eh, g1 _ _ (by omega) (by omega), d6, he]
  · show (T.take c.2.2.2.1.2.1).length = c.2.2.2.1.2.1
    rw [List.length_take]
    have := b.1
    omega
/-- counts -/
theorem filter_add {p q z : Nat → Bool} (h : ∀ w, z w = (p w || q w)) (hd : ∀ w, ¬ (p w = true ∧ q w = true)) : ∀ L : List Nat, (L.filter z).length = (L.filter p).length + (L.filter q).length
  | [] => rfl
  | w :: L => by
    have := filter_add h hd L
    have h1 := h w
    have h2 := hd w
    cases hp : p w with
    | true =>
      cases hq : q w with
      | true => exact absurd ⟨hp, hq⟩ h2
      | false =>
        rw [hp, hq] at h1
        rw [List.filter_cons_of_pos h1, List.filter_cons_of_pos hp, List.filter_cons_of_neg (by rw [hq]; decide), List.length_cons, List.length_cons]
        omega
    | false =>
      cases hq : q w with
      | true =>
        rw [hp, hq] at h1
        rw [List.filter_cons_of_pos h1, List.filter_cons_of_neg (by rw [hp]; decide), List.filter_cons_of_pos hq, List.length_cons, List.length_cons]
        omega
      | false =>
        rw [hp, hq] at h1
        rw [List.filter_cons_of_neg (by rw [h1]; decide), List.filter_cons_of_neg (by rw [hp]; decide), List.filter_cons_of_neg (by rw [hq]; decide)]
        exact this
theorem nbC_add {s1 s2 : Nat → pE} {n : Nat} (h1 : ∀ w, isv w (s1 w) = true → isv w (s w) = true) (h2 : ∀ w, isv w (s2 w) = true → isv w (s1 w) = true) : nbC s s2 n = nbC s s1 n + nbC s1 s2 n := by
  unfold nbC
  refine filter_add (fun w => ?_) (fun w => ?_) _
  · have a1 := h1 w
    have a2 := h2 w
    revert a1 a2
    generalize isv w (s w) = x
    generalize isv w (s1 w) = y
    generalize isv w (s2 w) = z
    revert x y z
    decide
  · generalize isv w (s w) = x
    generalize isv w (s1 w) = y
    generalize isv w (s2 w) = z
    revert x y z
    decide
theorem isv_B (h : Res B s) (w : Nat) : isv w (s w) = true ↔ B w = none := by
  rw [isv_iff, h.free]
theorem nbC_self {n : Nat} : nbC s s n = 0 := by
  unfold nbC
  rw [List.length_eq_zero_iff, List.filter_eq_nil_iff]
  intro w _
  cases isv w (s w) <;> simp
theorem fc_fil (B : bM) : ∀ n, fc B n = ((List.range n).filter (fun w => (B w).isNone)).length
  | 0 => rfl
  | n + 1 => by
    show fc B n + _ = _
    rw [fc_fil B n, List.range_succ, List.filter_append, List.length_append]
    congr 1
    by_cases h : (B n).isNone = true
    · rw [if_pos h, List.filter_cons_of_pos (p := fun w => (B w).isNone) h]; rfl
    · rw [if_neg h, List.filter_cons_of_neg (p := fun w => (B w).isNone) h]; rfl
theorem fc_T (hT : T.Nodup) (hB : ∀ w ∈ T, B w ≠ none) (h5 : ∀ w ∈ T, w < 2500) : T.length + fc B 2500 ≤ 2500 := by
  rw [fc_fil, ← List.length_append]
  have h1 : (T ++ (List.range 2500).filter (fun w => (B w).isNone)).Nodup := by
    rw [List.nodup_append]
    refine ⟨hT, List.Pairwise.filter _ List.nodup_range, fun x hx y hy e => ?_⟩
    rw [List.mem_filter] at hy
    rw [← e] at hy
    have := hB x hx
    cases h : B x with
    | none => exact this h
    | some t => rw [h] at hy; simp at hy
  have := ln_sub _ (List.range 2500) h1 (fun x hx => ?_)
  · rw [List.length_range] at this
    exact this
  · rcases List.mem_append.mp hx with hx | hx
    · exact List.mem_range.mpr (h5 x hx)
    · exact (List.mem_filter.mp hx).1
theorem fc_lo {k : Nat} (hB : ∀ w, k ≤ w → B w = none) : ∀ n, n ≤ fc B n + k
  | 0 => by omega
  | n + 1 => by
    have := fc_lo hB n
    show n + 1 ≤ fc B n + (if (B n).isNone = true then 1 else 0) + k
    by_cases h : k ≤ n
    · rw [hB n h]
      show n + 1 ≤ fc B n + 1 + k
      omega
    · omega
/-- the model's limit -/
theorem mLim_q (hC : mCc E ss m (qi A) T B (qh A)) (h9 : m 74 59 = (qh A).length) : mLim m = qlim E A := by
  unfold mLim qlim
  rw [h9]
  cases he : qh A with
  | nil => rfl
  | cons c r =>
    rw [he] at hC
    have e : (((c :: r).length : Nat) : Int) - 1 = (r.length : Int) := by simp only [List.length_cons]; omega
    rw [if_pos (by simp only [List.length_cons]; omega), e]
    exact hC.1.2.1
/-- behind a unification -/
theorem uO_dy {k q : Nat} {ni tr ce I : Nat} (hk : chK E (qi A) I (qh A) ni tr ce) (hD : mDy E ss m A B T) (hR : Res B s) (hR' : Res B' s') (hO : uO (mG E ss m (qi A)) m m' (fun w => w < tot E (qi A)) B B' k q T) : ∃ T', mDy E ss m' A B' T' ∧ T'.length = T.length + nbC s s' (qlim E A) ∧ mRw m m' ∧ (∀ w, isv w (s' w) = true → isv w (s w) = true) := by
  obtain ⟨d1, d2, d3, d4, d5, d6⟩ := hD
  obtain ⟨o1, o2, -, ⟨o3, o97⟩, -, -, nb, n1, n2, n3, n4⟩ := hO
  have hrw : mRw m m' := fun a e q1 q2 => o1 a e (by omega) (by omega) (by omega) (by omega) (by omega) (by omega) (by omega)
  have hl := mLim_q d5 d6
  rw [hl] at n2
  have hmo : ∀ w, isv w (s' w) = true → isv w (s w) = true := fun w hw => by
    rw [isv_B hR'] at hw
    rw [isv_B hR]
    cases h : B w with
    | none => rfl
    | some t =>
      rw [o3 w t h] at hw
      cases hw
  have hdis : ∀ w ∈ T, w ∉ nb := fun w hw q => d4 w hw ((n2 w).mp q).1
  refine ⟨T ++ nb, ⟨by rw [mG_rw hrw]; exact o2, n3, ?_, ?_, ?_, ?_⟩, ?_, hrw, hmo⟩
  · rw [List.nodup_append]
    exact ⟨d3, n1, fun x hx y hy e => hdis x hx (by rw [e]; exact hy)⟩
  · intro w hw
    rcases List.mem_append.mp hw with hw | hw
    · cases h : B w with
      | none => exact absurd h (d4 w hw)
      | some t => rw [o3 w t h]; simp
    · exact ((n2 w).mp hw).2.1
  · have hall := chK_all _ hk
    cases he : qh A with
    | nil => trivial
    | cons c0 r0 =>
      have hql : qlim E A = tot E ((qi A).take c0.2.2.2.1.1) := by unfold qlim; rw [he]
      rw [he] at d5 hk hall
      refine mCc_fr (N := ce) hrw (fun a j q1 q2 _ => o1 a j (by omega) (by omega) (by omega) (by omega) (by omega) (by omega) (by omega)) _ (fun a p q1 q2 _ => o1 a p (by omega) (by omega) (by omega) (by omega) (by omega) (by omega) (by omega)) (fun c hc => ?_) d5
      have hcT : c.2.2.2.1.2.1 ≤ T.length := by
        clear hall hk hql
        revert hc d5
        generalize c0 :: r0 = L
        intro d5 hc
        induction L with
        | nil => cases hc
        | cons x L ih =>
          rcases List.mem_cons.mp hc with rfl | hc
          · exact d5.2.1.1
          · exact ih d5.2.2.2.2.2.2 hc
      have hPl : tot E ((qi A).take c.2.2.2.1.1) ≤ qlim E A := by
        rw [hql]
        have : c.2.2.2.1.1 ≤ c0.2.2.2.1.1 := by
          rcases List.mem_cons.mp hc with rfl | h
          · exact Nat.le_refl _
          · exact (chK_all r0 hk.2.2.2.2.2.2 c h).1
        refine tot_pre ?_
        rw [← tak_tak (L := qi A) this]
        exact List.take_prefix _ _
      have hdr : (T ++ nb).drop c.2.2.2.1.2.1 = T.drop c.2.2.2.1.2.1 ++ nb := List.drop_append_of_le_length hcT
      refine ⟨(hall c hc).2.2, ⟨by rw [List.length_append]; omega, List.take_append_of_le_length hcT⟩, rfl, ?_, fun v hv => ?_⟩
      · funext v
        unfold bRs
        rw [hdr]
        by_cases c1 : v < tot E ((qi A).take c.2.2.2.1.1) ∧ v ∉ T.drop c.2.2.2.1.2.1
        · rw [if_pos c1]
          cases h : B v with
          | some t =>
            rw [if_pos ⟨c1.1, fun q => by
              rcases List.mem_append.mp q with q | q
              · exact c1.2 q
              · have := ((n2 v).mp q).1
                rw [h] at this
                cases this⟩]
            exact o3 v t h
          | none =>
            by_cases c2 : v ∈ nb
            · rw [if_neg (fun q => q.2 (List.mem_append.mpr (Or.inr c2)))]
            · split
              · cases h' : B' v with
                | none => rfl
                | some t => exact absurd ((n2 v).mpr ⟨h, by rw [h']; simp, by omega⟩) c2
              · rfl
        · rw [if_neg c1, if_neg (fun q => c1 ⟨q.1, fun z => q.2 (List.mem_append.mpr (Or.inl z))⟩)]
      · refine o97 v (Or.inl (fun q => hv ?_))
        unfold bRs
        split
        · exact q
        · rfl
  · rw [o1 _ _ (by decide) (by decide) (by decide) (by decide) (by decide) (by decide) (by decide)]
    exact d6
  · rw [List.length_append]
    congr 1
    unfold nbC
    refine nb_len n1 (fun w => ?_)
    rw [n2 w, Bool.and_eq_true, isv_B hR, Bool.not_eq_true']
    have : isv w (s' w) = false ↔ B' w ≠ none := by
      rw [ne_eq, ← isv_B hR', Bool.not_eq_true]
    rw [this]
    constructor
    · rintro ⟨a1, a2, a3⟩
      exact ⟨by omega, a1, a2⟩
    · rintro ⟨a1, a2, a3⟩
      exact ⟨a2, a3, by omega⟩
end MC
