/-! THE CLASS'S WORLD: its compounds are few -/
def cdc (WI : List cEn) : List Int := WI.flatMap (fun e => e.2.2.2.2.map (fun n => 128 * (e.1 : Int) + n))
def cdw (WI : List cEn) (w : cEn → Int → Nat) (x : Int) : Nat := match wXg WI (x / 128).toNat with
  | some e => w e (x % 128)
  | none => 0
section CX
variable {WI : List cEn} {c1 b4 cap N : Nat} {T : hy_T} {m m' : hy_m} {F : Nat → Prop} {e : cEn} {hd : Option pE} {gs : List pE}
theorem cdc_sum {w : cEn → Int → Nat} {K : Nat} (hN : (WI.map (fun e => e.1)).Nodup) : ∀ WI' : List cEn, (∀ e ∈ WI', e ∈ WI) → (∀ e ∈ WI', (∀ x ∈ e.2.2.2.2, 0 ≤ x ∧ x < 128) ∧ (e.2.2.2.2.map (w e)).sum ≤ K) → ((cdc WI').map (cdw WI w)).sum ≤ K * WI'.length
  | [], _, _ => Nat.zero_le _
  | e :: r, hs, h => by
    have h1 := cdc_sum hN r (fun e he => hs e (List.mem_cons_of_mem _ he)) (fun e he => h e (List.mem_cons_of_mem _ he))
    obtain ⟨h2, h3⟩ := h e (List.mem_cons_self ..)
    have hg := wXg_in hN (hs e (List.mem_cons_self ..))
    show ((e.2.2.2.2.map (fun n => 128 * (e.1 : Int) + n) ++ cdc r).map (cdw WI w)).sum ≤ _
    rw [List.map_append, List.sum_append, List.map_map]
    have eq : e.2.2.2.2.map (cdw WI w ∘ fun n => 128 * (e.1 : Int) + n) = e.2.2.2.2.map (w e) := by
      refine List.map_congr_left (fun x hx => ?_)
      have := h2 x hx
      show cdw WI w (128 * (e.1 : Int) + x) = w e x
      unfold cdw
      rw [show (128 * (e.1 : Int) + x) / 128 = (e.1 : Int) by omega, show (128 * (e.1 : Int) + x) % 128 = x by omega, Int.toNat_natCast, hg]
    rw [eq, List.length_cons, Nat.mul_succ]
    omega
theorem wOl_len (hA : wOl T m F c1 cap WI) : WI.length ≤ cap := by
  have := ln_sub (WI.map (fun e => e.1)) (List.range cap) hA.1 (fun x hx => by
    obtain ⟨e, he, rfl⟩ := List.mem_map.mp hx
    obtain ⟨hd, gs, h⟩ := hA.2 e he
    exact List.mem_range.mpr h.2.2.2.2.2.2)
  rw [List.length_map, List.length_range] at this
  exact this
theorem wOl_nodes (hA : wOl T m F c1 cap WI) (he : e ∈ WI) : (∀ x ∈ e.2.2.2.2, 0 ≤ x ∧ x < 128) ∧ (e.2.2.2.2.map (gAr (m e.2.1.2.2.1) (m e.2.1.2.2.2.1))).sum ≤ 59 ∧ (e.2.2.2.2.map (gCo (m e.2.1.2.2.1))).sum ≤ 59 ∧ (e.2.2.2.2.map (gOp (m e.2.1.2.2.1) (m e.2.1.2.2.2.1))).sum ≤ 30 := by
  obtain ⟨hd, gs, b1, ⟨k4, b2, b3⟩, b5, b6, b7, b8, b9⟩ := hA.2 e he
  have hc := kNd_all b2 b6 b7
  rw [← b3] at hc
  have hc127 := b2.1.2.2.2.2.2.2.2
  exact ⟨fun x hx => by have := (hc.1 x hx).1; omega, hc.2.2.2.1, hc.2.2.2.2.1, hc.2.2.2.2.2⟩
/-- a compound's code, and its node's weights -/
theorem wX_cmp (hA : wOl T m F c1 cap WI) {x : Int} {k : Int} {a : pE} (h : cTm (wX WI c1 b4 cap N) m x (.mulL k a)) : ∃ e ∈ WI, ∃ n : Nat, x = 128 * (e.1 : Int) + (n : Int) ∧ n < 128 ∧ (n : Int) ∈ e.2.2.2.2 ∧ m e.2.1.2.2.1 (n : Int) = (if eN a = 0 then 3 else 4) ∧ m e.2.1.2.2.2.1 (n : Int) = kC k (eN a) ∧ eN a ≤ 3 ∧ nmOK k := by
  rcases (wTm hA).mp h with ⟨j, -, -, q, -⟩ | ⟨e, n, u, he, rfl, ⟨h1, h2⟩, h3, h4, q⟩
  · cases q
  · cases u with
    | mulL k' b =>
      have q : (.mulL k a : pE) = .mulL k' (sb (fun v => .var (e.2.2.2.1 + v)) b) := q
      injection q with q1 q2
      subst q1
      subst q2
      rw [eN_sb _ b _ h4.2.2.2.2.2]
      have h8 := h3.2.2.1
      refine ⟨e, he, n, rfl, h1, ?_, h3.2.2.2.2.1, h3.2.2.2.1, h3.2.2.2.2.2.1, h3.2.2.2.2.2.2.1⟩
      rcases h2 with h2 | h2
      · omega
      · exact h2
    | var v => cases q
    | num i => cases q
    | add a r => exact absurd h4.1 (by decide)
    | sub a r => exact h4.elim
    | neg a => exact h4.elim
    | mulR a k => exact h4.elim
theorem cdc_in (he : e ∈ WI) {n : Nat} (hn : (n : Int) ∈ e.2.2.2.2) : 128 * (e.1 : Int) + (n : Int) ∈ cdc WI := List.mem_flatMap.mpr ⟨e, he, List.mem_map.mpr ⟨(n : Int), hn, rfl⟩⟩
theorem cdw_at (hA : wOl T m F c1 cap WI) (he : e ∈ WI) {w : cEn → Int → Nat} {n : Nat} (hn : n < 128) : cdw WI w (128 * (e.1 : Int) + (n : Int)) = w e (n : Int) := by
  unfold cdw
  rw [show (128 * (e.1 : Int) + (n : Int)) / 128 = (e.1 : Int) by omega, show (128 * (e.1 : Int) + (n : Int)) % 128 = (n : Int) by omega, Int.toNat_natCast, wXg_in hA.1 he]
theorem wX_Cn (hA : wOl T m F c1 cap WI) : cCn (wX WI c1 b4 cap N) m := by
  intro L hL h
  have key : ∀ x ∈ L, x ∈ cdc WI ∧ cdw WI (fun e => gCo (m e.2.1.2.2.1)) x = 1 := by
    intro x hx
    obtain ⟨k, a, h1, h2⟩ := h x hx
    obtain ⟨e, he, n, rfl, q1, q2, q3, -⟩ := wX_cmp hA h1
    refine ⟨cdc_in he q2, ?_⟩
    rw [cdw_at hA he q1]
    unfold gCo
    rw [q3, if_neg h2, if_pos rfl]
  have h3 := sm_sub (cdw WI (fun e => gCo (m e.2.1.2.2.1))) L (cdc WI) hL (fun x hx => (key x hx).1)
  have h4 := cdc_sum (w := fun e => gCo (m e.2.1.2.2.1)) (K := 59) hA.1 WI (fun e he => he) (fun e he => ⟨(wOl_nodes hA he).1, (wOl_nodes hA he).2.2.1⟩)
  have h5 : L.map (cdw WI (fun e => gCo (m e.2.1.2.2.1))) = L.map (fun _ => 1) := List.map_congr_left (fun x hx => (key x hx).2)
  rw [h5, sm_one] at h3
  have h6 := wOl_len hA
  show L.length ≤ 59 * cap
  have : 59 * WI.length ≤ 59 * cap := Nat.mul_le_mul_left _ h6
  omega
theorem wX_GW (hA : wOl T m F c1 cap WI) : cGW (wX WI c1 b4 cap N) m := by
  intro ps hL h
  have key : ∀ q ∈ ps, q.1 ∈ cdc WI ∧ cdw WI (fun e => gAr (m e.2.1.2.2.1) (m e.2.1.2.2.2.1)) q.1 = eNa q.2.1 - 1 := by
    intro q hq
    obtain ⟨h1, h2⟩ := h q hq
    obtain ⟨x, t, l⟩ := q
    have h1 : cTm (wX WI c1 b4 cap N) m x t := h1
    have h2 : 1 ≤ eNa t := h2
    show x ∈ cdc WI ∧ cdw WI _ x = eNa t - 1
    cases t with
    | mulL k a =>
      have h2 : 1 ≤ eN a := h2
      obtain ⟨e, he, n, rfl, q1, q2, q3, q4, q5, -⟩ := wX_cmp hA h1
      refine ⟨cdc_in he q2, ?_⟩
      rw [cdw_at hA he q1]
      unfold gAr
      have q3' : m e.2.1.2.2.1 (n : Int) = 4 := q3.trans (if_neg (fun z => by omega))
      rw [if_pos q3', q4, kC_m4 q5]
      show ((eN a : Nat) : Int).toNat - 1 = eN a - 1
      rw [Int.toNat_natCast]
    | _ => exact absurd h2 (by show ¬ (1 ≤ 0); decide)
  have h3 := sm_sub (cdw WI (fun e => gAr (m e.2.1.2.2.1) (m e.2.1.2.2.2.1))) (ps.map Prod.fst) (cdc WI) hL (fun x hx => by
    obtain ⟨q, hq, rfl⟩ := List.mem_map.mp hx
    exact (key q hq).1)
  have h4 := cdc_sum (w := fun e => gAr (m e.2.1.2.2.1) (m e.2.1.2.2.2.1)) (K := 59) hA.1 WI (fun e he => he) (fun e he => ⟨(wOl_nodes hA he).1, (wOl_nodes hA he).2.1⟩)
  rw [List.map_map] at h3
  have h5 : ps.map (cdw WI (fun e => gAr (m e.2.1.2.2.1) (m e.2.1.2.2.2.1)) ∘ Prod.fst) = ps.map (fun p => eNa p.2.1 - 1) := List.map_congr_left (fun q hq => (key q hq).2)
  rw [h5] at h3
  have h6 := wOl_len hA
  show (ps.map (fun p => eNa p.2.1 - 1)).sum ≤ 59 * cap
  have : 59 * WI.length ≤ 59 * cap := Nat.mul_le_mul_left _ h6
  omega
theorem wX_AW (hA : wOl T m F c1 cap WI) : cAW (wX WI c1 b4 cap N) m := by
  intro L hL h
  have key : ∀ x ∈ L, x ∈ cdc WI ∧ cdw WI (fun e => gOp (m e.2.1.2.2.1) (m e.2.1.2.2.2.1)) x = 1 := by
    intro x hx
    obtain ⟨k, a, h1, h2⟩ := h x hx
    obtain ⟨o1, o2⟩ := oI_ari h2
    obtain ⟨e, he, n, rfl, q1, q2, q3, q4, q5, q6⟩ := wX_cmp hA h1
    refine ⟨cdc_in he q2, ?_⟩
    rw [cdw_at hA he q1]
    unfold gOp
    rw [if_pos]
    refine ⟨by rw [q3, if_neg (by omega)], k, q6, o1, by rw [q4, o2]⟩
  have h3 := sm_sub (cdw WI (fun e => gOp (m e.2.1.2.2.1) (m e.2.1.2.2.2.1))) L (cdc WI) hL (fun x hx => (key x hx).1)
  have h4 := cdc_sum (w := fun e => gOp (m e.2.1.2.2.1) (m e.2.1.2.2.2.1)) (K := 30) hA.1 WI (fun e he => he) (fun e he => ⟨(wOl_nodes hA he).1, (wOl_nodes hA he).2.2.2⟩)
  have h5 : L.map (cdw WI (fun e => gOp (m e.2.1.2.2.1) (m e.2.1.2.2.2.1))) = L.map (fun _ => 1) := List.map_congr_left (fun x hx => (key x hx).2)
  rw [h5, sm_one] at h3
  have h6 := wOl_len hA
  show L.length ≤ 30 * cap
  have : 30 * WI.length ≤ 30 * cap := Nat.mul_le_mul_left _ h6
  omega
/-- frames: what an instance shows lies in cells that never change -/
theorem wOn_fr {T' : hy_T} (h : wOn T m F c1 cap hd gs e) (hT : ∀ b x, T.1 b = some x → T'.1 b = some x) (hF : ∀ b z, F b → m' b z = m b z) (h1 : m' c1 (e.1 : Int) = m c1 (e.1 : Int)) : wOn T' m' F c1 cap hd gs e := by
  obtain ⟨b1, ⟨k4, ⟨⟨d1, d2, d3, d4, d5, d6, d7, d8⟩, b2, b3, b4', b5, b6, b7, ⟨f1, f2, f3, f4, f5, k8, g1, g2, g3, g4⟩⟩, bn⟩, b8⟩ := h
  refine ⟨by rw [h1]; exact b1, ⟨k4, ⟨⟨hT _ _ d1, by rw [hF _ _ f1]; exact d2, hT _ _ d3, by rw [hF _ _ f1]; exact d4, hT _ _ d5, by rw [hF _ _ f1]; exact d6, hT _ _ d7, d8⟩, b2, by rw [hF _ _ f1]; exact b3, hT _ _ b4', fun i q1 q2 => by rw [hF _ _ f2]; exact b5 i q1 q2, fun t ht => ?_, fun i hi => ?_, f1, f2, f3, f4, f5, k8, by rw [hF _ _ f1]; exact g1, hT _ _ g2, g3, fun i hi => by rw [hF _ _ g3]; exact g4 i hi⟩, ?_⟩, ?_⟩
  · rw [hF _ _ f1]
    show cP _ _ _ _ _ _ _
    rw [show m' e.2.1.2.2.1 = m e.2.1.2.2.1 from funext fun z => hF _ z f2, show m' e.2.1.2.2.2.1 = m e.2.1.2.2.2.1 from funext fun z => hF _ z f3, show m' e.2.1.2.2.2.2 = m e.2.1.2.2.2.2 from funext fun z => hF _ z f4]
    exact b6 t ht
  · rw [hF _ _ f5]
    show cP _ _ _ _ _ _ _
    rw [show m' e.2.1.2.2.1 = m e.2.1.2.2.1 from funext fun z => hF _ z f2, show m' e.2.1.2.2.2.1 = m e.2.1.2.2.2.1 from funext fun z => hF _ z f3, show m' e.2.1.2.2.2.2 = m e.2.1.2.2.2.2 from funext fun z => hF _ z f4]
    exact b7 i hi
  · rw [bn, hF _ _ f1, show m' e.2.1.2.2.2.2 = m e.2.1.2.2.2.2 from funext fun z => hF _ z f4, show m' k4 = m k4 from funext fun z => hF _ z f5]
  · rw [hF _ _ f1]
    exact b8
theorem wOl_fr {T' : hy_T} (h : wOl T m F c1 cap WI) (hT : ∀ b x, T.1 b = some x → T'.1 b = some x) (hF : ∀ b z, F b → m' b z = m b z) (h1 : ∀ e ∈ WI, m' c1 (e.1 : Int) = m c1 (e.1 : Int)) : wOl T' m' F c1 cap WI := ⟨h.1, fun e he => by
  obtain ⟨hd, gs, h2⟩ := h.2 e he
  exact ⟨hd, gs, wOn_fr h2 hT hF (h1 e he)⟩⟩
/-- other rows, as many or more instances -/
theorem wOl_cap {c1' cap' : Nat} (h : wOl T m F c1 cap WI) (hc : cap ≤ cap') (h1 : ∀ e ∈ WI, m c1' (e.1 : Int) = m c1 (e.1 : Int)) : wOl T m F c1' cap' WI := ⟨h.1, fun e he => by
  obtain ⟨hd, gs, b1, b2, b3, b4, b5, b6, b7⟩ := h.2 e he
  exact ⟨hd, gs, by rw [h1 e he]; exact b1, b2, b3, b4, b5, b6, by omega⟩⟩
/-- terms stay where more instances live -/
theorem wTm_mo {WI' : List cEn} {c1' b4' cap' N' : Nat} {T' : hy_T} {x : Int} {t : pE} (hA : wOl T m F c1 cap WI) (hA' : wOl T' m' F c1' cap' WI') (hs : ∀ e ∈ WI, e ∈ WI') (hN : N ≤ N') (hF : ∀ b z, F b → m' b z = m b z) (h46 : ∀ j : Nat, j < N → m' 46 (j : Int) = m 46 (j : Int)) (h : cTm (wX WI c1 b4 cap N) m x t) : cTm (wX WI' c1' b4' cap' N') m' x t := by
  rcases (wTm hA).mp h with ⟨j, q1, q2, q3, q4⟩ | ⟨e, n, u, he, h2, h3, h4, h5, h6⟩
  · refine Or.inl ⟨j, ⟨q1.1, Nat.lt_of_lt_of_le q1.2 hN⟩, q2, ?_, ?_⟩
    · rw [h46 j q1.2]; exact q3
    · rw [h46 j q1.2]; exact q4
  · refine (wTm hA').mpr (Or.inr ⟨e, n, u, hs e he, h2, h3, ?_, h5, h6⟩)
    obtain ⟨hd, gs, b1, ⟨k4, b2, b3⟩, b5⟩ := hA.2 e he
    obtain ⟨f1, f2, f3, f4, f5⟩ := b2.2.2.2.2.2.2.2
    show cP _ _ _ _ _ _ _
    rw [show m' e.2.1.2.2.1 = m e.2.1.2.2.1 from funext fun z => hF _ z f2, show m' e.2.1.2.2.2.1 = m e.2.1.2.2.2.1 from funext fun z => hF _ z f3, show m' e.2.1.2.2.2.2 = m e.2.1.2.2.2.2 from funext fun z => hF _ z f4]
    exact h4
/-- the variables -/
theorem wDm (hA : wOl T m F c1 cap WI) (v : Nat) : cDm (wX WI c1 b4 cap N) v ↔ ∃ e ∈ WI, e.2.2.2.1 ≤ v ∧ v < e.2.2.2.1 + e.2.2.1 := by
  constructor
  · rintro ⟨i, n, ⟨e, he, rfl⟩, h2, h3⟩
    obtain ⟨-, -, -, -, -, a6, a7, -⟩ := wX_at (c1 := c1) (b4 := b4) (cap := cap) (N := N) hA.1 he
    rw [a6] at h2
    rw [a7] at h3
    exact ⟨e, he, by omega, by omega⟩
  · rintro ⟨e, he, h1, h2⟩
    obtain ⟨-, -, -, -, -, a6, a7, -⟩ := wX_at (c1 := c1) (b4 := b4) (cap := cap) (N := N) hA.1 he
    exact ⟨e.1, v - e.2.2.2.1, ⟨e, he, rfl⟩, by rw [a6]; omega, by rw [a7]; omega⟩
end CX
