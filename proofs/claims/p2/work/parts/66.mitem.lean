section MZ
variable {m m' : hy_m} {tx : List Int} {sl c : Nat} {vs : List Int} {stk : List pF} {css : List (List Int)} {K : List (pE × Int)} {p p' : Nat} {Q : Int → hy_m → Prop} {qy : Bool} {hd : Option pE} {gs : List pE}
/-- the state behind one more cell -/
theorem mS_item {l : List pE} {cs : List Int} {t : pE} {r cell : Int} {M : hy_m} (hcell : cell = 128 * (sl : Int) + c) (h : mS m tx sl c vs ((1, 2, l) :: stk) (cs :: css) ((t, r) :: K) p) (g80 : M 80 (sl : Int) = (c : Int) + 1) (gc6 : M 76 cell = 4) (gc7 : M 77 cell = 2) (gc8 : M 78 cell = 1) (gc9 : M 79 (3 * cell) = r) (g90 : M 90 (stk.length : Int) = cell) (g89 : M 89 (stk.length : Int) = if cs = [] then cell else m 89 (stk.length : Int)) (gx : ∀ x, cs.getLast? = some x → M 78 x = 2 ∧ M 79 (3 * x + 1) = cell ∧ M 76 x = 4) (gf : ∀ (a : Nat) (e : Int), ¬ (a = 80 ∧ e = sl) → ¬ ((a = 76 ∨ a = 77 ∨ a = 78) ∧ e = cell) → ¬ (a = 79 ∧ e = 3 * cell) → (∀ x, cs.getLast? = some x → ¬ (a = 79 ∧ e = 3 * x + 1) ∧ ¬ ((a = 78 ∨ a = 76) ∧ e = x)) → ¬ ((a = 89 ∨ a = 90) ∧ e = stk.length) → M a e = m a e) : mS M tx sl (c + 1) vs ((1, 2, l ++ [t]) :: stk) ((cs ++ [cell]) :: css) K p := by
  obtain ⟨b1, b2, b3, b4, b5, b6, b7, b8, b9⟩ := mS_list (Or.inl rfl) h
  have h5 := h.2.2.2.2.1
  have hK := h.2.2.2.2.2.2
  have hrest := h.2.2.2.2.2.1.2
  have h4 := h.2.2.2.1
  have hlow := mS_low (m' := M) h (fun a e q1 q2 q3 q4 q5 q6 q7 q8 q9 => gf a e (by omega) (by omega) (by omega) (fun x _ => ⟨by omega, by omega⟩) (by omega))
  have hAB : ∀ n, nA sl c (cs :: css).flatten n → nA sl (c + 1) ((cs ++ [cell]) :: css).flatten n := by
    intro n hn
    refine ⟨hn.1, by have := hn.2.1; omega, fun q => hn.2.2 ?_⟩
    rw [List.flatten_cons] at q ⊢
    rcases List.mem_append.mp q with q | q
    · rcases List.mem_append.mp q with q | q
      · exact List.mem_append_left _ q
      · have : n = cell := by simpa using q
        have := hn.2.1
        omega
    · exact List.mem_append_right _ q
  have hE : rEq m M (nA sl c (cs :: css).flatten) := by
    intro n hn
    have hlt := hn.2.1
    have hne : ∀ x, cs.getLast? = some x → n ≠ x := fun x hx q => hn.2.2 (by rw [List.flatten_cons, q]; exact List.mem_append_left _ (mem_last hx))
    refine ⟨gf _ _ (by omega) (by omega) (by omega) (fun x hx => ⟨by omega, ?_⟩) (by omega), gf _ _ (by omega) (by omega) (by omega) (fun x hx => ⟨by omega, by omega⟩) (by omega), gf _ _ (by omega) (by omega) (by omega) (fun x hx => ⟨by omega, ?_⟩) (by omega), fun j _ _ => gf _ _ (by omega) (by omega) (by omega) (fun x hx => ⟨?_, by omega⟩) (by omega)⟩
    · have := hne x hx; omega
    · have := hne x hx; omega
    · have := hne x hx; omega
  have hEO : rEq m M (fun n => n ∈ css.flatten) := by
    intro n hn
    have hlt := (h5.2 n (by rw [List.flatten_cons]; exact List.mem_append_right _ hn)).2
    have hne : ∀ x, cs.getLast? = some x → n ≠ x := fun x hx q => b8 x (mem_last hx) (by rw [← q]; exact hn)
    refine ⟨gf _ _ (by omega) (by omega) (by omega) (fun x hx => ⟨by omega, ?_⟩) (by omega), gf _ _ (by omega) (by omega) (by omega) (fun x hx => ⟨by omega, by omega⟩) (by omega), gf _ _ (by omega) (by omega) (by omega) (fun x hx => ⟨by omega, ?_⟩) (by omega), fun j _ _ => gf _ _ (by omega) (by omega) (by omega) (fun x hx => ⟨?_, by omega⟩) (by omega)⟩
    · have := hne x hx; omega
    · have := hne x hx; omega
    · have := hne x hx; omega
  have hrow : ∀ i : Nat, i < stk.length → M 88 (i : Int) = m 88 (i : Int) ∧ M 89 (i : Int) = m 89 (i : Int) ∧ M 90 (i : Int) = m 90 (i : Int) := fun i hi => ⟨gf _ _ (by omega) (by omega) (by omega) (fun x hx => ⟨by omega, by omega⟩) (by omega), gf _ _ (by omega) (by omega) (by omega) (fun x hx => ⟨by omega, by omega⟩) (by omega), gf _ _ (by omega) (by omega) (by omega) (fun x hx => ⟨by omega, by omega⟩) (by omega)⟩
  refine ⟨hlow.1, hlow.2.1, hlow.2.2.1, ⟨hlow.2.2.2.1, hlow.2.2.2.2, h4.2.2.1, by rw [g80]; omega, ?_⟩, ⟨?_, ?_⟩, ⟨Or.inr ⟨Or.inl rfl, ?_, rfl, ?_, (fun q => by simp at q), fun y hy => ?_, fun y hy => ?_⟩, sR_eq hAB hE stk css hEO hrow hrest⟩, fun q hq => rP_mono hAB _ _ _ (rP_eq hE _ (-1) _ (fun z => by omega) (hK q (List.mem_cons_of_mem _ hq)))⟩
  · rw [gf _ _ (by omega) (by omega) (by omega) (fun x hx => ⟨by omega, by omega⟩) (by omega), h4.2.2.2.2]
    simp
  · rw [List.flatten_cons, List.nodup_append]
    refine ⟨?_, b7, fun a ha b hb e => ?_⟩
    · rw [List.nodup_append]
      refine ⟨b6, by simp, fun a ha b hb e => ?_⟩
      have : b = cell := by simpa using hb
      have := (b9 a ha).2
      omega
    · rcases List.mem_append.mp ha with ha | ha
      · exact b8 a ha (by rw [e]; exact hb)
      · have : a = cell := by simpa using ha
        have := (h5.2 b (by rw [List.flatten_cons]; exact List.mem_append_right _ hb)).2
        omega
  · intro n hn
    rw [List.flatten_cons] at hn
    rcases List.mem_append.mp hn with hn | hn
    · rcases List.mem_append.mp hn with hn | hn
      · have := b9 n hn; omega
      · have : n = cell := by simpa using hn
        omega
    · have := h5.2 n (by rw [List.flatten_cons]; exact List.mem_append_right _ hn)
      omega
  · rw [gf _ _ (by omega) (by omega) (by omega) (fun x hx => ⟨by omega, by omega⟩) (by omega)]
    exact b2
  · refine rI_snoc hAB hE l cs b1 (fun y hy => ?_) (fun i hi => ?_) (fun y hy => ⟨(gx y hy).1, (gx y hy).2.1⟩) gc6 gc7 gc8 ?_
    · have hyr := b9 y hy
      refine ⟨?_, gf _ _ (by omega) (by omega) (by omega) (fun x hx => ⟨by omega, by omega⟩) (by omega), gf _ _ (by omega) (by omega) (by omega) (fun x hx => ⟨by omega, by omega⟩) (by omega)⟩
      by_cases e : cs.getLast? = some y
      · rw [(gx y e).2.2, rI_k l cs b1 y hy]
      · refine gf _ _ (by omega) (by omega) (by omega) (fun x hx => ⟨by omega, fun q => ?_⟩) (by omega)
        rw [q.2] at e
        exact e hx
    · have hyr := b9 cs[i] (List.getElem_mem (by omega))
      refine ⟨gf _ _ (by omega) (by omega) (by omega) (fun x hx => ⟨by omega, fun q => nodup_last b6 hx i hi q.2⟩) (by omega), gf _ _ (by omega) (by omega) (by omega) (fun x hx => ⟨fun q => nodup_last b6 hx i hi (by omega), by omega⟩) (by omega)⟩
    · rw [gc9]
      exact rP_mono hAB _ _ _ (rP_eq hE _ (-1) _ (fun z => by omega) (hK (t, r) (List.mem_cons_self ..)))
  · rw [g89]
    by_cases e : cs = []
    · rw [if_pos e]
      rw [e] at hy
      simpa using hy
    · rw [if_neg e]
      refine b4 y ?_
      obtain ⟨a, r', rfl⟩ := List.exists_cons_of_ne_nil e
      exact hy
  · rw [g90]
    simpa using hy
theorem mS_bar {l : List pE} {cs : List Int} (hl : l ≠ []) (h : mS m tx sl c vs ((1, 2, l) :: stk) (cs :: css) K p) : mS (hy_u m 88 (stk.length : Int) 2) tx sl c vs ((2, 2, l) :: stk) (cs :: css) K p := by
  obtain ⟨b1, b2, b3, b4, b5, b6, b7, b8, b9⟩ := mS_list (Or.inl rfl) h
  have hf : ∀ (a : Nat) (e : Int), ¬ (a = 88 ∧ e = stk.length) → hy_u m 88 (stk.length : Int) 2 a e = m a e := fun a e q => if_neg q
  have hE : ∀ A : Int → Prop, rEq m (hy_u m 88 (stk.length : Int) 2) A := fun A n _ => ⟨hf _ _ (by omega), hf _ _ (by omega), hf _ _ (by omega), fun j _ _ => hf _ _ (by omega)⟩
  have hlow := mS_low (m' := hy_u m 88 (stk.length : Int) 2) h (fun a e q1 q2 q3 q4 q5 q6 q7 q8 q9 => hf _ _ (by omega))
  have h4 := h.2.2.2.1
  have hK := h.2.2.2.2.2.2
  have hrest := h.2.2.2.2.2.1.2
  refine ⟨hlow.1, hlow.2.1, hlow.2.2.1, ⟨hlow.2.2.2.1, hlow.2.2.2.2, h4.2.2.1, by rw [hf _ _ (by omega)]; exact h4.2.2.2.1, by rw [hf _ _ (by omega)]; exact h4.2.2.2.2⟩, h.2.2.2.2.1, ⟨Or.inr ⟨Or.inr ⟨rfl, hl⟩, hy_us _ _ _ _, rfl, rI_eq (fun n hn => hn) (hE _) _ _ (hE _) b1, fun q => by rw [hf _ _ (by omega)]; exact b3 q, fun y hy => by rw [hf _ _ (by omega)]; exact b4 y hy, fun y hy => by rw [hf _ _ (by omega)]; exact b5 y hy⟩, sR_eq (fun n hn => hn) (hE _) stk css (hE _) (fun i hi => ⟨hf _ _ (by omega), hf _ _ (by omega), hf _ _ (by omega)⟩) hrest⟩, fun q hq => rP_eq (hE _) _ (-1) _ (fun z => by omega) (hK q hq)⟩
/-- an item of a list -/
theorem sp_190 {l : List pE} {cs : List Int} {t : pE} {r : Int} {nm : Bool} (h : mS m tx sl c vs ((1, 2, l) :: stk) (cs :: css) ((t, r) :: K) p) (hU : mU m sl c ((t, r) :: K) ((1, 2, l) :: stk)) (hnm : nm = true → pk1 tx p ≠ 6) (hcr : c + fCn ((1, 2, l) :: stk) ≤ p) (hdp : stk.length + 1 ≤ p) (hq : ∀ r' m', tO m m' tx qy sl (3, vs, hd, gs, t, nm, (1, 2, l) :: stk, p) hd gs K p r' → Q r' m') : wq_190 r m Q := by
  have hT := h.1
  have hC := h.2.1
  have hpl : p ≤ 120 := Nat.le_trans hC.1 hT.2.1
  have hcr0 : c + (1 + fCn stk) ≤ p := by
    have : c + ((if (1 : Nat) = 1 then 1 else 0) + fCn stk) ≤ p := hcr
    rw [if_pos rfl] at this
    exact this
  have hrA := rP_A (h.2.2.2.2.2.2 (t, r) (List.mem_cons_self ..))
  have h4 := h.2.2.2.1
  have hsl := h4.2.2.1
  obtain ⟨b1, b2, b3, b4, b5, b6, b7, b8, b9⟩ := mS_list (Or.inl rfl) h
  have h25 : m 74 25 = (stk.length : Int) + 1 := by
    have := h.2.2.2.1.2.2.2.2
    simpa using this
  have hd1 : m 74 25 - 1 = (stk.length : Int) := by omega
  have hst : pSt tx qy (3, vs, hd, gs, t, nm, (1, 2, l) :: stk, p) = (if pk1 tx p = 5 then .inl (1, vs, hd, gs, eNil, false, (1, 2, l ++ [t]) :: stk, pnx tx p)
          else if pk1 tx p = 10 then .inl (1, vs, hd, gs, eNil, false, (2, 2, l ++ [t]) :: stk, pnx tx p)
          else if pk1 tx p = 9 then .inl (3, vs, hd, gs, eI eNil (l ++ [t]), false, stk, pnx tx p)
          else .inr (.inl p)) := by
    unfold pSt
    dsimp only
    rw [if_neg (by decide), if_neg (by decide), if_neg (by decide), if_neg (fun q => hnm q.1 q.2), if_neg (by decide), if_pos rfl]
  generalize hcell : 128 * (sl : Int) + (c : Int) = cell
  have hcr1 : 0 ≤ cell ∧ cell < 3584 := by omega
  have hr1 := mNd_r m sl c 4 2
  have hv1 := mNd_v m sl c 4 2
  rw [hcell] at hr1 hv1
  have hr2 := mGv_r (mNd m sl c 4 2) cell 0 r
  have hv2 := mGv_v (mNd m sl c 4 2) cell 0 r
  rw [show 3 * cell + ((0 : Nat) : Int) = 3 * cell by omega] at hr2 hv2
  have hU2 : mU (mGv (mNd m sl c 4 2) cell 0 r) sl (c + 1) ((t, r) :: K) ((1, 2, l) :: stk) := mU_gv (a := 0) (mU_nd0 (k := 4) 2 hU (by decide)) (by rw [hv1.1]; decide) ⟨by have := hrA.1; omega, by have := hrA.2.1; omega⟩
  have hF2 : pFr m (mGv (mNd m sl c 4 2) cell 0 r) sl := by
    intro a e q1 q2 q3 q4 q5 q6 q7 q8
    rw [hr2 a e (by omega) (by omega), hr1 a e (by omega) (by omega)]
  -- behind the cell
  have fin : ∀ M3 : hy_m, mS (hy_u M3 90 (stk.length : Int) cell) tx sl (c + 1) vs ((1, 2, l ++ [t]) :: stk) ((cs ++ [cell]) :: css) K p → mU M3 sl (c + 1) ((t, r) :: K) ((1, 2, l) :: stk) → pFr m M3 sl → M3 74 15 = pk1 tx p → wq_190_54 (stk.length : Int) cell M3 Q := by
    intro M3 hS hU3 hF3 h15
    generalize hM : hy_u M3 90 (stk.length : Int) cell = M4 at hS
    have hF4 : pFr m M4 sl := by
      rw [← hM]
      exact hF3.trans (fun a e q1 q2 q3 q4 q5 q6 q7 q8 => if_neg (fun z => q8 z.1))
    have hU4 : mU M4 sl (c + 1) K ((1, 2, l ++ [t]) :: stk) := by
      have g := mU_fr hU3 (m' := M4) (fun a e q => by rw [← hM]; exact if_neg (by omega))
      refine ⟨fun v => (g.1 v).trans ?_, g.2⟩
      show oE t v + oK K v + (oL l v + oF stk v) = oK K v + (oL (l ++ [t]) v + oF stk v)
      rw [oL_app]
      show _ = oK K v + (oL l v + (oE t v + 0) + oF stk v)
      omega
    have h15b : M4 74 15 = pk1 tx p := hS.2.1.2.2.1
    have hd2 : stk.length + 1 < 130 := by omega
    have com : pk1 tx p = 5 ∨ pk1 tx p = 10 → wq_190_78 (stk.length : Int) M4 Q := by
      intro hk
      have hp1 := pk_pos hC.1 (show pk1 tx p ≠ 0 by omega)
      unfold wq_190_78
      rw [h15b]
      refine ⟨fun n10 => ⟨by omega, by omega, ?_⟩, fun h10 => ⟨by omega, by omega, ?_⟩⟩
      · have e88 : M4 88 (stk.length : Int) = 1 := (mS_list (Or.inl rfl) hS).2.1
        rw [hy_ui e88]
        refine sp_next hS.1 hS.2.1 (fun m5 k1 k2 k3 => ?_)
        obtain ⟨hS5, hF5⟩ := mS_next hS k1 k2 k3
        refine hq _ _ ⟨hF4.trans hF5, Or.inr (Or.inl ⟨c + 1, vs, (1, 2, l ++ [t]) :: stk, _, pnx tx p, rfl, hS5, mU_fr hU4 (fun a e q => k3 a e (by omega)), by simp, fun R => pRun_s tx qy (by rw [hst, if_pos (by omega)]) R, ?_, ?_, hp1⟩)⟩
        · show c + 1 + ((if (1 : Nat) = 1 then 1 else 0) + fCn stk) ≤ _
          rw [if_pos rfl]
          omega
        · simp only [List.length_cons]
          omega
      · have hS5 := mS_bar (by simp) hS
        have hU5 : mU (hy_u M4 88 (stk.length : Int) 2) sl (c + 1) K ((2, 2, l ++ [t]) :: stk) := mU_fr (show mU M4 sl (c + 1) K ((2, 2, l ++ [t]) :: stk) from hU4) (fun a e q => if_neg (by omega))
        refine sp_next hS5.1 hS5.2.1 (fun m5 k1 k2 k3 => ?_)
        obtain ⟨hS6, hF6⟩ := mS_next hS5 k1 k2 k3
        have hF5 : pFr M4 (hy_u M4 88 (stk.length : Int) 2) sl := fun a e q1 q2 q3 q4 q5 q6 q7 q8 => if_neg (fun z => q6 z.1)
        refine hq _ _ ⟨(hF4.trans hF5).trans hF6, Or.inr (Or.inl ⟨c + 1, vs, (2, 2, l ++ [t]) :: stk, _, pnx tx p, rfl, hS6, mU_fr hU5 (fun a e q => k3 a e (by omega)), by simp, fun R => pRun_s tx qy (by rw [hst, if_neg (by omega), if_pos h10]) R, ?_, ?_, hp1⟩)⟩
        · show c + 1 + ((if (2 : Nat) = 1 then 1 else 0) + fCn stk) ≤ _
          rw [if_neg (by decide)]
          omega
        · simp only [List.length_cons]
          omega
    unfold wq_190_54
    rw [hM, h15]
    refine ⟨by omega, by omega, fun h5 => com (Or.inl h5), fun n5 => ⟨fun n10 => ⟨fun h9 => ?_, fun n9 => ?_⟩, fun h10 => com (Or.inr h10)⟩⟩
    · have hp1 := pk_pos hC.1 (show pk1 tx p ≠ 0 by omega)
      have h4b := hS.2.2.2.1
      obtain ⟨hS5, hF5, hA5⟩ := mS_node 3 1 hS (by omega)
      have hr5 := mNd_r M4 sl (c + 1) 3 1
      have hv5 := mNd_v M4 sl (c + 1) 3 1
      have hb5 := mS_list (Or.inl rfl) hS
      have hlast : (cs ++ [cell]).getLast? = some cell := by simp
      have hcm : cell ∈ cs ++ [cell] := by simp
      refine sp_181 h4b.2.1 h4b.2.2.1 h4b.2.2.2.1 (by omega) ?_
      generalize hnn : 128 * (sl : Int) + ((c + 1 : Nat) : Int) = nn at hr5 hv5 hA5
      have hS6 := mS_addK hS5 (t := eNil) (n := nn) ⟨rfl, hA5, hv5.2.1, hv5.2.2.1, hv5.1, Nat.zero_le _, Or.inr ⟨Int.le_refl 0, rfl⟩⟩
      have hU6 : mU (mNd M4 sl (c + 1) 3 1) sl (c + 1 + 1) ((eNil, nn) :: K) ((1, 2, l ++ [t]) :: stk) := mU_add (mU_nd0 (k := 3) 1 hU4 (by decide)) (fun v => rfl)
      have h78c : mNd M4 sl (c + 1) 3 1 78 cell = ((1 : Nat) : Int) := by
        rw [hr5 _ _ (by omega) (by omega)]
        exact rI_last _ _ _ hb5.1 hlast
      have h76c : mNd M4 sl (c + 1) 3 1 76 cell ≠ 1 := by
        rw [hr5 _ _ (by omega) (by omega), rI_k _ _ hb5.1 cell hcm]
        decide
      have hg7 := mGv_r (mNd M4 sl (c + 1) 3 1) cell 1 nn
      have hU7 : mU (mGv (mNd M4 sl (c + 1) 3 1) cell 1 nn) sl (c + 1 + 1) ((eNil, nn) :: K) ((1, 2, l ++ [t]) :: stk) := mU_gv (a := 1) hU6 h76c ⟨by omega, by omega⟩
      have hlow7 := mS_low (m' := mGv (mNd M4 sl (c + 1) 3 1) cell 1 nn) hS6 (fun a e q1 q2 q3 q4 q5 q6 q7 q8 q9 => hg7 _ _ (by omega) (by omega))
      refine sp_182 (a := 1) hcr1 h78c (by omega) (sp_188 (d := stk.length + 1) hlow7.1 hlow7.2.1 ?_ (by omega) (fun m8 g1 g2 g3 g4 => ?_))
      · rw [hg7 _ _ (by omega) (by omega), hS6.2.2.2.1.2.2.2.2]
        simp
      have hS8 := mS_closeI (Or.inl rfl) (by simp) hS6 hlast g1 g2 g3 (by rw [g4]; simp)
      rw [show ((stk.length + 1 - 1 : Nat) : Int) = (stk.length : Int) by omega, hg7 89 _ (by omega) (by omega)]
      have hnine : mNd M4 sl (c + 1) 3 1 89 (stk.length : Int) ≠ -9 := by
        have := (rP_A (hS8.2.2.2.2.2.2 (eI eNil (l ++ [t]), _) (List.mem_cons_self ..))).1
        dsimp only at this
        omega
      have hF7 : pFr (mNd M4 sl (c + 1) 3 1) (mGv (mNd M4 sl (c + 1) 3 1) cell 1 nn) sl := pFr_gv (c := c + 1) (by omega) (by omega) (by omega)
      refine hq _ _ ⟨((hF4.trans hF5).trans hF7).trans (pFr_cl g3), Or.inl ⟨c + 1 + 1, vs, stk, css, eI eNil (l ++ [t]), false, pnx tx p, hnine, hS8, ?_, (fun q => by cases q), fun R => pRun_s tx qy (by rw [hst, if_neg n5, if_neg n10, if_pos h9]) R, by omega, by omega, hp1⟩⟩
      have g := mU_fr hU7 (m' := m8) (fun a e q => g3 a e (by omega))
      refine ⟨fun v => (g.1 v).trans ?_, g.2⟩
      show oE eNil v + oK K v + (oL (l ++ [t]) v + oF stk v) = oE (eI eNil (l ++ [t])) v + oK K v + oF stk v
      rw [oE_I]
      omega
    · refine sp_180 (p := p) hS.2.1.2.1 (hq _ _ ⟨hF4.trans (pFr_18 _ _ _), Or.inr (Or.inr ⟨p, hy_us _ _ _ _, pRun_e tx qy (by rw [hst, if_neg n5, if_neg n10, if_neg n9]), mPg_fr hU4.2 (fun e => hy_ua (by decide))⟩)⟩)
  unfold wq_190
  rw [hd1]
  refine sp_181 h4.2.1 hsl h4.2.2.2.1 (by omega) ?_
  rw [hcell]
  refine sp_182 (a := 0) hcr1 (by rw [hv1.2.2.1]; rfl) (by omega) ⟨by omega, by omega, ?_⟩
  have e90 : mGv (mNd m sl c 4 2) cell 0 r 90 (stk.length : Int) = m 90 (stk.length : Int) := by rw [hr2 _ _ (by omega) (by omega), hr1 _ _ (by omega) (by omega)]
  rw [e90]
  have e15 : mGv (mNd m sl c 4 2) cell 0 r 74 15 = pk1 tx p := by
    rw [hr2 _ _ (by omega) (by omega), hr1 _ _ (by omega) (by omega)]
    exact hC.2.2.1
  refine ⟨fun hne => ⟨by omega, by omega, ?_⟩, fun heq => ⟨by omega, by omega, show -2147483648 ≤ _ ∧ _ < 2147483648 by omega, ?_⟩⟩
  · have hcs : cs ≠ [] := fun q => hne (b3 q)
    obtain ⟨x, hx⟩ : ∃ x, cs.getLast? = some x := ⟨_, List.getLast?_eq_some_getLast hcs⟩
    have hxr := b9 x (mem_last hx)
    rw [b5 x hx]
    have h78x : mGv (mNd m sl c 4 2) cell 0 r 78 x = ((1 : Nat) : Int) := by
      rw [hr2 _ _ (by omega) (by omega), hr1 _ _ (by omega) (by omega)]
      exact rI_last _ _ _ b1 hx
    have hr3 := mGv_r (mGv (mNd m sl c 4 2) cell 0 r) x 1 cell
    have hv3 := mGv_v (mGv (mNd m sl c 4 2) cell 0 r) x 1 cell
    rw [show 3 * x + ((1 : Nat) : Int) = 3 * x + 1 by omega] at hr3 hv3
    refine sp_182 (a := 1) (by omega) h78x (by omega) ⟨show -2147483648 ≤ _ ∧ _ < 2147483648 by omega, fin _ ?_ ?_ ?_ ?_⟩
    · refine mS_item hcell.symm h ?_ ?_ ?_ ?_ ?_ (hy_us _ _ _ _) ?_ (fun y hy => ?_) (fun a e q1 q2 q3 q4 q5 => ?_)
      · rw [hy_ua (by decide), hr3 _ _ (by omega) (by omega), hr2 _ _ (by omega) (by omega), hv1.2.2.2]
      · rw [hy_ua (by decide), hr3 _ _ (by omega) (by omega), hv2.2.2]
      · rw [hy_ua (by decide), hr3 _ _ (by omega) (by omega), hr2 _ _ (by omega) (by omega), hv1.2.1]
      · rw [hy_ua (by decide), hr3 _ _ (by omega) (by omega), hv2.2.1]
        rfl
      · rw [hy_ua (by decide), hr3 _ _ (by omega) (by omega), hv2.1]
      · rw [if_neg hcs, hy_ua (by decide), hr3 _ _ (by omega) (by omega), hr2 _ _ (by omega) (by omega), hr1 _ _ (by omega) (by omega)]
      · have : y = x := by rw [hx] at hy; simpa using hy.symm
        subst this
        rw [hy_ua (by decide), hy_ua (by decide), hy_ua (by decide), hv3.1, hv3.2.1, hv3.2.2]
        exact ⟨rfl, rfl, rfl⟩
      · have := q4 x hx
        rw [show hy_u (mGv (mGv (mNd m sl c 4 2) cell 0 r) x 1 cell) 90 (stk.length : Int) cell a e = mGv (mGv (mNd m sl c 4 2) cell 0 r) x 1 cell a e from if_neg (by omega), hr3 _ _ (by omega) (by omega), hr2 _ _ (by omega) (by omega), hr1 _ _ (by omega) (by omega)]
    · refine mU_gv (a := 1) hU2 ?_ (by omega)
      rw [hr2 _ _ (by omega) (by omega), hr1 _ _ (by omega) (by omega), rI_k _ _ b1 x (mem_last hx)]
      decide
    · exact hF2.trans (pFr_gv (c := c) hxr (by omega) (by omega))
    · rw [hr3 _ _ (by omega) (by omega)]
      exact e15
  · have hcs : cs = [] := by
      cases hc : cs with
      | nil => rfl
      | cons a cs' =>
        obtain ⟨x, hx⟩ : ∃ x, cs.getLast? = some x := ⟨_, List.getLast?_eq_some_getLast (by rw [hc]; simp)⟩
        have := b9 x (mem_last hx)
        have := b5 x hx
        omega
    refine fin _ ?_ ?_ ?_ ?_
    · refine mS_item hcell.symm h ?_ ?_ ?_ ?_ ?_ (hy_us _ _ _ _) ?_ (fun y hy => ?_) (fun a e q1 q2 q3 q4 q5 => ?_)
      · rw [hy_ua (by decide), hy_ua (by decide), hr2 _ _ (by omega) (by omega), hv1.2.2.2]
      · rw [hy_ua (by decide), hy_ua (by decide), hv2.2.2]
      · rw [hy_ua (by decide), hy_ua (by decide), hr2 _ _ (by omega) (by omega), hv1.2.1]
      · rw [hy_ua (by decide), hy_ua (by decide), hv2.2.1]
        rfl
      · rw [hy_ua (by decide), hy_ua (by decide), hv2.1]
      · rw [if_pos hcs, hy_ua (by decide), hy_us]
      · rw [hcs] at hy
        cases hy
      · rw [show hy_u (hy_u (mGv (mNd m sl c 4 2) cell 0 r) 89 (stk.length : Int) cell) 90 (stk.length : Int) cell a e = hy_u (mGv (mNd m sl c 4 2) cell 0 r) 89 (stk.length : Int) cell a e from if_neg (by omega), show hy_u (mGv (mNd m sl c 4 2) cell 0 r) 89 (stk.length : Int) cell a e = mGv (mNd m sl c 4 2) cell 0 r a e from if_neg (by omega), hr2 _ _ (by omega) (by omega), hr1 _ _ (by omega) (by omega)]
    · exact mU_fr hU2 (fun a e q => if_neg (by omega))
    · exact hF2.trans (fun a e q1 q2 q3 q4 q5 q6 q7 q8 => if_neg (fun z => q7 z.1))
    · rw [hy_ua (by decide)]
      exact e15
end MZ
