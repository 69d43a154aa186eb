/-! THE MODEL'S PARSER: an argument, an item, a tail is added -/
section MX
variable {m m' : hy_m} {tx : List Int} {sl c : Nat} {vs : List Int} {stk : List pF} {css : List (List Int)} {K : List (pE × Int)} {p p' : Nat} {Q : Int → hy_m → Prop} {qy : Bool} {hd : Option pE} {gs : List pE}
/-- the low parts of the state, when a node was given something and the next part was read -/
theorem mS_lowc {m1 : hy_m} {d : Nat} (h : mS m tx sl c vs stk css K p) (h1 : mCu m' tx p') (h2 : mTx m' tx) (hg : ∀ a e, a ≠ 76 → a ≠ 78 → a ≠ 79 → m1 a e = m a e) (hf : ∀ a e, ¬ (a = 74 ∧ (e = 14 ∨ e = 15 ∨ e = 16 ∨ e = 17 ∨ e = 25)) → m' a e = m1 a e) (h25 : m' 74 25 = d) : mTx m' tx ∧ mCu m' tx p' ∧ mVs m' vs ∧ (m' 74 18 = -9 ∧ m' 74 19 = sl ∧ sl < 28 ∧ m' 80 (sl : Int) = c ∧ m' 74 25 = d) := by
  obtain ⟨-, -, h3, h4, -, -, -⟩ := h
  have g : ∀ a e, ¬ (a = 74 ∧ (e = 14 ∨ e = 15 ∨ e = 16 ∨ e = 17 ∨ e = 25)) → a ≠ 76 → a ≠ 78 → a ≠ 79 → m' a e = m a e := fun a e q1 q2 q3 q4 => (hf a e q1).trans (hg a e q2 q3 q4)
  refine ⟨h2, h1, ⟨?_, h3.2.1, fun i hi => ?_⟩, ?_, ?_, h4.2.2.1, ?_, h25⟩
  · rw [g _ _ (by omega) (by omega) (by omega) (by omega)]; exact h3.1
  · rw [g _ _ (by omega) (by omega) (by omega) (by omega)]; exact h3.2.2 i hi
  · rw [g _ _ (by omega) (by omega) (by omega) (by omega)]; exact h4.1
  · rw [g _ _ (by omega) (by omega) (by omega) (by omega)]; exact h4.2.1
  · rw [g _ _ (by omega) (by omega) (by omega) (by omega)]; exact h4.2.2.2.1
theorem pFr_gv {b : Int} {a : Nat} {x : Int} (hb : 128 * (sl : Int) ≤ b ∧ b < 128 * (sl : Int) + c) (hc : c ≤ 128) (ha : a ≤ 2) : pFr m (mGv m b a x) sl := by
  intro b' e q1 q2 q3 q4 q5 q6 q7 q8
  refine mGv_r m b a x b' e (fun z => q3 ⟨z.1, by omega, by omega⟩) (fun z => q2 ⟨by omega, by omega, by omega⟩)
theorem pFr_cl (hf : ∀ a e, ¬ (a = 74 ∧ (e = 14 ∨ e = 15 ∨ e = 16 ∨ e = 17 ∨ e = 25)) → m' a e = m a e) : pFr m m' sl := fun a e q1 _ _ _ _ _ _ _ => hf a e (by omega)
/-- a compound is closed -/
theorem mS_closeA {k : Int} {as : List pE} {cs : List Int} {t : pE} {r b : Int} (h : mS m tx sl c vs ((0, k, as) :: stk) (cs :: css) ((t, r) :: K) p) (hb : m 89 (stk.length : Int) = b) (h1 : mCu m' tx p') (h2 : mTx m' tx) (hf : ∀ a e, ¬ (a = 74 ∧ (e = 14 ∨ e = 15 ∨ e = 16 ∨ e = 17 ∨ e = 25)) → m' a e = mGv m b as.length r a e) (h25 : m' 74 25 = stk.length) : mS m' tx sl c vs stk css ((eC k (as ++ [t]), b) :: K) p' := by
  obtain ⟨b', rfl, e1, e2, e3, e4, e5, e6, e7, e8⟩ := mS_giveA h
  have hbb : b' = b := e1.symm.trans hb
  subst hbb
  have h5 := h.2.2.2.2.1
  have hnd := h5.1
  rw [List.flatten_cons, List.singleton_append, List.nodup_cons] at hnd
  have hg := mGv_r m b' as.length r
  have hv := mGv_v m b' as.length r
  have hl := mS_lowc (m1 := mGv m b' as.length r) h h1 h2 (fun a e q1 q2 q3 => hg a e (by omega) (by omega)) hf h25
  have hE : ∀ A : Int → Prop, rEq (mGv m b' as.length r) m' A := fun A n _ => ⟨hf _ _ (by omega), hf _ _ (by omega), hf _ _ (by omega), fun j _ _ => hf _ _ (by omega)⟩
  have hAB : ∀ n, nA sl c ([b'] :: css).flatten n → nA sl c css.flatten n := fun n hn => ⟨hn.1, hn.2.1, fun q => hn.2.2 (by rw [List.flatten_cons]; exact List.mem_append_right _ q)⟩
  refine ⟨hl.1, hl.2.1, hl.2.2.1, hl.2.2.2, ⟨hnd.2, fun n hn => h5.2 n (by rw [List.flatten_cons]; exact List.mem_append_right _ hn)⟩, ?_, fun q hq => ?_⟩
  · exact sR_eq hAB (hE _) stk css (hE _) (fun i _ => ⟨hf _ _ (by omega), hf _ _ (by omega), hf _ _ (by omega)⟩) e6
  · rcases List.mem_cons.mp hq with rfl | hq
    · refine rP_C ⟨e2.1, e2.2, hnd.1⟩ ?_ ?_ ?_ ?_ (fun i hi => ?_)
      · rw [hf _ _ (by omega), hg _ _ (by omega) (by omega)]; exact e5
      · rw [hf _ _ (by omega), hv.2.1]; simp
      · rw [hf _ _ (by omega), hv.2.2, if_neg (by simp)]
      · simp only [List.length_append, List.length_cons, List.length_nil]; omega
      · rw [hf _ _ (by omega)]
        exact rP_mono hAB _ _ _ (rP_eq (hE _) _ (-1) _ (fun z => by omega) (e8 i hi))
    · exact rP_mono hAB _ _ _ (rP_eq (hE _) _ (-1) _ (fun z => by omega) (e7 q hq))
/-- an argument -/
theorem sp_189 {k : Int} {as : List pE} {cs : List Int} {t : pE} {r : Int} {nm : Bool} (h : mS m tx sl c vs ((0, k, as) :: stk) (cs :: css) ((t, r) :: K) p) (hU : mU m sl c ((t, r) :: K) ((0, k, as) :: stk)) (hnm : nm = true → pk1 tx p ≠ 6) (hcr : c + fCn ((0, k, as) :: stk) ≤ p) (hdp : stk.length + 1 ≤ p) (hq : ∀ r' m', tO m m' tx qy sl (3, vs, hd, gs, t, nm, (0, k, as) :: stk, p) hd gs K p r' → Q r' m') : wq_189 r (if (!qy && hd.isNone) = true then 1 else 0) m Q := by
  have hT := h.1
  have hC := h.2.1
  have hpl : p ≤ 120 := Nat.le_trans hC.1 hT.2.1
  have hcr0 : c + fCn stk ≤ p := by
    have : c + ((if (0 : Nat) = 1 then 1 else 0) + fCn stk) ≤ p := hcr
    rw [if_neg (by decide)] at this
    omega
  have hrA := rP_A (h.2.2.2.2.2.2 (t, r) (List.mem_cons_self ..))
  have hsl := h.2.2.2.1.2.2.1
  obtain ⟨b, hcs, e1, e2, e3, e4, e5, e6, e7, e8⟩ := mS_giveA h
  have h25 : m 74 25 = (stk.length : Int) + 1 := by
    have := h.2.2.2.1.2.2.2.2
    simpa using this
  have hd1 : m 74 25 - 1 = (stk.length : Int) := by omega
  have hg := mGv_r m b as.length r
  have hv := mGv_v m b as.length r
  have hfr := pFr_gv (m := m) (sl := sl) (c := c) (b := b) (a := as.length) (x := r) e2 (by omega) (by omega)
  have hb1 : m 76 b ≠ 1 := by
    have hf := h.2.2.2.2.2.1.1
    rcases hf with ⟨a1, a2, a3, b', q1, a4, a5, a6, a7, a8⟩ | ⟨a1, -⟩
    · have : b' = b := a4.symm.trans e1
      subst this
      rw [a7]
      split <;> decide
    · rcases a1 with a1 | a1
      · exact absurd (show (0 : Nat) = 1 from a1) (by decide)
      · exact absurd (show (0 : Nat) = 2 from a1.1) (by decide)
  have hU1 : mU (mGv m b as.length r) sl c K ((0, k, as ++ [t]) :: stk) := by
    have g := mU_gv (a := as.length) hU hb1 (x := r) ⟨by have := hrA.1; omega, by have := hrA.2.1; omega⟩
    refine ⟨fun v => (g.1 v).trans ?_, g.2⟩
    show oE t v + oK K v + (oL as v + oF stk v) = oK K v + (oL (as ++ [t]) v + oF stk v)
    rw [oL_app]
    show _ = oK K v + (oL as v + (oE t v + 0) + oF stk v)
    omega
  have h15 : mGv m b as.length r 74 15 = pk1 tx p := by
    rw [hg _ _ (by omega) (by omega)]
    exact hC.2.2.1
  have h89 : mGv m b as.length r 89 (stk.length : Int) = b := by
    rw [hg _ _ (by omega) (by omega)]
    exact e1
  have hbn : 0 ≤ b ∧ b < 3584 := by omega
  have hst : pSt tx qy (3, vs, hd, gs, t, nm, (0, k, as) :: stk, p) = (if pk1 tx p = 7 then
            if (!qy && hd.isNone && stk.isEmpty && bBi k (as.length + 1)) = true then .inr (.inl p)
            else .inl (3, vs, hd, gs, eC k (as ++ [t]), false, stk, pnx tx p)
          else if pk1 tx p = 5 ∧ as.length + 1 < 3 then .inl (1, vs, hd, gs, eNil, false, (0, k, as ++ [t]) :: stk, pnx tx p)
          else .inr (.inl p)) := by
    unfold pSt
    dsimp only
    rw [if_neg (by decide), if_neg (by decide), if_neg (by decide), if_neg (fun q => hnm q.1 q.2), if_pos rfl]
  have hlow := mS_low (m' := mGv m b as.length r) h (fun a e q1 q2 q3 q4 q5 q6 q7 q8 q9 => hg _ _ (by omega) (by omega))
  have wr : pSt tx qy (3, vs, hd, gs, t, nm, (0, k, as) :: stk, p) = .inr (.inl p) → wq_180 (mGv m b as.length r) (fun r1 m1 => Q r1 m1) := by
    intro hb
    refine sp_180 (p := p) ?_ (hq _ _ ⟨hfr.trans (pFr_18 _ _ _), Or.inr (Or.inr ⟨p, hy_us _ _ _ _, pRun_e tx qy hb, mPg_fr hU1.2 (fun e => hy_ua (by decide))⟩)⟩)
    rw [hg _ _ (by omega) (by omega)]
    exact hC.2.1
  have cl : pk1 tx p = 7 → ¬ (!qy && hd.isNone && stk.isEmpty && bBi k (as.length + 1)) = true → wq_188 (mGv m b as.length r) (fun r1 m1 => Q r1 m1) := by
    intro h7 hno
    have hp1 := pk_pos hC.1 (by rw [h7]; decide)
    have hp2 := (pnx_ok hC.1).1
    refine sp_188 (d := stk.length + 1) hlow.1 hlow.2.1 (by rw [hg _ _ (by omega) (by omega), h25]; omega) (by omega) (fun m4 g1 g2 g3 g4 => ?_)
    have hS4 := mS_closeA h e1 g1 g2 g3 (by rw [g4]; simp)
    rw [show ((stk.length + 1 - 1 : Nat) : Int) = (stk.length : Int) by omega, h89]
    refine hq _ _ ⟨hfr.trans (pFr_cl g3), Or.inl ⟨c, vs, stk, css, eC k (as ++ [t]), false, pnx tx p, by omega, hS4, ?_, (fun q => by cases q), fun R => pRun_s tx qy (by rw [hst, if_pos h7, if_neg hno]) R, by omega, by omega, hp1⟩⟩
    have g := mU_fr hU1 (m' := m4) (fun a e q => g3 a e (by omega))
    refine ⟨fun v => (g.1 v).trans ?_, g.2⟩
    show oK K v + (oL (as ++ [t]) v + oF stk v) = oE (eC k (as ++ [t])) v + oK K v + oF stk v
    rw [oE_C]
    omega
  have rest : ¬ (pk1 tx p = 5 ∧ as.length + 1 < 3) → wq_189_48 (if (!qy && hd.isNone) = true then 1 else 0) (stk.length : Int) (mGv m b as.length r) Q := by
    intro hno
    unfold wq_189_48
    rw [h15, h89, hg 74 25 (by omega) (by omega), h25, hv.2.1, hg 77 b (by omega) (by omega), e5]
    refine ⟨fun n7 => wr ?_, fun h7 => ⟨fun hx => cl h7 (fun q => ?_), fun hx => ⟨fun hn => cl h7 (fun q => ?_), fun hy => ⟨by omega, by omega, hbn.1, hbn.2, by omega, by omega, hbn.1, hbn.2, ?_⟩⟩⟩⟩
    · rw [hst, if_neg n7, if_neg hno]
    · simp only [Bool.and_eq_true] at q
      rw [if_pos (by simp only [Bool.and_eq_true]; exact q.1.1)] at hx
      exact absurd hx (by decide)
    · simp only [Bool.and_eq_true, List.isEmpty_iff] at q
      rw [q.1.2] at hn
      exact hn rfl
    · have hemp : stk = [] := List.length_eq_zero_iff.mp (by omega)
      have hqh : (!qy && hd.isNone) = true := by
        by_cases q : (!qy && hd.isNone) = true
        · exact q
        · rw [if_neg q] at hx
          exact absurd rfl hx
      rw [show (as.length : Int) + 1 = ((as.length + 1 : Nat) : Int) by omega]
      refine sp_184 (fun hb => ⟨fun q => by omega, fun _ => wr ?_⟩) (fun hb => ⟨fun _ => cl h7 (fun q => ?_), fun q => by omega⟩)
      · rw [hst, if_pos h7, if_pos]
        rw [hqh, hb, hemp]
        rfl
      · simp only [Bool.and_eq_true] at q
        rw [hb] at q
        exact absurd q.2 (by decide)
  unfold wq_189
  rw [hd1, e1]
  refine ⟨by omega, by omega, sp_182 hbn e3 (by omega) ⟨fun n5 => ⟨show -2147483648 ≤ _ ∧ _ < 2147483648 by omega, rest (fun q => n5 (h15.trans q.1))⟩, fun h5 => ⟨by omega, by omega, ?_⟩⟩⟩
  rw [h89, hv.2.1]
  refine ⟨hbn.1, hbn.2, fun h3 => ⟨show -2147483648 ≤ _ ∧ _ < 2147483648 by omega, rest (fun q => by omega)⟩, fun h3 => ?_⟩
  have h5' : pk1 tx p = 5 := h15.symm.trans h5
  have hp1 := pk_pos hC.1 (by rw [h5']; decide)
  obtain ⟨hS1, hF1⟩ := mS_moreA h (by omega) (by omega) e1
  refine sp_next hS1.1 hS1.2.1 (fun m4 k1 k2 k3 => ?_)
  obtain ⟨hS4, hF4⟩ := mS_next hS1 k1 k2 k3
  refine hq _ _ ⟨hF1.trans hF4, Or.inr (Or.inl ⟨c, vs, (0, k, as ++ [t]) :: stk, cs :: css, pnx tx p, rfl, hS4, mU_fr hU1 (fun a e q => k3 a e (by omega)), by simp, fun R => pRun_s tx qy (by rw [hst, if_neg (by omega), if_pos ⟨h5', by omega⟩]) R, ?_, ?_, hp1⟩)⟩
  · show c + ((if (0 : Nat) = 1 then 1 else 0) + fCn stk) ≤ _
    rw [if_neg (by decide)]
    omega
  · simp only [List.length_cons]
    omega
end MX
