section MC
variable {m : hy_m} {tx : List Int} {sl c : Nat} {vs : List Int} {stk : List pF} {css : List (List Int)} {K : List (pE × Int)} {p : Nat} {Q : Int → hy_m → Prop} {qy : Bool} {hd : Option pE} {gs : List pE}
theorem mS_addK {t : pE} {n : Int} (h : mS m tx sl c vs stk css K p) (hr : rP m (nA sl c css.flatten) t (-1) n) : mS m tx sl c vs stk css ((t, n) :: K) p := by
  obtain ⟨h1, h2, h3, h4, h5, h6, h7⟩ := h
  refine ⟨h1, h2, h3, h4, h5, h6, fun q hq => ?_⟩
  rcases List.mem_cons.mp hq with rfl | hq
  · exact hr
  · exact h7 q hq
theorem mS_var {w : Int} (h : mS m tx sl c vs stk css K p) (hl : vs.length < 8) : mS (hy_u (hy_u m 87 (vs.length : Int) w) 74 21 ((vs.length : Int) + 1)) tx sl c (vs ++ [w]) stk css K p ∧ pFr m (hy_u (hy_u m 87 (vs.length : Int) w) 74 21 ((vs.length : Int) + 1)) sl := by
  have hr : ∀ a e, ¬ (a = 74 ∧ e = 21) → a ≠ 87 → hy_u (hy_u m 87 (vs.length : Int) w) 74 21 ((vs.length : Int) + 1) a e = m a e := by
    intro a e q1 q2
    unfold hy_u
    rw [if_neg q1, if_neg (fun z => q2 z.1)]
  have hu := mS_up (m' := hy_u (hy_u m 87 (vs.length : Int) w) 74 21 ((vs.length : Int) + 1)) h (B := nA sl c css.flatten) (fun n hn => hn) (fun n hn => ⟨hr _ _ (by omega) (by omega), hr _ _ (by omega) (by omega), hr _ _ (by omega) (by omega), fun j _ _ => hr _ _ (by omega) (by omega)⟩) (fun i hi => ⟨hr _ _ (by omega) (by omega), hr _ _ (by omega) (by omega), hr _ _ (by omega) (by omega)⟩)
  obtain ⟨h1, h2, h3, h4, h5, -, -⟩ := h
  refine ⟨⟨⟨?_, h1.2.1, fun i hi => ?_, h1.2.2.2⟩, ⟨h2.1, ?_, ?_, ?_, fun z => ?_, fun z => ?_⟩, ⟨?_, ?_, fun i hi => ?_⟩, ⟨?_, ?_, h4.2.2.1, ?_, ?_⟩, h5, hu.1, hu.2⟩, fun a e q1 _ _ _ q5 _ _ _ => hr a e (fun z => q1 ⟨z.1, by omega⟩) q5⟩
  · rw [hr _ _ (by omega) (by omega)]; exact h1.1
  · rw [hr _ _ (by omega) (by omega)]; exact h1.2.2.1 i hi
  · rw [hr _ _ (by omega) (by omega)]; exact h2.2.1
  · rw [hr _ _ (by omega) (by omega)]; exact h2.2.2.1
  · rw [hr _ _ (by omega) (by omega)]; exact h2.2.2.2.1
  · rw [hr _ _ (by omega) (by omega)]; exact h2.2.2.2.2.1 z
  · rw [hr _ _ (by omega) (by omega)]; exact h2.2.2.2.2.2 z
  · rw [hy_us]; simp
  · simp; omega
  · rw [hy_ua (by decide)]
    by_cases e : i = vs.length
    · subst e
      rw [hy_us]
      simp
    · have hi' : i < vs.length := by simp at hi; omega
      rw [hy_uk (by omega), h3.2.2 i hi', List.getElem_append_left hi']
  · rw [hr _ _ (by omega) (by omega)]; exact h4.1
  · rw [hr _ _ (by omega) (by omega)]; exact h4.2.1
  · rw [hr _ _ (by omega) (by omega)]; exact h4.2.2.2.1
  · rw [hr _ _ (by omega) (by omega)]; exact h4.2.2.2.2
/-- a term begins, inside of a compound -/
theorem sp_186t (t0 : pE) (nm0 : Bool) (h : mS m tx sl c vs stk css K p) (hU : mU m sl c K stk) (hcr : c + fCn stk ≤ p) (hdp : stk.length ≤ p) (hq : ∀ r m', tO m m' tx qy sl (1, vs, hd, gs, t0, nm0, stk, p) hd gs K p r → Q r m') : wq_186 0 0 m Q := by
  have hT := h.1
  have hC := h.2.1
  have hV := h.2.2.1
  have h4 := h.2.2.2.1
  have hpl : p ≤ 120 := Nat.le_trans hC.1 hT.2.1
  have hp2 := (pnx_ok hC.1).1
  have hp2' : pnx tx p ≤ 120 := Nat.le_trans hp2 hT.2.1
  have h15 := hC.2.2.1
  have e1 : pSt tx qy (1, vs, hd, gs, t0, nm0, stk, p) = pT tx vs hd gs stk p := by
    unfold pSt
    dsimp only
    rw [if_neg (by decide), if_pos rfl]
  -- a node, then the next part
  have fin : ∀ (k w : Int) (t : pE) (vs' : List Int) (M : hy_m), mU (mNd M sl c k w) sl (c + 1) ((t, 128 * (sl : Int) + c) :: K) stk → mS M tx sl c vs' stk css K p → pFr m M sl → pk1 tx p ≠ 0 → pSt tx qy (1, vs, hd, gs, t0, nm0, stk, p) = .inl (3, vs', hd, gs, t, false, stk, pnx tx p) → (rP (mNd M sl c k w) (nA sl (c + 1) css.flatten) t (-1) (128 * (sl : Int) + c)) → (128 * (sl : Int) + c = -9 → Q (128 * (sl : Int) + c) (mNd M sl c k w)) ∧ (128 * (sl : Int) + c ≠ -9 → wq_179 (mNd M sl c k w) (fun _ m4 => Q (128 * (sl : Int) + c) m4)) := by
    intro k w t vs' M hMU hM hMF hk0 hst hrp
    have hp1 := pk_pos hC.1 hk0
    obtain ⟨hS2, hF2, hA⟩ := mS_node k w hM (by omega)
    have hS3 := mS_addK hS2 hrp
    refine ⟨fun q => by omega, fun _ => sp_next hS3.1 hS3.2.1 (fun m4 k1 k2 k3 => ?_)⟩
    obtain ⟨hS4, hF4⟩ := mS_next hS3 k1 k2 k3
    exact hq _ _ ⟨(hMF.trans hF2).trans hF4, Or.inl ⟨c + 1, vs', stk, css, t, false, pnx tx p, by omega, hS4, mU_fr hMU (fun a e q => k3 a e (by omega)), (fun q => by cases q), fun R => pRun_s tx qy hst R, by omega, by omega, hp1⟩⟩
  have bad : pT tx vs hd gs stk p = .inr (.inl p) → wq_180 m (fun r m1 => Q r m1) := fun hb => sp_180 hC.2.1 (hq _ _ ⟨pFr_18 _ _ _, Or.inr (Or.inr ⟨p, hy_us _ _ _ _, pRun_e tx qy (e1.trans hb), mPg_fr hU.2 (fun e => hy_ua (by decide))⟩)⟩)
  unfold wq_186
  rw [h15]
  refine ⟨fun n1 => ⟨fun q => absurd rfl q, fun _ => ⟨fun k2 => ?_, fun n2 => ⟨fun k3 => ?_, fun n3 => ⟨fun k8 => ?_, fun n8 => bad ?_⟩⟩⟩⟩, fun k1 => ?_⟩
  · unfold wq_186_48
    rw [h15]
    refine ⟨fun _ => ⟨fun _ => ?_, fun q => by omega⟩, fun q => by omega⟩
    have hw : m 74 17 = pwd tx p := hC.2.2.2.2.1 (Or.inr k2)
    refine sp_183 hV hw hC.2.1 h4.2.1 h4.2.2.1 h4.2.2.2.1 (by omega) (fun i hi => ?_) (fun hi hl => ?_) (fun hi hl => ?_)
    · have hv := mNd_v m sl c 1 (i : Int)
      refine fin 1 i (.var i) vs m (mU_var hU) h (pFr.refl _ _) (by rw [k2]; decide) ?_ ⟨rfl, (mS_node 1 (i : Int) h (by omega)).2.2, hv.1, hv.2.1, hv.2.2.1⟩
      rw [e1]
      unfold pT
      rw [if_neg n1, if_neg (by omega), if_pos k2, hi]
    · obtain ⟨hSv, hFv⟩ := mS_var (w := pwd tx p) h hl
      have hv := mNd_v (hy_u (hy_u m 87 (vs.length : Int) (pwd tx p)) 74 21 ((vs.length : Int) + 1)) sl c 1 (vs.length : Int)
      refine fin 1 vs.length (.var vs.length) (vs ++ [pwd tx p]) _ (mU_var (mU_fr hU (fun a e q => by unfold hy_u; rw [if_neg (by omega), if_neg (by omega)]))) hSv hFv (by rw [k2]; decide) ?_ ⟨rfl, (mS_node 1 (vs.length : Int) hSv (by omega)).2.2, hv.1, hv.2.1, hv.2.2.1⟩
      rw [e1]
      unfold pT
      rw [if_neg n1, if_neg (by omega), if_pos k2, hi]
      dsimp only
      rw [if_pos hl]
    · refine ⟨fun _ => hq _ _ ⟨pFr_18 _ _ _, Or.inr (Or.inr ⟨p, hy_us _ _ _ _, pRun_e tx qy (e1.trans ?_), mPg_fr hU.2 (fun e => hy_ua (by decide))⟩)⟩, fun q => absurd rfl q⟩
      unfold pT
      rw [if_neg n1, if_neg (by omega), if_pos k2, hi]
      dsimp only
      rw [if_neg hl]
  · unfold wq_186_48
    rw [h15]
    refine ⟨fun _ => ⟨fun q => by omega, fun _ => ?_⟩, fun q => by omega⟩
    have hw : m 74 17 = pin tx p := hC.2.2.2.2.2 k3
    rw [hw]
    have hv := mNd_v m sl c 2 (pin tx p)
    refine sp_181 h4.2.1 h4.2.2.1 h4.2.2.2.1 (by omega) (fin 2 (pin tx p) (.num (pin tx p)) vs m (mU_add (mU_nd0 (k := 2) (pin tx p) hU (by decide)) (fun v => rfl)) h (pFr.refl _ _) (by rw [k3]; decide) ?_ (Or.inl ⟨rfl, (mS_node 2 (pin tx p) h (by omega)).2.2, hv.1, hv.2.1, hv.2.2.1⟩))
    rw [e1]
    unfold pT
    rw [if_neg n1, if_pos k3]
  · unfold wq_186_48
    rw [h15]
    refine ⟨fun q => absurd k8 q, fun _ => ?_⟩
    have hp1 := pk_pos hC.1 (by rw [k8]; decide)
    have hst : pSt tx qy (1, vs, hd, gs, t0, nm0, stk, p) = .inl (2, vs, hd, gs, eNil, false, stk, pnx tx p) := by
      rw [e1]
      unfold pT
      rw [if_neg n1, if_neg n3, if_neg n2, if_pos k8]
    refine sp_next hT hC (fun m1 g1 g2 g3 => ?_)
    obtain ⟨hS1, hF1⟩ := mS_next h g1 g2 g3
    have hU1 : mU m1 sl c K stk := mU_fr hU (fun a e q => g3 a e (by omega))
    have h15b := hS1.2.1.2.2.1
    rw [h15b]
    refine ⟨fun hne => ?_, fun heq => ?_⟩
    · obtain ⟨hS2, hF2⟩ := mS_openL hS1 (by omega)
      refine sp_185 hS1.2.2.2.1.2.2.2.2 (by omega) (hq _ _ ⟨hF1.trans hF2, Or.inr (Or.inl ⟨c, vs, _, _, pnx tx p, rfl, hS2, mU_fr (show mU m1 sl c K ((1, 2, []) :: stk) from ⟨fun v => (hU1.1 v).trans (by show _ = oK K v + (0 + oF stk v); omega), hU1.2⟩) (fun a e q => mPs_r _ _ _ _ _ _ (by omega) (by omega)), by simp, fun R => ?_, ?_, ?_, hp1⟩)⟩)
      · rw [pRun_s tx qy hst R]
        have : pSt tx qy (2, vs, hd, gs, eNil, false, stk, pnx tx p) = pSt tx qy (1, vs, hd, gs, eNil, false, (1, 2, []) :: stk, pnx tx p) := by
          unfold pSt
          dsimp only
          rw [if_neg (by decide), if_neg (by decide), if_pos rfl, if_neg hne, if_neg (by decide), if_pos rfl]
        exact pRun_c tx qy this R
      · show c + ((if (1 : Nat) = 1 then 1 else 0) + fCn stk) ≤ _
        rw [if_pos rfl]
        omega
      · simp only [List.length_cons]
        omega
    · have hp3 := pk_pos hp2 (by rw [heq]; decide)
      refine sp_next hS1.1 hS1.2.1 (fun m2 k1 k2 k3 => ?_)
      obtain ⟨hS2, hF2⟩ := mS_next hS1 k1 k2 k3
      obtain ⟨hS3, hF3, hA⟩ := mS_node 3 1 hS2 (by omega)
      have hv := mNd_v m2 sl c 3 1
      have h4b := hS2.2.2.2.1
      refine sp_181 h4b.2.1 h4b.2.2.1 h4b.2.2.2.1 (by omega) (hq _ _ ⟨(hF1.trans hF2).trans hF3, Or.inl ⟨c + 1, vs, stk, css, eNil, false, pnx tx (pnx tx p), by omega, mS_addK hS3 ⟨rfl, hA, hv.2.1, hv.2.2.1, hv.1, Nat.zero_le _, Or.inr ⟨Int.le_refl 0, rfl⟩⟩, mU_add (mU_nd0 (k := 3) 1 (mU_fr hU1 (fun a e q => k3 a e (by omega))) (by decide)) (fun v => rfl), (fun q => by cases q), fun R => ?_, by omega, by omega, by omega⟩⟩)
      rw [pRun_s tx qy hst R]
      refine pRun_s tx qy ?_ R
      unfold pSt
      dsimp only
      rw [if_neg (by decide), if_neg (by decide), if_pos rfl, if_pos heq]
  · unfold pT
    rw [if_neg n1, if_neg n3, if_neg n2, if_neg n8]
  · refine sp_187 (hd := hd) (gs := gs) (qy := qy) (1, vs, hd, gs, t0, nm0, stk, p) h hU k1 hcr hdp (Or.inl rfl) (fun _ => ?_) (fun q => absurd q.1 (by decide)) hq
    rw [e1]
    unfold pT
    rw [if_pos k1]
end MC
