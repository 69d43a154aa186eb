/-! THE CLASS'S READER: one part -/
section CG
variable {m m' : hy_m} {tx : List Int} {Q : Int → hy_m → Prop} {qy : Bool} {vs : List Int} {hd : Option pE} {gs : List pE} {u d c p : Nat} {K : List (pE × Int)} {y0 : Int} {oc : Nat → Nat} {f : pF} {cs : List Int} {stk : List pF} {css : List (List Int)} {t : pE}
theorem oF_one (f : pF) (stk : List pF) (v : Nat) : oF (f :: stk) v = oL f.2.2 v + oF stk v := rfl
theorem cL_oc {oc' : Nat → Nat} (h : cL m qy vs hd gs u d K y0 oc) (e : ∀ v, oc v = oc' v) : cL m qy vs hd gs u d K y0 oc' := by
  have : oc = oc' := funext e
  rw [← this]
  exact h
/-- a term inside of a compound -/
theorem sp_74 (s : pS) (hC : cCu m tx p) (hp : p < 120) (hN : cN m y0 (f :: stk) (cs :: css) none c K) (hL : cL m qy vs hd gs c (stk.length + 1) K y0 (oF (f :: stk))) (hc : c ≤ 8 + p) (hdp : stk.length + 1 ≤ p + 1) (hub : ∀ v, oH hd v + oL gs v + oF (f :: stk) v ≤ p) (h17 : m 4 17 = -9) (hs : pSt tx qy s = pT tx vs hd gs (f :: stk) p) (hq : ∀ r m', aO m m' tx qy s p r → Q r m') : wq_74 m Q := by
  obtain ⟨i1, i2, i3, i4, i5, i6, i7, i8, i9, i10, i11, i12⟩ := pK_iff (tx := tx) (p := p)
  obtain ⟨n1, n2, n3, n4, n5⟩ := hN
  obtain ⟨o, ko, ao, o1, o2, o3, o4, o5, -⟩ := cF_o n3.1
  have hor := n2.2 o (by rw [List.flatten_cons]; exact List.mem_append_left _ o2)
  have hN : cN m y0 (f :: stk) (cs :: css) none c K := ⟨n1, n2, n3, n4, n5⟩
  have o4 : m 6 o = kC ko ao := o4
  have hd14 := hL.2.2.1
  have h44 := hL.2.1
  have adv : pk1 tx p ≠ 0 → p + 1 ≤ pnx tx p := fun h => pk_pos hC.1 h
  unfold wq_74
  rw [hC.2.2.1]
  refine ⟨fun k1 => ?_, fun n1' => ⟨fun k2 => ?_, fun n2' => ⟨fun k3 => ?_, fun n3' => ⟨fun k8 => ?_, fun n8' => ?_⟩⟩⟩⟩
  · have k1 := i1.mp k1
    have hp1 := adv (by omega)
    rw [hC.2.2.2.2.1 (Or.inl k1)]
    obtain ⟨hw, -⟩ := tk_word (Or.inl k1)
    have hnr := nC_r (Or.inr (Or.inr hw))
    have ekey : jSl (nC (pwd tx p)) 2 = kC (pwd tx p) 0 := by
      obtain ⟨z, hz⟩ := Int.eq_ofNat_of_zero_le (Int.le_of_lt hnr.1)
      rw [hz]
      have := jSl_n (a := z) (k := 2) (by omega) (by omega)
      rw [show ((2 : Nat) : Int) = 2 from rfl] at this
      rw [this]
      unfold kC
      rw [hz]
      omega
    rw [ekey]
    refine sp_81 h44 (by omega) ?_
    have hr1 := mAd_r m c 3 (kC (pwd tx p) 0)
    have hv1 := mAd_v m c 3 (kC (pwd tx p) 0)
    have hN1 := cN_ad (k := 3) (w := kC (pwd tx p) 0) hN
    have hr1' : ∀ (a : Nat) (e : Int), ¬ ((a = 5 ∨ a = 6) ∧ e = c) → ¬ (a = 4 ∧ (e = 4 ∨ e = 17)) → hy_u (mAd m c 3 (kC (pwd tx p) 0)) 4 17 (c : Int) a e = m a e := fun a e q1 q2 => (if_neg (by omega)).trans (hr1 a e q1 (by omega))
    have hN1' : cN (hy_u (mAd m c 3 (kC (pwd tx p) 0)) 4 17 (c : Int)) y0 (f :: stk) (cs :: css) none c K := cN_fr hN1 (fun a e q => if_neg (by omega))
    have v5 : hy_u (mAd m c 3 (kC (pwd tx p) 0)) 4 17 (c : Int) 5 (c : Int) = 3 := by rw [hy_ua (by decide)]; exact hv1.1
    have v6 : hy_u (mAd m c 3 (kC (pwd tx p) 0)) 4 17 (c : Int) 6 (c : Int) = kC (pwd tx p) 0 := by rw [hy_ua (by decide)]; exact hv1.2.1
    have v44 : hy_u (mAd m c 3 (kC (pwd tx p) 0)) 4 17 (c : Int) 4 4 = (c : Int) + 1 := by rw [hy_uk (by decide)]; exact hv1.2.2
    have v17 : hy_u (mAd m c 3 (kC (pwd tx p) 0)) 4 17 (c : Int) 4 17 = (c : Int) := hy_us _ _ _ _
    generalize hy_u (mAd m c 3 (kC (pwd tx p) 0)) 4 17 (c : Int) = m1 at hr1' hN1' v5 v6 v44 v17
    have ho1 : m1 12 (stk.length : Int) = o := by rw [hr1' _ _ (by omega) (by omega)]; exact o1
    have h61 : m1 6 o = kC ko ao := by rw [hr1' _ _ (by omega) (by omega)]; exact o4
    refine sp_82 (d := stk.length) (by rw [hr1' _ _ (by omega) (by omega), hd14]; omega) (by omega) ho1 (by omega) o3 h61 o5 ?_
    have hN2 := cN_att (y := (c : Int)) hN1' ho1 o3 h61 o5
    have hr2 := mAc_r m1 o ko ao (c : Int)
    refine hq _ _ ⟨fun a e q => ?_, ?_, Or.inl ⟨rfl, (3, vs, hd, gs, eA (pwd tx p), true, f :: stk, pnx tx p), ?_, ?_⟩⟩
    · rw [hy_uf (by omega), hr2 _ _ (by omega) (by omega), hr1' _ _ (by omega) (by omega)]
    · rw [hy_uk (by decide), hr2 _ _ (by omega) (by omega), hr1' _ _ (by omega) (by omega)]
    · rw [hs]
      unfold pT
      rw [if_pos k1]
    · refine ⟨hy_us _ _ _ _, by simp only [List.length_cons]; omega, fun v => ?_, Or.inr (Or.inr (Or.inr ⟨rfl, rfl, c, cs :: css, K, y0, pwd tx p, rfl, Or.inr (Or.inr hw), ?_, cN_fr hN2 (fun a e q => if_neg (by omega)), ?_, ?_, ?_, by omega⟩))⟩
      · have := hub v
        rw [if_pos rfl]
        show oH hd v + oL gs v + 0 + _ ≤ _
        omega
      · rw [hy_uk (by decide), hr2 _ _ (by omega) (by omega)]; exact v17
      · rw [hy_ua (by decide), hr2 _ _ (by omega) (by omega)]; exact v6
      · rw [hy_ua (by decide), hr2 _ _ (by omega) (by omega)]; exact v5
      · refine cL_u hL (fun a e q => ?_) ?_ ?_
        · rw [show hy_u (mAc m1 o ko ao (c : Int)) 4 16 3 a e = mAc m1 o ko ao (c : Int) a e from if_neg (by omega), hr2 _ _ (by omega) (by omega), hr1' _ _ (by omega) (by omega)]
        · rw [hy_uk (by decide), hr2 _ _ (by omega) (by omega), v44]; omega
        · rw [hy_uk (by decide), hr2 _ _ (by omega) (by omega), hr1' _ _ (by omega) (by omega)]; exact hd14
  · have k2 := i2.mp k2
    have hp1 := adv (by omega)
    rw [hC.2.2.2.2.1 (Or.inr k2)]
    obtain ⟨hw, -⟩ := tk_word (Or.inr k2)
    have fin : ∀ (i : Nat) (vs' : List Int) (m1 : hy_m), i < 8 → pT tx vs hd gs (f :: stk) p = .inl (3, vs', hd, gs, .var i, false, f :: stk, pnx tx p) → cL m1 qy vs' hd gs c (stk.length + 1) K y0 (fun v => (if i = v then 1 else 0) + oF (f :: stk) v) → (∀ (a : Nat) (e : Int), ¬ (a = 4 ∧ e = 10) → a ≠ 9 → a ≠ 10 → a ≠ 11 → m1 a e = m a e) → wq_82 (i : Int) m1 (fun _ m4 => Q 1 (hy_u m4 4 16 3)) := by
      intro i vs' m1 hi hpt hL1 hr1
      have hN1 : cN m1 y0 (f :: stk) (cs :: css) none c K := cN_fr hN (fun a e q => hr1 a e (by omega) (by omega) (by omega) (by omega))
      have ho1 : m1 12 (stk.length : Int) = o := by rw [hr1 _ _ (by omega) (by omega) (by omega) (by omega)]; exact o1
      have h61 : m1 6 o = kC ko ao := by rw [hr1 _ _ (by omega) (by omega) (by omega) (by omega)]; exact o4
      refine sp_82 (d := stk.length) (by rw [hL1.2.2.1]; omega) (by omega) ho1 (by omega) o3 h61 o5 ?_
      have hN2 := cN_att (y := (i : Int)) hN1 ho1 o3 h61 o5
      have hr2 := mAc_r m1 o ko ao (i : Int)
      refine hq _ _ ⟨fun a e q => ?_, ?_, Or.inl ⟨rfl, _, hs.trans hpt, ?_⟩⟩
      · rw [hy_uf (by omega), hr2 _ _ (by omega) (by omega), hr1 _ _ (by omega) (by omega) (by omega) (by omega)]
      · rw [hy_uk (by decide), hr2 _ _ (by omega) (by omega), hr1 _ _ (by omega) (by omega) (by omega) (by omega)]
      · refine ⟨hy_us _ _ _ _, by simp only [List.length_cons]; omega, fun v => ?_, Or.inr (Or.inr (Or.inl ⟨rfl, rfl, ?_, c, cs :: css, K, y0, (i : Int), cN_fr hN2 (fun a e q => if_neg (by omega)), ⟨rfl, Or.inl (by omega), rfl, hi, ?_⟩, cL_fr hL1 (fun a e q => ?_), by omega⟩))⟩
        · have := hub v
          rw [if_pos rfl]
          show oH hd v + oL gs v + (if i = v then 1 else 0) + _ ≤ _
          split <;> omega
        · rw [hy_uk (by decide), hr2 _ _ (by omega) (by omega), hr1 _ _ (by omega) (by omega) (by omega) (by omega)]; exact h17
        · rw [hy_ua (by decide), hr2 _ _ (by omega) (by omega), hr1 _ _ (by omega) (by omega) (by omega) (by omega)]; exact n1 _ (by omega) (by omega)
        · rw [show hy_u (mAc m1 o ko ao (i : Int)) 4 16 3 a e = mAc m1 o ko ao (i : Int) a e from if_neg (by omega), hr2 _ _ (by omega) (by omega)]
    refine sp_83 hL hw (fun v => by have := hub v; omega) (fun i m1 hl hi8 hL1 hr1 => ⟨fun _ => fin i vs m1 hi8 ?_ hL1 hr1, fun q => by omega⟩) (fun m1 hl h8 hL1 hr1 => ⟨fun _ => fin vs.length (vs ++ [pwd tx p]) m1 h8 ?_ hL1 hr1, fun q => by omega⟩) (fun hl h8 => ⟨fun q => absurd rfl q, fun _ => hq _ _ ⟨fun a e _ => rfl, rfl, Or.inr (Or.inl ⟨rfl, hs.trans ?_, fun _ _ _ => rfl⟩)⟩⟩)
    · unfold pT
      rw [if_neg (by omega), if_neg (by omega), if_pos k2, hl]
    · unfold pT
      rw [if_neg (by omega), if_neg (by omega), if_pos k2, hl]
      dsimp only
      rw [if_pos h8]
    · unfold pT
      rw [if_neg (by omega), if_neg (by omega), if_pos k2, hl]
      dsimp only
      rw [if_neg h8]
  · have k3 := i3.mp k3
    have hp1 := adv (by omega)
    rw [hC.2.2.2.2.2 k3]
    refine sp_81 h44 (by omega) ?_
    have hr1 := mAd_r m c 2 (pin tx p)
    have hv1 := mAd_v m c 2 (pin tx p)
    have hN1 := cN_ad (k := 2) (w := pin tx p) hN
    generalize mAd m c 2 (pin tx p) = m1 at hr1 hN1 hv1
    have ho1 : m1 12 (stk.length : Int) = o := by rw [hr1 _ _ (by omega) (by omega)]; exact o1
    have h61 : m1 6 o = kC ko ao := by rw [hr1 _ _ (by omega) (by omega)]; exact o4
    refine sp_82 (d := stk.length) (by rw [hr1 _ _ (by omega) (by omega), hd14]; omega) (by omega) ho1 (by omega) o3 h61 o5 ?_
    have hN2 := cN_up (cN_att (y := (c : Int)) hN1 ho1 o3 h61 o5)
    have hr2 := mAc_r m1 o ko ao (c : Int)
    refine hq _ _ ⟨fun a e q => ?_, ?_, Or.inl ⟨rfl, (3, vs, hd, gs, .num (pin tx p), false, f :: stk, pnx tx p), ?_, ?_⟩⟩
    · rw [hy_uf (by omega), hr2 _ _ (by omega) (by omega), hr1 _ _ (by omega) (by omega)]
    · rw [hy_uk (by decide), hr2 _ _ (by omega) (by omega), hr1 _ _ (by omega) (by omega)]
    · rw [hs]
      unfold pT
      rw [if_neg (by omega), if_pos k3]
    · refine ⟨hy_us _ _ _ _, by simp only [List.length_cons]; omega, fun v => ?_, Or.inr (Or.inr (Or.inl ⟨rfl, rfl, ?_, c + 1, cs :: css, K, y0, (c : Int), cN_fr hN2 (fun a e q => if_neg (by omega)), Or.inl ⟨rfl, Or.inr ⟨by omega, by omega, fun q => ?_⟩, by omega, ?_, ?_⟩, cL_oc (cL_u hL (fun a e q => ?_) ?_ ?_) (fun v => ?_), by omega⟩))⟩
      · have := hub v
        rw [if_pos rfl]
        show oH hd v + oL gs v + 0 + _ ≤ _
        omega
      · rw [hy_uk (by decide), hr2 _ _ (by omega) (by omega), hr1 _ _ (by omega) (by omega)]; exact h17
      · have := n2.2 _ q
        omega
      · rw [hy_ua (by decide), hr2 _ _ (by omega) (by omega)]; exact hv1.1
      · rw [hy_ua (by decide), hr2 _ _ (by omega) (by omega)]; exact hv1.2.1
      · rw [show hy_u (mAc m1 o ko ao (c : Int)) 4 16 3 a e = mAc m1 o ko ao (c : Int) a e from if_neg (by omega), hr2 _ _ (by omega) (by omega), hr1 _ _ (by omega) (by omega)]
      · rw [hy_uk (by decide), hr2 _ _ (by omega) (by omega), hv1.2.2]; omega
      · rw [hy_uk (by decide), hr2 _ _ (by omega) (by omega), hr1 _ _ (by omega) (by omega)]; exact hd14
      · show oF (f :: stk) v = 0 + oF (f :: stk) v
        omega
  · have k8 := i4.mp k8
    have hp1 := adv (by omega)
    refine hq _ _ ⟨fun a e q => hy_uf (by omega), hy_uk (by decide), Or.inl ⟨rfl, (2, vs, hd, gs, eNil, false, f :: stk, pnx tx p), ?_, hy_us _ _ _ _, by simp only [List.length_cons]; omega, fun v => ?_, Or.inr (Or.inl ⟨Or.inr rfl, ?_, by simp, c, cs :: css, K, y0, cN_fr hN (fun a e q => if_neg (by omega)), cL_fr hL (fun a e q => if_neg (by omega)), ?_⟩)⟩⟩
    · rw [hs]
      unfold pT
      rw [if_neg (by omega), if_neg (by omega), if_neg (by omega), if_pos k8]
    · have := hub v
      rw [if_neg (by decide)]
      omega
    · rw [hy_uk (by decide)]; exact h17
    · rw [if_pos rfl]
      omega
  · refine hq _ _ ⟨fun a e _ => rfl, rfl, Or.inr (Or.inl ⟨rfl, hs.trans ?_, fun _ _ _ => rfl⟩)⟩
    unfold pT
    rw [if_neg (fun q => n1' (i1.mpr q)), if_neg (fun q => n3' (i3.mpr q)), if_neg (fun q => n2' (i2.mpr q)), if_neg (fun q => n8' (i4.mpr q))]
end CG
