/-! THE CLASS'S READER: a clause, a query, the fault -/
section CI
variable {m m' : hy_m} {tx : List Int} {Q : Int → hy_m → Prop} {qy : Bool} {vs : List Int} {hd : Option pE} {gs : List pE} {u d c p : Nat} {K : List (pE × Int)} {y0 : Int} {stk : List pF} {css : List (List Int)} {t : pE} {n : Int}
theorem key0 {w : Int} (h : wOK w) : jSl (nC w) 2 = kC w 0 := by
  have hnr := nC_r (Or.inr (Or.inr h))
  obtain ⟨z, hz⟩ := Int.eq_ofNat_of_zero_le (Int.le_of_lt hnr.1)
  rw [hz]
  have := jSl_n (a := z) (k := 2) (by omega) (by omega)
  rw [show ((2 : Nat) : Int) = 2 from rfl] at this
  rw [this]
  unfold kC
  rw [hz]
  omega
theorem lt120 (hC : cCu m tx p) (htl : tx.length ≤ 120) (h : pk1 tx p ≠ 0) : p < 120 := by
  have := pk_pos hC.1 h
  have := (pnx_ok hC.1).1
  omega
/-- a goal begins -/
theorem sp_73 {nm : Bool} (hT : cTx m tx) (hC : cCu m tx p) (hS : cSt m qy (0, vs, hd, gs, t, nm, stk, p)) (hq : ∀ r m', aO m m' tx qy (0, vs, hd, gs, t, nm, stk, p) p r → Q r m') : wq_73 m Q := by
  obtain ⟨i1, i2, i3, i4, i5, i6, i7, i8, i9, i10, i11, i12⟩ := pK_iff (tx := tx) (p := p)
  have htl := hT.2.1
  obtain ⟨s1, s2, s3, s4⟩ := hS
  rcases s4 with ⟨-, h17, rfl, c, K, hD, hV, h15, h14, hg4, hhg, hc⟩ | ⟨a1, -⟩ | ⟨a1, -⟩ | ⟨a1, -⟩
  · obtain ⟨d1, d2, d3, d4, d5, d6, d7, d8, d9, d10, d11, d12, d13, d14⟩ := hD
    have h45 : m 4 5 = -9 ↔ hd = none := by
      constructor
      · intro e
        cases hh : hd with
        | none => rfl
        | some h =>
          have := cP_A (d4 _ (d9 h hh))
          rcases this with this | this
          · have := this.1; dsimp only at this; omega
          · have := this.1; dsimp only at this; omega
      · exact d10
    unfold wq_73
    rw [hC.2.2.1]
    refine ⟨fun k1 => ?_, fun n1 => hq _ _ (aO_bad (fun a e q => rfl) rfl (fun _ _ _ => rfl) ?_ rfl)⟩
    · have k1 := i1.mp k1
      have hp := lt120 hC htl (by omega)
      have hp1 := pk_pos hC.1 (show pk1 tx p ≠ 0 by omega)
      obtain ⟨hw, -⟩ := tk_word (Or.inl k1)
      have hnm : nmOK (pwd tx p) := Or.inr (Or.inr hw)
      have h24 : m 2 4 = nC (pwd tx p) := hC.2.2.2.2.1 (Or.inl k1)
      have e25 : jSl (m 2 4) 2 = kC (pwd tx p) 0 := by rw [h24]; exact key0 hw
      have hub : ∀ v, oH hd v + oL gs v + 0 + oF [] v ≤ p := fun v => by
        have := s3 v
        rw [if_neg (by decide)] at this
        exact this
      have hbb := bI_b (pwd tx p) 0
      have good : ∀ x1 : Int, ((!qy && hd.isNone) = true → x1 ≠ 0) → ((!qy && hd.isNone) = false → x1 = 0) → ¬ ((!qy && hd.isNone && bBi (pwd tx p) 0) = true ∧ pk1 tx (pnx tx p) ≠ 6) → wq_73_68 x1 (kC (pwd tx p) 0) m Q := by
        intro x1 hx1 hx0 hno
        have hst : pSt tx qy (0, vs, hd, gs, t, nm, [], p) = .inl (3, vs, hd, gs, eA (pwd tx p), true, [], pnx tx p) := by
          unfold pSt
          dsimp only
          rw [if_pos rfl, if_pos k1, if_neg hno]
        unfold wq_73_68
        refine sp_81 d2 (by omega) ?_
        have hr1 := mAd_r m c 3 (kC (pwd tx p) 0)
        have hv1 := mAd_v m c 3 (kC (pwd tx p) 0)
        generalize mAd m c 3 (kC (pwd tx p) 0) = m1 at hr1 hv1
        have hE : cE m m1 (cA c []) := by
          intro z hz
          have : z < c := by rcases hz with hz | hz <;> omega
          exact ⟨hr1 _ _ (by omega) (by omega), hr1 _ _ (by omega) (by omega), fun j _ _ => hr1 _ _ (by omega) (by omega)⟩
        have fin : ∀ M : hy_m, (∀ (a : Nat) (e : Int), ¬ (a = 4 ∧ (e = 17 ∨ e = 16 ∨ e = 5 ∨ e = 7)) → a ≠ 8 → a ≠ 11 → M a e = m1 a e) → M 4 17 = c → M 4 16 = 3 → (∀ i : Nat, i < gs.length → M 8 (i : Int) = m 8 (i : Int) ∧ M 11 (i : Int) = m 11 (i : Int)) → ((!qy && hd.isNone) = true → M 4 5 = c ∧ M 4 7 = 0) → ((!qy && hd.isNone) = false → M 4 5 = m 4 5 ∧ M 4 7 = (gs.length : Int) + 1 ∧ M 8 (gs.length : Int) = c ∧ M 11 (gs.length : Int) = 0) → Q 1 M := by
          intro M hM g17 g16 grow gh gg
          have hME : cE m M (cA c []) := fun z hz => ⟨(hM _ _ (by omega) (by omega) (by omega)).trans (hE z hz).1, (hM _ _ (by omega) (by omega) (by omega)).trans (hE z hz).2.1, fun j q1 q2 => (hM _ _ (by omega) (by omega) (by omega)).trans ((hE z hz).2.2 j q1 q2)⟩
          refine hq _ _ ⟨fun a e q => ?_, ?_, Or.inl ⟨rfl, _, hst, g16, Nat.zero_le _, fun v => ?_, Or.inr (Or.inr (Or.inr ⟨rfl, rfl, c, [], K, (c : Int), pwd tx p, rfl, hnm, g17, ⟨fun i q1 q2 => ?_, ⟨List.nodup_nil, (fun z hz => by cases hz)⟩, rfl, fun q hq => cT_up (fun z hz => hz) hME (d4 q hq), d3⟩, ?_, ?_, ⟨?_, ?_, ?_, ⟨?_, hV.2.1, fun i hi => ?_⟩, fun i hi => ?_, fun hh => ⟨(gh hh).1, (gh hh).2, hhg hh⟩, fun hh => ?_, fun v hv => ?_, fun v hv => ?_, fun i hi => ?_, by omega⟩, by omega⟩))⟩⟩
          · rw [hM _ _ (by omega) (by omega) (by omega), hr1 _ _ (by omega) (by omega)]
          · rw [hM _ _ (by omega) (by omega) (by omega), hr1 _ _ (by omega) (by omega)]
          · have := hub v
            rw [if_pos rfl]
            show _ + 0 + _ ≤ _
            omega
          · rw [hM _ _ (by omega) (by omega) (by omega), hr1 _ _ (by omega) (by omega)]; exact d1 i q1 q2
          · rw [hM _ _ (by omega) (by omega) (by omega)]; exact hv1.2.1
          · rw [hM _ _ (by omega) (by omega) (by omega)]; exact hv1.1
          · rw [hM _ _ (by omega) (by omega) (by omega), hr1 _ _ (by omega) (by omega)]; exact h15
          · rw [hM _ _ (by omega) (by omega) (by omega), hv1.2.2]; omega
          · rw [hM _ _ (by omega) (by omega) (by omega), hr1 _ _ (by omega) (by omega)]; exact h14
          · rw [hM _ _ (by omega) (by omega) (by omega), hr1 _ _ (by omega) (by omega)]; exact hV.1
          · rw [hM _ _ (by omega) (by omega) (by omega), hr1 _ _ (by omega) (by omega)]; exact hV.2.2 i hi
          · rw [(grow i hi).1]; exact d11 i hi
          · obtain ⟨b1, b2, b3, b4⟩ := gg hh
            refine ⟨fun h e => by rw [b1]; exact d9 h e, fun e => by rw [b1]; exact d10 e, b2, b3, hg4, ?_⟩
            rw [b4]
            exact ⟨0, rfl, by decide, fun v hv => ⟨fun q => by simp at q, fun q => absurd q (Nat.lt_irrefl 0)⟩⟩
          · rw [hM _ _ (by omega) (by omega) (by omega), hr1 _ _ (by omega) (by omega), d12 v hv]
            rfl
          · exact d13 v hv
          · rw [(grow i hi).2]; exact d14 i hi
        refine ⟨fun h0 => ⟨fun h5 => ?_, fun h5 => ?_⟩, fun h1 => ?_⟩
        · rw [hr1 _ _ (by omega) (by omega), d5] at h5
          omega
        · rw [hr1 4 7 (by omega) (by omega), d5]
          have hh : (!qy && hd.isNone) = false := by
            cases q : (!qy && hd.isNone) with
            | true => exact absurd h0 (hx1 q)
            | false => rfl
          refine ⟨by omega, by omega, by omega, by omega, show -2147483648 ≤ _ ∧ _ < 2147483648 by omega, fin _ (fun a e q1 q2 q3 => ?_) ?_ (hy_us _ _ _ _) (fun i hi => ⟨?_, ?_⟩) (fun q => by rw [hh] at q; cases q) (fun _ => ⟨?_, ?_, ?_, ?_⟩)⟩
          · unfold hy_u
            rw [if_neg (by omega), if_neg (by omega), if_neg (by omega), if_neg (by omega), if_neg (by omega)]
          · rw [hy_uk (by decide), hy_uk (by decide), hy_ua (by decide), hy_ua (by decide), hy_us]
          · rw [hy_ua (by decide), hy_ua (by decide), hy_ua (by decide), hy_uk (by omega), hy_ua (by decide), hr1 _ _ (by omega) (by omega)]
          · rw [hy_ua (by decide), hy_ua (by decide), hy_uk (by omega), hy_ua (by decide), hy_ua (by decide), hr1 _ _ (by omega) (by omega)]
          · rw [hy_uk (by decide), hy_uk (by decide), hy_ua (by decide), hy_ua (by decide), hy_uk (by decide), hr1 _ _ (by omega) (by omega)]
          · rw [hy_uk (by decide), hy_us]
          · rw [hy_ua (by decide), hy_ua (by decide), hy_ua (by decide), hy_us]
          · rw [hy_ua (by decide), hy_ua (by decide), hy_us]
        · have hh : (!qy && hd.isNone) = true := by
            cases q : (!qy && hd.isNone) with
            | false => exact absurd (hx0 q) h1
            | true => rfl
          have hgs := hhg hh
          refine fin _ (fun a e q1 q2 q3 => ?_) ?_ (hy_us _ _ _ _) (fun i hi => ⟨?_, ?_⟩) (fun _ => ⟨?_, ?_⟩) (fun q => by rw [hh] at q; cases q)
          · unfold hy_u
            rw [if_neg (by omega), if_neg (by omega), if_neg (by omega)]
          · rw [hy_uk (by decide), hy_uk (by decide), hy_us]
          · rw [hy_ua (by decide), hy_ua (by decide), hy_ua (by decide), hr1 _ _ (by omega) (by omega)]
          · rw [hy_ua (by decide), hy_ua (by decide), hy_ua (by decide), hr1 _ _ (by omega) (by omega)]
          · rw [hy_uk (by decide), hy_us]
          · rw [hy_uk (by decide), hy_uk (by decide), hy_uk (by decide), hr1 _ _ (by omega) (by omega), d5, hgs]
            rfl
      have nh : (!qy && hd.isNone) = false → wq_73_33 m Q := by
        intro hh
        unfold wq_73_33
        rw [e25]
        refine ⟨fun _ => good 0 (fun q => by rw [hh] at q; cases q) (fun _ => rfl) (fun q => ?_), fun q => absurd rfl q⟩
        have := q.1
        rw [hh] at this
        exact absurd this (by simp)
      rw [h15, e25]
      refine ⟨fun hq1 => nh ?_, fun hq0 => ⟨fun hne => nh ?_, fun heq => ⟨fun q => absurd q (by decide), fun _ => ?_⟩⟩⟩
      · unfold qb at hq1
        cases qy with
        | true => rfl
        | false => exact absurd rfl hq1
      · cases hh : hd with
        | none => exact absurd (h45.mpr hh) hne
        | some h => simp
      · have hnone := h45.mp heq
        have hqf : qy = false := by
          unfold qb at hq0
          cases qy with
          | true => exact absurd hq0 (by decide)
          | false => rfl
        have hh : (!qy && hd.isNone) = true := by
          rw [hqf, hnone]
          rfl
        refine sp_23 hnm (by omega) ⟨fun hz => good 1 (fun _ => by decide) (fun q => by rw [hh] at q; cases q) (fun q => ?_), fun hnz => ?_⟩
        · have := q.1
          rw [Bool.and_eq_true] at this
          exact hbb.mp this.2 hz
        · refine sp_137 hT hC.2.2.2.1 (pnx_le hC.1) ?_
          have e6 : (tk (tx.drop (sk tx (p + (tk (tx.drop p)).2)))).1 = pk1 tx (pnx tx p) := rfl
          rw [e6]
          by_cases h6 : pk1 tx (pnx tx p) = 6
          · rw [if_pos h6]
            exact ⟨fun _ => good 1 (fun _ => by decide) (fun q => by rw [hh] at q; cases q) (fun q => q.2 h6), fun q => absurd q (by decide)⟩
          · rw [if_neg h6]
            refine ⟨fun q => absurd rfl q, fun _ => hq _ _ (aO_bad (fun a e q => rfl) rfl (fun _ _ _ => rfl) ?_ rfl)⟩
            unfold pSt
            dsimp only
            rw [if_pos rfl, if_pos k1, if_pos]
            rw [hh, hbb.mpr hnz]
            exact ⟨rfl, h6⟩
    · unfold pSt
      dsimp only
      rw [if_pos rfl, if_neg (fun q => n1 (i1.mpr q))]
  · omega
  · omega
  · omega
/-- the first item of a list -/
theorem sp_75 {nm : Bool} (hT : cTx m tx) (hC : cCu m tx p) (hS : cSt m qy (2, vs, hd, gs, t, nm, stk, p)) (hq : ∀ r m', aO m m' tx qy (2, vs, hd, gs, t, nm, stk, p) p r → Q r m') : wq_75 m Q := by
  obtain ⟨i1, i2, i3, i4, i5, i6, i7, i8, i9, i10, i11, i12⟩ := pK_iff (tx := tx) (p := p)
  have htl := hT.2.1
  obtain ⟨s1, s2, s3, s4⟩ := hS
  rcases s4 with ⟨a1, -⟩ | ⟨-, h17, hne, c, css, K, y0, hN, hL, hc⟩ | ⟨a1, -⟩ | ⟨a1, -⟩
  · omega
  · cases stk with
    | nil => exact absurd rfl hne
    | cons f stk =>
      cases css with
      | nil => exact hN.2.2.1.elim
      | cons cs css =>
        rw [if_pos rfl] at hc
        have hub : ∀ v, oH hd v + oL gs v + 0 + oF (f :: stk) v ≤ p := fun v => by
          have := s3 v
          rw [if_neg (by decide)] at this
          exact this
        have hdp : stk.length + 1 ≤ p := by simpa using s2
        have hpl : p ≤ 120 := Nat.le_trans hC.1 htl
        obtain ⟨n1, n2, n3, n4, n5⟩ := hN
        obtain ⟨o, ko, ao, o1, o2, o3, o4, o5, -⟩ := cF_o n3.1
        have hor := n2.2 o (by rw [List.flatten_cons]; exact List.mem_append_left _ o2)
        have hN : cN m y0 (f :: stk) (cs :: css) none c K := ⟨n1, n2, n3, n4, n5⟩
        have o4 : m 6 o = kC ko ao := o4
        have h44 := hL.2.1
        have h14 : m 4 14 = (stk.length : Int) + 1 := by
          rw [hL.2.2.1]
          simp
        unfold wq_75
        rw [hC.2.2.1]
        refine ⟨fun n9 => ?_, fun k9 => ?_⟩
        · refine sp_81 h44 (by omega) ?_
          have hr1 := mAd_r m c 4 184
          have hv1 := mAd_v m c 4 184
          have hN1 := cN_ad (k := 4) (w := 184) hN
          generalize mAd m c 4 184 = m1 at hr1 hv1 hN1
          have ho1 : m1 12 (stk.length : Int) = o := by rw [hr1 _ _ (by omega) (by omega)]; exact o1
          have h61 : m1 6 o = kC ko ao := by rw [hr1 _ _ (by omega) (by omega)]; exact o4
          refine sp_82 (d := stk.length) (by rw [hr1 _ _ (by omega) (by omega), h14]) (by omega) ho1 (by omega) o3 h61 o5 ?_
          have hN2 := cN_att (y := (c : Int)) hN1 ho1 o3 h61 o5
          have hr2 := mAc_r m1 o ko ao (c : Int)
          generalize mAc m1 o ko ao (c : Int) = m2 at hN2 hr2
          have h214 : m2 4 14 = ((stk.length + 1 : Nat) : Int) := by
            rw [hr2 _ _ (by omega) (by omega), hr1 _ _ (by omega) (by omega), h14]
            omega
          by_cases hd120 : stk.length + 1 < 120
          · refine sp_80 (d := stk.length + 1) h214 hd120 ?_
            have hr3 := mOp_r m2 (stk.length + 1) (c : Int) 1
            have hv3 := mOp_v m2 (stk.length + 1) (c : Int) 1
            have hN3 := cN_open (m' := mOp m2 (stk.length + 1) (c : Int) 1) (f := (1, 2, [])) hN2 (fun a e q => hr3 _ _ (by simp only [List.length_cons] at q; omega) (by omega)) (fun A => Or.inr (Or.inl ⟨rfl, rfl, trivial, (c : Int), rfl, by rw [hr3 _ _ (by omega) (by omega), hr2 _ _ (by omega) (by omega), hv1.2.1]; decide, by rw [hr3 _ _ (by omega) (by omega), hr2 _ _ (by omega) (by omega), hv1.1], (fun z hz => by cases hz), hv3.1, hv3.2.1⟩))
            have hL3 : cL (mOp m2 (stk.length + 1) (c : Int) 1) qy vs hd gs (c + 1) (stk.length + 1 + 1) K y0 (oF ((1, 2, []) :: f :: stk)) := by
              refine cL_oc (cL_u hL (fun a e q => ?_) ?_ ?_) (fun v => ?_)
              · rw [hr3 _ _ (by omega) (by omega), hr2 _ _ (by omega) (by omega), hr1 _ _ (by omega) (by omega)]
              · rw [hr3 _ _ (by omega) (by omega), hr2 _ _ (by omega) (by omega), hv1.2.2]; omega
              · rw [hv3.2.2]; omega
              · show oF (f :: stk) v = 0 + oF (f :: stk) v
                omega
            have hfr : ∀ (a : Nat) (e : Int), a ≠ 5 → a ≠ 6 → a ≠ 7 → a ≠ 12 → a ≠ 13 → ¬ (a = 4 ∧ (e = 4 ∨ e = 14)) → mOp m2 (stk.length + 1) (c : Int) 1 a e = m a e := fun a e q1 q2 q3 q4 q5 q6 => by
              rw [hr3 _ _ (by omega) (by omega), hr2 _ _ (by omega) (by omega), hr1 _ _ (by omega) (by omega)]
            have hC3 : cCu (mOp m2 (stk.length + 1) (c : Int) 1) tx p := by
              refine ⟨hC.1, ?_, ?_, ?_, fun z => ?_, fun z => ?_⟩
              · rw [hfr _ _ (by omega) (by omega) (by omega) (by omega) (by omega) (by omega)]; exact hC.2.1
              · rw [hfr _ _ (by omega) (by omega) (by omega) (by omega) (by omega) (by omega)]; exact hC.2.2.1
              · rw [hfr _ _ (by omega) (by omega) (by omega) (by omega) (by omega) (by omega)]; exact hC.2.2.2.1
              · rw [hfr _ _ (by omega) (by omega) (by omega) (by omega) (by omega) (by omega)]; exact hC.2.2.2.2.1 z
              · rw [hfr _ _ (by omega) (by omega) (by omega) (by omega) (by omega) (by omega)]; exact hC.2.2.2.2.2 z
            have hpt : pSt tx qy (2, vs, hd, gs, t, nm, f :: stk, p) = pT tx vs hd gs ((1, 2, []) :: f :: stk) p := by
              unfold pSt
              dsimp only
              rw [if_neg (by decide), if_neg (by decide), if_pos rfl, if_neg (fun q => n9 (i5.mpr q))]
            have hp120 : p < 120 ∨ p = 120 := by omega
            rcases hp120 with hp | hp
            · refine sp_74 _ hC3 hp hN3 hL3 (by omega) (by simp only [List.length_cons]; omega) (fun v => ?_) ?_ hpt (fun r m' hO => hq r m' (aO_tr (fun a e q => ?_) ?_ (fun i q1 q2 => by rw [hr3 _ _ (by omega) (by omega), hr2 _ _ (by omega) (by omega), hr1 _ _ (by omega) (by omega)]) hO))
              · have := hub v
                show oH hd v + oL gs v + (0 + oF (f :: stk) v) ≤ p
                omega
              · rw [hfr _ _ (by omega) (by omega) (by omega) (by omega) (by omega) (by omega)]; exact h17
              · exact hfr _ _ (by omega) (by omega) (by omega) (by omega) (by omega) (by omega)
              · exact hfr _ _ (by omega) (by omega) (by omega) (by omega) (by omega) (by omega)
            · have hk0 : pk1 tx p = 0 := by
                unfold pk1
                rw [List.drop_eq_nil_of_le (by omega)]
                rfl
              unfold wq_74
              rw [hC3.2.2.1]
              refine ⟨fun q => absurd (i1.mp q) (by omega), fun _ => ⟨fun q => absurd (i2.mp q) (by omega), fun _ => ⟨fun q => absurd (i3.mp q) (by omega), fun _ => ⟨fun q => absurd (i4.mp q) (by omega), fun _ => hq _ _ (aO_bad (fun a e q => hfr _ _ (by omega) (by omega) (by omega) (by omega) (by omega) (by omega)) (hfr _ _ (by omega) (by omega) (by omega) (by omega) (by omega) (by omega)) (fun i q1 q2 => by rw [hr3 _ _ (by omega) (by omega), hr2 _ _ (by omega) (by omega), hr1 _ _ (by omega) (by omega)]) ?_ rfl)⟩⟩⟩⟩
              rw [hpt]
              unfold pT
              rw [if_neg (by omega), if_neg (by omega), if_neg (by omega), if_neg (by omega)]
          · have hp : p = 120 := by omega
            have hk0 : pk1 tx p = 0 := by
              unfold pk1
              rw [List.drop_eq_nil_of_le (by omega)]
              rfl
            have hfr : ∀ (a : Nat) (e : Int), a ≠ 5 → a ≠ 6 → a ≠ 7 → ¬ (a = 4 ∧ (e = 4 ∨ e = 14)) → m2 a e = m a e := fun a e q1 q2 q3 q6 => by
              rw [hr2 _ _ (by omega) (by omega), hr1 _ _ (by omega) (by omega)]
            unfold wq_80
            rw [h214]
            refine ⟨fun _ => ?_, fun q => by omega⟩
            show wq_74 m2 (fun r4 m4 => Q r4 m4)
            unfold wq_74
            rw [hfr 2 2 (by omega) (by omega) (by omega) (by omega), hC.2.2.1]
            refine ⟨fun q => absurd (i1.mp q) (by omega), fun _ => ⟨fun q => absurd (i2.mp q) (by omega), fun _ => ⟨fun q => absurd (i3.mp q) (by omega), fun _ => ⟨fun q => absurd (i4.mp q) (by omega), fun _ => hq _ _ (aO_bad (fun a e q => hfr _ _ (by omega) (by omega) (by omega) (by omega)) (hfr _ _ (by omega) (by omega) (by omega) (by omega)) (fun i q1 q2 => by rw [hr2 _ _ (by omega) (by omega), hr1 _ _ (by omega) (by omega)]) ?_ rfl)⟩⟩⟩⟩
            unfold pSt
            dsimp only
            rw [if_neg (by decide), if_neg (by decide), if_pos rfl, if_neg (by omega)]
            unfold pT
            rw [if_neg (by omega), if_neg (by omega), if_neg (by omega), if_neg (by omega)]
        · have k9 := i5.mp k9
          have hp := lt120 hC htl (by omega)
          refine sp_81 h44 (by omega) ?_
          have hr1 := mAd_r m c 3 47980
          have hv1 := mAd_v m c 3 47980
          have hN1 := cN_ad (k := 3) (w := 47980) hN
          generalize mAd m c 3 47980 = m1 at hr1 hv1 hN1
          have ho1 : m1 12 (stk.length : Int) = o := by rw [hr1 _ _ (by omega) (by omega)]; exact o1
          have h61 : m1 6 o = kC ko ao := by rw [hr1 _ _ (by omega) (by omega)]; exact o4
          refine sp_82 (d := stk.length) (by rw [hr1 _ _ (by omega) (by omega), h14]) (by omega) ho1 (by omega) o3 h61 o5 ?_
          have hN2 := cN_up (cN_att (y := (c : Int)) hN1 ho1 o3 h61 o5)
          have hr2 := mAc_r m1 o ko ao (c : Int)
          generalize mAc m1 o ko ao (c : Int) = m2 at hN2 hr2
          have hfr : ∀ (a : Nat) (e : Int), a ≠ 5 → a ≠ 6 → a ≠ 7 → ¬ (a = 4 ∧ (e = 4 ∨ e = 16)) → hy_u m2 4 16 3 a e = m a e := fun a e q1 q2 q3 q6 => by
            rw [show hy_u m2 4 16 3 a e = m2 a e from if_neg (by omega), hr2 _ _ (by omega) (by omega), hr1 _ _ (by omega) (by omega)]
          refine hq _ _ (aO_closed (t' := eNil) (n' := (c : Int)) (c := c + 1) (stk := f :: stk) (fun a e q => hfr _ _ (by omega) (by omega) (by omega) (by omega)) (hfr _ _ (by omega) (by omega) (by omega) (by omega)) (hy_us _ _ _ _) (by rw [hfr _ _ (by omega) (by omega) (by omega) (by omega)]; exact h17) (by simp only [List.length_cons]; omega) (by omega) hC.1 ?_ (cN_fr hN2 (fun a e q => if_neg (by omega))) ⟨rfl, Or.inr ⟨by omega, by omega, fun q => by have := n2.2 _ q; omega⟩, by omega, ?_, ?_, by decide, Or.inl rfl, Or.inr ⟨Int.le_refl 0, rfl⟩⟩ (cL_oc (cL_u hL (fun a e q => hfr _ _ (by omega) (by omega) (by omega) (by omega)) ?_ ?_) (fun v => ?_)) (by omega) (fun v => ?_) rfl)
          · unfold pSt
            dsimp only
            rw [if_neg (by decide), if_neg (by decide), if_pos rfl, if_pos k9]
          · rw [hy_ua (by decide), hr2 _ _ (by omega) (by omega), hv1.2.1]; decide
          · rw [hy_ua (by decide), hr2 _ _ (by omega) (by omega), hv1.1]; rfl
          · rw [hy_uk (by decide), hr2 _ _ (by omega) (by omega), hv1.2.2]; omega
          · rw [hfr _ _ (by omega) (by omega) (by omega) (by omega), h14]; simp
          · show oF (f :: stk) v = 0 + oF (f :: stk) v
            omega
          · have := hub v
            show oH hd v + oL gs v + 0 + oF (f :: stk) v ≤ p
            omega
  · omega
  · omega
end CI
