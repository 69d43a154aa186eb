/-! THE CLASS'S ARITHMETIC: evaluate -/
section CEW
variable {X : cX} {U : uX} {V : aX} {T : hy_T} {m m0 m' : hy_m} {B : bM} {s : Nat → pE} {Q : Int → hy_m → Prop} {P : Int → Int → hy_m → Prop} {x : Int} {t : pE}
theorem op_sh {k : Int} {b : pE} (lb : isL b) (q2 : oI k (eN b) ≠ -9) : ∃ a1 a2, b = .add a1 (.add a2 (.num 0)) := by
  obtain ⟨e2, -⟩ := oI_2 q2
  cases b with
  | add a1 r =>
    cases r with
    | add a2 r2 =>
      have e2 : eN r2 + 1 + 1 = 2 := e2
      cases r2 with
      | num i =>
        have : i = 0 := lb
        exact ⟨a1, a2, by rw [this]⟩
      | add _ r3 =>
        have : eN r3 + 1 + 1 + 1 = 2 := e2
        omega
      | var _ => exact lb.elim
      | mulL _ _ => exact lb.elim
      | sub _ _ => exact lb.elim
      | neg _ => exact lb.elim
      | mulR _ _ => exact lb.elim
    | num _ => exact absurd (show (1 : Nat) = 2 from e2) (by decide)
    | var _ => exact lb.elim
    | mulL _ _ => exact lb.elim
    | sub _ _ => exact lb.elim
    | neg _ => exact lb.elim
    | mulR _ _ => exact lb.elim
  | num _ => exact absurd (show (0 : Nat) = 2 from e2) (by decide)
  | var _ => exact lb.elim
  | mulL _ _ => exact lb.elim
  | sub _ _ => exact lb.elim
  | neg _ => exact lb.elim
  | mulR _ _ => exact lb.elim
/-- a term that is no variable -/
theorem aNv {xn : Nat} (hP : ∀ x2 x3 m, (∀ P' : Int → Int → hy_m → Prop, (∀ a b c, P a b c → P' a b c) → wf_30_28 T Q P' x2 x3 m) → P x2 x3 m) (hs : aSep X U V) (hw : aW X U V T m0) (hcw : cW X T m0) (hc1 : 1 ≤ xcap X) (hW : cAW X m0) (hx : cTm X m0 (xn : Int) t) (hnv : ∀ w : Nat, t ≠ .var w) (hxn : xn < 65536) (IH : ∀ y u, cTm X m0 y u → 0 ≤ y → sz (sb s u) < sz (sb s t) → aGo X U V T s m0 Q P u y) (hsm : ∀ y (u : pE), cTm X m0 y u → 0 ≤ y → y < 65536) : aGo X U V T s m0 Q P t (xn : Int) := by
  intro many n k m pc pv R hR hS h2 h4 g1 g2 n1 n2 hp hpv hb hk h0
  have hc := hcw.2.2.1
  obtain ⟨b1, b2⟩ := aBd (m' := m0) hcw hW g1 g2 n1 n2 hp hpv
  have hwm := aW_fr hs hS.1 hw
  have hcm := cW_ag (aFr_ag hs hS.1) hcw
  have hxm := cTm_ag (aFr_ag hs hS.1) hx
  have fail : ev0 (sb s t) = none → R 0 m := fun e => hR 0 m (aFail hP hs hw (by omega) hS (h0 e))
  unfold wq_31
  refine sp_129 hcm hxm ?_
  rcases cTm_sh hx hnv with ⟨v, rfl⟩ | ⟨kk, b, rfl, lb, h3, hnm⟩
  · refine ⟨fun _ => sp_130 hcm hxm (fun z hz _ => ?_), fun q => absurd (show (2 : Int) = 1 from q) (by decide)⟩
    have hz := hz v rfl
    subst hz
    have hr : hy_r 0 z := by
      rcases hx with ⟨j, _, _, e, hr⟩ | ⟨i, n, u, _, _, _, _, hk, e⟩
      · injection e with e
        rw [e]
        exact hr
      · cases u with
        | num i =>
          injection e with e
          have hk : 0 ≤ i ∧ i < 1000000 := hk
          show -2147483648 ≤ _ ∧ _ < 2147483648
          omega
        | var _ => cases e
        | mulL _ _ => cases e
        | add _ _ => cases e
        | sub _ _ => exact hk.elim
        | neg _ => exact hk.elim
        | mulR _ _ => exact hk.elim
    refine ⟨fun q => absurd rfl q, fun _ => ⟨hr, aGo_v (pv := pv) (k := k) hs hS hwm hc h2 h4 (by omega) (fun m' k' a1 a2 a3 a4 a5 a6 a7 => hk z m' k' rfl a1 a2 a3 a4 a5 a6 (by omega)) hR⟩⟩
  · have e0 : ∀ q : oI kk (eN b) = -9, ev0 (sb s (.mulL kk b)) = none := fun q => ev0_n (sb s b) (isL_sbL s b lb).1 (by rw [(isL_sbL s b lb).2]; exact q)
    by_cases c0 : eN b = 0
    · rw [show eKd (.mulL kk b) = 3 from if_pos c0]
      refine ⟨fun _ => sp_130 hcm hxm (fun z _ _ => ⟨fun _ => ⟨fun _ => fail (e0 ?_), fun q => absurd q (by decide)⟩, fun q => absurd q (by decide)⟩), fun q => absurd q (by decide)⟩
      unfold oI
      rw [if_neg (by omega)]
    · rw [show eKd (.mulL kk b) = 4 from if_neg c0]
      refine ⟨fun _ => sp_130 hcm hxm (fun z _ hz => ⟨fun _ => ⟨fun q => absurd rfl q, fun _ => ?_⟩, fun q => absurd q (by decide)⟩), fun q => absurd q (by decide)⟩
      rw [(hz kk b rfl).1]
      obtain ⟨o1, o2, o3⟩ := kC_op (n := eN b) hnm h3
      have go : oI kk (eN b) ≠ -9 → wq_31_79 (xn : Int) T m R := fun ho => by
        obtain ⟨a1, a2, rfl⟩ := op_sh lb ho
        have z1 : sz (sb s a1) < sz (sb s (.mulL kk (.add a1 (.add a2 (.num 0))))) := by
          have q : sz (sb s a1) < sz (sb s (.add a1 (.add a2 (.num 0)))) := ar_sz s (.add a1 (.add a2 (.num 0))) 0 lb (by show 0 < 2; decide)
          have : sz (sb s (.mulL kk (.add a1 (.add a2 (.num 0))))) = 1 + sz (sb s (.add a1 (.add a2 (.num 0)))) := rfl
          omega
        have z2 : sz (sb s a2) < sz (sb s (.mulL kk (.add a1 (.add a2 (.num 0))))) := by
          have q : sz (sb s a2) < sz (sb s (.add a1 (.add a2 (.num 0)))) := ar_sz s (.add a1 (.add a2 (.num 0))) 1 lb (by show 1 < 2; decide)
          have : sz (sb s (.mulL kk (.add a1 (.add a2 (.num 0))))) = 1 + sz (sb s (.add a1 (.add a2 (.num 0)))) := rfl
          omega
        exact aOp hP hs hw hcw hc1 hW hx hxn ho (fun y hy y0 => IH y a1 hy y0 z1) (fun y hy y0 => IH y a2 hy y0 z2) hsm hR hS h2 h4 g1 g2 n1 n2 hp hpv hb hk h0
      refine ⟨fun q => go (by rw [o1.mp q]; decide), fun q => ⟨fun q' => go (by rw [o2.mp q']; decide), fun q' => ⟨fun q'' => go (by rw [o3.mp q'']; decide), fun q'' => fail (e0 ?_)⟩⟩⟩
      rcases oI_c (k := kk) (n := eN b) with w | ⟨-, ⟨-, w⟩ | ⟨-, w⟩ | ⟨-, w⟩⟩
      · exact w
      · exact absurd (o1.mpr w) q
      · exact absurd (o2.mpr w) q'
      · exact absurd (o3.mpr w) q''
set_option maxHeartbeats 8000000 in
/-- a variable -/
theorem aVr {xn w : Nat} (hP : ∀ x2 x3 m, (∀ P' : Int → Int → hy_m → Prop, (∀ a b c, P a b c → P' a b c) → wf_30_28 T Q P' x2 x3 m) → P x2 x3 m) (hs : aSep X U V) (hw : aW X U V T m0) (hcw : cW X T m0) (hc1 : 1 ≤ xcap X) (hW : cAW X m0) (hB : cBd X m0 B) (hR0 : Res B s) (hA : ∀ y u, cTm X m0 y u → aM u ≤ 30) (hx : cTm X m0 (xn : Int) (.var w)) (IH : ∀ y u, cTm X m0 y u → 0 ≤ y → B w = some u → aGo X U V T s m0 Q P u y) (hsm : ∀ y (u : pE), cTm X m0 y u → 0 ≤ y → y < 65536) : aGo X U V T s m0 Q P (.var w) (xn : Int) := by
  intro many n k m pc pv R hR hS h2 h4 g1 g2 n1 n2 hp hpv hb hk h0
  have hn := hs.ne
  have hc := hcw.2.2.1
  obtain ⟨b1, b2⟩ := aBd (m' := m0) hcw hW g1 g2 n1 n2 hp hpv
  have hwm := aW_fr hs hS.1 hw
  have hcm := cW_ag (aFr_ag hs hS.1) hcw
  have hxm := cTm_ag (aFr_ag hs hS.1) hx
  have hBm := cBd_ag (aFr_ag hs hS.1) (aFr_b4 hs hS.1) hB
  obtain ⟨i, j, hi, ex, -, hj, ew⟩ := cTm_v hx
  have hz : sV X (8 * i + j) w := ⟨i, j, hi, hj, rfl, ew⟩
  have hzl := sV_lt hcw hz
  have fail : ev0 (s w) = none → R 0 m := fun e => hR 0 m (aFail hP hs hw (by omega) hS (h0 e))
  unfold wq_31
  refine sp_129 hcm hxm ⟨fun q => absurd rfl q, fun _ => ?_⟩
  rw [ex]
  refine sp_125v hcm hi hj ?_
  have ez : 8 * (i : Int) + (j : Int) = ((8 * i + j : Nat) : Int) := by omega
  have hbd := hBm.1 i j hi hj
  rw [← ew] at hbd
  rw [ez] at hbd ⊢
  generalize hzz : 8 * i + j = z at *
  clear hzz ez
  have ok : ∀ (v : Int), ev0 (s w) = some v → wq_36 v T m R := fun v e => aGo_v (pv := pv) (k := k) hs hS hwm hc h2 h4 (by omega) (fun m' k' a1 a2 a3 a4 a5 a6 a7 => hk v m' k' e a1 a2 a3 a4 a5 a6 (by omega)) hR
  unfold wq_32
  refine sp_126 hcm hzl ⟨fun q => by omega, fun _ => ⟨fun q => ?_, fun q => ?_⟩⟩
  · rcases hbd with ⟨-, e⟩ | ⟨u, eu, -, hu, -⟩
    · exact absurd e q
    have hsw : s w = sb s u := ((hR0 w).2 u eu).1
    refine ⟨fun q2 => ?_, fun q2 => ?_⟩
    · -- a ref
      have e53 : m 53 7 = m0 53 7 := aFr_53 hs hS.1 (by decide)
      rw [hwm.2.2.1.1, Int.toNat_natCast, hwm.2.2.2.1, Int.toNat_natCast, e53]
      refine ⟨100, _, hwm.2.2.1.2, by decide, fun q3 => by omega, fun _ => ⟨_, hwm.2.2.2.2, by omega, by omega, fun q3 => ?_, fun q3 => ⟨_, hwm.2.2.1.2, by omega, by omega, ?_⟩⟩⟩
      · generalize hyy : m (xb4 X) (z : Int) = y at *
        obtain ⟨y, rfl⟩ : ∃ v : Nat, y = v := ⟨y.toNat, by omega⟩
        have hu0 : cTm X m0 (y : Int) u := cTm_ag (aFr_ag hs hS.1).sy hu
        have ys := hsm _ _ hu0 q2
        have hzs : z < 65536 := by omega
        have hznin : z ∉ pv := fun hin => by
          obtain ⟨w', w1, w2⟩ := hpv z hin
          rw [sV_w hcw w1 hz] at w2
          rcases w2 with q | q
          · have q : sz (s w) < sz (s w) := q
            omega
          · exact absurd (q.2 w rfl) (Nat.lt_irrefl _)
        unfold wq_32_72
        refine sp_35 hs hwm hc h2 (by omega) ⟨fun q => absurd q (by decide), fun _ => ?_⟩
        rw [show iSl 2 16 = iSl ((2 : Nat) : Int) 16 from rfl, tC_o (by decide) hzs]
        obtain ⟨k1, k2, k3⟩ := aTk_k (m := m) (n := many) (v := tC 2 z) hs
        obtain ⟨v1, v2, v3, v4, v5⟩ := aTk_v (m := m) (n := many) (v := tC 2 z) hs
        have hS1 := aSt_k hS k3 k1 k2
        generalize aTk U m many (tC 2 z) = m1 at *
        refine sp_35 hs (aW_fr hs hS1.1 hw) hc v1 (by omega) ⟨fun q => absurd q (by decide), fun _ => hR 1 _ ?_⟩
        rw [show iSl 0 16 = iSl ((0 : Nat) : Int) 16 from rfl, tC_o (by decide) (by omega)]
        obtain ⟨k1', k2', k3'⟩ := aTk_k (m := m1) (n := many + 1) (v := tC 0 y) hs
        obtain ⟨v1', v2', v3', v4', v5'⟩ := aTk_v (m := m1) (n := many + 1) (v := tC 0 y) hs
        have hS2 := aSt_k hS1 k3' k1' k2'
        generalize aTk U m1 (many + 1) (tC 0 y) = m2 at *
        have ph2 : aPh X V m0 m2 (z :: pv) + 123 = aPh X V m0 m pv := by
          rw [aPh_k k2', aPh_k k2]
          unfold aPh
          have := slS_off (g := fun z => if m V.2 (z : Int) = m0 53 7 ∨ z ∈ pv then 0 else 123) (g' := fun z' => if m V.2 (z' : Int) = m0 53 7 ∨ z' ∈ z :: pv then 0 else 123) (e := z) (if_pos (Or.inr (List.mem_cons_self ..))) (fun z' hz' => by
            show (if m V.2 (z' : Int) = m0 53 7 ∨ z' ∈ z :: pv then 0 else 123) = (if m V.2 (z' : Int) = m0 53 7 ∨ z' ∈ pv then 0 else 123)
            by_cases c : m V.2 (z' : Int) = m0 53 7 ∨ z' ∈ pv
            · rw [if_pos c, if_pos (c.imp id (List.mem_cons_of_mem _))]
            · rw [if_neg c, if_neg (fun h => c (h.imp id (fun h => (List.mem_cons.mp h).resolve_left hz')))]) (8 * xcap X) hzl
          rw [if_neg (fun h => h.elim q3 hznin)] at this
          exact this
        have hAu := hA _ _ hu0
        have hb : k + aPh X V m0 m pv + 0 ≤ 999000 := hb
        have hdl : ∀ z' ∈ z :: pv, ∃ w', sV X z' w' ∧ dLt s u w' := fun z' hz' => by
          rcases List.mem_cons.mp hz' with rfl | hz'
          · exact ⟨w, hz, Or.inr ⟨by rw [hsw], fun a ea => ((hR0 w).2 u eu).2 a ea⟩⟩
          · obtain ⟨w', w1, w2⟩ := hpv z' hz'
            refine ⟨w', w1, ?_⟩
            rcases w2 with q | q
            · refine Or.inl ?_
              rw [← hsw]
              exact q
            · refine Or.inr ⟨?_, fun a ea => ?_⟩
              · rw [← hsw]
                exact q.1
              · have q1 := ((hR0 w).2 u eu).2 a ea
                have q2 := q.2 w rfl
                omega
        have hpu : ∀ c ∈ pc, ∃ k b, cTm X m0 c (.mulL k b) ∧ oI k (eN b) ≠ -9 ∧ sz (sb s u) < sz (sb s (.mulL k b)) := fun c hc => by
          obtain ⟨k', b', a1, a2, a3⟩ := hp c hc
          exact ⟨k', b', a1, a2, by rw [← hsw]; exact a3⟩
        have hlc : (z :: pv).length = pv.length + 1 := List.length_cons
        refine aRe hP hs hw hc (IH _ _ hu0 q2 eu) (by omega) hS2 v1' v4' (by rw [v2', v2]; exact h4) (by omega) (pc := pc) (pv := z :: pv) (by omega) g2 n1 (List.nodup_cons.mpr ⟨hznin, n2⟩) hpu hdl (by omega) (fun x1 m4 k4 ex1 hS4 c1 c2 c3 c4 c5 c6 => ?_) (fun en m4 hS4 => h0 (by show ev0 (s w) = none; rw [hsw]; exact en) m4 hS4)
        have exw : ev0 (s w) = some x1 := by
          rw [hsw]
          exact ex1
        have hw4 := aW_fr hs hS4.1 hw
        refine aPop (w := 2) hP hw4 hc hn.2.2.2.2.2.2.1 c1 (by omega) (by omega) (by decide) hzs (by rw [c3 _ (by omega) (by omega), v5' _ (by omega)]; exact v4) (fun _ _ q => absurd q (by decide)) (fun _ _ q => absurd q (by decide)) (fun P' hPP _ => ?_)
        have f5 : aFr U V m4 (hy_u m4 53 2 (many : Int)) := aFr.f53 (Or.inl rfl)
        have e1 : ∀ z, hy_u m4 53 2 (many : Int) V.1 z = m4 V.1 z := fun z => hy_ua hn.2.2.2.2.2.2.2.2.1
        have e2 : ∀ z, hy_u m4 53 2 (many : Int) V.2 z = m4 V.2 z := fun z => hy_ua hn.2.2.2.2.2.2.2.2.2
        have hS5 := aSt_k hS4 f5 e1 e2
        have hw5 := aW_fr hs hS5.1 hw
        have e54 : hy_u m4 53 2 (many : Int) 53 4 = ((n + 1 : Nat) : Int) := by rw [hy_uk (by decide)]; exact c2
        have e57 : hy_u m4 53 2 (many : Int) 53 7 = m0 53 7 := aFr_53 hs hS5.1 (by decide)
        have e5q : hy_u m4 53 2 (many : Int) (yq U) (n : Int) = x1 := by rw [hy_ua hn.2.2.2.2.2.2.2.1]; exact c5
        have e52 : hy_u m4 53 2 (many : Int) 53 2 = many := hy_us ..
        have eyp : ∀ i, hy_u m4 53 2 (many : Int) (yp U) i = m4 (yp U) i := fun i => hy_ua hn.2.2.2.2.2.2.1
        have eyq : ∀ i, hy_u m4 53 2 (many : Int) (yq U) i = m4 (yq U) i := fun i => hy_ua hn.2.2.2.2.2.2.2.1
        have hS5' := hS5
        generalize hy_u m4 53 2 (many : Int) = m5 at *
        unfold wq_34
        rw [e54, hw5.2.2.1.1, Int.toNat_natCast, hw5.2.1.1, Int.toNat_natCast, show ((n + 1 : Nat) : Int) - 1 = (n : Int) by omega, e5q, hy_ua (fun q => hn.2.2.2.2.2.2.2.2.1 q.symm), hw5.2.2.2.1, Int.toNat_natCast, hy_ua (fun q => hn.2.2.2.2.2.2.2.2.1 q.symm), e57]
        refine ⟨fun q => by omega, fun _ => ⟨100, _, hw5.2.2.1.2, by decide, fun _ => ⟨_, hw5.2.1.2, by omega, by omega, _, hw5.2.2.1.2, by omega, by omega, _, hw5.2.2.2.2, by omega, by omega, show -2147483648 ≤ _ ∧ _ < 2147483648 by omega, ?_⟩, fun q => by omega⟩⟩
        rw [show (k4 : Int) + 1 = ((k4 + 1 : Nat) : Int) by omega]
        refine hPP _ _ _ (hk x1 _ (k4 + 1) exw ⟨hS5'.1.tr ((aFr.row (Or.inr (Or.inr (Or.inl rfl)))).tr (aFr.row (Or.inr (Or.inr (Or.inr rfl))))), fun z' => ?_, fun z' w' hz' hl => ?_⟩ ?_ ?_ (fun i i1 i2 => ?_) (fun i i1 i2 => ?_) ?_ ?_)
        · by_cases c : z' = (z : Int)
          · rw [c, hy_us]
            exact Int.le_refl _
          · rw [hy_uk c, hy_ua (fun q => hn.2.2.2.2.2.1 q.symm)]
            exact hS5'.2.1 z'
        · rw [hy_ua hn.2.2.2.2.2.1]
          by_cases c : (z' : Int) = (z : Int)
          · have c' : z' = z := by omega
            rw [c'] at hz' ⊢
            rw [sV_w hcw hz' hz, hy_us]
            exact ⟨x1, exw, rfl⟩
          · rw [hy_uk c, hy_ua (fun q => hn.2.2.2.2.2.1 q.symm)] at hl
            rw [hy_uk c]
            exact hS5'.2.2 z' w' hz' hl
        · rw [hy_ua (fun q => hn.2.2.2.2.2.2.2.2.2 q.symm), hy_ua (fun q => hn.2.2.2.2.2.2.2.2.1 q.symm)]
          exact e52
        · rw [hy_ua (fun q => hn.2.2.2.2.2.2.2.2.2 q.symm), hy_ua (fun q => hn.2.2.2.2.2.2.2.2.1 q.symm)]
          exact e54
        · rw [hy_ua hn.2.2.1, hy_ua hn.2.1, eyp, c3 i i1 (by omega), v5' _ (by omega), v5 _ (by omega)]
        · rw [hy_ua hn.2.2.2.2.1, hy_ua hn.2.2.2.1, eyq, c4 i i1 i2, v3', v3]
        · rw [hy_ua hn.2.2.2.2.1, hy_ua hn.2.2.2.1]
          exact e5q
        · have pe : aPh X V m0 (hy_u (hy_u m5 V.1 (z : Int) x1) V.2 (z : Int) (m0 53 7)) pv = aPh X V m0 m4 (z :: pv) := by
            unfold aPh
            refine slS_eq _ (fun z' _ => ?_)
            by_cases c : z' = z
            · rw [c, hy_us, if_pos (Or.inl rfl), if_pos (Or.inr (List.mem_cons_self ..))]
            · rw [hy_uk (by omega), hy_ua (fun q => hn.2.2.2.2.2.1 q.symm), e2]
              by_cases d : m4 V.2 (z' : Int) = m0 53 7 ∨ z' ∈ pv
              · rw [if_pos d, if_pos (d.imp id (List.mem_cons_of_mem _))]
              · rw [if_neg d, if_neg (fun h => d (h.imp id (fun h => (List.mem_cons.mp h).resolve_left c)))]
          rw [pe]
          show k4 + 1 + aPh X V m0 m4 (z :: pv) ≤ k + aPh X V m0 m pv + 0
          omega
      · obtain ⟨v, a1, a2⟩ := hS.2.2 z w hz q3
        rw [a2]
        exact ok v a1
    · -- a computed integer
      rcases hu with ⟨jj, hjj, ej, et, hr⟩ | ⟨i', n', u', hi', e', _⟩
      · have e2 : -2 - m (xb4 X) (z : Int) = (jj : Int) := by omega
        unfold wq_131
        rw [e2]
        refine ⟨show -2147483648 ≤ _ ∧ _ < 2147483648 by omega, fun q => by omega, fun _ => ⟨show -2147483648 ≤ _ ∧ _ < 2147483648 by omega, fun q => by omega, fun _ => ⟨by omega, by omega, ok _ ?_⟩⟩⟩
        rw [hsw, et]
        rfl
      · omega
  · rcases hbd with ⟨e, -⟩ | ⟨u, -, e, -⟩
    · refine fail ?_
      rw [(hR0 w).1 e]
      rfl
    · exact absurd q e
/-- every term -/
theorem aEv (hP : ∀ x2 x3 m, (∀ P' : Int → Int → hy_m → Prop, (∀ a b c, P a b c → P' a b c) → wf_30_28 T Q P' x2 x3 m) → P x2 x3 m) (hs : aSep X U V) (hw : aW X U V T m0) (hcw : cW X T m0) (hc1 : 1 ≤ xcap X) (hW : cAW X m0) (hB : cBd X m0 B) (hR0 : Res B s) (hA : ∀ y u, cTm X m0 y u → aM u ≤ 30) : ∀ (z : Nat) (t : pE) (x : Int), sz (sb s t) ≤ z → cTm X m0 x t → 0 ≤ x → aGo X U V T s m0 Q P t x := by
  have hsm : ∀ y (u : pE), cTm X m0 y u → 0 ≤ y → y < 65536 := fun y u hy h0 => by
    rcases hy with ⟨j, _, e, _⟩ | ⟨i, n, u', hi, e, hn, _⟩
    · omega
    · have := (hcw.2.2.2.2.2 i hi).1
      have := hcw.2.2.1
      omega
  intro z
  induction z with
  | zero =>
    intro t x hz
    have := sz_pos (sb s t)
    omega
  | succ z ih =>
    have nv : ∀ (t : pE) (x : Int), sz (sb s t) ≤ z + 1 → (∀ w : Nat, t ≠ .var w) → cTm X m0 x t → 0 ≤ x → aGo X U V T s m0 Q P t x := fun t x hz hn hx h0 => by
      obtain ⟨xn, rfl⟩ : ∃ v : Nat, x = v := ⟨x.toNat, by omega⟩
      have hh := hsm _ _ hx h0
      exact aNv hP hs hw hcw hc1 hW hx hn (by omega) (fun y u hy y0 hlt => ih u y (by omega) hy y0) hsm
    have vr : ∀ (w : Nat) (x : Int), sz (s w) ≤ z + 1 → cTm X m0 x (.var w) → 0 ≤ x → aGo X U V T s m0 Q P (.var w) x := by
      intro w
      induction w using Nat.strongRecOn with
      | ind w ihw =>
        intro x hz hx h0
        obtain ⟨xn, rfl⟩ : ∃ v : Nat, x = v := ⟨x.toNat, by omega⟩
        refine aVr hP hs hw hcw hc1 hW hB hR0 hA hx (fun y u hy y0 eu => ?_) hsm
        have hsw : s w = sb s u := ((hR0 w).2 u eu).1
        by_cases c : ∃ a : Nat, u = .var a
        · obtain ⟨a, rfl⟩ := c
          exact ihw a (((hR0 w).2 _ eu).2 a rfl) y (by rw [hsw] at hz; exact hz) hy y0
        · exact nv u y (by rw [← hsw]; exact hz) (fun w' e => c ⟨w', e⟩) hy y0
    intro t x hz hx h0
    by_cases c : ∃ w : Nat, t = .var w
    · obtain ⟨w, rfl⟩ := c
      exact vr w x hz hx h0
    · exact nv t x hz (fun w' e => c ⟨w', e⟩) hx h0
/-- evaluate -/
theorem sp_30 (hs : aSep X U V) (hw : aW X U V T m) (hcw : cW X T m) (hc1 : 1 ≤ xcap X) (hW : cAW X m) (hB : cBd X m B) (hR0 : Res B s) (hA : ∀ y u, cTm X m y u → aM u ≤ 30) (hx : cTm X m x t) (h0x : 0 ≤ x) (hk : ∀ z : Int, m V.2 z ≤ m 53 7) (hk0 : -1 ≤ m 53 7) (hk1 : m 53 7 < 2147483000) (h1 : ∀ v m', ev0 (sb s t) = some v → (∀ (a : Nat) (e : Int), ¬ aRw U V a → ¬ (a = 53 ∧ (e = 2 ∨ e = 4 ∨ e = 7 ∨ e = 8)) → m' a e = m a e) → (∀ z : Int, m' V.2 z ≤ m' 53 7) → m' 53 7 = m 53 7 + 1 → m' 53 8 = v → Q 1 m') (h0 : ∀ m', ev0 (sb s t) = none → (∀ (a : Nat) (e : Int), ¬ aRw U V a → ¬ (a = 53 ∧ (e = 2 ∨ e = 4 ∨ e = 7 ∨ e = 8)) → m' a e = m a e) → (∀ z : Int, m' V.2 z ≤ m' 53 7) → m' 53 7 = m 53 7 + 1 → Q 0 m') : wq_30 x T m Q := by
  have hn := hs.ne
  have hc := hcw.2.2.1
  unfold wq_30
  refine ⟨show -2147483648 ≤ _ ∧ _ < 2147483648 by omega, ?_⟩
  generalize hmm : hy_u (hy_u (hy_u m 53 7 (m 53 7 + 1)) 53 2 0) 53 4 0 = m0
  have f0 : ∀ (a : Nat) (e : Int), ¬ (a = 53 ∧ (e = 2 ∨ e = 4 ∨ e = 7)) → m0 a e = m a e := fun a e q => by
    rw [← hmm, hy_uf (by omega), hy_uf (by omega), hy_uf (by omega)]
  have f7 : m0 53 7 = m 53 7 + 1 := by rw [← hmm, hy_uk (by decide), hy_uk (by decide), hy_us]
  have f2 : m0 53 2 = 0 := by rw [← hmm, hy_uk (by decide), hy_us]
  have f4 : m0 53 4 = 0 := by rw [← hmm, hy_us]
  clear hmm
  obtain ⟨s1, s2, s3, s4, s5⟩ := hs
  have hag : cAg X m m0 := ⟨fun e => f0 _ _ (by omega), fun e _ => f0 _ _ (by omega), fun e => f0 _ _ (fun q => s3 q.1), fun i hi => ⟨fun e => f0 _ _ (fun q => (s5 i hi).1 q.1), fun e => f0 _ _ (fun q => (s5 i hi).2.1 q.1), fun e => f0 _ _ (fun q => (s5 i hi).2.2.1 q.1), fun e => f0 _ _ (fun q => (s5 i hi).2.2.2 q.1)⟩⟩
  have hs : aSep X U V := ⟨s1, s2, s3, s4, s5⟩
  have hcw0 := cW_ag hag hcw
  have hw0 : aW X U V T m0 := by
    obtain ⟨⟨a1, a2⟩, ⟨a3, a4⟩, ⟨a5, a6⟩, a7, a8⟩ := hw
    exact ⟨⟨by rw [f0 53 1 (by decide)]; exact a1, a2⟩, ⟨by rw [f0 53 3 (by decide)]; exact a3, a4⟩, ⟨by rw [f0 53 5 (by decide)]; exact a5, a6⟩, by rw [f0 53 6 (by decide)]; exact a7, a8⟩
  have hB0 := cBd_ag hag (fun e => f0 (xb4 X) e (fun q => s4 q.1)) hB
  have hV2 : ∀ z, m0 V.2 z = m V.2 z := fun z => f0 _ _ (fun q => hn.2.2.2.2.2.2.2.2.2 q.1)
  have hS : aSt X U V s m0 m0 := by
    refine ⟨aFr.rfl', fun z => by rw [hV2, f7]; have := hk z; omega, fun z w hz hl => ?_⟩
    rw [hV2, f7] at hl
    have := hk (z : Int)
    omega
  have hph : aPh X V m0 m0 [] ≤ 123 * (8 * xcap X) := slS_le _ (fun e => by
    show (if _ then 0 else 123) ≤ 123
    split
    · exact Nat.zero_le _
    · exact Nat.le_refl _)
  have fin : ∀ m', aSt X U V s m0 m' → (∀ (a : Nat) (e : Int), ¬ aRw U V a → ¬ (a = 53 ∧ (e = 2 ∨ e = 4 ∨ e = 7 ∨ e = 8)) → m' a e = m a e) ∧ (∀ z : Int, m' V.2 z ≤ m' 53 7) ∧ m' 53 7 = m 53 7 + 1 := fun m' hS' => by
    have e7 : m' 53 7 = m0 53 7 := aFr_53 hs hS'.1 (by decide)
    refine ⟨fun a e q1 q2 => ?_, fun z => ?_, by rw [e7, f7]⟩
    · rw [hS'.1 a e q1 (by omega), f0 a e (by omega)]
    · rw [e7]
      exact hS'.2.1 z
  have hAt := hA _ _ hx
  have hx0 := cTm_ag hag hx
  refine aEv (P := fun a b c => wL2 hy_m (wf_30_28 T Q) a b c) (Q := Q) (fun x2 x3 m hh P hP => hP _ _ _ (hh P (fun a b c h => h P hP))) hs hw0 hcw0 hc1 (fun L n1 h => hW L n1 (fun c hc => by
    obtain ⟨k', b', q1, q2⟩ := h c hc
    exact ⟨k', b', cTm_ag hag.sy q1, q2⟩)) hB0 hR0 (fun y u hy => hA y u (cTm_ag hag.sy hy)) (sz (sb s t)) t x (Nat.le_refl _) hx0 h0x 0 0 0 m0 [] [] _ (fun r m1 h => h) hS f2 f4 (Nat.zero_le _) (Nat.zero_le _) List.nodup_nil List.nodup_nil (fun c hc => absurd hc (List.not_mem_nil)) (fun c hc => absurd hc (List.not_mem_nil)) (by omega) (fun v m1 k1 a1 a2 a3 a4 a5 a6 a7 a8 => ?_) (fun e m1 hS1 => by
      obtain ⟨g1, g2, g3⟩ := fin m1 hS1
      exact h0 m1 e g1 g2 g3)
  · intro P hP
    apply hP
    unfold wf_30_28 wq_30_131
    have hw1 := aW_fr hs a2.1 hw0
    have a4 : m1 53 4 = 1 := a4
    have a7 : m1 (yq U) 0 = v := a7
    have fS : aSt X U V s m0 (hy_u m1 53 8 v) := aSt_k a2 (aFr.f53 (Or.inr (Or.inr rfl))) (fun z => hy_ua hn.2.2.2.2.2.2.2.2.1) (fun z => hy_ua hn.2.2.2.2.2.2.2.2.2)
    obtain ⟨g1, g2, g3⟩ := fin _ fS
    rw [a3, a4, hw1.2.1.1, Int.toNat_natCast, a7]
    have last : Q 1 (hy_u m1 53 8 v) := h1 v _ a1 g1 g2 g3 (hy_us ..)
    have gg : ((1 : Int) ≤ 0 → (((1 : Int) = 0 → (Q 0 (hy_u m1 53 8 0))) ∧ ((1 : Int) ≠ 0 → (((1 : Int) ≠ 1 → (Q 0 (hy_u m1 53 8 0))) ∧ ((1 : Int) = 1 → (Q 1 (hy_u m1 53 8 0))))))) ∧ (0 < (1 : Int) → (∃ n1 : Nat, T.1 (yq U) = some (100, n1) ∧ (0 ≤ (0 : Int) ∧ (0 : Int) < (n1 : Int) ∧ (((1 : Int) = 0 → (Q 0 (hy_u m1 53 8 v))) ∧ ((1 : Int) ≠ 0 → (((1 : Int) ≠ 1 → (Q 0 (hy_u m1 53 8 v))) ∧ ((1 : Int) = 1 → (Q 1 (hy_u m1 53 8 v))))))))) := ⟨fun q => absurd q (by decide), fun _ => ⟨_, hw1.2.1.2, by decide, by omega, fun q => absurd q (by decide), fun _ => ⟨fun q => absurd rfl q, fun _ => last⟩⟩⟩
    exact ⟨fun q => absurd q (by decide), fun _ => ⟨fun _ => gg, fun _ => ⟨fun _ => gg, fun q => absurd q (by decide)⟩⟩⟩
end CEW
