/-! THE CLASS'S ARITHMETIC: operations -/
section CEO
variable {X : cX} {U : uX} {V : aX} {T : hy_T} {m m0 m' : hy_m} {B : bM} {s : Nat → pE} {Q : Int → hy_m → Prop} {P : Int → Int → hy_m → Prop} {x : Int} {t : pE}
/-- a term on the stack -/
theorem aRe {many n k v : Nat} {pc : List Int} {pv : List Nat} (hP : ∀ x2 x3 m, (∀ P' : Int → Int → hy_m → Prop, (∀ a b c, P a b c → P' a b c) → wf_30_28 T Q P' x2 x3 m) → P x2 x3 m) (hs : aSep X U V) (hw : aW X U V T m0) (hc : xcap X ≤ 302) (hgo : aGo X U V T s m0 Q P t (v : Int)) (hv : v < 65536) (hS : aSt X U V s m0 m) (h2 : m 53 2 = ((many + 1 : Nat) : Int)) (ht : m (yp U) (many : Int) = tC 0 v) (h4 : m 53 4 = n) (hm : many < 76 * xcap X) (g1 : many ≤ 2 * pc.length + pv.length) (g2 : n ≤ pc.length) (n1 : pc.Nodup) (n2 : pv.Nodup) (hp : ∀ c ∈ pc, ∃ k b, cTm X m0 c (.mulL k b) ∧ oI k (eN b) ≠ -9 ∧ sz (sb s t) < sz (sb s (.mulL k b))) (hpv : ∀ z ∈ pv, ∃ w, sV X z w ∧ dLt s t w) (hb : k + 1 + aPh X V m0 m pv + 4 * aM t ≤ 999000)
    (hk : ∀ v m' (k' : Nat), ev0 (sb s t) = some v → aSt X U V s m0 m' → m' 53 2 = many → m' 53 4 = ((n + 1 : Nat) : Int) → (∀ i : Int, 0 ≤ i → i < many → m' (yp U) i = m (yp U) i) → (∀ i : Int, 0 ≤ i → i < n → m' (yq U) i = m (yq U) i) → m' (yq U) (n : Int) = v → k' + aPh X V m0 m' pv ≤ k + 1 + aPh X V m0 m pv + 4 * aM t → P 1 (k' : Int) m') (h0 : ev0 (sb s t) = none → ∀ m', aSt X U V s m0 m' → Q 0 m') : P 1 (k : Int) m := by
  have hn := hs.ne
  have hwm := aW_fr hs hS.1 hw
  refine aPop (w := 0) hP hwm hc hn.2.2.2.2.2.2.1 h2 hm (by omega) (by decide) hv ht (fun P' hPP _ => ?_) (fun _ _ q => absurd q (by decide)) (fun _ _ q => absurd q (by decide))
  have e1 : ∀ z, hy_u m 53 2 (many : Int) V.1 z = m V.1 z := fun z => hy_ua hn.2.2.2.2.2.2.2.2.1
  have e2 : ∀ z, hy_u m 53 2 (many : Int) V.2 z = m V.2 z := fun z => hy_ua hn.2.2.2.2.2.2.2.2.2
  have ph : aPh X V m0 (hy_u m 53 2 (many : Int)) pv = aPh X V m0 m pv := aPh_k e2
  refine hgo many n (k + 1) (hy_u m 53 2 (many : Int)) pc pv _ (fun r m1 h => ⟨show -2147483648 ≤ _ ∧ _ < 2147483648 by omega, ?_⟩) (aSt_k hS (aFr.f53 (Or.inl rfl)) e1 e2) (hy_us ..) ?_ g1 g2 n1 n2 hp hpv (by rw [ph]; omega) (fun v1 m1 k1 a1 a2 a3 a4 a5 a6 a7 a8 => hk v1 m1 k1 a1 a2 a3 a4 (fun i i1 i2 => ?_) (fun i i1 i2 => ?_) a7 (by rw [ph] at a8; omega)) h0
  · rw [show ((k + 1 : Nat) : Int) = (k : Int) + 1 by omega] at h
    exact hPP _ _ _ h
  · rw [hy_uk (by decide)]
    exact h4
  · rw [a5 i i1 i2, hy_ua hn.2.2.2.2.2.2.1]
  · rw [a6 i i1 i2, hy_ua hn.2.2.2.2.2.2.2.1]
/-- apply -/
theorem sp_33 {n : Nat} {a b key : Int} {h : Nat} (hs : aSep X U V) (hw : aW X U V T m) (hc : xcap X ≤ 302) (h4 : m 53 4 = ((n + 2 : Nat) : Int)) (hn : n + 2 ≤ 60 * xcap X) (ha : m (yq U) (n : Int) = a) (hb : m (yq U) ((n : Int) + 1) = b) (hk : (key = 6605190 ↔ h = 0) ∧ (key = 6482894 ↔ h = 1)) (hq : Q 1 (aVl U (hy_u m 53 4 (n : Int)) n (cmb (h : Int) a b))) : wq_33 key T m Q := by
  unfold wq_33
  rw [hw.2.1.1, Int.toNat_natCast, h4, show ((n + 2 : Nat) : Int) - 1 = (n : Int) + 1 by omega, show ((n + 2 : Nat) : Int) - 2 = (n : Int) by omega, ha, hb]
  have hw' : aW X U V T (hy_u m 53 4 (n : Int)) := aW_fr hs (aFr.f53 (Or.inr (Or.inl rfl))) hw
  unfold cmb at hq
  refine ⟨fun _ => ⟨_, hw.2.1.2, by omega, by omega, _, hw.2.1.2, by omega, by omega, show -2147483648 ≤ _ ∧ _ < 2147483648 by omega, fun q => ⟨fun q2 => ?_, fun q2 => ?_⟩, fun q => ?_⟩, fun q => by omega⟩
  · have z1 : h ≠ 0 := fun e => q (hk.1.mpr e)
    have z2 : h ≠ 1 := fun e => q2 (hk.2.mpr e)
    rw [if_neg (by omega), if_neg (by omega)] at hq
    exact sp_36 hs hw' hc (hy_us ..) (by omega) hq
  · have z2 := hk.2.mp q2
    rw [if_neg (by omega), if_pos (by omega)] at hq
    exact sp_36 hs hw' hc (hy_us ..) (by omega) hq
  · have z2 := hk.1.mp q
    rw [if_pos (by omega)] at hq
    exact sp_36 hs hw' hc (hy_us ..) (by omega) hq
set_option maxHeartbeats 8000000 in
/-- an operation -/
theorem aOp {kk : Int} {a1 a2 : pE} {xn : Nat} (hP : ∀ x2 x3 m, (∀ P' : Int → Int → hy_m → Prop, (∀ a b c, P a b c → P' a b c) → wf_30_28 T Q P' x2 x3 m) → P x2 x3 m) (hs : aSep X U V) (hw : aW X U V T m0) (hcw : cW X T m0) (hc1 : 1 ≤ xcap X) (hW : cAW X m0) (hx : cTm X m0 (xn : Int) (.mulL kk (.add a1 (.add a2 (.num 0))))) (hxn : xn < 65536) (ho : oI kk 2 ≠ -9) (IH1 : ∀ y, cTm X m0 y a1 → 0 ≤ y → aGo X U V T s m0 Q P a1 y) (IH2 : ∀ y, cTm X m0 y a2 → 0 ≤ y → aGo X U V T s m0 Q P a2 y) (hsm : ∀ y (u : pE), cTm X m0 y u → 0 ≤ y → y < 65536)
    {many n k : Nat} {pc : List Int} {pv : List Nat} {R : Int → hy_m → Prop} (hR : ∀ r m1, P r (k : Int) m1 → R r m1) (hS : aSt X U V s m0 m) (h2 : m 53 2 = many) (h4 : m 53 4 = n) (g1 : many ≤ 2 * pc.length + pv.length) (g2 : n ≤ pc.length) (n1 : pc.Nodup) (n2 : pv.Nodup) (hp : ∀ c ∈ pc, ∃ k b, cTm X m0 c (.mulL k b) ∧ oI k (eN b) ≠ -9 ∧ sz (sb s (.mulL kk (.add a1 (.add a2 (.num 0))))) < sz (sb s (.mulL k b))) (hpv : ∀ z ∈ pv, ∃ w, sV X z w ∧ dLt s (.mulL kk (.add a1 (.add a2 (.num 0)))) w) (hb : k + aPh X V m0 m pv + 4 * aM (.mulL kk (.add a1 (.add a2 (.num 0)))) ≤ 999000)
    (hk : ∀ v m' (k' : Nat), ev0 (sb s (.mulL kk (.add a1 (.add a2 (.num 0))))) = some v → aSt X U V s m0 m' → m' 53 2 = many → m' 53 4 = ((n + 1 : Nat) : Int) → (∀ i : Int, 0 ≤ i → i < many → m' (yp U) i = m (yp U) i) → (∀ i : Int, 0 ≤ i → i < n → m' (yq U) i = m (yq U) i) → m' (yq U) (n : Int) = v → k' + aPh X V m0 m' pv ≤ k + aPh X V m0 m pv + 4 * aM (.mulL kk (.add a1 (.add a2 (.num 0)))) → P 1 (k' : Int) m') (h0 : ev0 (sb s (.mulL kk (.add a1 (.add a2 (.num 0))))) = none → ∀ m', aSt X U V s m0 m' → Q 0 m') : wq_31_79 (xn : Int) T m R := by
  have hn := hs.ne
  have hc := hcw.2.2.1
  obtain ⟨b1, b2⟩ := aBd (m' := m0) hcw hW g1 g2 n1 n2 hp hpv
  obtain ⟨-, h, hh, hoh⟩ := oI_2 ho
  have hari : ari kk = true := by
    unfold ari
    rcases oI_c (k := kk) (n := 2) with q | ⟨-, ⟨q, -⟩ | ⟨q, -⟩ | ⟨q, -⟩⟩
    · exact absurd q ho
    · rw [decide_eq_true q]; rfl
    · rw [decide_eq_true q, Bool.or_true]; rfl
    · rw [decide_eq_true q, Bool.or_true]
  have haM : aM (.mulL kk (.add a1 (.add a2 (.num 0)))) = 1 + (aM a1 + aM a2) := by
    show (if ari kk = true ∧ (2 : Nat) = 2 then 1 else 0) + (aM a1 + (aM a2 + 0)) = _
    rw [if_pos ⟨hari, rfl⟩]
    omega
  rw [haM] at hb hk
  have hev : ev0 (sb s (.mulL kk (.add a1 (.add a2 (.num 0))))) = match ev0 (sb s a1), ev0 (sb s a2) with
    | some x, some y => some (cmb (h : Int) x y)
    | _, _ => none := by
    have ho' : oI kk (0 + 2) = (h : Int) := hoh
    show (if oI kk (0 + 2) = -9 then none else match ev0 (sb s a1), ev0 (sb s a2) with
      | some x, some y => some (cmb (oI kk (0 + 2)) x y)
      | _, _ => none) = _
    rw [ho', if_neg (by omega)]
  have lb : isL (.add a1 (.add a2 (.num 0))) := rfl
  have z1 : sz (sb s a1) < sz (sb s (.mulL kk (.add a1 (.add a2 (.num 0))))) := by
    have q : sz (sb s a1) < sz (sb s (.add a1 (.add a2 (.num 0)))) := ar_sz s (.add a1 (.add a2 (.num 0))) 0 lb (by show 0 < 2; decide)
    have : sz (sb s (.mulL kk (.add a1 (.add a2 (.num 0))))) = 1 + sz (sb s (.add a1 (.add a2 (.num 0)))) := rfl
    omega
  have z2 : sz (sb s a2) < sz (sb s (.mulL kk (.add a1 (.add a2 (.num 0))))) := by
    have q : sz (sb s a2) < sz (sb s (.add a1 (.add a2 (.num 0)))) := ar_sz s (.add a1 (.add a2 (.num 0))) 1 lb (by show 1 < 2; decide)
    have : sz (sb s (.mulL kk (.add a1 (.add a2 (.num 0))))) = 1 + sz (sb s (.add a1 (.add a2 (.num 0)))) := rfl
    omega
  have hnin : (xn : Int) ∉ pc := fun hin => by
    obtain ⟨k', b', q1, -, q3⟩ := hp _ hin
    rw [cTm_uq q1 hx] at q3
    exact absurd q3 (Nat.lt_irrefl _)
  have hpn : ∀ (u : pE), sz (sb s u) < sz (sb s (.mulL kk (.add a1 (.add a2 (.num 0))))) → ∀ c ∈ (xn : Int) :: pc, ∃ k b, cTm X m0 c (.mulL k b) ∧ oI k (eN b) ≠ -9 ∧ sz (sb s u) < sz (sb s (.mulL k b)) := fun u hu c hc => by
    rcases List.mem_cons.mp hc with rfl | hc
    · exact ⟨kk, _, hx, ho, hu⟩
    · obtain ⟨k', b', q1, q2, q3⟩ := hp c hc
      exact ⟨k', b', q1, q2, by omega⟩
  have hvn : ∀ (u : pE), sz (sb s u) < sz (sb s (.mulL kk (.add a1 (.add a2 (.num 0))))) → ∀ z ∈ pv, ∃ w, sV X z w ∧ dLt s u w := fun u hu z hz => by
    obtain ⟨w, w1, w2⟩ := hpv z hz
    refine ⟨w, w1, Or.inl ?_⟩
    rcases w2 with q | q
    · omega
    · have := q.1
      omega
  have hlc : ((xn : Int) :: pc).length = pc.length + 1 := List.length_cons
  have hnd := List.nodup_cons.mpr ⟨hnin, n1⟩
  unfold wq_31_79
  refine sp_35 hs (aW_fr hs hS.1 hw) hc h2 (by omega) ⟨fun q => absurd q (by decide), fun _ => ?_⟩
  rw [show iSl 1 16 = iSl ((1 : Nat) : Int) 16 from rfl, tC_o (by decide) hxn]
  obtain ⟨k1, k2, k3⟩ := aTk_k (m := m) (n := many) (v := tC 1 xn) hs
  obtain ⟨v1, v2, v3, v4, v5⟩ := aTk_v (m := m) (n := many) (v := tC 1 xn) hs
  have hS1 := aSt_k hS k3 k1 k2
  generalize aTk U m many (tC 1 xn) = m1 at *
  refine sp_132 (j := 1) (cW_ag (aFr_ag hs hS1.1) hcw) (cTm_ag (aFr_ag hs hS1.1) hx) (by show 1 < 2; decide) (fun y1 hy1 y10 => ?_)
  have hy1 : cTm X m0 y1 a2 := cTm_ag (aFr_ag hs hS1.1).sy hy1
  obtain ⟨y1, rfl⟩ : ∃ v : Nat, y1 = v := ⟨y1.toNat, by omega⟩
  have y1s := hsm _ _ hy1 y10
  refine sp_35 hs (aW_fr hs hS1.1 hw) hc v1 (by omega) ⟨fun q => absurd q (by decide), fun _ => ?_⟩
  rw [show iSl 0 16 = iSl ((0 : Nat) : Int) 16 from rfl, tC_o (by decide) (by omega)]
  obtain ⟨k1', k2', k3'⟩ := aTk_k (m := m1) (n := many + 1) (v := tC 0 y1) hs
  obtain ⟨v1', v2', v3', v4', v5'⟩ := aTk_v (m := m1) (n := many + 1) (v := tC 0 y1) hs
  have hS2 := aSt_k hS1 k3' k1' k2'
  generalize aTk U m1 (many + 1) (tC 0 y1) = m2 at *
  refine sp_132 (j := 0) (cW_ag (aFr_ag hs hS2.1) hcw) (cTm_ag (aFr_ag hs hS2.1) hx) (by show 0 < 2; decide) (fun y0 hy0 y00 => ?_)
  have hy0 : cTm X m0 y0 a1 := cTm_ag (aFr_ag hs hS2.1).sy hy0
  obtain ⟨y0, rfl⟩ : ∃ v : Nat, y0 = v := ⟨y0.toNat, by omega⟩
  have y0s := hsm _ _ hy0 y00
  refine sp_35 hs (aW_fr hs hS2.1 hw) hc v1' (by omega) ⟨fun q => absurd q (by decide), fun _ => hR 1 _ ?_⟩
  rw [show iSl 0 16 = iSl ((0 : Nat) : Int) 16 from rfl, tC_o (by decide) (by omega)]
  obtain ⟨k1'', k2'', k3''⟩ := aTk_k (m := m2) (n := many + 1 + 1) (v := tC 0 y0) hs
  obtain ⟨v1'', v2'', v3'', v4'', v5''⟩ := aTk_v (m := m2) (n := many + 1 + 1) (v := tC 0 y0) hs
  have hS3 := aSt_k hS2 k3'' k1'' k2''
  generalize aTk U m2 (many + 1 + 1) (tC 0 y0) = m3 at *
  have ph3 : aPh X V m0 m3 pv = aPh X V m0 m pv := by rw [aPh_k k2'', aPh_k k2', aPh_k k2]
  have t31 : m3 (yp U) ((many + 1 : Nat) : Int) = tC 0 y1 := by rw [v5'' _ (by omega)]; exact v4'
  have t30 : m3 (yp U) (many : Int) = tC 1 xn := by rw [v5'' _ (by omega), v5' _ (by omega)]; exact v4
  have t3 : ∀ i : Int, 0 ≤ i → i < many → m3 (yp U) i = m (yp U) i := fun i i1 i2 => by rw [v5'' _ (by omega), v5' _ (by omega), v5 _ (by omega)]
  have q3 : ∀ i : Int, m3 (yq U) i = m (yq U) i := fun i => by rw [v3'', v3', v3]
  have e34 : m3 53 4 = n := by rw [v2'', v2', v2]; exact h4
  refine aRe hP hs hw hc (IH1 _ hy0 y00) (by omega) hS3 v1'' v4'' e34 (by omega) (pc := (xn : Int) :: pc) (pv := pv) (by omega) (by omega) hnd n2 (hpn a1 z1) (hvn a1 z1) (by rw [ph3]; omega) (fun x1 m4 k4 ex1 hS4 c1 c2 c3 c4 c5 c6 => ?_) (fun en m4 hS4 => h0 (by rw [hev, en]) m4 hS4)
  rw [ph3] at c6
  refine aRe hP hs hw hc (IH2 _ hy1 y10) (by omega) hS4 c1 (by rw [c3 _ (by omega) (by omega)]; exact t31) c2 (by omega) (pc := (xn : Int) :: pc) (pv := pv) (by omega) (by omega) hnd n2 (hpn a2 z2) (hvn a2 z2) (by omega) (fun x2 m5 k5 ex2 hS5 d1 d2 d3 d4 d5 d6 => ?_) (fun en m5 hS5 => h0 (by rw [hev, ex1, en]) m5 hS5)
  have hw5 := aW_fr hs hS5.1 hw
  refine aPop (w := 1) hP hw5 hc hn.2.2.2.2.2.2.1 d1 (by omega) (by omega) (by decide) hxn (by rw [d3 _ (by omega) (by omega), c3 _ (by omega) (by omega)]; exact t30) (fun _ _ q => absurd q (by decide)) (fun P' hPP _ => ?_) (fun _ _ q => absurd q (by decide))
  have f6 : aFr U V m5 (hy_u m5 53 2 (many : Int)) := aFr.f53 (Or.inl rfl)
  have hS6 : aSt X U V s m0 (hy_u m5 53 2 (many : Int)) := aSt_k hS5 f6 (fun z => hy_ua hn.2.2.2.2.2.2.2.2.1) (fun z => hy_ua hn.2.2.2.2.2.2.2.2.2)
  refine sp_130 (cW_ag (aFr_ag hs hS6.1) hcw) (cTm_ag (aFr_ag hs hS6.1) hx) (fun key _ hkey => ?_)
  obtain ⟨hkey, hnm, -⟩ := hkey kk _ rfl
  have hkey : key = kC kk 2 := hkey
  obtain ⟨ko1, ko2, -⟩ := kC_op (n := 2) hnm (by decide)
  rw [hoh] at ko1 ko2
  refine sp_33 (n := n) (a := x1) (b := x2) (h := h) hs (aW_fr hs hS6.1 hw) hc ?_ (by omega) ?_ ?_ ⟨by rw [hkey]; exact ko1.trans (by omega), by rw [hkey]; exact ko2.trans (by omega)⟩ ⟨show -2147483648 ≤ _ ∧ _ < 2147483648 by omega, ?_⟩
  · rw [hy_uk (by decide)]
    exact d2
  · rw [hy_ua hn.2.2.2.2.2.2.2.1, d4 _ (by omega) (by omega)]
    exact c5
  · rw [hy_ua hn.2.2.2.2.2.2.2.1]
    rw [show ((n + 1 : Nat) : Int) = (n : Int) + 1 by omega] at d5
    exact d5
  · have f7 : aFr U V (hy_u m5 53 2 (many : Int)) (hy_u (hy_u m5 53 2 (many : Int)) 53 4 (n : Int)) := aFr.f53 (Or.inr (Or.inl rfl))
    have hS7 := aSt_k hS6 f7 (fun z => hy_ua hn.2.2.2.2.2.2.2.2.1) (fun z => hy_ua hn.2.2.2.2.2.2.2.2.2)
    obtain ⟨l1, l2, l3⟩ := aVl_k (m := hy_u (hy_u m5 53 2 (many : Int)) 53 4 (n : Int)) (n := n) (v := cmb (h : Int) x1 x2) hs
    obtain ⟨u1, u2, u3, u4, u5⟩ := aVl_v (m := hy_u (hy_u m5 53 2 (many : Int)) 53 4 (n : Int)) (n := n) (v := cmb (h : Int) x1 x2) hs
    rw [show (k5 : Int) + 1 = ((k5 + 1 : Nat) : Int) by omega]
    refine hPP _ _ _ (hk (cmb (h : Int) x1 x2) _ (k5 + 1) (by rw [hev, ex1, ex2]) (aSt_k hS7 l3 l1 l2) ?_ u1 (fun i i1 i2 => ?_) (fun i i1 i2 => ?_) u4 ?_)
    · rw [u2, hy_uk (by decide), hy_us]
    · rw [u3, hy_ua hn.2.2.2.2.2.2.1, hy_ua hn.2.2.2.2.2.2.1, d3 i i1 (by omega), c3 i i1 (by omega)]
      exact t3 i i1 i2
    · rw [u5 i (by omega), hy_ua hn.2.2.2.2.2.2.2.1, hy_ua hn.2.2.2.2.2.2.2.1, d4 i i1 (by omega), c4 i i1 i2]
      exact q3 i
    · rw [aPh_k l2, aPh_k (m := m5) (fun z => by rw [hy_ua hn.2.2.2.2.2.2.2.2.2, hy_ua hn.2.2.2.2.2.2.2.2.2])]
      omega
end CEO
