/-! THE MODEL WRITES A TERM: arguments -/
theorem tkp_up {o w : List Int} (w' : List Int) (h : (tkp o w).length = 120) : tkp o (w ++ w') = tkp o w := by
  rw [← tkp_tkp, tkp_full h]
theorem dgB_pos (b a : Nat) : ∀ k n, 1 ≤ (dgB b a k n).length
  | 0, _ => Nat.le_refl _
  | _ + 1, _ => by
    show 1 ≤ _ + 1
    omega
theorem nmT_pos (k : Int) : 1 ≤ (nmT k).length := by
  unfold nmT
  split
  · decide
  · exact dgB_pos ..
theorem nT_pos (v : Int) : 1 ≤ (nT v).length := by
  unfold nT
  rw [List.length_append]
  have := dgB_pos 10 48 (nlB 10 12 v.natAbs) v.natAbs
  omega
section MWA
variable {G : Nat → Nat → Prop} {D : Nat → Prop} {B : bM} {s : Nat → pE} {m m' m0 : hy_m} {Q : Int → hy_m → Prop} {P : hy_m → Prop} {o : List Int} {nm : List Nat} {many : Nat} {t : pE} {x : Int}
theorem wFx_T (h : wFx m0 m) (ht : mTm G m0 x t) : mTm G m x t := mTm_fr ht (fun a e q => h a e (by omega) (by omega) (by omega) (by omega))
theorem wFx_T' (h : wFx m0 m) (ht : mTm G m x t) : mTm G m0 x t := mTm_fr ht (fun a e q => (h a e (by omega) (by omega) (by omega) (by omega)).symm)
theorem wFx_B (h : wFx m0 m) (hb : mBd G m0 D B) : mBd G m D B := mBd_fr hb (fun a e q => h a e (by omega) (by omega) (by omega) (by omega))
theorem wFx_g (h : wFx m0 m) (hg : gC G m0) : gC G m := fun n p j hG hj => by
  rw [h 78 _ (by omega) (by omega) (by omega) (by omega)] at hj
  rw [h 79 _ (by omega) (by omega) (by omega) (by omega)]
  exact hg n p j hG hj
/-- arguments are pushed, the last one first -/
theorem sp_291_82 {kk : Int} {b : pE} (hg : gC G m) (hx : mTm G m x (.mulL kk b)) (h3 : eN b ≤ 3) (h1 : 1 ≤ eN b) (hm : m 74 73 = many) (hl : many < 28000) (hq : ∀ m', (∀ (a : Nat) (e : Int), a ≠ 112 → ¬ (a = 74 ∧ e = 73) → m' a e = m a e) → m' 74 73 = ((many + (2 * eN b - 1) : Nat) : Int) → (∀ i : Int, i < many → m' 112 i = m 112 i) → (∀ j, j < eN b → ∃ y, m' 112 ((many + 2 * (eN b - 1 - j) : Nat) : Int) = y ∧ mTm G m y (eAr b j)) → (∀ j, 1 ≤ j → j < eN b → m' 112 ((many + 1 + 2 * (eN b - 1 - j) : Nat) : Int) = mA 44) → Q 0 m') : wq_291_82 x ((eN b : Int) - 1) m Q := by
  unfold wq_291_82
  refine wL1_rule (Nat.lt_wfRel.wf) (fun x4 m' => ∃ d : Nat, x4 = (d : Int) - 1 ∧ d ≤ eN b ∧ (∀ (a : Nat) (e : Int), a ≠ 112 → ¬ (a = 74 ∧ e = 73) → m' a e = m a e) ∧ m' 74 73 = (((if d = 0 then many + (2 * eN b - 1) else many + 2 * (eN b - d)) : Nat) : Int) ∧ (∀ i : Int, i < many → m' 112 i = m 112 i) ∧ (∀ j, d ≤ j → j < eN b → ∃ y, m' 112 ((many + 2 * (eN b - 1 - j) : Nat) : Int) = y ∧ mTm G m y (eAr b j)) ∧ (∀ j, 1 ≤ j → d ≤ j → j < eN b → m' 112 ((many + 1 + 2 * (eN b - 1 - j) : Nat) : Int) = mA 44)) (fun x4 _ => (x4 + 1).toNat) ?_ ⟨eN b, rfl, Nat.le_refl _, fun _ _ _ _ => rfl, ?_, fun _ _ => rfl, fun j q1 q2 => by omega, fun j _ q1 q2 => by omega⟩
  · rintro P x4 m1 ⟨d, rfl, hd, hf, h73, hlo, hy, hc⟩ hP
    unfold wf_291_82
    refine ⟨fun q => ?_, fun q => ?_⟩
    · have hd0 : d = 0 := by omega
      subst hd0
      exact hq m1 hf (by rw [h73, if_pos rfl]) hlo (fun j hj => hy j (Nat.zero_le _) hj) (fun j h1 hj => hc j h1 (Nat.zero_le _) hj)
    · obtain ⟨e, rfl⟩ : ∃ e, d = e + 1 := ⟨d - 1, by omega⟩
      rw [if_neg (by omega)] at h73
      rw [show ((e + 1 : Nat) : Int) - 1 = (e : Int) by omega]
      have hg1 : gC G m1 := fun n p j hG hj => by
        rw [hf 78 _ (by decide) (by omega)] at hj
        rw [hf 79 _ (by decide) (by omega)]
        exact hg n p j hG hj
      refine sp_236 hg1 (mTm_fr hx (fun a e q => hf a e (by omega) (by omega))) (show e < eN b by omega) (fun y hy1 _ => ?_)
      have hy1 : mTm G m y (eAr b e) := mTm_fr hy1 (fun a e q => (hf a e (by omega) (by omega)).symm)
      refine sp_290 h73 (by omega) ⟨fun q2 => ⟨show -2147483648 ≤ _ ∧ _ < 2147483648 by omega, hP _ _ ⟨e, by omega, by omega, fun a e' q1 q2 => ?_, ?_, fun i hi => ?_, fun j q1 q2 => ?_, fun j q0 q1 q2 => ?_⟩ ?_⟩, fun q2 => ?_⟩
      · rw [hy_uf q2, hy_ua q1]
        exact hf a e' q1 q2
      · rw [hy_us, if_pos (by omega)]
        omega
      · rw [hy_ua (by decide), hy_uk (by omega)]
        exact hlo i hi
      · rw [hy_ua (by decide)]
        by_cases c : j = e
        · subst c
          refine ⟨y, ?_, hy1⟩
          rw [show many + 2 * (eN b - 1 - j) = many + 2 * (eN b - (j + 1)) by omega, hy_us]
        · rw [hy_uk (by omega)]
          exact hy j (by omega) q2
      · rw [hy_ua (by decide), hy_uk (by omega)]
        exact hc j q0 (by omega) q2
      · show ((e : Int) + -1 + 1).toNat < (((e + 1 : Nat) : Int) - 1 + 1).toNat
        omega
      · have h73' : hy_u (hy_u m1 112 ((many + 2 * (eN b - (e + 1)) : Nat) : Int) y) 74 73 (((many + 2 * (eN b - (e + 1)) : Nat) : Int) + 1) 74 73 = ((many + 2 * (eN b - (e + 1)) + 1 : Nat) : Int) := by
          rw [hy_us]
          omega
        refine sp_290 h73' (by omega) ⟨show -2147483648 ≤ _ ∧ _ < 2147483648 by omega, hP _ _ ⟨e, by omega, by omega, fun a e' q1 q2 => ?_, ?_, fun i hi => ?_, fun j q1 q2 => ?_, fun j q0 q1 q2 => ?_⟩ ?_⟩
        · rw [hy_uf q2, hy_ua q1, hy_uf q2, hy_ua q1]
          exact hf a e' q1 q2
        · rw [hy_us, if_neg (by omega)]
          omega
        · rw [hy_ua (by decide), hy_uk (by omega), hy_ua (by decide), hy_uk (by omega)]
          exact hlo i hi
        · rw [hy_ua (by decide), hy_uk (by omega), hy_ua (by decide)]
          by_cases c : j = e
          · subst c
            refine ⟨y, ?_, hy1⟩
            rw [show many + 2 * (eN b - 1 - j) = many + 2 * (eN b - (j + 1)) by omega, hy_us]
          · rw [hy_uk (by omega)]
            exact hy j (by omega) q2
        · rw [hy_ua (by decide)]
          by_cases c : j = e
          · subst c
            rw [show many + 1 + 2 * (eN b - 1 - j) = many + 2 * (eN b - (j + 1)) + 1 by omega, hy_us]
            rfl
          · rw [hy_uk (by omega), hy_ua (by decide), hy_uk (by omega)]
            exact hc j q0 (by omega) q2
        · show ((e : Int) + -1 + 1).toNat < (((e + 1 : Nat) : Int) - 1 + 1).toNat
          omega
  · rw [if_neg (by omega), Nat.sub_self]
    exact hm
/-- arguments that wait are written -/
theorem wAr (hP : ∀ m, wf_294_10 Q P m → P m) : ∀ (r : pE), isL r → 1 ≤ eN r → (∀ j, j < eN r → ∀ y, mTm G m0 y (eAr r j) → wGo s m0 Q P 0 (eAr r j) y) → ∀ (many : Nat) (o : List Int) (nm : List Nat) (m : hy_m), wSt m0 m (many + 2 * eN r) o nm → o.length < 120 → m 112 (many : Int) = mA 41 → (∀ j, j < eN r → ∃ y, m 112 ((many + 1 + 2 * (eN r - 1 - j) : Nat) : Int) = y ∧ mTm G m0 y (eAr r j)) → (∀ j, 1 ≤ j → j < eN r → m 112 ((many + 2 + 2 * (eN r - 1 - j) : Nat) : Int) = mA 44) → (∀ m', wSt m0 m' many (tkp o (wM (sb s r) 1 nm).1) (wM (sb s r) 1 nm).2 → (∀ i : Int, 0 ≤ i → i < many → m' 112 i = m 112 i) → (tkp o (wM (sb s r) 1 nm).1).length < 120 → P m') → (∀ m', wFx m0 m' → mOu m' (tkp o (wM (sb s r) 1 nm).1) → (tkp o (wM (sb s r) 1 nm).1).length = 120 → Q 0 m') → P m
  | .num _, _, h, _, _, _, _, _, _, _, _, _, _, _, _ => absurd h (by show ¬ 1 ≤ 0; decide)
  | .var _, h, _, _, _, _, _, _, _, _, _, _, _, _, _ => h.elim
  | .mulL _ _, h, _, _, _, _, _, _, _, _, _, _, _, _, _ => h.elim
  | .sub _ _, h, _, _, _, _, _, _, _, _, _, _, _, _, _ => h.elim
  | .neg _, h, _, _, _, _, _, _, _, _, _, _, _, _, _ => h.elim
  | .mulR _ _, h, _, _, _, _, _, _, _, _, _, _, _, _, _ => h.elim
  | .add x r, lr, _, IH, many, o, nm, m, hS, hl, h41, hy, hc, hk, hfu => by
    have lr : isL r := lr
    have eS : eN (.add x r) = eN r + 1 := rfl
    have er : eN (sb s r) = eN r := (isL_sbL s r lr).2
    obtain ⟨y, y1, y2⟩ := hy 0 (by omega)
    have y2 : mTm G m0 y x := y2
    rw [eS] at hS hy hc y1
    have ww : (wM (sb s (.add x r)) 1 nm) = if eN r = 0 then ((wM (sb s x) 0 nm).1 ++ [41], (wM (sb s x) 0 nm).2) else ((wM (sb s x) 0 nm).1 ++ 44 :: (wM (sb s r) 1 (wM (sb s x) 0 nm).2).1, (wM (sb s r) 1 (wM (sb s x) 0 nm).2).2) := by
      show (if eN (sb s r) = 0 then _ else _) = _
      rw [er]
    have IHx : wGo s m0 Q P 0 x y := IH 0 (by omega) y y2
    refine IHx (many + 2 * eN r + 1) o nm m (by rw [show many + 2 * eN r + 1 + 1 = many + 2 * (eN r + 1) by omega]; exact hS) hl (by rw [← y1]; congr 2; omega) (fun m1 s1 k1 l1 => ?_) (fun m1 f1 o1 l1 => ?_)
    · by_cases c0 : eN r = 0
      · rw [c0] at s1 k1
        rw [if_pos c0] at ww
        refine wLe (c := 41) hP (by decide) s1 l1 (by rw [k1 _ (by omega) (by omega)]; exact h41) (fun m2 s2 k2 l2 => hk m2 ?_ (fun i i1 i2 => by rw [k2 i i1 i2, k1 i i1 (by omega)]) ?_) (fun m2 f2 o2 l2 => hfu m2 f2 ?_ ?_)
        · rw [ww]
          rw [tkp_tkp] at s2
          exact s2
        · rw [ww]
          rw [tkp_tkp] at l2
          exact l2
        · rw [ww]
          rw [tkp_tkp] at o2
          exact o2
        · rw [ww]
          rw [tkp_tkp] at l2
          exact l2
      · rw [if_neg c0] at ww
        have hcc := hc 1 (Nat.le_refl _) (by omega)
        refine wLe (c := 44) (many := many + 2 * eN r) hP (by decide) s1 l1 (by rw [k1 _ (by omega) (by omega), ← hcc]; congr 2; omega) (fun m2 s2 k2 l2 => ?_) (fun m2 f2 o2 l2 => ?_)
        · refine wAr hP r lr (by omega) (fun j hj y' hy' => IH (j + 1) (by omega) y' hy') many _ _ m2 s2 l2 (by rw [k2 _ (by omega) (by omega), k1 _ (by omega) (by omega)]; exact h41) (fun j hj => ?_) (fun j j1 hj => ?_) (fun m3 s3 k3 l3 => hk m3 ?_ (fun i i1 i2 => by rw [k3 i i1 i2, k2 i i1 (by omega), k1 i i1 (by omega)]) ?_) (fun m3 f3 o3 l3 => hfu m3 f3 ?_ ?_)
          · obtain ⟨y', q1, q2⟩ := hy (j + 1) (by omega)
            refine ⟨y', ?_, q2⟩
            rw [k2 _ (by omega) (by omega), k1 _ (by omega) (by omega), ← q1]
            congr 2
            omega
          · have q1 := hc (j + 1) (by omega) (by omega)
            rw [k2 _ (by omega) (by omega), k1 _ (by omega) (by omega), ← q1]
            congr 2
            omega
          · rw [ww]
            rw [tkp_tkp, tkp_tkp] at s3
            exact s3
          · rw [ww]
            rw [tkp_tkp, tkp_tkp] at l3
            exact l3
          · rw [ww]
            rw [tkp_tkp, tkp_tkp] at o3
            exact o3
          · rw [ww]
            rw [tkp_tkp, tkp_tkp] at l3
            exact l3
        · rw [tkp_tkp] at o2 l2
          have e : tkp o ((wM (sb s x) 0 nm).1 ++ 44 :: (wM (sb s r) 1 (wM (sb s x) 0 nm).2).1) = tkp o ((wM (sb s x) 0 nm).1 ++ [44]) := by
            rw [show (wM (sb s x) 0 nm).1 ++ 44 :: (wM (sb s r) 1 (wM (sb s x) 0 nm).2).1 = ((wM (sb s x) 0 nm).1 ++ [44]) ++ (wM (sb s r) 1 (wM (sb s x) 0 nm).2).1 by rw [List.append_assoc]; rfl]
            exact tkp_up _ l2
          refine hfu m2 f2 ?_ ?_
          · rw [ww]
            show mOu m2 (tkp o ((wM (sb s x) 0 nm).1 ++ 44 :: (wM (sb s r) 1 (wM (sb s x) 0 nm).2).1))
            rw [e]
            exact o2
          · rw [ww]
            show (tkp o ((wM (sb s x) 0 nm).1 ++ 44 :: (wM (sb s r) 1 (wM (sb s x) 0 nm).2).1)).length = 120
            rw [e]
            exact l2
    · have e : tkp o (wM (sb s (.add x r)) 1 nm).1 = tkp o (wM (sb s x) 0 nm).1 := by
        rw [ww]
        by_cases c0 : eN r = 0
        · rw [if_pos c0]
          exact tkp_up _ l1
        · rw [if_neg c0]
          exact tkp_up _ l1
      refine hfu m1 f1 ?_ ?_
      · rw [e]
        exact o1
      · rw [e]
        exact l1
end MWA
