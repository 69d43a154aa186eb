/-! THE MODEL WRITES A TERM -/
theorem mTm_nm {G : Nat → Nat → Prop} {m : hy_m} {x : Int} {k : Int} {b : pE} (h : mTm G m x (.mulL k b)) : nmOK k ∧ (k = 1 → eN b = 0) ∧ (k = 2 → eN b = 2) := by
  rcases h with ⟨v, hv, rfl, e⟩ | ⟨i, hi, rfl, e⟩ | ⟨n, p, nv, u, rfl, hn, hnv, hp, hr, hk, e, hG⟩
  · cases e
  · cases e
  · cases u with
    | mulL k' a =>
      have e : (.mulL k b : pE) = .mulL k' (sb (fun v => .var (p + v)) a) := e
      injection e with e1 e2
      rw [e1, e2, eN_sb _ a nv hk.2.2.2.2.2]
      exact ⟨hk.2.1, hk.2.2.2.1, hk.2.2.2.2.1⟩
    | var v => cases e
    | num i => cases e
    | add _ _ => exact absurd hk.1 (by decide)
    | sub _ _ => exact hk.elim
    | neg _ => exact hk.elim
    | mulR _ _ => exact hk.elim
theorem sh2 {b : pE} (lb : isL b) (e2 : eN b = 2) : ∃ a1 a2, b = .add a1 (.add a2 (.num 0)) := by
  cases b with
  | add a1 r =>
    cases r with
    | add a2 r2 =>
      have e2 : eN r2 + 1 + 1 = 2 := e2
      cases r2 with
      | num i =>
        have : i = 0 := lb
        exact ⟨a1, a2, by rw [this]⟩
      | add _ r3 =>
        have : eN r3 + 1 + 1 + 1 = 2 := e2
        omega
      | var _ => exact lb.elim
      | mulL _ _ => exact lb.elim
      | sub _ _ => exact lb.elim
      | neg _ => exact lb.elim
      | mulR _ _ => exact lb.elim
    | num _ => exact absurd (show (1 : Nat) = 2 from e2) (by decide)
    | var _ => exact lb.elim
    | mulL _ _ => exact lb.elim
    | sub _ _ => exact lb.elim
    | neg _ => exact lb.elim
    | mulR _ _ => exact lb.elim
  | num _ => exact absurd (show (0 : Nat) = 2 from e2) (by decide)
  | var _ => exact lb.elim
  | mulL _ _ => exact lb.elim
  | sub _ _ => exact lb.elim
  | neg _ => exact lb.elim
  | mulR _ _ => exact lb.elim
theorem nm_rg {k : Int} (h : nmOK k) : 0 ≤ k ∧ k < 4398046511104 := by
  rcases h with rfl | rfl | ⟨l, l1, l2, l3, -, rfl⟩
  · decide
  · decide
  · have := pkM_b (l := l) (fun c hc => by
      have := l3 c hc
      omega) 6 (by decide)
    rw [List.take_of_length_le l2] at this
    exact ⟨this.1, this.2.1⟩
section MWC
variable {G : Nat → Nat → Prop} {D : Nat → Prop} {B : bM} {s : Nat → pE} {m m' m0 : hy_m} {Q : Int → hy_m → Prop} {P : hy_m → Prop} {o : List Int} {nm : List Nat} {many : Nat} {t : pE} {x y : Int}
theorem sp_236b {k : Int} {b : pE} {j : Nat} (hg : gC G m) (h : mTm G m x (.mulL k b)) (hj : j < eN b) (hq : ∀ y, mTm G m y (eAr b j) → (∃ n p : Nat, y = mQ n p ∧ n < 3584 ∧ p ≤ 2500) → Q y m) : wq_236 x (j : Int) m Q := by
  rcases h with ⟨v, hv, rfl, e⟩ | ⟨i, hi, rfl, e⟩ | ⟨n, p, nv, u, rfl, hn, hnv, hp, hr, hk, e, hG⟩
  · cases e
  · cases e
  · cases u with
    | mulL k' a =>
      have e : (.mulL k b : pE) = .mulL k' (sb (fun v => .var (p + v)) a) := e
      injection e with e1 e2
      subst e1
      subst e2
      have hka := hk.2.2.2.2.2
      rw [eN_sb _ a nv hka] at hj
      obtain ⟨q1, q2⟩ := eAr_sb (fun v => .var (p + v)) a nv j hka hj
      have har := rP_ar a 0 j nv hr.2.2.2.2.2.2 hka hj
      rw [Nat.zero_add] at har
      have hA := rP_A har
      have h3 : eN a ≤ 3 := hk.2.2.1
      have hG' := hg n p j hG (by rw [hr.2.2.2.1]; omega)
      obtain ⟨z, hz⟩ := Int.eq_ofNat_of_zero_le hA.1
      rw [hz] at har hA hG'
      have hz2 : z < 3584 := by have := hA.2; omega
      unfold wq_236
      refine sp_232Q hn ⟨by omega, by omega, sp_233Q hn (by omega) ?_⟩
      rw [hz]
      unfold wq_234
      refine ⟨show -9223372036854775808 ≤ _ ∧ _ < 9223372036854775808 by omega, ?_⟩
      rw [q1] at hq
      exact hq _ (Or.inr (Or.inr ⟨z, p, nv, eAr a j, rfl, hz2, hnv, hp, har, q2, rfl, by rw [Int.toNat_natCast] at hG'; exact hG'⟩)) ⟨z, p, rfl, hz2, by omega⟩
    | var v => cases e
    | num j => cases e
    | add a r => cases e
    | sub a r => cases e
    | neg a => cases e
    | mulR a k => cases e
/-- a list's cell: its first part, and the rest, wait -/
theorem wCell {a1 a2 : pE} {y1 : Int} {n2 p2 : Nat} {c : Nat} (hP : ∀ m, wf_294_10 Q P m → P m) (hS : wSt m0 m many o nm) (hl : o.length < 120) (hmo : many ≤ 6 * o.length) (G1 : wGo s m0 Q P 0 a1 y1) (G2 : wGo s m0 Q P 2 a2 (mRs (4096 * p2 + n2))) {m1 : hy_m} (hf1 : wFm m m1) (ho1 : mOu m1 (tkp o [(c : Int)]))
    (hk : ∀ m', wSt m0 m' many (tkp o (((c : Int) :: (wM (sb s a1) 0 nm).1) ++ (wM (sb s a2) 2 (wM (sb s a1) 0 nm).2).1)) (wM (sb s a2) 2 (wM (sb s a1) 0 nm).2).2 → (∀ i : Int, 0 ≤ i → i < many → m' 112 i = m 112 i) → (tkp o (((c : Int) :: (wM (sb s a1) 0 nm).1) ++ (wM (sb s a2) 2 (wM (sb s a1) 0 nm).2).1)).length < 120 → P m') (hfu : ∀ m', wFx m0 m' → mOu m' (tkp o (((c : Int) :: (wM (sb s a1) 0 nm).1) ++ (wM (sb s a2) 2 (wM (sb s a1) 0 nm).2).1)) → (tkp o (((c : Int) :: (wM (sb s a1) 0 nm).1) ++ (wM (sb s a2) 2 (wM (sb s a1) 0 nm).2).1)).length = 120 → Q 0 m') : P (hy_u (hy_u (hy_u (hy_u m1 112 (many : Int) (mRs (4096 * p2 + n2))) 74 73 ((many : Int) + 1)) 112 ((many + 1 : Nat) : Int) y1) 74 73 (((many + 1 : Nat) : Int) + 1)) := by
  obtain ⟨s1, r1⟩ := wSt_out hS hf1 ho1
  have hol : (tkp o [(c : Int)]).length = o.length + 1 := by
    rw [tkp_1 hl, List.length_append]
    rfl
  obtain ⟨s2, r2, t2⟩ := wSt_push (v := mRs (4096 * p2 + n2)) s1 (by omega)
  obtain ⟨s3, r3, t3⟩ := wSt_push (v := y1) s2 (by omega)
  generalize hy_u (hy_u m1 112 (many : Int) (mRs (4096 * p2 + n2))) 74 73 ((many : Int) + 1) = m2 at *
  generalize hy_u (hy_u m2 112 ((many + 1 : Nat) : Int) y1) 74 73 (((many + 1 : Nat) : Int) + 1) = m3 at *
  by_cases cf : (tkp o [(c : Int)]).length = 120
  · have e : tkp o (((c : Int) :: (wM (sb s a1) 0 nm).1) ++ (wM (sb s a2) 2 (wM (sb s a1) 0 nm).2).1) = tkp o [(c : Int)] := tkp_up (w := [(c : Int)]) ((wM (sb s a1) 0 nm).1 ++ (wM (sb s a2) 2 (wM (sb s a1) 0 nm).2).1) cf
    exact wEx hP s3.2.2.1 cf (hfu m3 s3.1 (by rw [e]; exact s3.2.2.1) (by rw [e]; exact cf))
  · refine G1 (many + 1) _ nm m3 s3 (by have := tkp_le o [(c : Int)]; omega) t3 (fun m4 s4 r4 l4 => ?_) (fun m4 f4 o4 l4 => ?_)
    · refine G2 many _ _ m4 s4 l4 (by rw [r4 _ (by omega) (by omega), r3 _ (by omega)]; exact t2) (fun m5 s5 r5 l5 => hk m5 ?_ (fun i i1 i2 => by rw [r5 i i1 i2, r4 i i1 (by omega), r3 _ (by omega), r2 _ (by omega), r1]) ?_) (fun m5 f5 o5 l5 => hfu m5 f5 ?_ ?_)
      · rw [tkp_tkp, tkp_tkp] at s5
        exact s5
      · rw [tkp_tkp, tkp_tkp] at l5
        exact l5
      · rw [tkp_tkp, tkp_tkp] at o5
        exact o5
      · rw [tkp_tkp, tkp_tkp] at l5
        exact l5
    · rw [tkp_tkp] at o4 l4
      have e : tkp o (((c : Int) :: (wM (sb s a1) 0 nm).1) ++ (wM (sb s a2) 2 (wM (sb s a1) 0 nm).2).1) = tkp o ([(c : Int)] ++ (wM (sb s a1) 0 nm).1) := tkp_up _ l4
      exact hfu m4 f4 (by rw [e]; exact o4) (by rw [e]; exact l4)
set_option maxHeartbeats 8000000 in
/-- a term -/
theorem wG0 (hP : ∀ m, wf_294_10 Q P m → P m) (hg : gC G m0) (hB : mBd G m0 D B) (hR : Res B s) (ht : mTm G m0 y t) (hD : ∀ w, vIn w t → D w) (IH0 : ∀ t' y', mTm G m0 y' t' → (∀ w, vIn w t' → D w) → sz (sb s t') < sz (sb s t) → wGo s m0 Q P 0 t' y') (IH2 : ∀ t' (n p : Nat), mTm G m0 (mQ n p) t' → n < 3584 → p ≤ 2500 → (∀ w, vIn w t' → D w) → sz (sb s t') < sz (sb s t) → wGo s m0 Q P 2 t' (mRs (4096 * p + n))) : wGo s m0 Q P 0 t y := by
  intro many o nm m hS hl h112 hk hfu
  obtain ⟨hp1, hp2⟩ := wSt_pop hS
  have hmo : many ≤ 6 * o.length := by
    have := hS.2.2.2.2.2
    omega
  refine wHe hP hS hl h112 (sp_293t (wFx_T hp1.1 ht) ?_)
  generalize hmp : hy_u m 74 73 (many : Int) = mp at *
  unfold wq_293_73
  refine sp_237 (wFx_B hp1.1 hB) hR (wFx_T hp1.1 ht) hD (fun y2 t2 hF hsb => sp_238 hF.1 ?_)
  have hst : sb s t = sb s t2 := hsb s hR.sol
  obtain ⟨hT2, hD2, hF2⟩ := hF
  have hT20 := wFx_T' hp1.1 hT2
  rw [hst] at hk hfu
  -- signs alone
  have leaf : ∀ (w : List Int) (m1 : hy_m), wM (sb s t2) 0 nm = (w, nm) → wFm mp m1 → mOu m1 (tkp o w) → P m1 := fun w m1 e f1 o1 => by
    rw [e] at hk hfu
    obtain ⟨s1, r1⟩ := wSt_out hp1 f1 o1
    by_cases cf : (tkp o w).length = 120
    · exact wEx hP o1 cf (hfu m1 s1.1 o1 cf)
    · have := tkp_le o w
      exact hk m1 s1 (fun i _ _ => by rw [r1, hp2]) (by
        show (tkp o w).length < 120
        omega)
  rcases hF2 with ⟨w, rfl, rfl, hbn, hw⟩ | ⟨hnv, -⟩
  · refine ⟨fun q => absurd rfl q, fun _ => sp_289 hp1.2.2.1 hp1.2.2.2.1 (by have := hp1.2.2.2.2.1; omega) (fun m1 f1 o1 n1 => ?_)⟩
    have e : wM (sb s (.var w)) 0 nm = (95 :: nT (nm.idxOf w : Nat), if w ∈ nm then nm else nm ++ [w]) := by
      show wM (s w) 0 nm = _
      rw [(hR w).1 hbn]
      rfl
    rw [e] at hk hfu
    have hfx : wFx m0 m1 := hp1.1.tr (fun a e q1 q2 q3 q4 => f1 a e q2 q3 (fun q => q4 ⟨q.1, q.2.imp id Or.inl⟩))
    by_cases cf : (tkp o (95 :: nT (nm.idxOf w : Nat))).length = 120
    · exact wEx hP o1 cf (hfu m1 hfx o1 cf)
    · have hle := tkp_le o (95 :: nT (nm.idxOf w : Nat))
      have hlen : (tkp o (95 :: nT (nm.idxOf w : Nat))).length = o.length + (nT (nm.idxOf w : Nat)).length + 1 := by
        rw [tkp_len] at cf ⊢
        rw [List.length_cons] at cf ⊢
        omega
      have := nT_pos (nm.idxOf w : Nat)
      have h5 := hp1.2.2.2.2.1
      refine hk m1 ⟨hfx, by rw [f1 74 73 (by decide) (by decide) (by decide)]; exact hp1.2.1, o1, n1, ?_, ?_⟩ (fun i _ _ => by rw [f1 112 i (by decide) (by decide) (by omega), hp2]) (by
        show (tkp o (95 :: nT (nm.idxOf w : Nat))).length < 120
        omega)
      · show (if w ∈ nm then nm else nm ++ [w]).length ≤ (tkp o (95 :: nT (nm.idxOf w : Nat))).length
        split
        · omega
        · rw [List.length_append]
          show nm.length + 1 ≤ _
          omega
      · show many ≤ 6 * (tkp o (95 :: nT (nm.idxOf w : Nat))).length + 1
        omega
  · cases t2 with
    | var w => exact absurd rfl (hnv w)
    | num i =>
      have hr := mTm_num hT2
      refine ⟨fun _ => ⟨fun q => absurd rfl q, fun _ => sp_239 hT2 hr (sp_287 (by
        have : (10 : Nat) ^ 12 = 1000000000000 := by decide
        have hr : -2147483648 ≤ i ∧ i < 2147483648 := hr
        omega) hp1.2.2.1 (fun m1 f1 o1 => leaf (nT i) m1 rfl f1 o1))⟩, fun q => absurd (show (2 : Int) = 1 from q) (by decide)⟩
    | mulL k b =>
      obtain ⟨lb, h3⟩ := mTm_L hT2
      obtain ⟨hnm, hk1, hk2⟩ := mTm_nm hT2
      have eb := isL_sbL s b lb
      obtain ⟨n, p, rfl, hn, h7, h8⟩ := mTm_mul hT2
      by_cases c0 : eN b = 0
      · rw [show eKd (.mulL k b) = 3 from if_pos c0]
        refine ⟨fun _ => ⟨fun _ => ⟨fun q => absurd rfl q, fun _ => sp_232Q hn ⟨by omega, by omega, ?_⟩⟩, fun q => absurd q (by decide)⟩, fun q => absurd q (by decide)⟩
        rw [h7]
        refine sp_288 (nm_rg hnm) hp1.2.2.1 (fun m1 f1 o1 => leaf (nmT k) m1 ?_ f1 o1)
        show (if eN (sb s b) = 0 then _ else _) = _
        rw [eb.2, if_pos c0]
      · rw [show eKd (.mulL k b) = 4 from if_neg c0]
        refine ⟨fun _ => ⟨fun _ => ⟨fun _ => ?_, fun q => absurd q (by decide)⟩, fun q => absurd q (by decide)⟩, fun q => absurd q (by decide)⟩
        have hsz : ∀ j, j < eN b → sz (sb s (eAr b j)) < sz (sb s t) := fun j hj => by
          have q := ar_sz s b j lb hj
          have : sz (sb s (.mulL k b)) = 1 + sz (sb s b) := rfl
          rw [hst]
          omega
        have hDj : ∀ j, j < eN b → ∀ w, vIn w (eAr b j) → D w := fun j hj w hw' => hD2 w (vIn_ar w b j lb hj hw')
        unfold wq_291
        refine sp_232Q hn ⟨by omega, by omega, ?_⟩
        rw [h7]
        refine ⟨fun ck => ⟨by omega, by omega, sp_288 (nm_rg hnm) hp1.2.2.1 (fun m1 f1 o1 => sp_286 o1 (fun m2 f2 o2 => ?_))⟩, fun ck => sp_286 hp1.2.2.1 (fun m1 f1 o1 => ?_)⟩
        · -- name and arguments
          have e : wM (sb s (.mulL k b)) 0 nm = ((nmT k ++ [40]) ++ (wM (sb s b) 1 nm).1, (wM (sb s b) 1 nm).2) := by
            show (if eN (sb s b) = 0 then _ else if k = 2 then _ else _) = _
            rw [eb.2, if_neg c0, if_neg ck, List.append_assoc]
            rfl
          rw [e] at hk hfu
          rw [tkp_tkp] at o2
          obtain ⟨s2, r2⟩ := wSt_out hp1 (f1.tr f2) o2
          have h73 := s2.2.1
          refine sp_290 h73 (by omega) ⟨by omega, by omega, ?_⟩
          have e78 : hy_u (hy_u m2 112 (many : Int) (mA 41)) 74 73 ((many : Int) + 1) 78 (n : Int) = (eN b : Nat) := by
            rw [hy_ua (by decide), hy_ua (by decide), (f1.tr f2) 78 _ (by decide) (by omega)]
            exact h8
          show hy_r 0 (hy_u (hy_u m2 112 (many : Int) (mA 41)) 74 73 ((many : Int) + 1) 78 (n : Int) - 1) ∧ wq_291_82 (mQ n p) (hy_u (hy_u m2 112 (many : Int) (mA 41)) 74 73 ((many : Int) + 1) 78 (n : Int) - 1) (hy_u (hy_u m2 112 (many : Int) (mA 41)) 74 73 ((many : Int) + 1)) _
          rw [e78]
          refine ⟨show -2147483648 ≤ _ ∧ _ < 2147483648 by omega, ?_⟩
          have f3 : wFx m0 (hy_u (hy_u m2 112 (many : Int) (mA 41)) 74 73 ((many : Int) + 1)) := s2.1.tr (fun a e q1 q2 q3 q4 => by rw [hy_uf (by omega), hy_ua q1])
          have e41 : hy_u (hy_u m2 112 (many : Int) (mA 41)) 74 73 ((many : Int) + 1) 112 (many : Int) = mA 41 := by rw [hy_ua (by decide), hy_us]
          have e73 : hy_u (hy_u m2 112 (many : Int) (mA 41)) 74 73 ((many : Int) + 1) 74 73 = ((many + 1 : Nat) : Int) := by rw [hy_us]; omega
          have elo : ∀ i : Int, i < many → hy_u (hy_u m2 112 (many : Int) (mA 41)) 74 73 ((many : Int) + 1) 112 i = m 112 i := fun i hi => by rw [hy_ua (by decide), hy_uk (by omega), r2, hp2]
          have eo3 : ∀ (a : Nat) (e : Int), a ≠ 112 → ¬ (a = 74 ∧ e = 73) → hy_u (hy_u m2 112 (many : Int) (mA 41)) 74 73 ((many : Int) + 1) a e = m2 a e := fun a e q1 q2 => by rw [hy_uf q2, hy_ua q1]
          generalize hy_u (hy_u m2 112 (many : Int) (mA 41)) 74 73 ((many : Int) + 1) = m3 at *
          refine sp_291_82 (many := many + 1) (wFx_g f3 hg) (wFx_T f3 hT20) h3 (by omega) e73 (by omega) (fun m4 f4 g73 glo gy gc => ?_)
          have f4x : wFx m0 m4 := f3.tr (fun a e q1 q2 q3 q4 => f4 a e q1 (by omega))
          have eo4 : ∀ (a : Nat) (e : Int), a ≠ 112 → ¬ (a = 74 ∧ e = 73) → m4 a e = m2 a e := fun a e q1 q2 => by rw [f4 a e q1 q2, eo3 a e q1 q2]
          have o4 : mOu m4 (tkp o (nmT k ++ [40])) := ⟨by rw [eo4 74 70 (by decide) (by decide)]; exact o2.1, o2.2.1, fun i c hc => by rw [eo4 117 _ (by decide) (by omega)]; exact o2.2.2 i c hc⟩
          have n4 : mNa m4 nm := ⟨by rw [eo4 74 72 (by decide) (by decide)]; exact s2.2.2.2.1.1, s2.2.2.2.1.2.1, fun i v hv => by rw [eo4 118 _ (by decide) (by omega)]; exact s2.2.2.2.1.2.2 i v hv⟩
          by_cases cf : (tkp o (nmT k ++ [40])).length = 120
          · have e2 : tkp o ((nmT k ++ [40]) ++ (wM (sb s b) 1 nm).1) = tkp o (nmT k ++ [40]) := tkp_up _ cf
            exact wEx hP o4 cf (hfu m4 f4x (by rw [e2]; exact o4) (by rw [e2]; exact cf))
          · have hle := tkp_le o (nmT k ++ [40])
            have hnp := nmT_pos k
            have hlen : (tkp o (nmT k ++ [40])).length = o.length + (nmT k).length + 1 := by
              rw [tkp_len, List.length_append] at cf ⊢
              have : [(40 : Int)].length = 1 := rfl
              omega
            have hS4 : wSt m0 m4 (many + 2 * eN b) (tkp o (nmT k ++ [40])) nm := ⟨f4x, by rw [g73]; omega, o4, n4, by have := hp1.2.2.2.2.1; omega, by omega⟩
            refine wAr hP b lb (by omega) (fun j hj y' hy' => IH0 _ y' hy' (hDj j hj) (hsz j hj)) many _ nm m4 hS4 (by omega) (by rw [glo _ (by omega)]; exact e41) (fun j hj => ?_) (fun j j1 hj => ?_) (fun m5 s5 r5 l5 => hk m5 ?_ (fun i i1 i2 => by rw [r5 i i1 i2, glo _ (by omega), elo i i2]) ?_) (fun m5 f5 o5 l5 => hfu m5 f5 ?_ ?_)
            · obtain ⟨y', q1, q2⟩ := gy j hj
              exact ⟨y', q1, wFx_T' f3 q2⟩
            · have := gc j j1 hj
              rw [← this]
            · rw [tkp_tkp] at s5
              exact s5
            · rw [tkp_tkp] at l5
              exact l5
            · rw [tkp_tkp] at o5
              exact o5
            · rw [tkp_tkp] at l5
              exact l5
        · -- a list
          obtain ⟨a1, a2, rfl⟩ := sh2 lb (hk2 ck)
          have f1x : wFx m0 m1 := hp1.1.tr (wFm_x f1)
          refine sp_236b (j := 1) (wFx_g f1x hg) (wFx_T f1x hT20) (by show 1 < 2; decide) (fun y4 hy4 hyq => ?_)
          obtain ⟨n4, p4, rfl, hn4, hp4⟩ := hyq
          have hy4 : mTm G m0 (mQ n4 p4) a2 := wFx_T' f1x hy4
          rw [jO_rs hn4 hp4]
          have h73 : m1 74 73 = many := by rw [f1 74 73 (by decide) (by decide)]; exact hp1.2.1
          refine sp_290 h73 (by omega) ?_
          have f2x : wFx m0 (hy_u (hy_u m1 112 (many : Int) (mRs (4096 * p4 + n4))) 74 73 ((many : Int) + 1)) := f1x.tr (fun a e q1 q2 q3 q4 => by rw [hy_uf (by omega), hy_ua q1])
          have h73' : hy_u (hy_u m1 112 (many : Int) (mRs (4096 * p4 + n4))) 74 73 ((many : Int) + 1) 74 73 = ((many + 1 : Nat) : Int) := by rw [hy_us]; omega
          refine sp_236 (j := 0) (wFx_g f2x hg) (wFx_T f2x hT20) (by show 0 < 2; decide) (fun y0 hy0 _ => sp_290 h73' (by omega) ?_)
          have hy0 : mTm G m0 y0 a1 := wFx_T' f2x hy0
          rw [ck] at hk hfu
          exact wCell (c := 91) hP hp1 hl hmo (IH0 a1 y0 hy0 (hDj 0 (by show 0 < 2; decide)) (hsz 0 (by show 0 < 2; decide))) (IH2 a2 n4 p4 hy4 hn4 hp4 (hDj 1 (by show 1 < 2; decide)) (hsz 1 (by show 1 < 2; decide))) f1 o1 (fun m' a b c => hk m' a (fun i i1 i2 => by rw [b i i1 i2, hp2]) c) hfu
    | add _ _ => exact (mTm_nadd hT2).elim
    | sub _ _ => exact (mTm_nsub hT2 trivial).elim
    | neg _ => exact (mTm_nsub hT2 trivial).elim
    | mulR _ _ => exact (mTm_nsub hT2 trivial).elim
theorem wM_2 {u : pE} {nm : List Nat} (h1 : ∀ b, u = .mulL 1 b → eN b ≠ 0) (h2 : ∀ b, u = .mulL 2 b → eN b = 0) (h3 : ∀ x r, u ≠ .add x r) (h4 : ¬ eBad u) : wM u 2 nm = (124 :: (wM u 0 nm).1 ++ [93], (wM u 0 nm).2) := by
  cases u with
  | var v => rfl
  | num i => rfl
  | mulL k a =>
    show (if eN a = 0 then (if k = 1 then ([93], nm) else (124 :: nmT k ++ [93], nm)) else if k = 2 then (44 :: (wM a 3 nm).1, (wM a 3 nm).2) else (124 :: (nmT k ++ 40 :: (wM a 1 nm).1) ++ [93], (wM a 1 nm).2)) = (124 :: (if eN a = 0 then (nmT k, nm) else if k = 2 then (91 :: (wM a 3 nm).1, (wM a 3 nm).2) else (nmT k ++ 40 :: (wM a 1 nm).1, (wM a 1 nm).2)).1 ++ [93], (if eN a = 0 then (nmT k, nm) else if k = 2 then (91 :: (wM a 3 nm).1, (wM a 3 nm).2) else (nmT k ++ 40 :: (wM a 1 nm).1, (wM a 1 nm).2)).2)
    by_cases c0 : eN a = 0
    · rw [if_pos c0, if_pos c0, if_neg (fun e => h1 a (by rw [e]) c0)]
    · rw [if_neg c0, if_neg c0]
      by_cases c2 : k = 2
      · exact absurd (h2 a (by rw [c2])) c0
      · rw [if_neg c2, if_neg c2]
  | add x r => exact absurd rfl (h3 x r)
  | sub _ _ => exact absurd trivial h4
  | neg _ => exact absurd trivial h4
  | mulR _ _ => exact absurd trivial h4
set_option maxHeartbeats 8000000 in
/-- the rest of a list -/
theorem wG2 {n p : Nat} (hP : ∀ m, wf_294_10 Q P m → P m) (hg : gC G m0) (hB : mBd G m0 D B) (hR : Res B s) (ht : mTm G m0 (mQ n p) t) (hn : n < 3584) (hp : p ≤ 2500) (hD : ∀ w, vIn w t → D w) (G0 : ∀ t' y', mTm G m0 y' t' → (∀ w, vIn w t' → D w) → sz (sb s t') ≤ sz (sb s t) → wGo s m0 Q P 0 t' y') (IH2 : ∀ t' (n p : Nat), mTm G m0 (mQ n p) t' → n < 3584 → p ≤ 2500 → (∀ w, vIn w t' → D w) → sz (sb s t') < sz (sb s t) → wGo s m0 Q P 2 t' (mRs (4096 * p + n))) : wGo s m0 Q P 2 t (mRs (4096 * p + n)) := by
  intro many o nm m hS hl h112 hk hfu
  obtain ⟨hp1, hp2⟩ := wSt_pop hS
  have hmo : many ≤ 6 * o.length := by
    have := hS.2.2.2.2.2
    omega
  refine wHe hP hS hl h112 (sp_293r (by omega) ?_)
  rw [show ((4096 * p + n : Nat) : Int) = mQ n p by unfold mQ; omega]
  generalize hmp : hy_u m 74 73 (many : Int) = mp at *
  unfold wq_292
  refine sp_237 (wFx_B hp1.1 hB) hR (wFx_T hp1.1 ht) hD (fun y2 t2 hF hsb => sp_238 hF.1 ?_)
  have hst : sb s t = sb s t2 := hsb s hR.sol
  obtain ⟨hT2, hD2, hF2⟩ := hF
  have hT20 := wFx_T' hp1.1 hT2
  rw [hst] at hk hfu
  have h73 : mp 74 73 = many := hp1.2.1
  -- something else behind a bar
  have other : (wM (sb s t2) 2 nm = (124 :: (wM (sb s t2) 0 nm).1 ++ [93], (wM (sb s t2) 0 nm).2)) → wq_292_96 y2 mp (fun _ m3 => P m3) := fun e => by
    rw [e] at hk hfu
    unfold wq_292_96
    refine sp_286 hp1.2.2.1 (fun m1 f1 o1 => ?_)
    obtain ⟨s1, r1⟩ := wSt_out hp1 f1 o1
    have hol : (tkp o [(124 : Int)]).length = o.length + 1 := by
      rw [tkp_1 hl, List.length_append]
      rfl
    have g73 : m1 74 73 = many := s1.2.1
    refine sp_290 g73 (by omega) ?_
    obtain ⟨s2, r2, t2'⟩ := wSt_push (v := mA 93) s1 (by omega)
    show wq_290 y2 (hy_u (hy_u m1 112 (many : Int) (mA 93)) 74 73 ((many : Int) + 1)) _
    generalize hy_u (hy_u m1 112 (many : Int) (mA 93)) 74 73 ((many : Int) + 1) = m2 at *
    refine sp_290 (many := many + 1) s2.2.1 (by omega) ?_
    obtain ⟨s3, r3, t3⟩ := wSt_push (v := y2) s2 (by omega)
    generalize hy_u (hy_u m2 112 ((many + 1 : Nat) : Int) y2) 74 73 (((many + 1 : Nat) : Int) + 1) = m3 at *
    by_cases cf : (tkp o [(124 : Int)]).length = 120
    · have e2 : tkp o (124 :: (wM (sb s t2) 0 nm).1 ++ [93]) = tkp o [(124 : Int)] := tkp_up (w := [(124 : Int)]) ((wM (sb s t2) 0 nm).1 ++ [93]) cf
      exact wEx hP s3.2.2.1 cf (hfu m3 s3.1 (by rw [e2]; exact s3.2.2.1) (by rw [e2]; exact cf))
    · refine G0 t2 y2 hT20 hD2 (by rw [hst]; exact Nat.le_refl _) (many + 1) _ nm m3 s3 (by have := tkp_le o [(124 : Int)]; omega) t3 (fun m4 s4 r4 l4 => ?_) (fun m4 f4 o4 l4 => ?_)
      · refine wLe (c := 93) hP (by decide) s4 l4 (by rw [r4 _ (by omega) (by omega), r3 _ (by omega)]; exact t2') (fun m5 s5 r5 l5 => hk m5 ?_ (fun i i1 i2 => by rw [r5 i i1 i2, r4 i i1 (by omega), r3 _ (by omega), r2 _ (by omega), r1, hp2]) ?_) (fun m5 f5 o5 l5 => hfu m5 f5 ?_ ?_)
        · rw [tkp_tkp, tkp_tkp] at s5
          exact s5
        · rw [tkp_tkp, tkp_tkp] at l5
          exact l5
        · rw [tkp_tkp, tkp_tkp] at o5
          exact o5
        · rw [tkp_tkp, tkp_tkp] at l5
          exact l5
      · rw [tkp_tkp] at o4 l4
        have e2 : tkp o (124 :: (wM (sb s t2) 0 nm).1 ++ [93]) = tkp o ([(124 : Int)] ++ (wM (sb s t2) 0 nm).1) := tkp_up _ l4
        exact hfu m4 f4 (by rw [e2]; exact o4) (by rw [e2]; exact l4)
  have h38 : (∀ b, t2 = .mulL 1 b → eN b ≠ 0) → wq_292_38 y2 mp (fun _ m3 => P m3) := fun hn1 => by
    unfold wq_292_38
    have oth : (∀ b, t2 = .mulL 2 b → eN b = 0) → wq_292_96 y2 mp (fun _ m3 => P m3) := fun hn2 => other (by
      rcases hF2 with ⟨w, -, rfl, hbn, -⟩ | ⟨hnv, -⟩
      · show wM (s w) 2 nm = (124 :: (wM (s w) 0 nm).1 ++ [93], (wM (s w) 0 nm).2)
        rw [(hR w).1 hbn]
        rfl
      · cases t2 with
        | var w => exact absurd rfl (hnv w)
        | num i => rfl
        | mulL k b =>
          obtain ⟨lb, -⟩ := mTm_L hT2
          have eb := isL_sbL s b lb
          refine wM_2 (fun b' e => ?_) (fun b' e => ?_) (fun x r e => by cases e) (fun e => e)
          · injection e with e1 e2
            rw [← e2, eb.2]
            exact hn1 b (by rw [e1])
          · injection e with e1 e2
            rw [← e2, eb.2]
            exact hn2 b (by rw [e1])
        | add _ _ => exact (mTm_nadd hT2).elim
        | sub _ _ => exact (mTm_nsub hT2 trivial).elim
        | neg _ => exact (mTm_nsub hT2 trivial).elim
        | mulR _ _ => exact (mTm_nsub hT2 trivial).elim)
    refine sp_238 hT2 ⟨fun q => oth (fun b e => ?_), fun q => ?_⟩
    · rw [e] at q
      by_cases c0 : eN b = 0
      · exact c0
      · exact absurd (if_neg c0) q
    · cases t2 with
      | mulL k b =>
        obtain ⟨lb, h3⟩ := mTm_L hT2
        obtain ⟨hnm, hk1, hk2⟩ := mTm_nm hT2
        have eb := isL_sbL s b lb
        obtain ⟨n2, p2, rfl, hn2, h7, h8⟩ := mTm_mul hT2
        refine sp_232Q hn2 ⟨by omega, by omega, ?_⟩
        rw [h7]
        refine ⟨fun ck => oth (fun b' e => ?_), fun ck => sp_286 hp1.2.2.1 (fun m1 f1 o1 => ?_)⟩
        · injection e with e1 e2
          exact absurd e1 ck
        · obtain ⟨a1, a2, rfl⟩ := sh2 lb (hk2 ck)
          have hsz : ∀ j, j < 2 → sz (sb s (eAr (.add a1 (.add a2 (.num 0))) j)) < sz (sb s t) := fun j hj => by
            have q := ar_sz s (.add a1 (.add a2 (.num 0))) j lb hj
            have : sz (sb s (.mulL k (.add a1 (.add a2 (.num 0))))) = 1 + sz (sb s (.add a1 (.add a2 (.num 0)))) := rfl
            rw [hst]
            omega
          have hDj : ∀ j, j < 2 → ∀ w, vIn w (eAr (.add a1 (.add a2 (.num 0))) j) → D w := fun j hj w hw' => hD2 w (show vIn w (.add a1 (.add a2 (.num 0))) from vIn_ar w (.add a1 (.add a2 (.num 0))) j lb hj hw')
          have f1x : wFx m0 m1 := hp1.1.tr (wFm_x f1)
          refine sp_236b (j := 1) (wFx_g f1x hg) (wFx_T f1x hT20) (by show 1 < 2; decide) (fun y4 hy4 hyq => ?_)
          obtain ⟨n4, p4, rfl, hn4, hp4⟩ := hyq
          have hy4 : mTm G m0 (mQ n4 p4) a2 := wFx_T' f1x hy4
          rw [jO_rs hn4 hp4]
          have h73 : m1 74 73 = many := by rw [f1 74 73 (by decide) (by decide)]; exact hp1.2.1
          refine sp_290 h73 (by omega) ?_
          have f2x : wFx m0 (hy_u (hy_u m1 112 (many : Int) (mRs (4096 * p4 + n4))) 74 73 ((many : Int) + 1)) := f1x.tr (fun a e q1 q2 q3 q4 => by rw [hy_uf (by omega), hy_ua q1])
          have h73' : hy_u (hy_u m1 112 (many : Int) (mRs (4096 * p4 + n4))) 74 73 ((many : Int) + 1) 74 73 = ((many + 1 : Nat) : Int) := by rw [hy_us]; omega
          refine sp_236 (j := 0) (wFx_g f2x hg) (wFx_T f2x hT20) (by show 0 < 2; decide) (fun y0 hy0 _ => sp_290 h73' (by omega) ?_)
          have hy0 : mTm G m0 y0 a1 := wFx_T' f2x hy0
          rw [ck] at hk hfu
          have z1 := hsz 0 (by decide)
          exact wCell (c := 44) hP hp1 hl hmo (G0 a1 y0 hy0 (hDj 0 (by decide)) (Nat.le_of_lt z1)) (IH2 a2 n4 p4 hy4 hn4 hp4 (hDj 1 (by decide)) (hsz 1 (by decide))) f1 o1 (fun m' a b c => hk m' a (fun i i1 i2 => by rw [b i i1 i2, hp2]) c) hfu
      | var _ => exact absurd (show (1 : Int) = 4 from q) (by decide)
      | num _ => exact absurd (show (2 : Int) = 4 from q) (by decide)
      | add _ _ => exact absurd (show (0 : Int) = 4 from q) (by decide)
      | sub _ _ => exact absurd (show (0 : Int) = 4 from q) (by decide)
      | neg _ => exact absurd (show (0 : Int) = 4 from q) (by decide)
      | mulR _ _ => exact absurd (show (0 : Int) = 4 from q) (by decide)
  refine ⟨fun q => h38 (fun b e => ?_), fun q => ?_⟩
  · rw [e] at q
    intro c0
    exact absurd (if_pos c0) q
  · cases t2 with
    | mulL k b =>
      obtain ⟨lb, h3⟩ := mTm_L hT2
      have eb := isL_sbL s b lb
      obtain ⟨n2, p2, rfl, hn2, h7, h8⟩ := mTm_mul hT2
      have c0 : eN b = 0 := Decidable.byContradiction fun c => absurd ((if_neg c).symm.trans q) (by decide)
      refine sp_232Q hn2 ⟨by omega, by omega, ?_⟩
      rw [h7]
      refine ⟨fun ck => h38 (fun b' e => ?_), fun ck => sp_286 hp1.2.2.1 (fun m1 f1 o1 => ?_)⟩
      · injection e with e1 e2
        exact absurd e1 ck
      · have e : wM (sb s (.mulL k b)) 2 nm = ([93], nm) := by
          show (if eN (sb s b) = 0 then (if k = 1 then _ else _) else _) = _
          rw [eb.2, if_pos c0, if_pos ck]
        rw [e] at hk hfu
        obtain ⟨s1, r1⟩ := wSt_out hp1 f1 o1
        by_cases cf : (tkp o [(93 : Int)]).length = 120
        · exact wEx hP o1 cf (hfu m1 s1.1 o1 cf)
        · have := tkp_le o [(93 : Int)]
          exact hk m1 s1 (fun i _ _ => by rw [r1, hp2]) (by
            show (tkp o [(93 : Int)]).length < 120
            omega)
    | var _ => exact absurd (show (1 : Int) = 3 from q) (by decide)
    | num _ => exact absurd (show (2 : Int) = 3 from q) (by decide)
    | add _ _ => exact absurd (show (0 : Int) = 3 from q) (by decide)
    | sub _ _ => exact absurd (show (0 : Int) = 3 from q) (by decide)
    | neg _ => exact absurd (show (0 : Int) = 3 from q) (by decide)
    | mulR _ _ => exact absurd (show (0 : Int) = 3 from q) (by decide)
/-- every term -/
theorem wAll (hP : ∀ m, wf_294_10 Q P m → P m) (hg : gC G m0) (hB : mBd G m0 D B) (hR : Res B s) : ∀ z : Nat, (∀ t y, mTm G m0 y t → (∀ w, vIn w t → D w) → sz (sb s t) ≤ z → wGo s m0 Q P 0 t y) ∧ ∀ t (n p : Nat), mTm G m0 (mQ n p) t → n < 3584 → p ≤ 2500 → (∀ w, vIn w t → D w) → sz (sb s t) ≤ z → wGo s m0 Q P 2 t (mRs (4096 * p + n))
  | 0 => ⟨fun t y _ _ h => by have := sz_pos (sb s t); omega, fun t n p _ _ _ _ h => by have := sz_pos (sb s t); omega⟩
  | z + 1 => by
    obtain ⟨i0, i2⟩ := wAll hP hg hB hR z
    have a0 : ∀ t y, mTm G m0 y t → (∀ w, vIn w t → D w) → sz (sb s t) ≤ z + 1 → wGo s m0 Q P 0 t y := fun t y ht hD hz => wG0 hP hg hB hR ht hD (fun t' y' h1 h2 h3 => i0 t' y' h1 h2 (by omega)) (fun t' n p h1 h2 h3 h4 h5 => i2 t' n p h1 h2 h3 h4 (by omega))
    exact ⟨a0, fun t n p ht hn hp hD hz => wG2 hP hg hB hR ht hn hp hD (fun t' y' h1 h2 h3 => a0 t' y' h1 h2 (by omega)) (fun t' n p h1 h2 h3 h4 h5 => i2 t' n p h1 h2 h3 h4 (by omega))⟩
/-- put -/
theorem sp_294 (hg : gC G m) (hB : mBd G m D B) (hR : Res B s) (ht : mTm G m y t) (hD : ∀ w, vIn w t → D w) (ho : mOu m o) (hn : mNa m nm) (hl : o.length < 120) (hnl : nm.length ≤ o.length) (h1 : ∀ m', wFx m m' → mOu m' (tkp o (wM (sb s t) 0 nm).1) → ((tkp o (wM (sb s t) 0 nm).1).length < 120 → mNa m' (wM (sb s t) 0 nm).2 ∧ (wM (sb s t) 0 nm).2.length ≤ (tkp o (wM (sb s t) 0 nm).1).length) → Q 0 m') : wq_294 y m Q := by
  unfold wq_294
  refine sp_290 (many := 0) (by rw [hy_us]; rfl) (by decide) ?_
  have f0 : wFx m (hy_u (hy_u (hy_u m 74 73 0) 112 ((0 : Nat) : Int) y) 74 73 (((0 : Nat) : Int) + 1)) := fun a e q1 q2 q3 q4 => by rw [hy_uf (by omega), hy_ua q1, hy_uf (by omega)]
  have hS : wSt m (hy_u (hy_u (hy_u m 74 73 0) 112 ((0 : Nat) : Int) y) 74 73 (((0 : Nat) : Int) + 1)) 1 o nm := by
    refine ⟨f0, by rw [hy_us]; rfl, ⟨by rw [hy_uk (by decide), hy_ua (by decide), hy_uk (by decide)]; exact ho.1, ho.2.1, fun i c hc => by rw [hy_ua (by decide), hy_ua (by decide), hy_ua (by decide)]; exact ho.2.2 i c hc⟩, ⟨by rw [hy_uk (by decide), hy_ua (by decide), hy_uk (by decide)]; exact hn.1, hn.2.1, fun i v hv => by rw [hy_ua (by decide), hy_ua (by decide), hy_ua (by decide)]; exact hn.2.2 i v hv⟩, hnl, by omega⟩
  have t0 : hy_u (hy_u (hy_u m 74 73 0) 112 ((0 : Nat) : Int) y) 74 73 (((0 : Nat) : Int) + 1) 112 ((0 : Nat) : Int) = y := by rw [hy_ua (by decide), hy_us]
  generalize hy_u (hy_u (hy_u m 74 73 0) 112 ((0 : Nat) : Int) y) 74 73 (((0 : Nat) : Int) + 1) = m1 at *
  intro P hP
  refine (wAll (G := G) (D := D) (B := B) hP hg hB hR (sz (sb s t))).1 t y ht hD (Nat.le_refl _) 0 o nm m1 hS hl t0 (fun m2 s2 _ l2 => ?_) (fun m2 f2 o2 l2 => h1 m2 f2 o2 (fun q => by omega))
  apply hP
  unfold wf_294_10
  have e73 : m2 74 73 = 0 := s2.2.1
  rw [e73]
  exact ⟨fun _ => h1 m2 s2.1 s2.2.2.1 (fun _ => ⟨s2.2.2.2.1, s2.2.2.2.2.1⟩), fun q => absurd q (by decide)⟩
end MWC
