/-! THE CLASS WRITES A TERM -/
section CWG
variable {X : cX} {T : hy_T} {B : bM} {s : Nat → pE} {m m' m0 : hy_m} {Q : Int → hy_m → Prop} {P : Int → hy_m → Prop} {o : List Int} {nm : List Nat} {d k : Nat} {t : pE} {x : Int}
theorem cTm_num {v : Int} (hx : cTm X m0 x (.num v)) : -2147483648 ≤ v ∧ v < 2147483648 := by
  rcases hx with ⟨j, _, _, e, hr⟩ | ⟨i, n, u, _, _, _, _, hk, e⟩
  · injection e with e
    rw [e]
    exact hr
  · cases u with
    | num i =>
      injection e with e
      have hk : 0 ≤ i ∧ i < 1000000 := hk
      omega
    | var _ => cases e
    | mulL _ _ => cases e
    | add _ _ => cases e
    | sub _ _ => exact hk.elim
    | neg _ => exact hk.elim
    | mulR _ _ => exact hk.elim
set_option maxHeartbeats 4000000 in
theorem vG (hP : ∀ x2 m, (∀ P' : Int → hy_m → Prop, (∀ a c, P a c → P' a c) → wf_159_19 T Q P' x2 m) → P x2 m) (hs : dSep X) (hO : cOr X) (hcw : cW X T m0) (hB : cBd X m0 B) (hR0 : Res B s) (hF : cFo X m0 B x t) (IHg : ∀ y t', cFo X m0 B y t' → sz (sb s t') < sz (sb s t) → vGo X T s m0 Q P t' y) (IHl : ∀ y c1 c2, cTm X m0 y (.mulL 2 (.add c1 (.add c2 (.num 0)))) → (∀ w, vIn w (.add c1 (.add c2 (.num 0))) → cDm X w) → sz (sb s (.mulL 2 (.add c1 (.add c2 (.num 0))))) ≤ sz (sb s t) → vLs X T s m0 Q P c1 c2 y) : vGo X T s m0 Q P t x := by
  intro d k o nm m R hR hS hk hc hfu
  obtain ⟨hx, hD, hF2⟩ := hF
  have ho120 := hS.2.2.1.2.1
  by_cases cfo : o.length = 120
  · refine vFu hs hO hcw hx hS cfo (fun m1 f1 o1 => hR 0 m1 (vEx hP o1 cfo (hfu m1 f1 (by rw [tkp_full cfo]; exact o1) (by rw [tkp_full cfo]; exact cfo))))
  have hl : o.length < 120 := by omega
  have ag := dFx_ag hs hS.1
  have hcm := cW_ag ag hcw
  have hxm := cTm_ag ag hx
  have h5 := hS.2.2.2.2.1
  have hd := hS.2.2.2.2.2
  -- signs alone
  have leaf : ∀ (w : List Int) (m1 : hy_m), 1 ≤ w.length → wM (sb s t) 0 nm = (w, nm) → wFc m m1 → cOu m1 (tkp o w) → R 0 m1 := fun w m1 hw e f1 o1 => by
    rw [e] at hc hfu
    obtain ⟨s1, r1, r2⟩ := dSt_out hS f1 o1
    refine hR 0 m1 ?_
    by_cases cf : (tkp o w).length = 120
    · exact vEx hP o1 cf (hfu m1 s1.1 o1 cf)
    · have := tkp_le o w
      have hlen : (tkp o w).length = o.length + w.length := by
        rw [tkp_len] at cf ⊢
        omega
      exact hc m1 k s1 (fun i _ => ⟨r1 i, r2 i⟩) (by
        show (tkp o w).length < 120
        omega) (by
        show k ≤ (tkp o w).length
        omega)
  unfold wq_160
  refine sp_130 hcm hxm (fun z hz1 hz2 => sp_129 hcm hxm ?_)
  rcases hF2 with ⟨w, rfl, hbn⟩ | hnv
  · refine ⟨⟨fun _ => sp_165 hO hx hS.2.2.1 hS.2.2.2.1 (by omega) (fun m1 f1 o1 n1 => hR 0 m1 ?_), fun q => absurd (show (1 : Int) = 2 from q) (by decide), fun q => absurd (show (1 : Int) = 3 from q) (by decide), fun q => absurd (show (1 : Int) = 4 from q) (by decide), trivial⟩, fun q => absurd (show (1 : Int) < 1 ∨ 4 < (1 : Int) from q) (by decide)⟩
    have e : wM (sb s (.var w)) 0 nm = (95 :: nT (nm.idxOf w : Nat), if w ∈ nm then nm else nm ++ [w]) := by
      show wM (s w) 0 nm = _
      rw [(hR0 w).1 hbn]
      rfl
    rw [e] at hc hfu
    have hfx : dFx m0 m1 := hS.1.tr (fun a e q1 q2 => f1 a e (by omega) (by omega) (by omega))
    by_cases cf : (tkp o (95 :: nT (nm.idxOf w : Nat))).length = 120
    · exact vEx hP o1 cf (hfu m1 hfx o1 cf)
    · have hle := tkp_le o (95 :: nT (nm.idxOf w : Nat))
      have hlen : (tkp o (95 :: nT (nm.idxOf w : Nat))).length = o.length + (nT (nm.idxOf w : Nat)).length + 1 := by
        rw [tkp_len] at cf ⊢
        rw [List.length_cons] at cf ⊢
        omega
      have := nT_pos (nm.idxOf w : Nat)
      refine hc m1 k ⟨hfx, by rw [f1 69 7 (by decide) (by decide) (by decide)]; exact hS.2.1, o1, n1, ?_, ?_⟩ (fun i _ => ⟨f1 72 i (by decide) (by decide) (by omega), f1 73 i (by decide) (by decide) (by omega)⟩) (by
        show (tkp o (95 :: nT (nm.idxOf w : Nat))).length < 120
        omega) (by
        show k ≤ (tkp o (95 :: nT (nm.idxOf w : Nat))).length
        omega)
      · show 2 * (if w ∈ nm then nm else nm ++ [w]).length ≤ (tkp o (95 :: nT (nm.idxOf w : Nat))).length
        split
        · omega
        · rw [List.length_append]
          show 2 * (nm.length + 1) ≤ _
          omega
      · show d ≤ (tkp o (95 :: nT (nm.idxOf w : Nat))).length
        omega
  · rcases cTm_sh hx hnv with ⟨v, rfl⟩ | ⟨kk, b, rfl, lb, h3, hnm⟩
    · have hzv := hz1 v rfl
      have hr := cTm_num hx
      rw [hzv]
      exact ⟨⟨fun q => absurd (show (2 : Int) = 1 from q) (by decide), fun _ => sp_166 (by have : (10 : Nat) ^ 10 = 10000000000 := by decide
                                                                                           omega) hS.2.2.1 (fun m1 f1 o1 => leaf (nT v) m1 (nT_pos v) rfl f1 o1), fun q => absurd (show (2 : Int) = 3 from q) (by decide), fun q => absurd (show (2 : Int) = 4 from q) (by decide), trivial⟩, fun q => absurd (show (2 : Int) < 1 ∨ 4 < (2 : Int) from q) (by decide)⟩
    · obtain ⟨hzk, -, -⟩ := hz2 kk b rfl
      obtain ⟨-, -, -, -, hnm'⟩ := cTm_nm hx
      have eb := isL_sbL s b lb
      rw [hzk, jSr_k hnm h3]
      by_cases c0 : eN b = 0
      · rw [show eKd (.mulL kk b) = 3 from if_pos c0]
        refine ⟨⟨fun q => absurd q (by decide), fun q => absurd q (by decide), fun _ => sp_167 hnm (fun e => ?_) hS.2.2.1 (fun m1 f1 o1 => leaf (nmT kk) m1 (nmT_pos kk) ?_ f1 o1), fun q => absurd q (by decide), trivial⟩, fun q => absurd q (by decide)⟩
        · have := hnm' e
          omega
        · show (if eN (sb s b) = 0 then _ else _) = _
          rw [eb.2, if_pos c0]
      · rw [show eKd (.mulL kk b) = 4 from if_neg c0]
        refine ⟨⟨fun q => absurd q (by decide), fun q => absurd q (by decide), fun q => absurd q (by decide), fun _ => ?_, trivial⟩, fun q => absurd q (by decide)⟩
        have h186 := kC_186 hnm h3 hnm'
        -- it is open now
        have push : ∀ (w : List Int) (m1 : hy_m), 1 ≤ w.length → wFc m m1 → cOu m1 (tkp o w) → (∀ m2, dSt X m0 m2 (d + 1) (tkp o w) nm → (tkp o w).length < 120 → k ≤ (tkp o w).length → m2 72 (d : Int) = x → m2 73 (d : Int) = 0 → (∀ i : Int, i < d → m2 72 i = m 72 i ∧ m2 73 i = m 73 i) → P (k : Int) m2) → (∀ m2, dFx m0 m2 → cOu m2 (tkp o w) → (tkp o w).length = 120 → Q 0 m2) → wq_161_30 x m1 (fun _ m6 => R 0 m6) := fun w m1 hw f1 o1 hk1 hf1 => by
          obtain ⟨s1, r1, r2⟩ := dSt_out hS f1 o1
          unfold wq_161_30
          rw [s1.2.1]
          refine ⟨fun q => by omega, fun _ => ⟨by omega, by omega, by omega, by omega, show -2147483648 ≤ _ ∧ _ < 2147483648 by omega, hR 0 _ ?_⟩⟩
          have fk : ∀ (a : Nat) (e : Int), a ≠ 72 → a ≠ 73 → ¬ (a = 69 ∧ e = 7) → hy_u (hy_u (hy_u m1 72 (d : Int) x) 73 (d : Int) 0) 69 7 ((d : Int) + 1) a e = m1 a e := fun a e q1 q2 q3 => by rw [hy_uf q3, hy_ua q2, hy_ua q1]
          have o2 : cOu (hy_u (hy_u (hy_u m1 72 (d : Int) x) 73 (d : Int) 0) 69 7 ((d : Int) + 1)) (tkp o w) := ⟨by rw [fk 69 2 (by decide) (by decide) (by decide)]; exact o1.1, o1.2.1, fun i c hc => by rw [fk 70 _ (by decide) (by decide) (by omega)]; exact o1.2.2.1 i c hc, by rw [fk 69 4 (by decide) (by decide) (by decide)]; exact o1.2.2.2⟩
          have fx2 : dFx m0 (hy_u (hy_u (hy_u m1 72 (d : Int) x) 73 (d : Int) 0) 69 7 ((d : Int) + 1)) := s1.1.tr (fun a e q1 q2 => fk a e (by omega) (by omega) (by omega))
          by_cases cf : (tkp o w).length = 120
          · exact vEx hP o2 cf (hf1 _ fx2 o2 cf)
          · have hle := tkp_le o w
            have hlen : (tkp o w).length = o.length + w.length := by
              rw [tkp_len] at cf ⊢
              omega
            refine hk1 _ (dSt_k s1 fk (by rw [hy_us]; omega) (by omega)) (by omega) (by omega) ?_ ?_ (fun i hi => ⟨?_, ?_⟩)
            · rw [hy_ua (by decide), hy_ua (by decide), hy_us]
            · rw [hy_ua (by decide), hy_us]
            · rw [hy_ua (by decide), hy_ua (by decide), hy_uk (by omega), r1]
            · rw [hy_ua (by decide), hy_uk (by omega), hy_ua (by decide), r2]
        unfold wq_161
        refine ⟨fun q => ?_, fun q => sp_168 (by decide) hS.2.2.1 (fun m1 f1 o1 => ?_)⟩
        · have ck : kk ≠ 2 := fun e => q (h186.mpr e)
          rw [jSr_k hnm h3]
          refine sp_167 hnm ck hS.2.2.1 (fun m1 f1 o1 => sp_168 (by decide) o1 (fun m2 f2 o2 => ?_))
          rw [tkp_tkp] at o2
          have e : wM (sb s (.mulL kk b)) 0 nm = ((nmT kk ++ [40]) ++ (wM (sb s b) 1 nm).1, (wM (sb s b) 1 nm).2) := by
            show (if eN (sb s b) = 0 then _ else if kk = 2 then _ else _) = _
            rw [eb.2, if_neg c0, if_neg ck, List.append_assoc]
            rfl
          have ea : ∀ nm, txA s b 0 nm = wM (sb s b) 1 nm := fun nm => by
            unfold txA
            rw [if_neg c0, if_pos rfl]
          rw [e] at hc hfu
          refine push (nmT kk ++ [40]) m2 (by rw [List.length_append]; show 1 ≤ _ + 1; omega) (f1.tr f2) o2 (fun m3 s3 l3 g3 t72 t73 r3 => ?_) (fun m3 f3 o3 l3 => ?_)
          · refine vAr hP hs hO hcw hB hR0 hx ck hD b 0 lb (by omega) (fun i _ => by rw [Nat.zero_add]) (fun i hi y t' h1 h2 => IHg y t' h1 ?_) d k _ nm m3 s3 l3 g3 t72 t73 (fun m4 k4 s4 r4 l4 g4 => hc m4 k4 ?_ (fun i hi => ⟨by rw [(r4 i hi).1, (r3 i hi).1], by rw [(r4 i hi).2, (r3 i hi).2]⟩) ?_ ?_) (fun m4 f4 o4 l4 => hfu m4 f4 ?_ ?_)
            · rw [h2]
              have q := ar_sz s b i lb hi
              have : sz (sb s (.mulL kk b)) = 1 + sz (sb s b) := rfl
              omega
            · rw [ea, tkp_tkp] at s4
              exact s4
            · rw [ea, tkp_tkp] at l4
              exact l4
            · rw [ea, tkp_tkp] at g4
              exact g4
            · rw [ea, tkp_tkp] at o4
              exact o4
            · rw [ea, tkp_tkp] at l4
              exact l4
          · have e2 : tkp o ((nmT kk ++ [40]) ++ (wM (sb s b) 1 nm).1) = tkp o (nmT kk ++ [40]) := tkp_up _ l3
            exact hfu m3 f3 (by rw [e2]; exact o3) (by rw [e2]; exact l3)
        · have ck : kk = 2 := h186.mp q
          subst ck
          obtain ⟨a1, a2, rfl⟩ := sh2 lb (hnm' rfl)
          have e : wM (sb s (.mulL 2 (.add a1 (.add a2 (.num 0))))) 0 nm = ([91] ++ ((wM (sb s a1) 0 nm).1 ++ (wM (sb s a2) 2 (wM (sb s a1) 0 nm).2).1), (wM (sb s a2) 2 (wM (sb s a1) 0 nm).2).2) := rfl
          rw [e] at hc hfu
          refine push [91] m1 (by decide) f1 o1 (fun m3 s3 l3 g3 t72 t73 r3 => ?_) (fun m3 f3 o3 l3 => ?_)
          · refine IHl x a1 a2 hx hD (Nat.le_refl _) d k _ nm m3 s3 l3 g3 t72 t73 (fun m4 k4 s4 r4 l4 g4 => hc m4 k4 ?_ (fun i hi => ⟨by rw [(r4 i hi).1, (r3 i hi).1], by rw [(r4 i hi).2, (r3 i hi).2]⟩) ?_ ?_) (fun m4 f4 o4 l4 => hfu m4 f4 ?_ ?_)
            · rw [tkp_tkp] at s4
              exact s4
            · rw [tkp_tkp] at l4
              exact l4
            · rw [tkp_tkp] at g4
              exact g4
            · rw [tkp_tkp] at o4
              exact o4
            · rw [tkp_tkp] at l4
              exact l4
          · have e2 : tkp o ([91] ++ ((wM (sb s a1) 0 nm).1 ++ (wM (sb s a2) 2 (wM (sb s a1) 0 nm).2).1)) = tkp o [91] := tkp_up _ l3
            exact hfu m3 f3 (by rw [e2]; exact o3) (by rw [e2]; exact l3)
theorem vAll (hP : ∀ x2 m, (∀ P' : Int → hy_m → Prop, (∀ a c, P a c → P' a c) → wf_159_19 T Q P' x2 m) → P x2 m) (hs : dSep X) (hO : cOr X) (hcw : cW X T m0) (hB : cBd X m0 B) (hR0 : Res B s) : ∀ z : Nat, (∀ x t, cFo X m0 B x t → sz (sb s t) ≤ z → vGo X T s m0 Q P t x) ∧ ∀ y c1 c2, cTm X m0 y (.mulL 2 (.add c1 (.add c2 (.num 0)))) → (∀ w, vIn w (.add c1 (.add c2 (.num 0))) → cDm X w) → sz (sb s (.mulL 2 (.add c1 (.add c2 (.num 0))))) ≤ z → vLs X T s m0 Q P c1 c2 y
  | 0 => ⟨fun x t _ h => by have := sz_pos (sb s t); omega, fun y c1 c2 _ _ h => by have := sz_pos (sb s (.mulL 2 (.add c1 (.add c2 (.num 0))))); omega⟩
  | z + 1 => by
    obtain ⟨i0, i2⟩ := vAll hP hs hO hcw hB hR0 z
    have l2 : ∀ y c1 c2, cTm X m0 y (.mulL 2 (.add c1 (.add c2 (.num 0)))) → (∀ w, vIn w (.add c1 (.add c2 (.num 0))) → cDm X w) → sz (sb s (.mulL 2 (.add c1 (.add c2 (.num 0))))) ≤ z + 1 → vLs X T s m0 Q P c1 c2 y := fun y c1 c2 hy hD hz => by
      have lb : isL (.add c1 (.add c2 (.num 0))) := rfl
      have q1 : sz (sb s c1) < sz (sb s (.add c1 (.add c2 (.num 0)))) := ar_sz s (.add c1 (.add c2 (.num 0))) 0 lb (by show 0 < 2; decide)
      have q2 : sz (sb s c2) < sz (sb s (.add c1 (.add c2 (.num 0)))) := ar_sz s (.add c1 (.add c2 (.num 0))) 1 lb (by show 1 < 2; decide)
      have q3 : sz (sb s (.mulL 2 (.add c1 (.add c2 (.num 0))))) = 1 + sz (sb s (.add c1 (.add c2 (.num 0)))) := rfl
      exact vLi hP hs hO hcw hB hR0 hy hD (fun y' t' h1 h2 => i0 y' t' h1 (by rw [h2]; omega)) (fun y' t' h1 h2 => i0 y' t' h1 (by rw [h2]; omega)) (fun y' d1 d2 h1 h2 h3 => i2 y' d1 d2 h1 h2 (by rw [h3]; omega))
    exact ⟨fun x t hF hz => vG hP hs hO hcw hB hR0 hF (fun y t' h1 h2 => i0 y t' h1 (by omega)) (fun y c1 c2 h1 h2 h3 => l2 y c1 c2 h1 h2 (by omega)), l2⟩
/-- addTerm -/
theorem sp_159 (hs : dSep X) (hO : cOr X) (hcw : cW X T m) (hB : cBd X m B) (hR0 : Res B s) (hx : cTm X m x t) (hD : ∀ w, vIn w t → cDm X w) (ho : cOu m o) (hn : cNa X m m nm) (hnl : 2 * nm.length ≤ o.length) (h1 : ∀ m', dFx m m' → cOu m' (tkp o (wM (sb s t) 0 nm).1) → ((tkp o (wM (sb s t) 0 nm).1).length < 120 → cNa X m m' (wM (sb s t) 0 nm).2 ∧ 2 * (wM (sb s t) 0 nm).2.length ≤ (tkp o (wM (sb s t) 0 nm).1).length) → Q 0 m') : wq_159 x T m Q := by
  have f0 : dFx m (hy_u m 69 7 0) := fun a e q1 q2 => hy_uf (by omega)
  have ag0 := dFx_ag hs f0
  have hS : dSt X m (hy_u m 69 7 0) 0 o nm := ⟨f0, hy_us .., ⟨by rw [hy_uk (by decide)]; exact ho.1, ho.2.1, fun i c hc => by rw [hy_ua (by decide)]; exact ho.2.2.1 i c hc, by rw [hy_uk (by decide)]; exact ho.2.2.2⟩, ⟨by rw [hy_uk (by decide)]; exact hn.1, hn.2.1, fun i v hv => by rw [hy_ua (by decide)]; exact hn.2.2 i v hv⟩, hnl, Nat.zero_le _⟩
  unfold wq_159
  refine sp_124 (cW_ag ag0 hcw) hO (cBd_ag ag0 (dFx_b4 hs f0) hB) hR0 (cTm_ag ag0 hx) hD (fun y2 t2 hF hsb => ?_)
  have hst : sb s t = sb s t2 := hsb s hR0.sol
  have hF0 : cFo X m B y2 t2 := ⟨cTm_ag ag0.sy hF.1, hF.2⟩
  rw [hst] at h1
  refine (vAll (m0 := m) (P := fun a c => wL1 hy_m (wf_159_19 T Q) a c) (Q := Q) (fun x2 m hh P hP => hP _ _ (hh P (fun a c h => h P hP))) hs hO hcw hB hR0 (sz (sb s t2))).1 y2 t2 hF0 (Nat.le_refl _) 0 0 o nm _ _ (fun r m1 h => h) hS (Nat.zero_le _) (fun m2 k2 s2 _ l2 g2 => ?_) (fun m2 f2 o2 l2 => h1 m2 f2 o2 (fun q => by omega))
  intro P hP
  apply hP
  unfold wf_159_19
  have e7 : m2 69 7 = 0 := s2.2.1
  rw [e7]
  have fin : Q 0 m2 := h1 m2 s2.1 s2.2.2.1 (fun _ => ⟨s2.2.2.2.1, s2.2.2.2.2.1⟩)
  exact ⟨fun _ => fin, fun _ => ⟨fun _ => fin, fun q => absurd q (by decide)⟩⟩
end CWG
