/-! THE CLASS'S SEARCH: perform -/
theorem cdB_k {PL : List pCl} {x k z z' : Int} (h : k ≤ 1) : cdB PL x k z = cdB PL x k z' := by
  funext v
  unfold cdB
  split
  · unfold cm
    simp only [decide_eq_true h, Bool.true_or]
  · rfl
section CPF
variable {E : qE} {l l' TI TI' TL : List Nat} {F : Nat → Prop} {T T' : hy_T} {m m' m1 m2 mo : hy_m} {Z Z' : cZ} {N N' n u n' u' k n0 u0 K J : Nat} {A A' : qA} {B B' : bM} {s s' : Nat → pE} {X : cX} {x y : Int} {t ta tb b : pE} {kk : Int} {Q : sQ}
theorem kls (hO : qOJ E A J) : ∀ c ∈ qh A, c.2.2.2.1.1 ≤ (qi A).length := fun c hc => (chK_all _ hO.1 c hc).1
theorem cO_N (hN : N ≤ N') (h : cOut E F N' K n0 u0 T m A' Q) (hk : qOK E A') : cO1 E F N K n0 u0 T m A' Q := fun r Z' T' n' u' m' h0 g1 g2 g3 g4 => h.1 r Z' T' n' u' m' h0 g1 g2 (cSe_N (kls hk) hN g3) g4
theorem lim47 (hO : qOJ E A 1) (hK : K + 13000 < 2147480000) (hCt : cCt m A K J) : m 47 10 < 2147483000 ∧ m 53 7 < 2147482000 := by
  obtain ⟨-, b3, b4⟩ := hCt
  obtain ⟨-, -, -, -, -, -, c7, c8, -⟩ := hO
  omega
/-- compare -/
theorem sp_94 (hK : K + 13000 < 2147480000) (hO : qOJ E A 1) (hS : cSe E F Z N T m A) (h1 : cTm (zX Z (qi A).length N) m x ta) (h2 : cTm (zX Z (qi A).length N) m y tb) (hx : 0 ≤ x) (hy : 0 ≤ y) (hOk : zOk n0 u0 Z T n u) (hsp : zSp F T mo T m) (hCt : cCt m A K 1) (h : cOut E F (N + 1) K n0 u0 T mo (match ev0 (sb (qs A) ta), ev0 (sb (qs A) tb) with
    | some x, some y => if x < y then A else qbk E A
    | _, _ => qfin A 4 2) Q) : wq_94 x y T m (fun r m' => Q r (T, n, u, m')) := by
  have hkl := kls hO
  obtain ⟨l1, l2⟩ := lim47 hO hK hCt
  have fr : ∀ {m m' : hy_m}, (∀ (a : Nat) (e : Int), a < 42 ∨ a = 46 ∨ a = 47 ∨ (69 ≤ a ∧ a ≤ 73) ∨ F a → m' a e = m a e) → zSp F T m T m' := fun q1 => ⟨fun _ _ q => q, fun a e q => q1 a e (by
    rcases q with q | q | q
    · exact Or.inl (Nat.lt_trans q (by decide))
    · exact Or.inr (Or.inr (Or.inr (Or.inl q)))
    · exact Or.inr (Or.inr (Or.inr (Or.inr q))))⟩
  have tE1 : ∀ m' : hy_m, (∀ (a : Nat) (e : Int), a < 42 ∨ a = 46 ∨ a = 47 ∨ (69 ≤ a ∧ a ≤ 73) ∨ F a → m' a e = m a e) → cSe E F Z N T m' A → tE (zX Z (qi A).length N) m (zX Z (qi A).length N) m' := fun m' q1 q2 => tE_s hS.1 q2.1 (Nat.le_refl _) (Nat.le_refl _) (fun _ q => q) (fun b z hb => q1 b z (Or.inr (Or.inr (Or.inr (Or.inr hb))))) (fun j _ => q1 _ _ (Or.inr (Or.inl rfl))) (Nat.le_refl _)
  have ct : ∀ m' : hy_m, (∀ (a : Nat) (e : Int), a < 42 ∨ a = 46 ∨ a = 47 ∨ (69 ≤ a ∧ a ≤ 73) ∨ F a → m' a e = m a e) → m' 53 7 ≤ m 53 7 + 2 → cCt m' A K 0 := fun m' q1 q2 => cCt_0 hCt (q1 _ _ (Or.inl (by decide))) (q1 _ _ (Or.inl (by decide))) (by rw [q1 47 _ (by omega)]; omega) q2 rfl rfl rfl rfl
  unfold wq_94
  refine sp_evc hkl hS h1 hx (by omega) (fun v m' e1 r1 f1 s1 c1 c8 => ⟨fun _ => ?_, fun q => absurd q (by decide)⟩) (fun m' e1 f1 s1 c1 => ⟨fun q => absurd rfl q, fun _ => ?_⟩)
  · rw [e1] at h
    refine sp_evc hkl s1 (tE1 m' f1 s1 _ _ h2) hy (by omega) (fun v2 m2 e2 r2 f2 s2 c2 c82 => ⟨fun _ => ?_, fun q => absurd q (by decide)⟩) (fun m2 e2 f2 s2 c2 => ⟨fun q => absurd rfl q, fun _ => ?_⟩)
    · rw [e2] at h
      have f3 : ∀ (a : Nat) (e : Int), a < 42 ∨ a = 46 ∨ a = 47 ∨ (69 ≤ a ∧ a ≤ 73) ∨ F a → m2 a e = m a e := fun a e q => (f2 a e q).trans (f1 a e q)
      have hs2 := hsp.tr (fr f3)
      have hc2 := ct m2 f3 (by omega)
      rw [c8, c82]
      refine ⟨fun hle => ?_, fun hlt => ?_⟩
      · have h : cOut E F (N + 1) K n0 u0 T mo (if v < v2 then A else qbk E A) Q := h
        rw [if_neg (by omega)] at h
        exact h.2 A Z T n u m2 hO.fl rfl hs2 hOk (cFl_N hkl (Nat.le_succ _) s2.fl) hc2
      · have h : cOut E F (N + 1) K n0 u0 T mo (if v < v2 then A else qbk E A) Q := h
        rw [if_pos hlt] at h
        exact h.1 1 Z T n u m2 (by decide) hs2 hOk (cSe_N hkl (Nat.le_succ _) s2) hc2
    · rw [e2] at h
      have f3 : ∀ (a : Nat) (e : Int), a < 42 ∨ a = 46 ∨ a = 47 ∨ (69 ≤ a ∧ a ≤ 73) ∨ F a → m2 a e = m a e := fun a e q => (f2 a e q).trans (f1 a e q)
      exact sp_noc (er := 2) (cFl_N hkl (Nat.le_succ _) s2.fl) hOk (hsp.tr (fr f3)) (ct m2 f3 (by omega)) h.1
  · have h : cOut E F (N + 1) K n0 u0 T mo (qfin A 4 2) Q := by
      rw [e1] at h
      exact h
    exact sp_noc (er := 2) (cFl_N hkl (Nat.le_succ _) s1.fl) hOk (hsp.tr (fr f1)) (ct m' f1 (by omega)) h.1
/-- assign -/
theorem sp_95 (hK : K + 13000 < 2147480000) (hO : qOJ E A 1) (hN : qn A 2 = N) (hS : cSe E F Z N T m A) (h1 : cTm (zX Z (qi A).length N) m x ta) (h2 : cTm (zX Z (qi A).length N) m y tb) (v1 : ∀ w, vIn w ta → w < tot E (qi A)) (hy : 0 ≤ y) (hOk : zOk n0 u0 Z T n u) (hsp : zSp F T mo T m) (hCt : cCt m A K 1) (h : cOut E F (N + 1) K n0 u0 T mo (match ev0 (sb (qs A) tb) with
    | some v => quni E A ta (.num v)
    | none => qfin A 4 2) Q) : wq_95 x y T m (fun r m' => Q r (T, n, u, m')) := by
  have hkl := kls hO
  obtain ⟨l1, l2⟩ := lim47 hO hK hCt
  have hN300 : N ≤ 300 := by
    have := hO.2.2.2.2.2.2.2.1
    omega
  have fr : ∀ {m m' : hy_m}, (∀ (a : Nat) (e : Int), a < 42 ∨ a = 46 ∨ a = 47 ∨ (69 ≤ a ∧ a ≤ 73) ∨ F a → m' a e = m a e) → zSp F T m T m' := fun q1 => ⟨fun _ _ q => q, fun a e q => q1 a e (by
    rcases q with q | q | q
    · exact Or.inl (Nat.lt_trans q (by decide))
    · exact Or.inr (Or.inr (Or.inr (Or.inl q)))
    · exact Or.inr (Or.inr (Or.inr (Or.inr q))))⟩
  unfold wq_95
  refine sp_evc hkl hS h2 hy (by omega) (fun v m' e1 r1 f1 s1 c1 c8 => ⟨fun _ => ?_, fun q => absurd q (by decide)⟩) (fun m' e1 f1 s1 c1 => ⟨fun q => absurd rfl q, fun _ => ?_⟩)
  · rw [e1] at h
    have e12 : m' 36 12 = (N : Int) := by rw [s1.2.1.1, hN]
    unfold wq_123
    rw [e12, c8]
    have eif : (if (0 : Int) < (if (301 - 1 : Int) < (N : Int) then (301 - 1 : Int) else (N : Int)) then (if (301 - 1 : Int) < (N : Int) then (301 - 1 : Int) else (N : Int)) else 0) = (N : Int) := by
      rw [if_neg (show ¬ (301 - 1 : Int) < (N : Int) by omega)]
      split <;> omega
    rw [eif]
    have g1 : ∀ (a : Nat) (e : Int), ¬ (a = 46 ∧ e = (N : Int)) → hy_u m' 46 (N : Int) v a e = m' a e := fun a e q => hy_uf q
    have g2 : hy_u m' 46 (N : Int) v 46 (N : Int) = v := hy_us _ _ _ _
    generalize hy_u m' 46 (N : Int) v = M at g1 g2
    have hP := s1.1
    have hP' : cPr E F T M Z (qi A) := cPr_s hP (fun a e q => g1 a e (fun z => q (by unfold kEx; simp [z.1])))
    have ne := cRo_ne hP.1
    have hFc : ∀ b z, F b → M b z = m' b z := fun b z hb => g1 b z (by have := hP.1.2.1 b hb; omega)
    have h46 : ∀ j : Nat, j < N → M 46 (j : Int) = m' 46 (j : Int) := fun j hj => g1 _ _ (by omega)
    have hO2 := hP.2.2.2.2.1
    have sM : cSe E F Z (N + 1) T M A := cSe_g s1 hkl hP' (Nat.le_succ _) (fun e _ => g1 _ _ (by omega)) (fun e _ => g1 _ _ (by omega)) h46 (fun e => g1 _ _ (fun z => ne.2.2.2.2.2.2.2.1 z.1)) (fun e => g1 _ _ (fun z => (hP.1.1.2 (yt (zU Z)) (by unfold rwL; simp)).2.1 z.1)) (fun j c' q z => g1 _ _ (by have := (hO2.1.2.1 j c' q).2.2.1; omega)) (fun j c' q z => g1 _ _ (by have := (hO2.2.2.1 j c' q).2.2.1; omega)) hFc rfl rfl rfl (cNm_fr (A := A) s1.2.1 (fun e _ _ => g1 _ _ (by omega)) (fun e => g1 _ _ (by omega)) (fun e => g1 _ _ (by omega)))
    have tE2 : tE (zX Z (qi A).length N) m (zX Z (qi A).length (N + 1)) M := tE_s hS.1 hP' (Nat.le_refl _) (Nat.le_refl _) (fun _ q => q) (fun b z hb => (hFc b z hb).trans (f1 b z (Or.inr (Or.inr (Or.inr (Or.inr hb)))))) (fun j hj => (h46 j hj).trans (f1 _ _ (Or.inr (Or.inl rfl)))) (Nat.le_succ _)
    have e47 : M 47 10 = m 47 10 := (g1 _ _ (by omega)).trans (f1 _ _ (by omega))
    have e53 : M 53 7 = m 53 7 + 1 := (g1 _ _ (by omega)).trans c1
    have fM : zSp F T m T M := (fr f1).tr ⟨fun _ _ q => q, fun a e q => g1 a e (fun z => (kFs_F hP q).2.2.2.2.2.2.2.2.2.1 z.1)⟩
    refine ⟨show -2147483648 ≤ _ ∧ _ < 2147483648 by omega, by omega, by omega, show -2147483648 ≤ _ ∧ _ < 2147483648 by omega, ?_⟩
    refine sp_unc hO sM (tE2 _ _ h1) (tb := .num v) (Or.inl ⟨N, ⟨by omega, show N < N + 1 by omega⟩, rfl, by rw [g2], by rw [g2]; exact r1⟩) v1 (fun w hw => by cases hw) hOk (hsp.tr fM) (by omega) (fun m3 A3 y1 y3 k0 k1 k2 k4 => ?_) h
    refine cCt_0 hCt ?_ ?_ ?_ ?_ k0 k1 k2 k4
    · rw [y1 _ _ (Or.inl (by decide)), g1 _ _ (by omega), f1 _ _ (Or.inl (by decide))]
    · rw [y1 _ _ (Or.inl (by decide)), g1 _ _ (by omega), f1 _ _ (Or.inl (by decide))]
    · omega
    · rw [y1 53 _ (by omega)]
      omega
  · rw [e1] at h
    exact sp_noc (er := 2) (cFl_N hkl (Nat.le_succ _) s1.fl) hOk (hsp.tr (fr f1)) (cCt_0 hCt (f1 _ _ (Or.inl (by decide))) (f1 _ _ (Or.inl (by decide))) (by rw [f1 47 _ (by omega)]; omega) (by omega) rfl rfl rfl rfl) h.1
/-- find, in a state -/
theorem sp_fnd {Q : Int → hy_m → Prop} (hS : cSe E F Z N T m A) (hx : cTm (zX Z (qi A).length N) m x t) (hv : ∀ w, vIn w t → w < tot E (qi A)) (hq : ∀ y t', cTm (zX Z (qi A).length N) m y t' → (∀ w, vIn w t' → w < tot E (qi A)) → sb (qs A) t = sb (qs A) t' → (∀ v, SolS (qs A) v → sb v t = sb v t') → ((∃ w : Nat, t' = .var w ∧ qs A w = .var w) ∨ ∀ w : Nat, t' ≠ .var w) → Q y m) : wq_124 x T m Q := by
  have hU := zX_uPr hS.1 N
  obtain ⟨B, TI, hD, hRes, hTI⟩ := hS.2.2.2
  refine sp_124 hU.2.1 hU.2.2.2.1 hD.1 hRes hx (fun w hw => (zX_dm hS.1 N w).mpr (hv w hw)) (fun y t' hF hso => hq y t' hF.1 (fun w hw => (zX_dm hS.1 N w).mp (hF.2.1 w hw)) (hso _ hRes.sol) (fun v hv => hso v ((SolS_B hRes v).mpr hv)) ?_)
  rcases hF.2.2 with ⟨w, a2, a3⟩ | q
  · exact Or.inl ⟨w, a2, (hRes w).1 a3⟩
  · exact Or.inr q
theorem fnd_eCa {t' : pE} (h : (∃ w : Nat, t' = .var w ∧ s w = .var w) ∨ ∀ w : Nat, t' ≠ .var w) : eCa (sb s t') = eCa t' := by
  rcases h with ⟨w, rfl, e⟩ | q
  · have e : sb s (.var w) = .var w := e
    rw [e]
  · exact eCa_sb _ q
/-- a not -/
theorem sp_96 (hO : qOJ E A 1) (hS : cSe E F Z N T m A) (h1 : cTm (zX Z (qi A).length N) m x t) (v1 : ∀ w, vIn w t → w < tot E (qi A)) (hfd : (∃ w : Nat, t = .var w ∧ qs A w = .var w) ∨ ∀ w : Nat, t ≠ .var w) (hOk : zOk n0 u0 Z T n u) (hsp : zSp F T mo T m) (hCt : cCt m A K 1) (h : cOut E F (N + 1) K n0 u0 T mo (if eCa (sb (qs A) t) = true then qpush (qadd A none []) (0, 0, (qh A).length, some (sb (qs A) t)) (qp A) else qfin A 4 1) Q) : wq_96 x (T, n, u, m) Q := by
  have hkl := kls hO
  have hU := zX_uPr hS.1 N
  have e8 : m 36 8 = (qh A).length := by
    obtain ⟨B, TI, hD, -⟩ := hS.2.2.2
    exact hD.2.2.2.2.1
  rw [fnd_eCa hfd] at h
  unfold wq_96
  dsimp only
  refine sp_129 hU.2.1 h1 (sp_130 hU.2.1 h1 (fun z _ hz => sp_24c h1 ?_ (fun k' a' e => (hz k' a' e).1)))
  by_cases hc : eCa t = true
  · rw [if_pos hc] at h ⊢
    refine ⟨fun _ => ?_, fun q => absurd q (by decide)⟩
    obtain ⟨g1, g2, g3, g4, g5, g6, g7, g8, g9⟩ := id hO
    have hP := hS.1
    refine sp_98 (A := A) (g := none) (L := []) g1 (by omega) hS hOk.2.1 hOk.2.2.1 ⟨rfl, rfl⟩ (fun CC T' n' u' m3 hT hW hn' hu' hnn f1 s3 => ?_)
    have hOk3 := zOk_C hOk hT hW hn' hu' hnn
    have sm : ∀ z : Nat, z < 74 → z ∉ zC Z := fun z q1 q2 => by
      have := (zC_tag hP.2.2.2.2.1 q2).2.1
      omega
    have low : ∀ (z : Nat) (e : Int), z < 74 → ¬ (z = 36 ∧ e = 8) → ¬ (z = 41 ∧ e = 7) → z ≠ 38 → m3 z e = m z e := fun z e q1 q2 q3 q4 => f1 z e (Or.inl q1) (sm z q1) q2 q3 q4
    have hFc : ∀ b z, F b → m3 b z = m b z := fun b z hb => by
      have hk := kFs_F hP (a := b) (Or.inr (Or.inr hb))
      exact f1 b z hk.1 hk.2.2.1 (fun w => hk.2.2.2.1 w.1) (fun w => hk.2.2.2.2.2.2.2.2.1 w.1) hk.2.2.2.2.2.1
    have hsp3 : zSp F T m T' m3 := ⟨hT, fun z e q => by
      have hk := kFs_F hP q
      exact f1 z e hk.1 hk.2.2.1 (fun w => hk.2.2.2.1 w.1) (fun w => hk.2.2.2.2.2.2.2.2.1 w.1) hk.2.2.2.2.2.1⟩
    obtain ⟨y3, y5, y8, ych⟩ := s3.2.2.1
    have s3' : cSe E F (zSt Z (zF Z) CC) N T' m3 (qadd A none []) := s3
    have hP3 := s3.1
    have hTE : tE (zX Z (qi A).length N) m (zX (zSt Z (zF Z) CC) (qi A).length N) m3 := tE_s hP hP3 (Nat.le_refl _) (Nat.le_refl _) (fun _ q => q) hFc (fun j _ => low 46 _ (by decide) (by omega) (by omega) (by decide)) (Nat.le_refl _)
    obtain ⟨b1, b2, b3⟩ := qadd_fl (g := none) (L := []) hO ⟨fun _ => rfl, fun _ => rfl⟩ List.Pairwise.nil (fun x hx => by cases hx) (Nat.zero_le _)
    dsimp only
    rw [e8]
    obtain ⟨kt, bt, rfl⟩ := eCa_k hc
    have nm := cTm_nm h1
    refine sp_push (A := qadd A none []) (f := (0, 0, (qh A).length, some (sb (qs A) (.mulL kt bt)))) (L := qp A) (j := qn A 8) b1 (Nat.le_refl _) hP3 s3.2.1 y3 y5 rfl (by omega) y8 ych s3.2.2.2 hOk3.2.1 hOk3.2.2.1 ⟨rfl, ?_⟩ (fun FC T2 n2 u2 m4 c' hT2 hW2 hn2 hu2 hnn2 f4 f5 s4 => ?_)
    · refine ⟨fun _ => ⟨rfl, .mulL kt bt, hTE _ _ h1, cTm_0 h1, v1, ⟨hc, ?_⟩, fun v hv => (SolS_t hv _).symm⟩, fun q => absurd rfl q⟩
      show kC kt (eN bt) = kC kt (eN (sb (qs A) bt))
      rw [(isL_sbL (qs A) bt nm.2.2.1).2]
    · have w1 : ∀ (z : Nat) (e : Int), ¬ (z = 36 ∧ e = 6) → hy_u m4 36 6 (c' : Int) z e = m4 z e := fun z e q => hy_uf q
      dsimp only
      generalize hy_u m4 36 6 (c' : Int) = m5 at w1 s4
      have sm2 : ∀ z : Nat, z < 74 → z ∉ zF (zSt Z (zF Z) CC) := fun z q1 q2 => by
        have := (zF_tag hP3.2.2.2.2.1 q2).2.1
        omega
      have low2 : ∀ (z : Nat) (e : Int), z < 74 → ¬ (z = 36 ∧ (e = 5 ∨ e = 6)) → z ≠ 37 → m5 z e = m3 z e := fun z e q1 q2 q3 => (w1 z e (fun w => q2 ⟨w.1, Or.inr w.2⟩)).trans (f4 z e (Or.inl q1) (sm2 z q1) (fun w => q2 ⟨w.1, Or.inl w.2⟩) q3)
      have hOk4 := zOk_F hOk3 hT2 hW2 hn2 hu2 hnn2
      have hsp4 : zSp F T' m3 T2 m5 := ⟨hT2, fun z e q => by
        have hk := kFs_F hP3 q
        rw [w1 z e (fun w => hk.2.2.2.1 w.1)]
        exact f4 z e hk.1 hk.2.1 (fun w => hk.2.2.2.1 w.1) hk.2.2.2.2.1⟩
      have hkl4 : ∀ c ∈ qh (qpush (qadd A none []) (0, 0, (qh A).length, some (sb (qs A) (.mulL kt bt))) (qp A)), c.2.2.2.1.1 ≤ (qi (qpush (qadd A none []) (0, 0, (qh A).length, some (sb (qs A) (.mulL kt bt))) (qp A))).length := fun c hc => (chK_all _ b1 c hc).1
      refine h.1 1 _ T2 n2 u2 m5 (by decide) ((hsp.tr hsp3).tr hsp4) hOk4 (cSe_N hkl4 (Nat.le_succ _) s4) (cCt_0 hCt ?_ ?_ ?_ ?_ rfl rfl rfl rfl)
      · rw [low2 _ _ (by decide) (by omega) (by decide), low _ _ (by decide) (by omega) (by omega) (by decide)]
      · rw [low2 _ _ (by decide) (by omega) (by decide), low _ _ (by decide) (by omega) (by omega) (by decide)]
      · rw [low2 _ _ (by decide) (by omega) (by decide), low _ _ (by decide) (by omega) (by omega) (by decide)]
        omega
      · rw [low2 _ _ (by decide) (by omega) (by decide), low _ _ (by decide) (by omega) (by omega) (by decide)]
        omega
  · rw [if_neg hc] at h ⊢
    exact ⟨fun q => absurd rfl q, fun _ => sp_noc (er := 1) (cFl_N hkl (Nat.le_succ _) hS.fl) hOk hsp (cCt_z hCt) h.1⟩
/-- a goal of the program's -/
theorem sp_97 (hO : qOJ E A 1) (hS : cSe E F Z N T m A) (h1 : cTm (zX Z (qi A).length N) m x (.mulL kk b)) (v1 : ∀ w, vIn w (.mulL kk b) → w < tot E (qi A)) (hc : eCa (.mulL kk b) = true) (hOk : zOk n0 u0 Z T n u) (hsp : zSp F T mo T m) (hCt : cCt m A K 1) (h : cOut E F (N + 1) K n0 u0 T mo (match qcand E (.mulL kk (sb (qs A) b)) with
    | [] => qbk E A
    | c :: L => qbk E (qadd A (some (.mulL kk (sb (qs A) b))) (c :: L))) Q) : wq_97 x (T, n, u, m) (fun _ s => Q 0 s) := by
  have hkl := kls hO
  have hP := hS.1
  have hU := zX_uPr hP N
  have hnm := cTm_nm h1
  have hls := isL_sbL (qs A) b hnm.2.2.1
  have hkey : eKy (.mulL kk (sb (qs A) b)) = kC kk (eN b) := by
    show kC kk (eN (sb (qs A) b)) = _
    rw [hls.2]
  have h20 := hO.2.2.2.2.2.2.2.2
  -- behind the first argument
  have fin : ∀ x4 x5 : Int, cdB E.1 (kC kk (eN b)) x4 x5 = cdB E.1 (eKy (.mulL kk (sb (qs A) b))) (fk (.mulL kk (sb (qs A) b))) (fy (.mulL kk (sb (qs A) b))) → wq_97_62 x (kC kk (eN b)) x4 x5 (T, n, u, m) (fun _ s => Q 0 s) := by
    intro x4 x5 hcd
    unfold wq_97_62
    dsimp only
    refine sp_60 hP.2.1 (fun y hy => ?_)
    rw [hcd] at hy
    have hb := qcand_b (g := .mulL kk (sb (qs A) b)) h20 hy
    refine ⟨fun hz => ?_, fun hnz => ?_⟩
    · have hq : qcand E (.mulL kk (sb (qs A) b)) = [] := by
        cases hq : qcand E (.mulL kk (sb (qs A) b)) with
        | nil => rfl
        | cons c L =>
          have hcl := qcand_l (E := E) (g := .mulL kk (sb (qs A) b)) c (by rw [hq]; exact List.mem_cons_self ..)
          have := (bS_z hb).mp hz c (by omega)
          rw [hq, decide_eq_true (List.mem_cons_self ..)] at this
          cases this
      rw [hq] at h
      exact h.2 A Z T n u m hO.fl rfl hsp hOk (cFl_N hkl (Nat.le_succ _) hS.fl) (cCt_z hCt)
    · cases hq : qcand E (.mulL kk (sb (qs A) b)) with
      | nil =>
        refine absurd ((bS_z hb).mpr (fun v _ => decide_eq_false (fun q => ?_))) hnz
        rw [hq] at q
        cases q
      | cons c L =>
        rw [hq] at h hb
        have hn := qcand_n (E := E) (g := .mulL kk (sb (qs A) b))
        have hp := qcand_p (E := E) (g := .mulL kk (sb (qs A) b))
        have hl := qcand_l (E := E) (g := .mulL kk (sb (qs A) b))
        rw [hq] at hn hp hl
        obtain ⟨b1, b2, b3⟩ := qadd_fl (g := some (.mulL kk (sb (qs A) b))) (L := c :: L) hO ⟨(fun q => by cases q), (fun q => by cases q)⟩ hp hl (by omega)
        have hfl : qFl E (qadd A (some (.mulL kk (sb (qs A) b))) (c :: L)) := ⟨b1, hO.2.2.1, b2, b3, hO.2.2.2.2.2.2.2.1, h20, hO.fl.2.2.2.2.2.2⟩
        obtain ⟨g1, g2, g3, g4, g5, g6, g7, g8, g9⟩ := id hO
        refine sp_98 (A := A) (g := some (.mulL kk (sb (qs A) b))) (L := c :: L) g1 (by omega) hS hOk.2.1 hOk.2.2.1 ⟨hb, .mulL kk b, h1, cTm_0 h1, v1, ⟨hc, hkey.symm⟩, fun v hv => (SolS_t hv _).symm⟩ (fun CC T' n' u' m3 hT hW hn' hu' hnn f1 s3 => ?_)
        have sm : ∀ z : Nat, z < 74 → z ∉ zC Z := fun z q1 q2 => by
          have := (zC_tag hP.2.2.2.2.1 q2).2.1
          omega
        have low : ∀ (z : Nat) (e : Int), z < 74 → ¬ (z = 36 ∧ e = 8) → ¬ (z = 41 ∧ e = 7) → z ≠ 38 → m3 z e = m z e := fun z e q1 q2 q3 q4 => f1 z e (Or.inl q1) (sm z q1) q2 q3 q4
        have hsp3 : zSp F T m T' m3 := ⟨hT, fun z e q => by
          have hk := kFs_F hP q
          exact f1 z e hk.1 hk.2.2.1 (fun w => hk.2.2.2.1 w.1) (fun w => hk.2.2.2.2.2.2.2.2.1 w.1) hk.2.2.2.2.2.1⟩
        refine h.2 (qadd A (some (.mulL kk (sb (qs A) b))) (c :: L)) _ T' n' u' m3 hfl rfl (hsp.tr hsp3) (zOk_C hOk hT hW hn' hu' hnn) (cFl_N (fun c hc => (chK_all _ b1 c hc).1) (Nat.le_succ _) s3.fl) (cCt_0 hCt ?_ ?_ ?_ ?_ rfl rfl rfl rfl)
        · exact low _ _ (by decide) (by omega) (by omega) (by decide)
        · exact low _ _ (by decide) (by omega) (by omega) (by decide)
        · rw [low _ _ (by decide) (by omega) (by omega) (by decide)]; omega
        · rw [low _ _ (by decide) (by omega) (by omega) (by decide)]; omega
  unfold wq_97
  dsimp only
  refine sp_130 hU.2.1 h1 (fun z _ hz => ?_)
  obtain ⟨z1, -, -⟩ := hz kk b rfl
  rw [z1]
  refine sp_26 hnm.2.1 ⟨fun h0 => ?_, fun hpos => ?_⟩
  · have hn0 : eN b = 0 := by omega
    obtain ⟨q1, q2⟩ := fk_none (k := kk) hls.1 (by rw [hls.2]; exact hn0)
    exact fin 0 0 (by rw [hkey, q1, q2])
  · refine sp_132 (j := 0) hU.2.1 h1 (by omega) (fun y hy _ => sp_fnd hS hy (fun w hw => v1 w (vIn_ar w b 0 hnm.2.2.1 (by omega) hw)) (fun y' t' ht' hv' e1 e2 hfd => sp_129 hU.2.1 ht' (sp_130 hU.2.1 ht' (fun z' hz1 hz2 => ?_))))
    obtain ⟨q1, q2⟩ := fk_first (k := kk) hls.1 (by rw [hls.2]; omega)
    rw [eAr_L (qs A) b 0 hnm.2.2.1 (by omega), e1] at q1 q2
    refine fin _ _ ?_
    rw [hkey, q1, q2]
    rcases hfd with ⟨w, rfl, e⟩ | hnv
    · have e : sb (qs A) (.var w) = .var w := e
      rw [e]
      exact cdB_k (show (1 : Int) ≤ 1 by decide)
    · rcases cTm_sh ht' hnv with ⟨i, rfl⟩ | ⟨k', b', rfl, lb', -⟩
      · rw [hz1 i rfl]
        rfl
      · have hs' := isL_sbL (qs A) b' lb'
        rw [(hz2 k' b' rfl).1]
        have ek : eKd (sb (qs A) (.mulL k' b')) = eKd (.mulL k' b') := by
          show (if eN (sb (qs A) b') = 0 then (3 : Int) else 4) = if eN b' = 0 then 3 else 4
          rw [hs'.2]
        have ey : eKy (sb (qs A) (.mulL k' b')) = kC k' (eN b') := by
          show kC k' (eN (sb (qs A) b')) = _
          rw [hs'.2]
        rw [ek, ey]
end CPF
