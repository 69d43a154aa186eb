/-! THE MODEL CALLS WHAT IS BUILT IN -/
section MQ
variable {E : qE} {ss : List Nat} {m m' : hy_m} {T : List Nat} {B B' : bM} {s s' : Nat → pE} {A A' : qA} {Q : Int → hy_m → Prop} {N K R : Nat} {x k : Int} {b : pE}
theorem sp_fail (hq : Q 215512300 m) : wq_171 102 97 105 108 m Q := by
  unfold wq_171
  exact ⟨fun _ => ⟨fun _ => ⟨by show -9223372036854775808 ≤ _ ∧ _ < 9223372036854775808; decide, hq⟩, fun q => absurd q (by decide)⟩, fun q => absurd q (by decide)⟩
theorem sp_cut (hq : Q 1637108 m) : wq_171 99 117 116 0 m Q := by
  unfold wq_171
  exact ⟨fun _ => ⟨fun q => absurd rfl q, fun _ => ⟨by show -9223372036854775808 ≤ _ ∧ _ < 9223372036854775808; decide, hq⟩⟩, fun q => absurd q (by decide)⟩
theorem sp_same (hq : Q 242775781 m) : wq_171 115 97 109 101 m Q := by
  unfold wq_171
  exact ⟨fun _ => ⟨fun _ => ⟨by show -9223372036854775808 ≤ _ ∧ _ < 9223372036854775808; decide, hq⟩, fun q => absurd q (by decide)⟩, fun q => absurd q (by decide)⟩
theorem sp_is (hq : Q 13555 m) : wq_171 105 115 0 0 m Q := by
  unfold wq_171
  exact ⟨fun q => absurd rfl q, fun _ => ⟨fun q => absurd rfl q, fun _ => ⟨by show -9223372036854775808 ≤ _ ∧ _ < 9223372036854775808; decide, hq⟩⟩⟩
theorem sp_call (hq : Q 209221228 m) : wq_171 99 97 108 108 m Q := by
  unfold wq_171
  exact ⟨fun _ => ⟨fun _ => ⟨by show -9223372036854775808 ≤ _ ∧ _ < 9223372036854775808; decide, hq⟩, fun q => absurd q (by decide)⟩, fun q => absurd q (by decide)⟩
theorem sp_235 {v : Int} (hv : hy_r 0 v) (hq : Q (mI v) m) : wq_235 v m Q := by
  unfold wq_235
  have e1 := jA_m v (k := 32) (by decide)
  rw [show ((2 ^ 32 - 1 : Nat) : Int) = 4294967295 from rfl, show ((2 ^ 32 : Nat) : Int) = 4294967296 from rfl] at e1
  rw [e1]
  obtain ⟨u, hu⟩ := Int.eq_ofNat_of_zero_le (Int.emod_nonneg v (b := 4294967296) (by decide))
  have hlt := Int.emod_lt_of_pos v (b := 4294967296) (by decide)
  have e2 := jO_n (a := 4611686018427387904) (b := u) (by decide) (by have : (2 : Nat) ^ 63 = 9223372036854775808 := rfl; omega)
  have e3 : 4611686018427387904 ||| u = 4611686018427387904 + u := by
    have := Nat.two_pow_add_eq_or_of_lt (i := 62) (b := u) (by have : (2 : Nat) ^ 62 = 4611686018427387904 := rfl; omega) 1
    rw [Nat.mul_one] at this
    exact this.symm
  rw [e3] at e2
  have e4 : jO 4611686018427387904 (v % 4294967296) = mI v := by
    rw [hu]
    have : jO 4611686018427387904 (u : Int) = ((4611686018427387904 + u : Nat) : Int) := e2
    rw [this]
    unfold mI
    omega
  rw [e4]
  exact hq
/-- a term is evaluated -/
theorem sp_ev {t : pE} {J : Nat} (hO : qOJ E A J) (hS : mSe E ss m A) (ht : mTm (mG E ss m (qi A)) m x t) (hv : ∀ w, vIn w t → w < tot E (qi A)) (hM : mRd m K R) (hK : K + 10 < 4294967295) (h1 : ∀ v m', ev0 (sb (qs A) t) = some v → hy_r 0 v → sFr m m' → mSe E ss m' A → mRd m' (K + 1) R → m' 74 68 = v → Q 1 m') (h0 : ∀ m', ev0 (sb (qs A) t) = none → sFr m m' → mSe E ss m' A → mRd m' (K + 1) R → Q 0 m') : wq_251 x m Q := by
  have hS' := hS
  obtain ⟨hP, hN, -, B, T, hD, hRes, hTl⟩ := hS
  obtain ⟨⟨k0, r1, r2⟩, q0, r3, r4⟩ := hM
  have hl : lOK E (qi A) := hO.2.2.1
  obtain ⟨hln, -, -, -⟩ := hO.len
  have rest : ∀ m3 : hy_m, (∀ (a : Nat) (e : Int), a ≠ 112 → a ≠ 113 → a ≠ 114 → a ≠ 116 → ¬ (a = 74 ∧ (e = 64 ∨ e = 68)) → m3 a e = m a e) → rOK m3 (k0 + 1) → sFr m m3 ∧ mSe E ss m3 A ∧ mRd m3 (K + 1) R := by
    intro m3 hf hr
    exact ⟨fun a e q1 q2 => hf a e (by omega) (by omega) (by omega) (by omega) (by omega), mSe_fr hO.1 (fun a e q1 q2 => hf a e (by omega) (by omega) (by omega) (by omega) (by omega)) hS', ⟨k0 + 1, hr, by omega⟩, q0, tOK_fr r3 (hf _ _ (by decide) (by decide) (by decide) (by decide) (by omega)) (fun e => hf _ _ (by decide) (by decide) (by decide) (by decide) (by omega)), r4⟩
  refine sp_251 (mG_C hP hl) (mG_A hP hl (by omega)) hD.1 hRes ht hv r1 (by omega) (fun v m3 q1 q2 q3 q4 => ?_) (fun m3 q1 q2 q3 => ?_)
  · obtain ⟨a1, a2, a3⟩ := rest m3 q2 q3
    exact h1 v m3 q1 (ev0_r _ v (nmR_sb t (mTm_nmR ht) (fun z _ => mBd_nmR hD.1 hRes z)) q1) a1 a2 a3 q4
  · obtain ⟨a1, a2, a3⟩ := rest m3 q2 q3
    exact h0 m3 q1 a1 a2 a3
/-- callsIs -/
theorem sp_264 (hK : K + 2411 + 14472000 < 4294967295) (hR : R + 3 + 18020 < 999999990) (h01 : qn A 0 = 1) (hO : qOJ E A 1) (hS : mSe E ss m A) (ht : mTm (mG E ss m (qi A)) m x (.mulL k b)) (hv : ∀ w, vIn w (.mulL k b) → w < tot E (qi A)) (hn : eN b = 2) (hM : mRd m (K + 2411 * qn A 4) (R + 3 * qn A 4)) (h : mOut E ss m (match ev0 (eAr (sb (qs A) b) 1) with
    | some v => quni E A (eAr (sb (qs A) b) 0) (.num v)
    | none => qfin A 4 2) (K + 2411) (R + 3) Q) : wq_264 x m Q := by
  have hl : lOK E (qi A) := hO.2.2.1
  have hLL := mTm_L ht
  obtain ⟨hln, -, h4, -⟩ := hO.len
  have hRes := hS.2.2.2
  rw [eAr_L (qs A) b 1 hLL.1 (by omega), eAr_L (qs A) b 0 hLL.1 (by omega)] at h
  unfold wq_264
  refine sp_236 (j := 1) (mG_C hS.1 hl) ht (by omega) (fun y hy _ => sp_ev hO hS hy (fun w hw => hv w (vIn_ar w b 1 hLL.1 (by omega) hw)) hM (by omega) (fun v m2 e1 e2 e3 e4 e5 e6 => ⟨fun _ => ?_, fun q => absurd q (by decide)⟩) (fun m2 e1 e3 e4 e5 => ⟨fun q => absurd rfl q, fun _ => ?_⟩))
  · rw [e1] at h
    have ht2 := mTm_rw e3.rw ht
    refine sp_236 (j := 0) (mG_C e4.1 hl) ht2 (by omega) (fun y0 hy0 _ => ?_)
    rw [e6]
    refine sp_235 e2 ?_
    have hq : quni E A (sb (qs A) (eAr b 0)) (.num v) = quni E A (eAr b 0) (.num v) := by
      have hs : SolS (qs A) (qs A) := by
        obtain ⟨B, T, -, r, -⟩ := hRes
        exact (SolS_B r _).mp r.sol
      have eu : uni (qs A) (sb (qs A) (eAr b 0)) (.num v) = uni (qs A) (eAr b 0) (.num v) := by
        have e : unR (qs A) (sb (qs A) (eAr b 0)) (.num v) = unR (qs A) (eAr b 0) (.num v) := by
          funext s'
          exact propext ⟨unR_c (fun u q => SolS_t q _) (fun _ _ => rfl), unR_c (fun u q => (SolS_t q _).symm) (fun _ _ => rfl)⟩
        unfold uni
        rw [e]
      unfold quni
      rw [eu]
    have h : mOut E ss m (quni E A (sb (qs A) (eAr b 0)) (.num v)) (K + 2411) (R + 3) Q := h
    rw [hq] at h
    exact sp_unq hK hR h01 hO e4 hy0 (Or.inr (Or.inl ⟨v, e2, rfl, rfl⟩)) (fun w hw => hv w (vIn_ar w b 0 hLL.1 (by omega) hw)) (fun w hw => hw.elim) (mRd_le e5 (by omega) (by omega)) (h.tr e3)
  · rw [e1] at h
    have h : mOut E ss m (qfin A 4 2) (K + 2411) (R + 3) Q := h
    exact sp_no (er := 2) (by decide) e4.fl (mRd_le e5 (by omega) (by omega)) (h.tr e3)
/-- callsLess -/
theorem sp_265 (hK : K + 2411 + 14472000 < 4294967295) (hR : R + 3 + 18020 < 999999990) (h01 : qn A 0 = 1) (hO : qOJ E A 1) (hS : mSe E ss m A) (ht : mTm (mG E ss m (qi A)) m x (.mulL k b)) (hv : ∀ w, vIn w (.mulL k b) → w < tot E (qi A)) (hn : eN b = 2) (hM : mRd m (K + 2411 * qn A 4) (R + 3 * qn A 4)) (h : mOut E ss m (match ev0 (eAr (sb (qs A) b) 0), ev0 (eAr (sb (qs A) b) 1) with
    | some x, some y => if x < y then A else qbk E A
    | _, _ => qfin A 4 2) (K + 2411) (R + 3) Q) : wq_265 x m Q := by
  have hl : lOK E (qi A) := hO.2.2.1
  have hLL := mTm_L ht
  obtain ⟨hln, -, h4, -⟩ := hO.len
  rw [eAr_L (qs A) b 1 hLL.1 (by omega), eAr_L (qs A) b 0 hLL.1 (by omega)] at h
  unfold wq_265
  refine sp_236 (j := 0) (mG_C hS.1 hl) ht (by omega) (fun y hy _ => sp_ev hO hS hy (fun w hw => hv w (vIn_ar w b 0 hLL.1 (by omega) hw)) hM (by omega) (fun v m2 e1 e2 e3 e4 e5 e6 => ⟨fun _ => ?_, fun q => absurd q (by decide)⟩) (fun m2 e1 e3 e4 e5 => ⟨fun q => absurd rfl q, fun _ => ?_⟩))
  · rw [e1] at h
    have ht2 := mTm_rw e3.rw ht
    refine sp_236 (j := 1) (mG_C e4.1 hl) ht2 (by omega) (fun y1 hy1 _ => sp_ev hO e4 hy1 (fun w hw => hv w (vIn_ar w b 1 hLL.1 (by omega) hw)) e5 (by omega) (fun v' m3 f1 f2 f3 f4 f5 f6 => ⟨fun _ => ?_, fun q => absurd q (by decide)⟩) (fun m3 f1 f3 f4 f5 => ⟨fun q => absurd rfl q, fun _ => ?_⟩))
    · rw [f1] at h
      have h : mOut E ss m (if v < v' then A else qbk E A) (K + 2411) (R + 3) Q := h
      rw [e6, f6]
      refine ⟨fun hlt => ?_, fun hle => ?_⟩
      · rw [if_pos hlt] at h
        exact h.1 m3 (e3.tr f3).s2 (e3.tr f3).e33 h01 f4 (mRd_le f5 (by omega) (by omega))
      · rw [if_neg (by omega)] at h
        exact sp_bk (K := K + 2411) (R := R + 3) (by omega) (by omega) h01 hO.fl f4.fl (mRd_le f5 (by omega) (by omega)) (h.tr (e3.tr f3)).both
    · rw [f1] at h
      have h : mOut E ss m (qfin A 4 2) (K + 2411) (R + 3) Q := h
      exact sp_no (er := 2) (by decide) f4.fl (mRd_le f5 (by omega) (by omega)) (h.tr (e3.tr f3))
  · rw [e1] at h
    have h : mOut E ss m (qfin A 4 2) (K + 2411) (R + 3) Q := h
    exact sp_no (er := 2) (by decide) e4.fl (mRd_le e5 (by omega) (by omega)) (h.tr e3)
/-- callsNot -/
theorem sp_263 (h01 : qn A 0 = 1) (hO : qOJ E A 1) (hS : mSe E ss m A) (ht : mTm (mG E ss m (qi A)) m x (.mulL k b)) (hv : ∀ w, vIn w (.mulL k b) → w < tot E (qi A)) (hn : eN b = 1) (hM : mRd m (K + 2411 * qn A 4) (R + 3 * qn A 4)) (h : mOut E ss m (if eCa (eAr (sb (qs A) b) 0) = true then qpush (qadd A none []) (0, 0, (qh A).length, some (eAr (sb (qs A) b) 0)) (qp A) else qfin A 4 1) (K + 2411) (R + 3) Q) : wq_263 x m Q := by
  have hS' := hS
  obtain ⟨hP, hN, ⟨h42, h51, hch⟩, B, T, hD, hRes, hTl⟩ := hS
  have hl : lOK E (qi A) := hO.2.2.1
  have hLL := mTm_L ht
  obtain ⟨hln, hlc, h4, h8⟩ := hO.len
  have h59 := hD.2.2.2.2.2
  rw [eAr_L (qs A) b 0 hLL.1 (by omega)] at h
  unfold wq_263
  refine sp_236 (j := 0) (mG_C hP hl) ht (by omega) (fun y hy _ => sp_237 hD.1 hRes hy (fun w hw => hv w (vIn_ar w b 0 hLL.1 (by omega) hw)) (fun y' t' hF hso => sp_261 hF.1 ?_))
  have es : sb (qs A) (eAr b 0) = sb (qs A) t' := hso _ hRes.sol
  have ec : eCa (sb (qs A) t') = eCa t' ∧ (eCa t' = true → eKy t' = eKy (sb (qs A) t')) := by
    rcases hF.2.2 with ⟨w, a1, a2, a3, a4⟩ | ⟨q, -⟩
    · rw [a2]
      have e : sb (qs A) (.var w) = .var w := (hRes w).1 a3
      rw [e]
      exact ⟨rfl, fun _ => rfl⟩
    · exact ⟨eCa_sb _ q, fun _ => (eK_sb (qs A) q (mTm_Ls hF.1)).2.symm⟩
  rw [es, ec.1] at h
  by_cases hcal : eCa t' = true
  · rw [if_pos hcal] at h ⊢
    refine ⟨fun _ => sp_253 (p := (qh A).length) h59 (by omega) (fun m3 g1 g2 g3 g4 g5 g6 g7 g8 => ?_), fun q => absurd q (by decide)⟩
    have hse := add_se (og := none) (L := []) hO.1 rfl hS' g1 g4 g5 g6 g7 g8 (by show m3 106 _ = -9; exact g3)
    have hs3 : sFr m m3 := fun a e q1 q2 => g1 a e (by omega) (by omega)
    have e51 : m3 74 51 = qn A 8 := by rw [g1 _ _ (by omega) (by omega)]; exact h51
    rw [e51]
    have f1 : ∀ (a : Nat) (e : Int), ¬ (a = 104 ∧ e = ((qn A 8 : Nat) : Int)) → hy_u m3 104 ((qn A 8 : Nat) : Int) y' a e = m3 a e := fun a e q => hy_uf q
    have v104 : hy_u m3 104 ((qn A 8 : Nat) : Int) y' 104 ((qn A 8 : Nat) : Int) = y' := hy_us _ _ _ _
    generalize hy_u m3 104 ((qn A 8 : Nat) : Int) y' = m4 at f1 v104
    refine ⟨by omega, by omega, sp_252 (j := qn A 8) (by rw [f1 _ _ (by omega)]; exact e51) (by omega) (fun m5 k1 k2 k3 k4 k5 k6 k7 => ?_)⟩
    have f6 : ∀ (a : Nat) (e : Int), ¬ (99 ≤ a ∧ a ≤ 104 ∧ e = ((qn A 8 : Nat) : Int)) → ¬ (a = 74 ∧ (e = 51 ∨ e = 52)) → hy_u m5 74 52 ((qn A 8 : Nat) : Int) a e = m3 a e := fun a e q1 q2 => by
      rw [hy_uf (by omega), k1 a e (by omega) (by omega), f1 a e (by omega)]
    have hs6 : sFr m (hy_u m5 74 52 ((qn A 8 : Nat) : Int)) := hs3.tr (fun a e q1 q2 => f6 a e (by omega) (by omega))
    obtain ⟨b1, b2, b3⟩ := qadd_fl (g := none) (L := []) hO ⟨fun _ => rfl, fun _ => rfl⟩ List.Pairwise.nil (fun x hx => by cases hx) (Nat.zero_le _)
    obtain ⟨s1, s2, ⟨s3, s4, s5⟩, B2, T2, s6, s7, s8⟩ := hse
    refine h.1 _ hs6.s2 hs6.e33 h01 ?_ ?_
    · refine push_se (A := qadd A none []) (j := qn A 8) (m := m3) (I := qn A 2) (tr := qn A 7) b1 ⟨s1, s2, ⟨s3, s4, rfl, m3 74 52, ?_, s5⟩, B2, T2, s6, s7, s8⟩ f6 (by rw [hy_uk (by decide)]; exact k7) (hy_us _ _ _ _) ⟨?_, ?_, ?_, fun _ => ?_⟩
      · rw [hy_ua (by decide), k5]
      · rw [hy_ua (by decide)]; exact k3
      · rw [hy_ua (by decide), k6]; exact h59
      · rw [hy_ua (by decide)]; exact k2
      · have e104 : hy_u m5 74 52 ((qn A 8 : Nat) : Int) 104 ((qn A 8 : Nat) : Int) = y' := by
          rw [hy_ua (by decide), k1 _ _ (by omega) (by omega)]
          exact v104
        rw [e104]
        exact ⟨t', mTm_rw hs6.rw hF.1, hF.2.1, ⟨hcal, ec.2 hcal⟩, fun v q => (SolS_t q t').symm⟩
    · exact mRd_le (mRd_fr (mRd_fr hM (g1 _ _ (by omega) (by omega)) (fun e => g1 _ _ (by omega) (by omega)) (g1 _ _ (by omega) (by omega)) (fun e => g1 _ _ (by omega) (by omega))) (f6 _ _ (by omega) (by omega)) (fun e => f6 _ _ (by omega) (by omega)) (f6 _ _ (by omega) (by omega)) (fun e => f6 _ _ (by omega) (by omega))) (by show _ ≤ K + 2411 + 2411 * qn A 4; omega) (by show _ ≤ R + 3 + 3 * qn A 4; omega)
  · rw [if_neg hcal] at h ⊢
    exact ⟨fun q => absurd rfl q, fun _ => sp_no (er := 1) (by decide) hS'.fl (mRd_le hM (by omega) (by omega)) h⟩
end MQ
