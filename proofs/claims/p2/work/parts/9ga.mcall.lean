/-! THE MODEL CALLS A GOAL -/
def zF2 (m m' : hy_m) : Prop := ∀ (a : Nat) (e : Int), ¬ (95 ≤ a ∧ a ≤ 116 ∧ (a = 97 → e < 2490)) → ¬ (a = 74 ∧ 33 ≤ e ∧ e ≤ 68) → m' a e = m a e
theorem sFr.s2 {m m' : hy_m} (h : sFr m m') : zF2 m m' := fun a e q1 q2 => h a e q1 (by omega)
theorem sFr.e33 {m m' : hy_m} (h : sFr m m') : m' 74 33 = m 74 33 := h _ _ (by omega) (by omega)
theorem zF2.tr {m m' m'' : hy_m} (h : zF2 m m') (h' : zF2 m' m'') : zF2 m m'' := fun a e q1 q2 => (h' a e q1 q2).trans (h a e q1 q2)
/-- behind an inference that comes to the state A' -/
def mOut (E : qE) (ss : List Nat) (m : hy_m) (A' : qA) (K R : Nat) (Q : Int → hy_m → Prop) : Prop := (∀ m', zF2 m m' → m' 74 33 = m 74 33 → qn A' 0 = 1 → mSe E ss m' A' → mRd m' (K + 2411 * qn A' 4) (R + 3 * qn A' 4) → Q 1 m') ∧ ∀ m' A'' (er : Nat), zF2 m m' → A' = qfin A'' (if er = 0 then 3 else 4) er → (er = 0 → m' 74 33 = m 74 33) → (er ≠ 0 → m' 74 33 = er) → mFl E ss m' A'' → mRd m' (K + 2411 * qn A'' 4) (R + 3 * qn A'' 4) → Q 0 m'
section MN
variable {E : qE} {ss : List Nat} {m m' : hy_m} {T : List Nat} {B B' : bM} {s s' : Nat → pE} {A A' : qA} {Q : Int → hy_m → Prop} {N K R : Nat} {x k : Int} {b : pE}
theorem mOut.tr (h : mOut E ss m A' K R Q) (hs : sFr m m') : mOut E ss m' A' K R Q := ⟨fun m2 q1 q2 q0 q3 q4 => h.1 m2 (hs.s2.tr q1) (q2.trans hs.e33) q0 q3 q4, fun m2 A'' er q1 q2 q3 q4 q5 q6 => h.2 m2 A'' er (hs.s2.tr q1) q2 (fun q => (q3 q).trans hs.e33) q4 q5 q6⟩
theorem mOut.both (h : mOut E ss m A' K R Q) : mOut E ss m A' K R (fun r m => (r = 0 → Q 0 m) ∧ (r ≠ 0 → Q 1 m)) := ⟨fun m2 q1 q2 q0 q3 q4 => ⟨fun q => absurd q (by decide), fun _ => h.1 m2 q1 q2 q0 q3 q4⟩, fun m2 A'' er q1 q2 q3 q4 q5 q6 => ⟨fun _ => h.2 m2 A'' er q1 q2 q3 q4 q5 q6, fun q => absurd rfl q⟩⟩
theorem mRd_le {K' R' : Nat} (h : mRd m K R) (h1 : K ≤ K') (h2 : R ≤ R') : mRd m K' R' := by
  obtain ⟨⟨k, a1, a2⟩, r, a3, a4⟩ := h
  exact ⟨⟨k, a1, by omega⟩, r, a3, by omega⟩
theorem sp_bk (hK : K + 14472000 < 4294967295) (hR : R + 18020 < 999999990) (h01 : qn A 0 = 1) (hF : qFl E A) (hS : mFl E ss m A) (hM : mRd m (K + 2411 * qn A 4) (R + 3 * qn A 4)) (h : mOut E ss m (qbk E A) K R Q) : wq_257 m Q :=
  sp_257 hK hR hF (Nat.lt_succ_self _) hS hM (fun m' q1 q0 q2 q3 => h.1 m' q1.s2 q1.e33 (q0.trans h01) q2 q3) (fun m' A' q1 q2 q3 q4 => h.2 m' A' 0 q1.s2 q2 (fun _ => q1.e33) (fun q => absurd rfl q) q3 q4)
theorem sp_no {er : Nat} (her : er ≠ 0) (hS : mFl E ss m A) (hM : mRd m (K + 2411 * qn A 4) (R + 3 * qn A 4)) (h : mOut E ss m (qfin A 4 er) K R Q) : wq_262 (er : Int) m Q := by
  unfold wq_262
  have hf : ∀ (a : Nat) (e : Int), ¬ (a = 74 ∧ e = 33) → hy_u m 74 33 (er : Int) a e = m a e := fun a e q => hy_uf q
  refine h.2 _ A er (fun a e q1 q2 => hf a e (by omega)) (by rw [if_neg her]) (fun q => absurd q her) (fun _ => hy_us _ _ _ _) ?_ ?_
  · obtain ⟨h1, h2, B, T, h3⟩ := hS
    have hr : mRw m (hy_u m 74 33 (er : Int)) := fun a e q1 q2 => hf a e (by omega)
    refine ⟨mPr_rw hr (fun e => hf _ _ (by omega)) h1, mNm_fr h2 (fun e q1 q2 => hf _ _ (by omega)) (fun e => hf _ _ (by omega)) (fun e => hf _ _ (by omega)), B, T, ?_⟩
    exact mDy_fr (N := ((qh A).map (fun c => c.2.2.2.1.2.2)).sum) hr (fun e => hf _ _ (by omega)) (fun e => hf _ _ (by omega)) (hf _ _ (by omega)) (hf _ _ (by omega)) (fun a p q1 q2 _ => hf _ _ (by omega)) (fun a j q1 q2 _ => hf _ _ (by omega)) (fun c hc => by
      have := sm_er (fun c : Nat => c) c.2.2.2.1.2.2 ((qh A).map (fun c => c.2.2.2.1.2.2)) (List.mem_map.mpr ⟨c, hc, rfl⟩)
      rw [show ((qh A).map (fun c => c.2.2.2.1.2.2)).map (fun c : Nat => c) = (qh A).map (fun c => c.2.2.2.1.2.2) from List.map_id' _] at this
      omega) h3
  · exact mRd_fr hM (hf _ _ (by omega)) (fun e => hf _ _ (by omega)) (hf _ _ (by omega)) (fun e => hf _ _ (by omega))
/-- rows of computations are no part of the state -/
theorem mSe_fr (hk : chK E (qi A) N (qh A) (qi A).length (qn A 7) (qn A 8)) (hf : ∀ (a : Nat) (e : Int), ¬ (111 ≤ a ∧ a ≤ 116) → ¬ (a = 74 ∧ (e = 64 ∨ e = 66 ∨ e = 68)) → m' a e = m a e) (hS : mSe E ss m A) : mSe E ss m' A := by
  obtain ⟨h1, h2, ⟨h3, h4, h5⟩, B, T, h6, h7, h8⟩ := hS
  have hr : mRw m m' := fun a e q1 q2 => hf a e (by omega) (by omega)
  have hall := chK_all _ hk
  refine ⟨mPr_rw hr (fun e => hf _ _ (by omega) (by omega)) h1, mNm_fr h2 (fun e q1 q2 => hf _ _ (by omega) (by omega)) (fun e => hf _ _ (by omega) (by omega)) (fun e => hf _ _ (by omega) (by omega)), ⟨?_, ?_, ?_⟩, B, T, ?_, h7, h8⟩
  · rw [hf _ _ (by omega) (by omega)]; exact h3
  · rw [hf _ _ (by omega) (by omega)]; exact h4
  · rw [hf 74 52 (by omega) (by omega)]
    exact mCh_fr hr (fun a j q1 q2 _ => hf a j (by omega) (by omega)) _ _ h5
  · exact mDy_fr (N := qn A 8) hr (fun e => hf _ _ (by omega) (by omega)) (fun e => hf _ _ (by omega) (by omega)) (hf _ _ (by omega) (by omega)) (hf _ _ (by omega) (by omega)) (fun a p q1 q2 _ => hf _ _ (by omega) (by omega)) (fun a j q1 q2 _ => hf _ _ (by omega) (by omega)) (fun c hc => (hall c hc).2.2) h6
/-- what an inference needs of its state -/
theorem qOJ.len {J : Nat} (h : qOJ E A J) : (qi A).length ≤ 300 ∧ (qh A).length ≤ 300 ∧ qn A 4 ≤ 6000 ∧ qn A 8 ≤ 601 := by
  obtain ⟨h1, h2, h3, h4, h5, h6, h7, h8, h9⟩ := h
  exact ⟨by omega, by omega, by omega, by omega⟩
/-- two terms of the present state are unified -/
theorem sp_un {x1 x3 : Int} {ta tb : pE} {J : Nat} (hO : qOJ E A J) (hS : mSe E ss m A) (h1 : mTm (mG E ss m (qi A)) m x1 ta) (h2 : mTm (mG E ss m (qi A)) m x3 tb) (v1 : ∀ w, vIn w ta → w < tot E (qi A)) (v2 : ∀ w, vIn w tb → w < tot E (qi A)) (hM : mRd m K R) (hK : K + 6000 < 4294967295) (hR : R + 10 < 999999990) (g1 : ∀ m' s', sFr m m' → uni (qs A) ta tb = some s' → mSe E ss m' (qbind E A s') → mRd m' (K + 2409) (R + 1) → Q 1 m') (g0 : ∀ m', sFr m m' → uni (qs A) ta tb = none → mFl E ss m' A → mRd m' (K + 2409) (R + 1) → Q 0 m') : wq_247 x1 x3 m Q := by
  obtain ⟨hP, hN, ⟨h42, h51, hch⟩, B, T, hD, hRes, hTl⟩ := hS
  obtain ⟨⟨k0, r1, r2⟩, q0, r3, r4⟩ := hM
  obtain ⟨hln, hlc, -, -⟩ := hO.len
  have hl : lOK E (qi A) := hO.2.2.1
  have hto := mPr_tot hP hl hln
  have hB9 : ∀ w, tot E (qi A) ≤ w → B w = none := fun w hw => (hD.1 w).2 (by omega)
  have h5 : ∀ w ∈ T, w < 2500 := fun w hw => by
    by_cases q : w < tot E (qi A)
    · omega
    · exact absurd (hB9 w (by omega)) (hD.2.2.2.1 w hw)
  have hfc := fc_le B 2500
  have h700 : m 74 59 ≤ 700 := by rw [hD.2.2.2.2.2]; omega
  have rounds : ∀ m3 B3, uO (mG E ss m (qi A)) m m3 (fun w => w < tot E (qi A)) B B3 k0 q0 T → mRd m3 (K + 2409) (R + 1) := by
    intro m3 B3 hO
    obtain ⟨k3, y5, y6⟩ := hO.2.2.2.2.1
    have hlo := fc_lo (B := B3) (k := tot E (qi A)) (fun w hw => (hO.2.1 w).2 (by omega)) 2500
    exact ⟨⟨k3, y5, by omega⟩, q0 + 1, hO.2.2.2.2.2.1, by omega⟩
  refine sp_247 (mG_C hP hl) (mG_W hP hl) (by omega) hD.1 hRes r1 (by omega) h700 hD.2.1 (fc_T hD.2.2.1 hD.2.2.2.1 h5) r3 (by omega) h1 h2 v1 v2 (fun m3 B3 hU hso => ?_) (fun m3 B3 hU hno => ?_)
  · obtain ⟨s3, hR3⟩ := hU.2.2.1
    obtain ⟨T3, y1, y2, y3, y4⟩ := uO_dy hO.1 hD hRes hR3 hU
    have hU1 := hU.1
    have hsol : ∀ v, SolS s3 v ↔ SolS (qs A) v ∧ sb v ta = sb v tb := fun v => by rw [← SolS_B hR3, hso v, SolS_B hRes]
    refine g1 m3 s3 (hU.g (fun w hw => Nat.lt_of_lt_of_le hw (by omega))).s (uni_t ⟨⟨B3, hR3⟩, hsol⟩) ⟨mPr_rw y3 (fun e => hU1 85 e (by decide) (by decide) (by decide) (by decide) (by decide) (by decide) (by omega)) hP, ?_, ⟨?_, ?_, ?_⟩, B3, T3, y1, hR3, ?_⟩ (rounds m3 B3 hU)
    · exact mNm_fr (A := A) hN (fun e q1 q2 => hU1 74 e (by decide) (by decide) (by decide) (by decide) (by decide) (by decide) (by omega)) (fun e => hU1 95 e (by decide) (by decide) (by decide) (by decide) (by decide) (by decide) (by omega)) (fun e => hU1 96 e (by decide) (by decide) (by decide) (by decide) (by decide) (by decide) (by omega))
    · rw [hU1 74 42 (by decide) (by decide) (by decide) (by decide) (by decide) (by decide) (by omega)]; exact h42
    · rw [hU1 74 51 (by decide) (by decide) (by decide) (by decide) (by decide) (by decide) (by omega)]; exact h51
    · rw [hU1 74 52 (by decide) (by decide) (by decide) (by decide) (by decide) (by decide) (by omega)]
      exact mCh_mo (List.prefix_refl _) (fun v q => ((hsol v).mp q).1) (Nat.le_refl _) _ _ _ hO.2.1 (mCh_fr y3 (fun a j q1 q2 _ => hU1 a j (by omega) (by omega) (by omega) (by omega) (by omega) (by omega) (by omega)) _ _ hch)
    · rw [y2, hTl]
      rfl
  · obtain ⟨s3, hR3⟩ := hU.2.2.1
    obtain ⟨T3, y1, y2, y3, y4⟩ := uO_dy hO.1 hD hRes hR3 hU
    have hU1 := hU.1
    refine g0 m3 (hU.g (fun w hw => Nat.lt_of_lt_of_le hw (by omega))).s (uni_f (fun v hv => hno v ((SolS_B hRes v).mpr hv))) ⟨mPr_rw y3 (fun e => hU1 85 e (by decide) (by decide) (by decide) (by decide) (by decide) (by decide) (by omega)) hP, mNm_fr hN (fun e q1 q2 => hU1 74 e (by decide) (by decide) (by decide) (by decide) (by decide) (by decide) (by omega)) (fun e => hU1 95 e (by decide) (by decide) (by decide) (by decide) (by decide) (by decide) (by omega)) (fun e => hU1 96 e (by decide) (by decide) (by decide) (by decide) (by decide) (by decide) (by omega)), B3, T3, y1⟩ (rounds m3 B3 hU)
/-- same, and the end of is -/
theorem sp_unq {x1 x3 : Int} {ta tb : pE} (hK : K + 2411 + 14472000 < 4294967295) (hR : R + 3 + 18020 < 999999990) (h01 : qn A 0 = 1) (hO : qOJ E A 1) (hS : mSe E ss m A) (h1 : mTm (mG E ss m (qi A)) m x1 ta) (h2 : mTm (mG E ss m (qi A)) m x3 tb) (v1 : ∀ w, vIn w ta → w < tot E (qi A)) (v2 : ∀ w, vIn w tb → w < tot E (qi A)) (hM : mRd m (K + 2 + 2411 * qn A 4) (R + 3 * qn A 4)) (h : mOut E ss m (quni E A ta tb) (K + 2411) (R + 3) Q) : wq_247 x1 x3 m (fun r10 m10 => (r10 ≠ 0 → (Q 1 m10)) ∧ (r10 = 0 → (wq_257 m10 (fun r11 m11 => (r11 = 0 → (Q 0 m11)) ∧ (r11 ≠ 0 → (Q 1 m11)))))) := by
  obtain ⟨-, -, h4, -⟩ := hO.len
  refine sp_un hO hS h1 h2 v1 v2 hM (by omega) (by omega) (fun m3 s3 q1 q2 q3 q4 => ⟨fun _ => ?_, fun q => absurd q (by decide)⟩) (fun m3 q1 q2 q3 q4 => ⟨fun q => absurd rfl q, fun _ => ?_⟩)
  · have e : quni E A ta tb = qbind E A s3 := by unfold quni; rw [q2]
    rw [e] at h
    exact h.1 m3 q1.s2 q1.e33 h01 q3 (mRd_le q4 (by show _ ≤ K + 2411 + 2411 * qn A 4; omega) (by show _ ≤ R + 3 + 3 * qn A 4; omega))
  · have e : quni E A ta tb = qbk E A := by unfold quni; rw [q2]
    rw [e] at h
    exact sp_bk (K := K + 2411) (R := R + 3) (by omega) (by omega) h01 hO.fl q3 (mRd_le q4 (by omega) (by omega)) (h.tr q1).both
end MN
