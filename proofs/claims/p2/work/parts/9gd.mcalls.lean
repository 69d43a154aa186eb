/-! THE MODEL CALLS A GOAL: calls -/
section MR
variable {E : qE} {ss : List Nat} {m m' : hy_m} {T : List Nat} {B B' : bM} {s s' : Nat → pE} {A A' : qA} {Q : Int → hy_m → Prop} {N K R : Nat} {x k : Int} {b : pE}
/-- only so many choices are kept -/
theorem keep_se {cut : Nat} (hO : qOJ E A 1) (hc : cut ≤ (qh A).length) (hS : mSe E ss m A) (hf : ∀ (a : Nat) (e : Int), ¬ (a = 74 ∧ e = 59) → m' a e = m a e) (h59 : m' 74 59 = cut) : mSe E ss m' (qkeep A cut) := by
  obtain ⟨hP, hN, ⟨h42, h51, hch⟩, B, T, ⟨d1, d2, d3, d4, d5, d6⟩, hR, hT⟩ := hS
  have hr : mRw m m' := fun a e q1 q2 => hf a e (by omega)
  have hall := chK_all _ hO.1
  have dc : ∀ (C : List qC) (n : Nat), mCc E ss m (qi A) T B C → mCc E ss m (qi A) T B (C.drop n) := by
    intro C
    induction C with
    | nil => exact fun n h => by rw [List.drop_nil]; exact h
    | cons c r ih =>
      intro n h
      cases n with
      | zero => exact h
      | succ n => exact ih n h.2.2.2.2.2.2
  refine ⟨mPr_rw hr (fun e => hf _ _ (by omega)) hP, mNm_fr (A := A) hN (fun e q1 q2 => hf _ _ (by omega)) (fun e => hf _ _ (by omega)) (fun e => hf _ _ (by omega)), ⟨?_, ?_, ?_⟩, B, T, ⟨?_, ⟨?_, fun i hi => ?_⟩, d3, d4, ?_, ?_⟩, hR, hT⟩
  · rw [hf _ _ (by omega)]; exact h42
  · rw [hf _ _ (by omega)]; exact h51
  · rw [hf 74 52 (by omega)]
    exact mCh_fr hr (fun a j q1 q2 _ => hf a j (by omega)) _ _ hch
  · show mBd (mG E ss m' (qi A)) m' (fun w => w < tot E (qi A)) B
    rw [mG_rw hr]
    exact mBd_fr d1 (fun a e q => hf a e (by omega))
  · rw [hf _ _ (by omega)]; exact d2.1
  · rw [hf _ _ (by omega)]; exact d2.2 i hi
  · have d5' := dc (qh A) ((qh A).length - cut) d5
    show mCc E ss m' (qi A) T B ((qh A).drop ((qh A).length - cut))
    exact mCc_fr (N := qn A 8) hr (fun a j q1 q2 _ => hf a j (by omega)) _ (fun a p q1 q2 _ => hf a p (by omega)) (fun c hc' => ⟨(hall c (List.mem_of_mem_drop hc')).2.2, ⟨mCc_T _ d5 c (List.mem_of_mem_drop hc'), rfl⟩, rfl, rfl, fun v _ => hf _ _ (by omega)⟩) d5'
  · rw [h59, qkeep_len hc]
/-- callsPlain -/
theorem sp_266 {own : Bool} {cut : Nat} (hK : K + 2411 + 14472000 < 4294967295) (hR : R + 3 + 18020 < 999999990) (h01 : qn A 0 = 1) (hO : qOJ E A 1) (hS : mSe E ss m A) (hb : bI k 0 ≠ 0) (hcut : own = true → cut ≤ (qh A).length) (hM : mRd m (K + 2411 * qn A 4) (R + 3 * qn A 4)) (h : mOut E ss m (if bI k 0 = 1 then A else if bI k 0 = 2 then qbk E A else if own = true then qkeep A cut else A) (K + 2411) (R + 3) Q) : wq_266 k (if own = true then 1 else 0) (cut : Int) m Q := by
  have hM2 := mRd_le hM (show K + 2411 * qn A 4 ≤ K + 2411 + 2411 * qn A 4 by omega) (show R + 3 * qn A 4 ≤ R + 3 + 3 * qn A 4 by omega)
  have e : bI k 0 = if k = 245152485 then 1 else if k = 215512300 then 2 else if k = 1637108 then 3 else 0 := rfl
  unfold wq_266
  refine sp_fail ⟨fun hne => ⟨fun ho => ?_, fun ho => sp_cut ⟨fun hnc => ?_, fun hic => ?_⟩⟩, fun heq => ?_⟩
  · have hown : own = false := by
      cases own with
      | false => rfl
      | true => exact absurd ho (by decide)
    have : (if bI k 0 = 1 then A else if bI k 0 = 2 then qbk E A else if own = true then qkeep A cut else A) = A := by
      rw [hown, if_neg (show ¬ (false = true) by decide)]
      split
      · rfl
      · rename_i q1
        rw [if_neg]
        rw [e]
        split
        · decide
        · split <;> decide
    rw [this] at h
    exact h.1 m (fun _ _ _ _ => rfl) rfl h01 hS hM2
  · have : bI k 0 = 1 := by
      rw [e] at hb ⊢
      split
      · rfl
      · rename_i q
        rw [if_neg q, if_neg hne, if_neg hnc] at hb
        exact absurd rfl hb
    rw [if_pos this] at h
    exact h.1 m (fun _ _ _ _ => rfl) rfl h01 hS hM2
  · have h3 : bI k 0 = 3 := by
      rw [e, hic]
      rfl
    have hown : own = true := by
      cases own with
      | true => rfl
      | false => exact absurd rfl ho
    rw [h3, if_neg (by decide), if_neg (by decide), if_pos hown] at h
    have hf : ∀ (a : Nat) (e : Int), ¬ (a = 74 ∧ e = 59) → hy_u m 74 59 (cut : Int) a e = m a e := fun a e q => hy_uf q
    exact h.1 _ (fun a e q1 q2 => hf a e (by omega)) (hf _ _ (by omega)) h01 (keep_se hO (hcut hown) hS hf (hy_us _ _ _ _)) (mRd_fr hM2 (hf _ _ (by omega)) (fun e => hf _ _ (by omega)) (hf _ _ (by omega)) (fun e => hf _ _ (by omega)))
  · have h2 : bI k 0 = 2 := by
      rw [e, heq]
      rfl
    rw [h2, if_neg (by decide), if_pos rfl] at h
    exact sp_bk (K := K + 2411) (R := R + 3) (by omega) (by omega) h01 hO.fl hS.fl hM2 h
theorem quni_c {t t' u u' : pE} (h1 : ∀ v, SolS (qs A) v → sb v t = sb v t') (h2 : ∀ v, SolS (qs A) v → sb v u = sb v u') : quni E A t u = quni E A t' u' := by
  have e : unR (qs A) t u = unR (qs A) t' u' := by
    funext s'
    exact propext ⟨unR_c h1 h2, unR_c (fun v q => (h1 v q).symm) (fun v q => (h2 v q).symm)⟩
  have eu : uni (qs A) t u = uni (qs A) t' u' := by
    unfold uni
    rw [e]
  unfold quni
  rw [eu]
/-- calls -/
theorem sp_267 {own : Bool} {cut : Nat} (hK : K + 2411 + 14472000 < 4294967295) (hR : R + 3 + 18020 < 999999990) (h01 : qn A 0 = 1) (hO : qOJ E A 1) (hS : mSe E ss m A) (ht : mTm (mG E ss m (qi A)) m x (.mulL k b)) (hv : ∀ w, vIn w (.mulL k b) → w < tot E (qi A)) (hc : eCa (.mulL k b) = true) (hn4 : bI k (eN b) ≠ 4) (hcut : own = true → cut ≤ (qh A).length) (hM : mRd m (K + 2411 * qn A 4) (R + 3 * qn A 4)) (h : mOut E ss m (qcall E A own cut k (sb (qs A) b)) (K + 2411) (R + 3) Q) : wq_267 x (if own = true then 1 else 0) (cut : Int) m Q := by
  have hLL := mTm_L ht
  have hl : lOK E (qi A) := hO.2.2.1
  have eN' : eN (sb (qs A) b) = eN b := (isL_sbL (qs A) b hLL.1).2
  obtain ⟨n, p, hx, hn, h77, h78⟩ := mTm_mul ht
  subst hx
  unfold qcall at h
  rw [eN'] at h
  unfold wq_267
  refine sp_232Q hn ⟨by omega, by omega, sp_232Q hn ⟨by omega, by omega, ?_⟩⟩
  rw [h77, h78]
  refine sp_184 (fun hb => ⟨fun _ => ?_, fun q => absurd q (by decide)⟩) (fun hb => ⟨fun q => absurd rfl q, fun _ => ?_⟩)
  · have hb0 := (bI_b k (eN b)).mp hb
    refine ⟨fun h0 => ⟨fun h1 => ?_, fun h1 => ?_⟩, fun h0 => ?_⟩
    · have hn2 : eN b = 2 := by
        have : eN b ≠ 3 := fun q => by rw [q] at hb0; exact hb0 rfl
        omega
      rw [hn2] at h hb0
      have e : bI k 2 = if k = 242775781 then 6 else if k = 228162035 then 7 else if k = 13555 then 8 else 0 := rfl
      refine sp_same ⟨fun hns => sp_is ⟨fun hni => ?_, fun hii => ?_⟩, fun his => ?_⟩
      · have h7 : bI k 2 = 7 := by
          rw [e, if_neg hns] at hb0 ⊢
          split
          · rfl
          · rename_i q
            rw [if_neg q, if_neg hni] at hb0
            exact absurd rfl hb0
        rw [h7, if_neg (by decide), if_neg (by decide), if_neg (by decide), if_neg (by decide), if_neg (by decide), if_pos rfl] at h
        exact sp_265 hK hR h01 hO hS ht hv hn2 hM h
      · have h8 : bI k 2 = 8 := by rw [e, hii]; rfl
        rw [h8, if_neg (by decide), if_neg (by decide), if_neg (by decide), if_neg (by decide), if_neg (by decide), if_neg (by decide), if_pos rfl] at h
        exact sp_264 hK hR h01 hO hS ht hv hn2 hM h
      · have h6 : bI k 2 = 6 := by rw [e, his]; rfl
        rw [h6, if_neg (by decide), if_neg (by decide), if_neg (by decide), if_neg (by decide), if_pos rfl, eAr_L (qs A) b 0 hLL.1 (by omega), eAr_L (qs A) b 1 hLL.1 (by omega), quni_c (t' := eAr b 0) (u' := eAr b 1) (fun v q => SolS_t q _) (fun v q => SolS_t q _)] at h
        refine sp_236 (j := 0) (mG_C hS.1 hl) ht (by omega) (fun y hy _ => sp_236 (j := 1) (mG_C hS.1 hl) ht (by omega) (fun y1 hy1 _ => ?_))
        exact sp_unq hK hR h01 hO hS hy hy1 (fun w hw => hv w (vIn_ar w b 0 hLL.1 (by omega) hw)) (fun w hw => hv w (vIn_ar w b 1 hLL.1 (by omega) hw)) (mRd_le hM (by omega) (by omega)) h
    · have hn1 : eN b = 1 := by omega
      rw [hn1] at h hb0 hn4
      have e : bI k 1 = if k = 209221228 then 4 else if k = 1816564 then 5 else 0 := rfl
      have h5 : bI k 1 = 5 := by
        rw [e] at hb0 hn4 ⊢
        split
        · rename_i q
          rw [if_pos q] at hn4
          exact absurd rfl hn4
        · rename_i q
          rw [if_neg q] at hb0
          split
          · rfl
          · rename_i q2
            rw [if_neg q2] at hb0
            exact absurd rfl hb0
      rw [h5, if_neg (by decide), if_neg (by decide), if_neg (by decide), if_pos rfl] at h
      exact sp_263 h01 hO hS ht hv hn1 hM h
    · have hn0 : eN b = 0 := by omega
      rw [hn0] at h hb0
      refine sp_266 hK hR h01 hO hS hb0 hcut hM ?_
      have e : bI k 0 = if k = 245152485 then 1 else if k = 215512300 then 2 else if k = 1637108 then 3 else 0 := rfl
      by_cases q1 : bI k 0 = 1
      · rw [if_pos q1] at h ⊢
        exact h
      · rw [if_neg q1] at h ⊢
        by_cases q2 : bI k 0 = 2
        · rw [if_pos q2] at h ⊢
          exact h
        · rw [if_neg q2] at h ⊢
          have q3 : bI k 0 = 3 := by
            rw [e] at hb0 q1 q2 ⊢
            split
            · rename_i z
              rw [if_pos z] at q1
              exact absurd rfl q1
            · rename_i z
              rw [if_neg z] at q2 hb0
              split
              · rename_i z2
                rw [if_pos z2] at q2
                exact absurd rfl q2
              · rename_i z2
                rw [if_neg z2] at hb0
                split
                · rfl
                · rename_i z3
                  rw [if_neg z3] at hb0
                  exact absurd rfl hb0
          rw [if_pos q3] at h
          exact h
  · have hb0 : bI k (eN b) = 0 := by
      by_cases q : bI k (eN b) = 0
      · exact q
      · have := (bI_b k (eN b)).mpr q
        rw [hb] at this
        cases this
    rw [hb0, if_neg (by decide), if_neg (by decide), if_neg (by decide), if_neg (by decide), if_neg (by decide), if_neg (by decide), if_neg (by decide)] at h
    exact sp_260 (K := K + 2411) (R := R + 3) (by omega) (by omega) h01 hO hS ht hv hc (mRd_le hM (by omega) (by omega)) h
end MR
