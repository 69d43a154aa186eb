/-! THE MODEL INFERS -/
section MS2
variable {E : qE} {ss : List Nat} {m m' : hy_m} {T l : List Nat} {B B' : bM} {s s' : Nat → pE} {A A' : qA} {Q : Int → hy_m → Prop} {N K R : Nat} {x k : Int} {b : pE}
/-- depthOf -/
theorem sp_268 {L : List qF} (h : mCh E ss m l s N L x) (hN : N ≤ 1300) (hq : Q (L.length : Int) m) : wq_268 x m Q := by
  unfold wq_268 wq_268_4
  intro P hP
  have key : ∀ (L' : List qF) (n N : Nat) (x : Int), mCh E ss m l s N L' x → N ≤ 1300 → n + L'.length = L.length → P (n : Int) x m := by
    intro L'
    induction L' with
    | nil =>
      intro n N x h1 _ h2
      refine hP _ _ _ ⟨fun _ => ?_, fun q => absurd h1 q⟩
      have : n = L.length := h2
      rw [this]
      exact hq
    | cons f r ih =>
      rintro n N x ⟨j, rfl, h2, h3, h4⟩ hN h5
      rw [List.length_cons] at h5
      have hl := mCh_len L _ h
      refine hP _ _ _ ⟨fun q => by omega, fun _ => ⟨by omega, by omega, show -2147483648 ≤ _ ∧ _ < 2147483648 by omega, ?_⟩⟩
      rw [show (n : Int) + 1 = ((n + 1 : Nat) : Int) by omega]
      exact ih (n + 1) j _ h4 (by omega) (by omega)
  have := key L 0 N x h hN (Nat.zero_add _)
  exact this
/-- isCall -/
theorem sp_270 {G : Nat → Nat → Prop} (ht : mTm G m x (.mulL k b)) (h1 : bI k (eN b) = 4 → eN b = 1 → Q 1 m) (h0 : bI k (eN b) ≠ 4 → Q 0 m) : wq_270 x m Q := by
  obtain ⟨n, p, rfl, hn, h77, h78⟩ := mTm_mul ht
  have h3 := (mTm_L ht).2
  unfold wq_270
  refine sp_232Q hn ⟨by omega, by omega, sp_call ?_⟩
  rw [h77]
  have hb : bI k (eN b) = 4 ↔ k = 209221228 ∧ eN b = 1 := by
    have : eN b = 0 ∨ eN b = 1 ∨ eN b = 2 ∨ eN b = 3 := by omega
    rcases this with q | q | q | q
    · rw [q]
      show (if k = 245152485 then (1 : Int) else if k = 215512300 then 2 else if k = 1637108 then 3 else 0) = 4 ↔ _
      refine ⟨fun z => ?_, fun z => absurd z.2 (by decide)⟩
      split at z
      · exact absurd z (by decide)
      · split at z
        · exact absurd z (by decide)
        · split at z <;> exact absurd z (by decide)
    · rw [q]
      show (if k = 209221228 then (4 : Int) else if k = 1816564 then 5 else 0) = 4 ↔ _
      refine ⟨fun z => ?_, fun z => by rw [if_pos z.1]⟩
      split at z
      · rename_i w
        exact ⟨w, rfl⟩
      · split at z <;> exact absurd z (by decide)
    · rw [q]
      show (if k = 242775781 then (6 : Int) else if k = 228162035 then 7 else if k = 13555 then 8 else 0) = 4 ↔ _
      refine ⟨fun z => ?_, fun z => absurd z.2 (by decide)⟩
      split at z
      · exact absurd z (by decide)
      · split at z
        · exact absurd z (by decide)
        · split at z <;> exact absurd z (by decide)
    · rw [q]
      exact ⟨fun z => absurd z (by show ¬ ((0 : Int) = 4); decide), fun z => absurd z.2 (by decide)⟩
  refine ⟨fun q => h0 (fun z => q (hb.mp z).1), fun q => sp_232Q hn ⟨by omega, by omega, ?_⟩⟩
  rw [h78]
  exact ⟨fun z => h0 (fun w => z (by have := (hb.mp w).2; omega)), fun z => h1 (hb.mpr ⟨q, by omega⟩) (by omega)⟩
theorem qcl_s {k : Int} {x0 r : pE} {own : Bool} : qcl (.mulL k (.add x0 r)) own = if bI k (eN r + 1) = 4 then (if eCa x0 = true then qcl x0 false else none) else some (.mulL k (.add x0 r), own) := by
  rw [qcl]
theorem qcl_n {k : Int} {a : pE} {own : Bool} (hl : isL a) (h : bI k (eN a) ≠ 4) : qcl (.mulL k a) own = some (.mulL k a, own) := by
  cases a with
  | add x0 r =>
    have h : bI k (eN r + 1) ≠ 4 := h
    rw [qcl_s, if_neg h]
  | num i =>
    rw [qcl]
    intro _ _ _ q
    injection q with _ q
    cases q
  | var v => exact hl.elim
  | mulL k a => exact hl.elim
  | sub a r => exact hl.elim
  | neg a => exact hl.elim
  | mulR a k => exact hl.elim
theorem qcl_c {k : Int} {a : pE} {own : Bool} (hl : isL a) (hn : eN a = 1) (h : bI k (eN a) = 4) : qcl (.mulL k a) own = if eCa (eAr a 0) = true then qcl (eAr a 0) false else none := by
  cases a with
  | add x0 r =>
    have h : bI k (eN r + 1) = 4 := h
    rw [qcl_s, if_pos h]
    rfl
  | num i => exact absurd hn (by show ¬ ((0 : Nat) = 1); decide)
  | var v => exact hl.elim
  | mulL k a => exact hl.elim
  | sub a r => exact hl.elim
  | neg a => exact hl.elim
  | mulR a k => exact hl.elim
/-- behind the calls: the goal is called -/
theorem sp_271_176 {f : qF} {j : Nat} (hK : K + 2411 + 14472000 < 4294967295) (hR : R + 3 + 18020 < 999999990) (h01 : qn A 0 = 1) (hO : qOJ E A 1) (hS : mSe E ss m A) (hj : j < 1300) (h103 : m 103 (j : Int) = f.2.2.1) (hM : mRd m (K + 2411 * qn A 4) (R + 3 * qn A 4)) : ∀ (z : Nat) (t : pE) (x : Int) (own : Bool), sz (sb (qs A) t) ≤ z → mTm (mG E ss m (qi A)) m x t → (∀ w, vIn w t → w < tot E (qi A)) → eCa t = true → (own = true → f.2.2.1 ≤ (qh A).length) → mOut E ss m (match qcl (sb (qs A) t) own with
    | some (.mulL k a, own) => qcall E A own f.2.2.1 k a
    | _ => qfin A 4 1) (K + 2411) (R + 3) Q → wq_271_176 (j : Int) x (if own = true then 1 else 0) m Q := by
  intro z t x own hz ht hv hc hcut h
  unfold wq_271_176
  intro P hP
  have hl : lOK E (qi A) := hO.2.2.1
  obtain ⟨B, T, hD, hRes, hTl⟩ := hS.2.2.2
  revert t x own
  induction z with
  | zero => exact fun t x own hz => absurd hz (by have := sz_pos (sb (qs A) t); omega)
  | succ z ih =>
    intro t x own hz ht hv hc hcut h
    obtain ⟨k, b, rfl⟩ := eCa_k hc
    have hLL := mTm_L ht
    have hls := isL_sbL (qs A) b hLL.1
    have es : sb (qs A) (.mulL k b) = .mulL k (sb (qs A) b) := rfl
    refine hP _ _ _ ?_
    unfold wf_271_176
    refine sp_270 ht (fun h4 hn1 => ⟨fun q => absurd q (by decide), fun _ => ?_⟩) (fun h4 => ⟨fun _ => ⟨by omega, by omega, ?_⟩, fun q => absurd rfl q⟩)
    · rw [es, qcl_c hls.1 (by rw [hls.2]; exact hn1) (by rw [hls.2]; exact h4), eAr_L (qs A) b 0 hLL.1 (by omega)] at h
      refine sp_236 (j := 0) (mG_C hS.1 hl) ht (by omega) (fun y hy _ => sp_237 hD.1 hRes hy (fun w hw => hv w (vIn_ar w b 0 hLL.1 (by omega) hw)) (fun y' t' hF hso => sp_261 hF.1 ?_))
      have e2 : sb (qs A) (eAr b 0) = sb (qs A) t' := hso _ hRes.sol
      have ec : eCa (sb (qs A) t') = eCa t' := by
        rcases hF.2.2 with ⟨w, a1, a2, a3, a4⟩ | ⟨q, -⟩
        · rw [a2]
          have e : sb (qs A) (.var w) = .var w := (hRes w).1 a3
          rw [e]
        · exact eCa_sb _ q
      rw [e2, ec] at h
      by_cases hcal : eCa t' = true
      · rw [if_pos hcal] at h ⊢
        refine ⟨fun _ => ?_, fun q => absurd q (by decide)⟩
        have hsz : sz (sb (qs A) t') ≤ z := by
          have := ar_sz (qs A) b 0 hLL.1 (by omega)
          rw [e2] at this
          have e3 : sz (sb (qs A) (.mulL k b)) = 1 + sz (sb (qs A) b) := rfl
          omega
        exact ih t' y' false hsz hF.1 hF.2.1 hcal (fun q => by cases q) h
      · rw [if_neg hcal] at h ⊢
        exact ⟨fun q => absurd rfl q, fun _ => sp_no (er := 1) (by decide) hS.fl (mRd_le hM (by omega) (by omega)) h⟩
    · rw [es, qcl_n hls.1 (by rw [hls.2]; exact h4)] at h
      rw [h103]
      exact sp_267 hK hR h01 hO hS ht hv hc h4 hcut hM h
end MS2
