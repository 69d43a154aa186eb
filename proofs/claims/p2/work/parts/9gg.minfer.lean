/-! THE MODEL INFERS: an inference -/
section MU2
variable {E : qE} {ss : List Nat} {m m' : hy_m} {T l : List Nat} {B B' : bM} {s s' : Nat → pE} {A A' : qA} {Q : Int → hy_m → Prop} {N K R : Nat} {x k : Int} {b : pE} {f : qF} {r : List qF} {j : Nat}
/-- goals of a slot -/
theorem sl_82 (hP : mPr E ss m) (hl : lOK E (qi A)) (hk : frK E (qi A) (qi A).length f) (hf : f.2.2.2 = none) : m 82 (sO ss (qi A) f.1 : Int) = (gsO E (qi A) f.1).length ∧ sO ss (qi A) f.1 < 28 ∧ (gsO E (qi A) f.1).length ≤ 5 := by
  unfold frK at hk
  rw [hf] at hk
  obtain ⟨k1, k2, k3⟩ := hk
  rcases k1 with k1 | k1
  · have esl : sO ss (qi A) f.1 = 26 := by unfold sO; rw [if_pos k1]
    have egs : gsO E (qi A) f.1 = E.2.1 := by unfold gsO; rw [if_pos k1]
    rw [esl, egs]
    exact ⟨(clR_g hP.2.1 (by decide)).1, by decide, hP.2.2.1.2.2.2.1⟩
  · have hlt : f.1 - 2 < (qi A).length := by omega
    obtain ⟨c, hc⟩ : ∃ c, (qi A)[f.1 - 2]? = some c := ⟨_, List.getElem?_eq_getElem hlt⟩
    obtain ⟨hcl, egs⟩ := gsO_i k1 hc hl
    obtain ⟨s0, z1, z2, z3, z4, z5, z6, z7⟩ := mPr_cl hP hcl
    have esl : sO ss (qi A) f.1 = s0 := by
      unfold sO
      rw [if_neg (by omega), List.getD_eq_getElem?_getD (l := qi A), hc]
      exact z1
    rw [esl, egs]
    exact ⟨(clR_g z4 (by omega)).1, by omega, z5.2.2.2.1⟩
/-- the frames below are left -/
theorem top_se {L : List qF} {N : Nat} (hk : chK E (qi A) N (qh A) (qi A).length (qn A 7) (qn A 8)) (hS : mSe E ss m A) (hf : ∀ (a : Nat) (e : Int), ¬ (a = 74 ∧ e = 52) → m' a e = m a e) (hc : mCh E ss m (qi A) (qs A) (qn A 8) L (m' 74 52)) : mSe E ss m' (qtop A L) := by
  obtain ⟨h1, h2, ⟨h3, h4, h5⟩, B, T, h6, h7, h8⟩ := hS
  have hr : mRw m m' := fun a e q1 q2 => hf a e (by omega)
  have hall := chK_all _ hk
  refine ⟨mPr_rw hr (fun e => hf _ _ (by omega)) h1, mNm_fr (A := A) h2 (fun e q1 q2 => hf _ _ (by omega)) (fun e => hf _ _ (by omega)) (fun e => hf _ _ (by omega)), ⟨?_, ?_, ?_⟩, B, T, ?_, h7, h8⟩
  · rw [hf _ _ (by omega)]; exact h3
  · rw [hf _ _ (by omega)]; exact h4
  · exact mCh_fr (N := qn A 8) hr (fun a j q1 q2 _ => hf a j (by omega)) _ _ hc
  · exact mDy_fr (A := A) (N := qn A 8) hr (fun e => hf _ _ (by omega)) (fun e => hf _ _ (by omega)) (hf _ _ (by omega)) (hf _ _ (by omega)) (fun a p q1 q2 _ => hf _ _ (by omega)) (fun a j q1 q2 _ => hf _ _ (by omega)) (fun c hc => (hall c hc).2.2) h6
/-- one more inference -/
theorem cnt_se {N : Nat} (hk : chK E (qi A) N (qh A) (qi A).length (qn A 7) (qn A 8)) (hS : mSe E ss m A) (hf : ∀ (a : Nat) (e : Int), ¬ (a = 74 ∧ (e = 34 ∨ e = 37 ∨ e = 38)) → m' a e = m a e) (h34 : m' 74 34 = m 74 34 + 1) (h37 : m' 74 37 = (max (qn A 5) (qp A).length : Nat)) (h38 : m' 74 38 = (max (qn A 6) (qh A).length : Nat)) : mSe E ss m' (qcnt A) := by
  obtain ⟨h1, ⟨n1, n2, n3, n4, n5, n6⟩, ⟨h3, h4, h5⟩, B, T, h6, h7, h8⟩ := hS
  have hr : mRw m m' := fun a e q1 q2 => hf a e (by omega)
  have hall := chK_all _ hk
  refine ⟨mPr_rw hr (fun e => hf _ _ (by omega)) h1, ⟨?_, ?_, ?_, h37, h38, fun c hc => ?_⟩, ⟨?_, ?_, ?_⟩, B, T, ?_, h7, h8⟩
  · rw [h34, n1]; rfl
  · rw [hf _ _ (by omega)]; exact n2
  · rw [hf _ _ (by omega)]; exact n3
  · rw [hf _ _ (by omega), hf _ _ (by omega)]; exact n6 c hc
  · rw [hf _ _ (by omega)]; exact h3
  · rw [hf _ _ (by omega)]; exact h4
  · rw [hf 74 52 (by omega)]
    exact mCh_fr (N := qn A 8) hr (fun a j q1 q2 _ => hf a j (by omega)) _ _ h5
  · exact mDy_fr (A := A) (N := qn A 8) hr (fun e => hf _ _ (by omega)) (fun e => hf _ _ (by omega)) (hf _ _ (by omega)) (hf _ _ (by omega)) (fun a p q1 q2 _ => hf _ _ (by omega)) (fun a j q1 q2 _ => hf _ _ (by omega)) (fun c hc => (hall c hc).2.2) h6
theorem inB_ok {t : pE} (hK : K + 2411 + 14472000 < 4294967295) (hR : R + 3 + 18020 < 999999990) (h01 : qn A 0 = 1) (hO : qOK E A) (he : qp A = f :: r) (hi : qn A 2 < 300) (hS : mSe E ss m (qcnt A)) (hj : j < qn A 8) (h1 : mF1 E ss m (qi A) (qs A) f j) (hch : mCh E ss m (qi A) (qs A) j r (m 102 (j : Int))) (ht : mTm (mG E ss m (qi A)) m x t) (hv : ∀ w, vIn w t → w < tot E (qi A)) (hca : eCa t = true) (hsb : sb (qs A) t = sb (qs A) (qgoal E A f)) (hend : qend f = false) (hM : mRd m (K + 2411 * qn A 4) (R + 3 * qn A 4)) (h : mOut E ss m (qinf E A f r) (K + 2411) (R + 3) Q) : inB (j : Int) (m 99 (j : Int)) x m Q := by
  obtain ⟨hO2, hcut, eh, hok2, ei, es, hown⟩ := qdrop_ok hO he hi
  obtain ⟨hln, hlc, h4, h8⟩ := hO.len
  have hl : lOK E (qi A) := hO.2.2.1
  have hkO := hO.2.1
  rw [he] at hkO
  obtain ⟨f1, f2, f3⟩ := hkO
  obtain ⟨a1, a2, a3⟩ := h1
  have hkc : chK E (qi (qcnt A)) (qn A 2) (qh (qcnt A)) (qi (qcnt A)).length (qn (qcnt A) 7) (qn (qcnt A) 8) := hO.1
  have e4 : qn (qdrop E (qcnt A) f r) 4 = qn A 4 := by
    unfold qdrop
    split
    · rfl
    · split <;> rfl
  have e0 : qn (qdrop E (qcnt A) f r) 0 = qn A 0 := by
    unfold qdrop
    split
    · rfl
    · split <;> rfl
  -- the goal is called
  have go : ∀ (m' : hy_m) (o : Int), (o = if f.2.2.2.isNone = true then 1 else 0) → sFr m m' → mSe E ss m' (qdrop E (qcnt A) f r) → m' 103 (j : Int) = m 103 (j : Int) → mRd m' (K + 2411 * qn A 4) (R + 3 * qn A 4) → wq_271_176 (j : Int) x o m' Q := by
    intro m' o ho hs3 hse h103 hM3
    rw [ho]
    refine sp_271_176 (A := qdrop E (qcnt A) f r) (f := f) hK hR (by rw [e0]; exact h01) hO2 hse (by omega) (by rw [h103]; exact a2) (by rw [e4]; exact hM3) (sz (sb (qs (qdrop E (qcnt A) f r)) t)) t x f.2.2.2.isNone (Nat.le_refl _) ?_ ?_ hca (fun _ => by rw [eh]; exact hcut) ?_
    · rw [ei]
      exact mTm_rw hs3.rw ht
    · rw [ei]
      exact hv
    · have h2 := h.tr hs3
      unfold qinf at h2
      rw [es, hsb]
      exact h2
  have hS' := hS
  obtain ⟨s1, s2, ⟨s3, s4, s5⟩, B, T, s6, s7, s8⟩ := hS
  have s4 : m 74 51 = qn A 8 := s4
  -- a frame with one goal less
  have push : ∀ (f' : qF) (o : Int), qdrop E (qcnt A) f r = qpush (qcnt A) f' r → f'.2.2.1 = f.2.2.1 → f'.2.1 = f.2.1 + 1 → (match f'.2.2.2 with
      | none => m 99 (j : Int) = sO ss (qi A) f'.1 ∧ m 101 (j : Int) = plc E (qi A) f'.1
      | some _ => m 99 (j : Int) = -9) → (o = if f.2.2.2.isNone = true then 1 else 0) → wq_271_120 (j : Int) (m 99 (j : Int)) x o m Q := by
    intro f' o eq ec eg hm ho
    unfold wq_271_120
    refine ⟨fun q => absurd q (by decide), fun _ => ⟨by omega, by omega, by omega, by omega, by omega, by omega, by omega, by omega, ?_, ?_⟩⟩
    · rw [a1]
      have hb : f.2.1 ≤ 5 := by
        unfold frK at f1
        cases hf : f.2.2.2 with
        | some g =>
          rw [hf] at f1
          have f1 : f.2.1 ≤ 1 := f1
          omega
        | none =>
          have := (sl_82 (m := m) s1 hl (by unfold frK; exact f1) hf).2.2
          rw [hf] at f1
          have := f1.2.2
          omega
      show -2147483648 ≤ _ ∧ _ < 2147483648
      omega
    · refine sp_252 (j := qn A 8) s4 (by omega) (fun m3 k1 k2 k3 k4 k5 k6 k7 => ?_)
      have f4 : ∀ (z : Nat) (e : Int), ¬ (99 ≤ z ∧ z ≤ 104 ∧ e = ((qn A 8 : Nat) : Int)) → ¬ (z = 74 ∧ (e = 51 ∨ e = 52)) → hy_u m3 74 52 ((qn A 8 : Nat) : Int) z e = m z e := fun z e q1 q2 => by
        rw [hy_uf (by omega)]
        exact k1 z e (by omega) (by omega)
      refine go _ o ho (fun z e q1 q2 => f4 z e (by omega) (by omega)) ?_ (f4 _ _ (by omega) (by omega)) (mRd_fr hM (f4 _ _ (by omega) (by omega)) (fun e => f4 _ _ (by omega) (by omega)) (f4 _ _ (by omega) (by omega)) (fun e => f4 _ _ (by omega) (by omega)))
      rw [eq]
      refine push_se (A := qcnt A) (j := qn A 8) (m := m) hkc ⟨s1, s2, ⟨s3, s4, rfl, m 102 (j : Int), by rw [hy_ua (by decide)]; exact k5, mCh_N (Nat.le_of_lt hj) _ _ hch⟩, B, T, s6, s7, s8⟩ f4 (by rw [hy_uk (by decide)]; exact k7) (hy_us _ _ _ _) ⟨?_, ?_, ?_⟩
      · rw [hy_ua (by decide), k3, a1, eg]
        omega
      · rw [hy_ua (by decide), k6, a2, ec]
      · cases hn : f'.2.2.2 with
        | none =>
          rw [hn] at hm
          dsimp only
          rw [hy_ua (by decide), hy_ua (by decide), k2, k4]
          exact hm
        | some g =>
          rw [hn] at hm
          refine ⟨by rw [hy_ua (by decide), k2]; exact hm, fun q => ?_⟩
          rw [eg] at q
          omega
  unfold inB
  cases hf : f.2.2.2 with
  | some g =>
    rw [hf] at a3
    have hq : qdrop E (qcnt A) f r = qpush (qcnt A) (0, 1, f.2.2.1, some g) r := by unfold qdrop; rw [hf]
    have h0 : f.2.1 = 0 := by
      unfold qend at hend
      unfold frK at f1
      rw [hf] at f1 hend
      have f1 : f.2.1 ≤ 1 := f1
      have : f.2.1 ≠ 1 := fun q => by rw [q] at hend; cases hend
      omega
    have hw := push (0, 1, f.2.2.1, some g) 0 hq rfl (by show 1 = f.2.1 + 1; omega) a3.1 (by rw [hf]; rfl)
    exact ⟨fun _ => ⟨fun _ => hw, fun q => absurd a3.1 q⟩, fun q => absurd a3.1 q⟩
  | none =>
    rw [hf] at a3
    obtain ⟨e82, hs28, hg5⟩ := sl_82 (m := m) s1 hl f1 hf
    have hne : m 99 (j : Int) ≠ -9 := by rw [a3.1]; omega
    have hk3 : f.2.1 < (gsO E (qi A) f.1).length := by
      unfold frK at f1
      rw [hf] at f1
      exact f1.2.2
    refine ⟨fun q => absurd q hne, fun _ => ⟨fun q => absurd q hne, fun _ => ?_⟩⟩
    have e82' : m 82 (m 99 (j : Int)) = (gsO E (qi A) f.1).length := by rw [a3.1]; exact e82
    rw [e82', a1]
    refine ⟨by omega, by omega, by rw [a3.1]; omega, by rw [a3.1]; omega, show -2147483648 ≤ _ ∧ _ < 2147483648 by omega, fun hle => ⟨fun _ => ⟨by omega, by omega, ?_⟩, fun q => absurd rfl q⟩, fun hlt => ?_⟩
    · have hq : qdrop E (qcnt A) f r = qtop (qcnt A) r := by
        unfold qdrop
        rw [hf]
        dsimp only
        rw [if_neg (by show ¬ (f.2.1 + 1 < (gsO E (qi A) f.1).length); omega)]
      have f4 : ∀ (z : Nat) (e : Int), ¬ (z = 74 ∧ e = 52) → hy_u m 74 52 (m 102 (j : Int)) z e = m z e := fun z e q => hy_uf q
      refine go _ 1 (by rw [hf]; rfl) (fun z e q1 q2 => f4 z e (by omega)) ?_ (f4 _ _ (by omega)) (mRd_fr hM (f4 _ _ (by omega)) (fun e => f4 _ _ (by omega)) (f4 _ _ (by omega)) (fun e => f4 _ _ (by omega)))
      rw [hq]
      exact top_se (A := qcnt A) hkc hS' f4 (by rw [hy_us]; exact mCh_N (Nat.le_of_lt hj) _ _ hch)
    · have hq : qdrop E (qcnt A) f r = qpush (qcnt A) (f.1, f.2.1 + 1, f.2.2.1, none) r := by
        unfold qdrop
        rw [hf]
        dsimp only
        rw [if_pos (by show f.2.1 + 1 < (gsO E (qi A) f.1).length; omega)]
      exact push (f.1, f.2.1 + 1, f.2.2.1, none) 1 hq rfl rfl a3 (by rw [hf]; rfl)
/-- infers -/
theorem sp_271 (hK : K + 2411 + 14472000 < 4294967295) (hR : R + 3 + 18020 < 999999990) (h01 : qn A 0 = 1) (hO : qOK E A) (he : qp A = f :: r) (hi : qn A 2 < 300) (h56 : qn A 5 ≤ 1000 ∧ qn A 6 ≤ 1000) (hend : qend f = false) (hS : mSe E ss m A) (hM : mRd m (K + 2411 * qn A 4) (R + 3 * qn A 4)) (h : mOut E ss m (qinf E A f r) (K + 2411) (R + 3) Q) : wq_271 m Q := by
  obtain ⟨hln, hlc, h4, h8⟩ := hO.len
  have hS' := hS
  obtain ⟨s1, ⟨n1, n2, n3, n4, n5, n6⟩, ⟨s3, s4, s5⟩, B, T, s6, s7, s8⟩ := hS
  have hkO := hO.2.1
  rw [he] at hkO
  unfold wq_271
  refine ⟨by rw [n1]; show -2147483648 ≤ _ ∧ _ < 2147483648; omega, ?_⟩
  have f1 : ∀ (a : Nat) (e : Int), ¬ (a = 74 ∧ e = 34) → hy_u m 74 34 (m 74 34 + 1) a e = m a e := fun a e q => hy_uf q
  have v34 : hy_u m 74 34 (m 74 34 + 1) 74 34 = m 74 34 + 1 := hy_us _ _ _ _
  rw [show m 74 52 = hy_u m 74 34 (m 74 34 + 1) 74 52 from (f1 _ _ (by omega)).symm]
  generalize hy_u m 74 34 (m 74 34 + 1) = m1 at f1 v34
  have hrw1 : mRw m m1 := fun a e q1 q2 => f1 a e (by omega)
  have hch1 : mCh E ss m1 (qi A) (qs A) (qn A 8) (qp A) (m1 74 52) := by
    rw [f1 74 52 (by omega)]
    exact mCh_fr hrw1 (fun a j q1 q2 _ => f1 a j (by omega)) _ _ s5
  have hlen := mCh_len _ _ hch1
  refine sp_268 hch1 (by omega) ?_
  have hch2 := hch1
  rw [he] at hch2
  obtain ⟨j, e52, hj, hF, hchr⟩ := hch2
  have e37 : m1 74 37 = qn A 5 := by rw [f1 _ _ (by omega)]; exact n4
  have e38 : m1 74 38 = qn A 6 := by rw [f1 _ _ (by omega)]; exact n5
  have e59 : m1 74 59 = (qh A).length := by rw [f1 _ _ (by omega)]; exact s6.2.2.2.2.2
  -- all four ways
  have way : ∀ v1 v2 : Int, v1 = (max (qn A 5) (qp A).length : Nat) → v2 = (max (qn A 6) (qh A).length : Nat) → wq_269 (j : Int) (hy_u (hy_u m1 74 37 v1) 74 38 v2) (fun r2 m2 => inB (j : Int) (m1 99 (j : Int)) r2 m2 Q) := by
    intro v1 v2 hv1 hv2
    have f3 : ∀ (a : Nat) (e : Int), ¬ (a = 74 ∧ (e = 37 ∨ e = 38)) → hy_u (hy_u m1 74 37 v1) 74 38 v2 a e = m1 a e := fun a e q => by rw [hy_uf (by omega), hy_uf (by omega)]
    have hse : mSe E ss (hy_u (hy_u m1 74 37 v1) 74 38 v2) (qcnt A) := by
      refine cnt_se hO.1 hS' (fun a e q => ?_) ?_ ?_ ?_
      · rw [f3 a e (by omega), f1 a e (by omega)]
      · rw [f3 _ _ (by omega)]; exact v34
      · rw [hy_uk (by decide), hy_us]; exact hv1
      · rw [hy_us]; exact hv2
    rw [show m1 99 (j : Int) = hy_u (hy_u m1 74 37 v1) 74 38 v2 99 (j : Int) from (f3 _ _ (by omega)).symm]
    generalize hy_u (hy_u m1 74 37 v1) 74 38 v2 = m2 at f3 hse
    have hrw2 : mRw m1 m2 := fun a e q1 q2 => f3 a e (by omega)
    have hF2 : mF1 E ss m2 (qi A) (qs A) f j := mF1_fr hrw2 (fun a q1 q2 => f3 a _ (by omega)) hF
    have hs2 : sFr m m2 := fun a e q1 q2 => (f3 a e (by omega)).trans (f1 a e (by omega))
    have hO1 : qOJ E (qcnt A) 0 := by
      obtain ⟨b1, b2, b3, b4, b5, b6, b7, b8, b9⟩ := hO
      refine ⟨chK_c (Nat.le_succ _) _ _ _ _ _ _ _ (Nat.le_refl _) (Nat.le_refl _) (Nat.le_refl _) (fun _ _ => rfl) b1, b2, b3, ?_, ?_, ?_, ?_, ?_, b9⟩
      · show (qi A).length + 0 ≤ qn A 2 + 1; omega
      · show qn A 8 + 0 ≤ 2 * (qn A 2 + 1) + 1; omega
      · show (qh A).length + 0 ≤ qn A 2 + 1; omega
      · show qn A 4 + sLf (qh A) + 20 * 0 ≤ 20 * (qn A 2 + 1); omega
      · show qn A 2 + 1 ≤ 300; omega
    refine sp_269 (A := qcnt A) hO1 hse (by omega) hkO.1 hend hF2 (fun x t t1 t2 t3 t4 => ?_)
    refine inB_ok hK hR h01 hO he hi hse hj hF2 ?_ t1 t2 t3 t4 hend ?_ (h.tr hs2)
    · rw [f3 102 _ (by omega)]
      exact mCh_fr hrw2 (fun a i q1 q2 _ => f3 a i (by omega)) _ _ hchr
    · exact mRd_fr hM ((f3 _ _ (by omega)).trans (f1 _ _ (by omega))) (fun e => (f3 _ _ (by omega)).trans (f1 _ _ (by omega))) ((f3 _ _ (by omega)).trans (f1 _ _ (by omega))) (fun e => (f3 _ _ (by omega)).trans (f1 _ _ (by omega)))
  rw [e52, e37, e38, e59]
  refine ⟨fun c1 => ⟨fun c2 => ⟨by omega, by omega, way _ _ ?_ ?_⟩, fun c2 => ⟨by omega, by omega, way _ _ ?_ ?_⟩⟩, fun c1 => ⟨fun c2 => ⟨by omega, by omega, way _ _ ?_ ?_⟩, fun c2 => ⟨by omega, by omega, way _ _ ?_ ?_⟩⟩⟩ <;> omega
end MU2
