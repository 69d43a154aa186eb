/-! THE MODEL TRIES A CLAUSE: triesClause -/
section MH
variable {E : qE} {ss : List Nat} {m m' : hy_m} {T : List Nat} {B B' : bM} {s s' : Nat → pE} {A : qA} {Q : Int → hy_m → Prop} {N : Nat}
theorem eCa_k {t : pE} (h : eCa t = true) : ∃ k b, t = .mulL k b := by
  cases t with
  | mulL k b => exact ⟨k, b, rfl⟩
  | _ => cases h
set_option maxHeartbeats 1000000 in
theorem sp_255 {c cut K R : Nat} {g : pE} {x : Int} (hp : qPr E A cut) (hc : c < E.1.length) (hS : mSe E ss m A) (hg : mFg E ss m (qi A) (qs A) x g) (hky : eKy E.1[c].1 = eKy g) (hR : mRd m K R) (hK : K + 6000 < 4294967295) (hR2 : R + 10 < 999999990) (h1 : ∀ m', sFr m m' → mSe E ss m' (qtry E A c g cut).1 → (qtry E A c g cut).2 = true → mRd m' (K + 2411) (R + 3) → Q 1 m') (h0 : ∀ m', sFr m m' → mFl E ss m' (qtry E A c g cut).1 → (qtry E A c g cut).2 = false → mRd m' (K + 2411) (R + 3) → Q 0 m') : wq_255 (c : Int) x (cut : Int) m Q := by
  obtain ⟨hP, hN, ⟨h42, h51, hch⟩, B, T, hD, hRes, hTl⟩ := hS
  obtain ⟨sl, z1, z2, z3, z4, z5, z6, z7⟩ := mPr_cl hP hc
  obtain ⟨⟨k0, r1, r2⟩, q0, r3, r4⟩ := hR
  obtain ⟨hentO, hentF⟩ := qent_ok hp hc
  have hl : lOK E (qi (qent A c)) := hentO.2.2.1
  have hln : (qi (qent A c)).length ≤ 300 := by
    have q1 := hentO.2.2.2.1
    have q2 := hentO.2.2.2.2.2.2.2.1
    omega
  obtain ⟨g82, g84, gg, gh⟩ := clR_g z4 (by omega)
  have hto := mPr_tot hP hl hln
  have etot : tot E (qi (qent A c)) = tot E (qi A) + E.1[c].2.2 := by
    show tot E (qi A ++ [c]) = _
    rw [tot_app, nvO_c hc]
  have hpre : qi A <+: qi (qent A c) := List.prefix_append _ _
  obtain ⟨t, t1, t2, ⟨t3, t4⟩, t5⟩ := hg
  obtain ⟨k, b, rfl⟩ := eCa_k t3
  obtain ⟨hgo, k', a, hhd, -⟩ := z5.2.1 E.1[c].1 rfl
  have hkk : k' = k ∧ eN a = eN b := by
    rw [hhd] at hgo hky
    rw [← t4] at hky
    exact kC_inj hgo.2.1 (mTm_nm t1).1 hgo.2.2.1 (mTm_L t1).2 hky
  obtain ⟨rfl, hab⟩ := hkk
  have hcl9 : c < 20 := by
    have := hp.2.2.2.2.2.2.2.2.2
    omega
  have hT4 : qn A 4 ≤ 6000 := by
    have q1 := hp.2.2.2.2.2.2.2.1
    have q2 := hp.2.2.2.2.2.2.2.2.1
    omega
  obtain ⟨n1, n2, n3, n4, n5, n6⟩ := hN
  obtain ⟨c1, c2, c3, c4⟩ := n6 c hcl9
  have i1 : hy_r 0 (m 74 36 + 1) := by
    rw [n3]
    show -2147483648 ≤ _ ∧ _ < 2147483648
    omega
  have i2 : hy_r 0 (m 95 (c : Int) + 1) := by
    rw [c1]
    show -2147483648 ≤ _ ∧ _ < 2147483648
    omega
  unfold wq_255
  refine sp_206 hcl9 z3 ⟨i1, by omega, by omega, by omega, by omega, i2, ?_⟩
  have f1 : ∀ (z : Nat) (e : Int), ¬ (z = 74 ∧ e = 36) → ¬ (z = 95 ∧ e = (c : Int)) → hy_u (hy_u m 74 36 (m 74 36 + 1)) 95 (c : Int) (m 95 (c : Int) + 1) z e = m z e := fun z e q1 q2 => by rw [hy_uf q2, hy_uf q1]
  have v36 : hy_u (hy_u m 74 36 (m 74 36 + 1)) 95 (c : Int) (m 95 (c : Int) + 1) 74 36 = m 74 36 + 1 := by rw [hy_ua (by decide), hy_us]
  have v95 : hy_u (hy_u m 74 36 (m 74 36 + 1)) 95 (c : Int) (m 95 (c : Int) + 1) 95 (c : Int) = m 95 (c : Int) + 1 := hy_us _ _ _ _
  rw [h42]
  generalize hy_u (hy_u m 74 36 (m 74 36 + 1)) 95 (c : Int) (m 95 (c : Int) + 1) = m1 at f1 v36 v95
  unfold wq_255_36
  refine wL1_rule (Nat.lt_wfRel.wf) (fun x7 (m' : hy_m) => ∃ d : Nat, x7 = d ∧ d ≤ E.1[c].2.2 ∧ (∀ e : Int, (tot E (qi A) : Int) ≤ e → e < (tot E (qi A) : Int) + (d : Int) → m' 97 e = -1) ∧ ∀ (z : Nat) (e : Int), ¬ (z = 97 ∧ (tot E (qi A) : Int) ≤ e ∧ e < (tot E (qi A) : Int) + (d : Int)) → m' z e = m1 z e) (fun x7 _ => 20 - x7.toNat) ?_ ⟨0, rfl, Nat.zero_le _, fun e q1 q2 => by omega, fun _ _ _ => rfl⟩
  rintro P x7 m2 ⟨d, rfl, hd, y1, y2⟩ hPP
  have e84 : m2 84 (sl : Int) = (E.1[c].2.2 : Nat) := by rw [y2 _ _ (by omega), f1 _ _ (by omega) (by omega)]; exact g84
  have e42 : m2 74 42 = (tot E (qi A) : Nat) := by rw [y2 _ _ (by omega), f1 _ _ (by omega) (by omega)]; exact h42
  have h8 := z5.1
  unfold wf_255_36
  rw [e84, e42]
  refine ⟨by omega, by omega, fun hle => ⟨by omega, by omega, show -2147483648 ≤ _ ∧ _ < 2147483648 by omega, ?_⟩, fun hlt => ⟨by omega, by omega, show -2147483648 ≤ _ ∧ _ < 2147483648 by omega, ?_⟩⟩
  · have hdn : d = E.1[c].2.2 := by omega
    subst hdn
    have f3 : ∀ (z : Nat) (e : Int), ¬ (z = 74 ∧ (e = 36 ∨ e = 42)) → ¬ (z = 95 ∧ e = (c : Int)) → ¬ (z = 97 ∧ (tot E (qi A) : Int) ≤ e ∧ e < (tot E (qi A) : Int) + (E.1[c].2.2 : Nat)) → hy_u m2 74 42 ((tot E (qi A) : Int) + (E.1[c].2.2 : Nat)) z e = m z e := fun z e q1 q2 q3 => by
      rw [hy_uf (by omega), y2 z e q3, f1 z e (by omega) q2]
    have v42 : hy_u m2 74 42 ((tot E (qi A) : Int) + (E.1[c].2.2 : Nat)) 74 42 = (tot E (qi A) : Int) + (E.1[c].2.2 : Nat) := hy_us _ _ _ _
    have w36 : hy_u m2 74 42 ((tot E (qi A) : Int) + (E.1[c].2.2 : Nat)) 74 36 = m 74 36 + 1 := by rw [hy_uk (by decide), y2 _ _ (by omega)]; exact v36
    have w95 : hy_u m2 74 42 ((tot E (qi A) : Int) + (E.1[c].2.2 : Nat)) 95 (c : Int) = m 95 (c : Int) + 1 := by rw [hy_ua (by decide), y2 _ _ (by omega)]; exact v95
    have w97 : ∀ e : Int, (tot E (qi A) : Int) ≤ e → e < (tot E (qi A) : Int) + (E.1[c].2.2 : Nat) → hy_u m2 74 42 ((tot E (qi A) : Int) + (E.1[c].2.2 : Nat)) 97 e = -1 := fun e q1 q2 => by rw [hy_ua (by decide)]; exact y1 e q1 q2
    generalize hy_u m2 74 42 ((tot E (qi A) : Int) + (E.1[c].2.2 : Nat)) = m3 at f3 v42 w36 w95 w97
    have hrw : mRw m m3 := fun z e q1 q2 => f3 z e (by omega) (by omega) (by omega)
    have hs3 : sFr m m3 := fun z e q1 q2 => f3 z e (by omega) (by omega) (by omega)
    have hN3 : mNm m3 (qent A c) := by
      refine ⟨?_, ?_, ?_, ?_, ?_, fun z hz => ?_⟩
      · rw [f3 _ _ (by omega) (by omega) (by omega)]; exact n1
      · rw [f3 _ _ (by omega) (by omega) (by omega)]; exact n2
      · rw [w36, n3]; rfl
      · rw [f3 _ _ (by omega) (by omega) (by omega)]; exact n4
      · rw [f3 _ _ (by omega) (by omega) (by omega)]; exact n5
      · obtain ⟨b1, b2, b3, b4⟩ := n6 z hz
        have et : qt (qent A c) z = upn (qt A) c (qt A c + 1) z := rfl
        have eu : qu (qent A c) z = qu A z := rfl
        have e4 : qn (qent A c) 4 = qn A 4 + 1 := rfl
        rw [et, eu, e4, f3 96 _ (by omega) (by omega) (by omega)]
        by_cases q : z = c
        · rw [q] at b1 b2 b3 b4 ⊢
          rw [upn_s, w95, b1]
          exact ⟨by omega, b2, by omega, by omega⟩
        · rw [upn_o q, f3 95 _ (by omega) (by omega) (by omega)]
          exact ⟨b1, b2, by omega, by omega⟩
    have hD3 : mDy E ss m3 (qent A c) B T := by
      refine ent_dy hp.1 (by show tot E (qi (qent A c)) ≤ 2500; omega) hrw (fun v q1 q2 => ?_) (fun v q => f3 97 _ (by omega) (by omega) (by omega)) (fun e => f3 98 _ (by omega) (by omega) (by omega)) (f3 _ _ (by omega) (by omega) (by omega)) (f3 _ _ (by omega) (by omega) (by omega)) (fun z p q1 q2 => f3 z p (by omega) (by omega) (by omega)) (fun z p q1 q2 => f3 z p (by omega) (by omega) (by omega)) hD
      have q2 : v < tot E (qi (qent A c)) := q2
      exact w97 v (by omega) (by omega)
    refine sp_255_86 (k0 := k0) (r0 := q0) hp hc (mPr_rw hrw (fun e => f3 85 e (by omega) (by omega) (by omega)) hP) c4 hN3 hD3 hRes hTl ?_ ?_ ?_ z1 (mTm_rw hrw (mTm_pre hpre t1)) (fun w hw => Nat.lt_of_lt_of_le (t2 w hw) (tot_pre hpre)) hhd hab t5 (rOK_fr r1 (f3 _ _ (by omega) (by omega) (by omega)) (fun e => f3 _ _ (by omega) (by omega) (by omega))) (by omega) (tOK_fr r3 (f3 _ _ (by omega) (by omega) (by omega)) (fun e => f3 _ _ (by omega) (by omega) (by omega))) (by omega) (fun m' q1 q2 q3 q4 => h1 m' (hs3.tr q1) q2 q3 ?_) (fun m' q1 q2 q3 q4 => h0 m' (hs3.tr q1) q2 q3 ?_)
    · rw [v42, etot]; omega
    · rw [f3 _ _ (by omega) (by omega) (by omega)]; exact h51
    · rw [f3 _ _ (by omega) (by omega) (by omega)]
      exact mCh_fr hrw (fun z i q1 q2 _ => f3 z i (by omega) (by omega) (by omega)) _ _ hch
    · obtain ⟨⟨k9, a1, a2⟩, r9, a3, a4⟩ := q4
      exact ⟨⟨k9, a1, by omega⟩, r9, a3, by omega⟩
    · obtain ⟨⟨k9, a1, a2⟩, r9, a3, a4⟩ := q4
      exact ⟨⟨k9, a1, by omega⟩, r9, a3, by omega⟩
  · refine hPP _ _ ⟨d + 1, by omega, by omega, fun e q1 q2 => ?_, fun z e q => ?_⟩ (show 20 - ((d : Int) + 1).toNat < 20 - ((d : Nat) : Int).toNat by omega)
    · by_cases q : e = (tot E (qi A) : Int) + (d : Int)
      · rw [q, hy_us]
      · rw [hy_uk q]
        exact y1 e q1 (by omega)
    · rw [hy_uf (by omega)]
      exact y2 z e (by omega)
end MH
