/-! THE MODEL RUNS: all of it -/
section MZ
variable {E : qE} {ss : List Nat} {m m' : hy_m} {A A' : qA} {Q : Int → hy_m → Prop} {f : qF} {r : List qF}
theorem sp_275_60 {lim K0 R0 : Nat} {P : Int → Int → hy_m → Prop} (hlim : lim ≤ 300) (hK : K0 + 15195300 < 4294967295) (hR : R0 + 19000 < 999999990) (hP : ∀ x y m, wf_275_60 (lim : Int) Q P x y m → P x y m) : ∀ (n made : Nat) (A : qA) (m : hy_m), qOK E A → qn A 0 = 1 → qn A 1 = 0 → mSe E ss m A → m 74 32 = 1 → m 74 33 = 0 → mRd m (K0 + 2411 * (qn A 4 + qn A 2)) (R0 + 3 * (qn A 4 + qn A 2)) → 2 * (300 - qn A 2) + (qh A).length < n → qn A 3 < 2000000000 → qn A 5 ≤ 1000 ∧ qn A 6 ≤ 1000 → made ≤ lim → (∀ m', sF3 m m' → mAl E ss m' (qrun E lim n made A) → mRd m' (K0 + 2411 * (qn (qrun E lim n made A) 4 + qn (qrun E lim n made A) 2)) (R0 + 3 * (qn (qrun E lim n made A) 4 + qn (qrun E lim n made A) 2)) → Q (qn (qrun E lim n made A) 0 : Nat) m') → P 1 (made : Int) m := by
  intro n
  induction n with
  | zero =>
    intro made A m _ _ _ _ _ _ _ h
    omega
  | succ n ih =>
    intro made A m hO h0 h1 hS h32 h33 hM hn h3 h56 hmd hq
    obtain ⟨hln, hlc, h4, h8⟩ := hO.len
    have h2 := hO.2.2.2.2.2.2.2.1
    -- the query ends
    have stop : ∀ (m1 : hy_m) (A'' : qA) (er d : Nat), zF2 m m1 → m1 74 33 = er → mFl E ss m1 A'' → mRd m1 (K0 + 2411 * (qn A'' 4 + qn A'' 2)) (R0 + 3 * (qn A'' 4 + qn A'' 2)) → qrun E lim (n + 1) made A = qfin A'' (if er = 0 then 3 else 4) er → P 0 (d : Int) m1 := by
      intro m1 A'' er d e1 e2 e3 e4 e5
      refine hP _ _ _ ⟨fun _ => sp_275_0 e3 e2 e4 (fun m' q1 q2 q3 => ?_), fun q => absurd rfl q⟩
      have := hq m' (e1.s3.tr q1)
      rw [e5] at this
      exact this q2 q3
    refine hP _ _ _ ?_
    unfold wf_275_60
    refine ⟨fun q => absurd q (by decide), fun _ => ?_⟩
    have hch := hS.2.2.1.2.2
    cases he : qp A with
    | nil =>
      rw [he] at hch
      have hch : m 74 52 = -9 := hch
      have eq : qrun E lim (n + 1) made A = qnum (qnum A 0 2) 3 (qn A 3 + 1) := by
        rw [qrun, if_neg (fun q => q h0), he]
      rw [eq] at hq
      have e35 : m 74 35 = qn A 3 := hS.2.1.2.1
      refine ⟨fun _ => ⟨fun _ => ⟨by rw [e35]; show -2147483648 ≤ _ ∧ _ < 2147483648; omega, ?_⟩, fun q => absurd q (by decide)⟩, fun q => absurd hch q⟩
      have hf : ∀ (a : Nat) (e : Int), ¬ (a = 74 ∧ (e = 32 ∨ e = 35)) → hy_u (hy_u m 74 32 2) 74 35 (m 74 35 + 1) a e = m a e := fun a e q => by rw [hy_uf (by omega), hy_uf (by omega)]
      refine hq _ (fun a e q1 q2 => hf a e (by omega)) ⟨sol_se hO.1 hS hf (hy_us _ _ _ _), ?_, ?_⟩ (mRd_fr hM (hf _ _ (by omega)) (fun e => hf _ _ (by omega)) (hf _ _ (by omega)) (fun e => hf _ _ (by omega)))
      · rw [hy_uk (by decide), hy_us]; rfl
      · rw [hf _ _ (by omega), h33]
        show (0 : Int) = (qn A 1 : Nat)
        rw [h1]; rfl
    | cons f r =>
      rw [he] at hch
      obtain ⟨j, e52, hj, hF, hchr⟩ := hch
      have hkO := hO.2.1
      rw [he] at hkO
      have e34 : m 74 34 = qn A 2 := hS.2.1.1
      refine ⟨fun q => by omega, fun _ => sp_273 e52 (by omega) hkO.1 hF (fun hend => ⟨fun q => absurd q (by decide), fun _ => ?_⟩) (fun hend => ⟨fun _ => ?_, fun q => absurd rfl q⟩)⟩
      · -- the end of a not
        have hs : f.2.2.2.isSome = true := by
          unfold qend at hend
          rw [Bool.and_eq_true] at hend
          exact hend.1
        have hcut := hkO.2.1.2 hs
        have eq : qrun E lim (n + 1) made A = qrun E lim n made (qbk E (qkeep A f.2.2.1)) := by
          rw [qrun, if_neg (fun q => q h0), he]
          dsimp only
          rw [if_pos hend]
        have hf : ∀ (a : Nat) (e : Int), ¬ (a = 74 ∧ (e = 59 ∨ e = 52)) → hy_u (hy_u m 74 59 (m 103 (j : Int))) 74 52 (m 102 (j : Int)) a e = m a e := fun a e q => by rw [hy_uf (by omega), hy_uf (by omega)]
        have hfl := keep_fl (cut := f.2.2.1) hO.1 (by omega) hS.fl hf (by rw [hy_uk (by decide), hy_us]; exact hF.2.1)
        have hs3 : sFr m (hy_u (hy_u m 74 59 (m 103 (j : Int))) 74 52 (m 102 (j : Int))) := fun a e q1 q2 => hf a e (by omega)
        have hF2 := qkeep_fl (k := f.2.2.1) hO.fl
        have k2 : qn (qbk E (qkeep A f.2.2.1)) 2 = qn A 2 := qbk_k (Or.inl rfl)
        have k3 : qn (qbk E (qkeep A f.2.2.1)) 3 = qn A 3 := qbk_k (Or.inr (Or.inl rfl))
        have k5 : qn (qbk E (qkeep A f.2.2.1)) 5 = qn A 5 := qbk_k (Or.inr (Or.inr (Or.inl rfl)))
        have k6 : qn (qbk E (qkeep A f.2.2.1)) 6 = qn A 6 := qbk_k (Or.inr (Or.inr (Or.inr rfl)))
        have kl : (qh (qbk E (qkeep A f.2.2.1))).length ≤ f.2.2.1 := by
          have := qbk_l (E := E) (A := qkeep A f.2.2.1)
          rw [qkeep_len (by omega)] at this
          exact this
        unfold wq_274
        rw [e52]
        refine ⟨by omega, by omega, by omega, by omega, sp_bk (A := qkeep A f.2.2.1) (K := K0 + 2411 * qn A 2) (R := R0 + 3 * qn A 2) (by omega) (by omega) h0 hF2 hfl ?_ ⟨fun m1 q1 q2 q0 q3 q4 => ?_, fun m1 A'' er q1 q2 q3 q4 q5 q6 => ?_⟩⟩
        · exact mRd_le (mRd_fr hM (hf _ _ (by omega)) (fun e => hf _ _ (by omega)) (hf _ _ (by omega)) (fun e => hf _ _ (by omega))) (by show _ ≤ K0 + 2411 * qn A 2 + 2411 * qn A 4; omega) (by show _ ≤ R0 + 3 * qn A 2 + 3 * qn A 4; omega)
        · refine ih made (qbk E (qkeep A f.2.2.1)) m1 (qbk_ok hF2) q0 ((qback_1 _ _ q0).trans h1) q3 ?_ ?_ (mRd_le q4 (by rw [k2]; omega) (by rw [k2]; omega)) (by rw [k2]; omega) (by rw [k3]; exact h3) (by rw [k5, k6]; exact h56) hmd (fun m' a1 a2 a3 => ?_)
          · rw [q1.e32, hf _ _ (by omega)]; exact h32
          · rw [q2, hf _ _ (by omega)]; exact h33
          · have := hq m' ((hs3.s2.tr q1).s3.tr a1)
            rw [eq] at this
            exact this a2 a3
        · obtain ⟨n', rfl⟩ : ∃ n', n = n' + 1 := ⟨n - 1, by omega⟩
          have e2 : qn A'' 2 = qn A 2 := by
            have := k2
            rw [q2] at this
            exact this
          refine stop m1 A'' er made (hs3.s2.tr q1) ?_ q5 (mRd_le q6 (by rw [e2]; omega) (by rw [e2]; omega)) ?_
          · by_cases c : er = 0
            · rw [q3 c, hf _ _ (by omega), h33, c]; rfl
            · exact q4 c
          · rw [eq, q2]
            exact qrun_n (by show ¬ ((if er = 0 then 3 else 4) = 1); split <;> decide)
      · rw [e34]
        refine ⟨fun hne => ⟨fun hne2 => ?_, fun heq2 => ?_⟩, fun heq => ?_⟩
        · -- an inference
          have hi : qn A 2 < 300 := by omega
          have hml : made < lim := by
            have : made ≠ lim := fun q => hne2 (by rw [q])
            omega
          have eq : qrun E lim (n + 1) made A = qrun E lim n (made + 1) (qinf E A f r) := by
            rw [qrun, if_neg (fun q => q h0), he]
            dsimp only
            rw [if_neg (by rw [hend]; decide), if_neg (by omega), if_neg (by omega)]
          obtain ⟨k2, k3, k5, k6, kl⟩ := qinf_k (E := E) (A := A) (f := f) (r := r)
          have hOi : qOK E (qinf E A f r) := by
            obtain ⟨g1, g2, g3, g4, g5, g6, g7⟩ := qdrop_ok hO he hi
            unfold qinf
            split
            · rename_i own _
              refine qcall_ok g1 (fun ho => ?_)
              rw [g3, g5]
              refine ⟨g2, ?_⟩
              by_cases c : f.2.2.2.isNone = true
              · exact g7 c
              · rename_i hqc
                have c : f.2.2.2.isNone = false := Bool.eq_false_iff.mpr c
                rw [c] at hqc
                have := qcl_f _ _ hqc
                rw [ho] at this
                cases this
            · exact qfin_ok g1
          have hlen := mCh_len _ _ hS.2.2.1.2.2
          rw [eq] at hq
          refine sp_271 (K := K0 + 2411 * qn A 2) (R := R0 + 3 * qn A 2) (by omega) (by omega) h0 hO he hi h56 hend hS (mRd_le hM (by omega) (by omega)) ⟨fun m1 q1 q2 q0 q3 q4 => ⟨show -2147483648 ≤ _ ∧ _ < 2147483648 by omega, ?_⟩, fun m1 A'' er q1 q2 q3 q4 q5 q6 => ⟨show -2147483648 ≤ _ ∧ _ < 2147483648 by omega, ?_⟩⟩
          · refine ih (made + 1) (qinf E A f r) m1 hOi q0 ((qinf_1 q0).trans h1) q3 ?_ ?_ (mRd_le q4 (by rw [k2]; omega) (by rw [k2]; omega)) (by rw [k2]; omega) (by rw [k3]; exact h3) (by rw [k5, k6]; omega) hml (fun m' a1 a2 a3 => hq m' (q1.s3.tr a1) a2 a3)
            · rw [q1.e32]; exact h32
            · rw [q2]; exact h33
          · obtain ⟨n', rfl⟩ : ∃ n', n = n' + 1 := ⟨n - 1, by omega⟩
            have e2 : qn A'' 2 = qn A 2 + 1 := by
              have := k2
              rw [q2] at this
              exact this
            refine stop m1 A'' er (made + 1) q1 ?_ q5 (mRd_le q6 (by rw [e2]; omega) (by rw [e2]; omega)) ?_
            · by_cases c : er = 0
              · rw [q3 c, h33, c]; rfl
              · exact q4 c
            · rw [eq, q2]
              exact qrun_n (by show ¬ ((if er = 0 then 3 else 4) = 1); split <;> decide)
        · -- the limit
          have hml : made = lim := by omega
          have hi : qn A 2 < 300 := by omega
          have eq : qrun E lim (n + 1) made A = A := by
            rw [qrun, if_neg (fun q => q h0), he]
            dsimp only
            rw [if_neg (by rw [hend]; decide), if_neg (by omega), if_pos (by omega)]
          rw [eq] at hq
          rw [show m 74 32 = (qn A 0 : Nat) by rw [h32, h0]; rfl]
          exact hq m (fun _ _ _ _ => rfl) ⟨hS, by rw [h32, h0]; rfl, by rw [h33, h1]; rfl⟩ hM
        · have hi : qn A 2 = 300 := by omega
          have eq : qrun E lim (n + 1) made A = qfin A 4 3 := by
            rw [qrun, if_neg (fun q => q h0), he]
            dsimp only
            rw [if_neg (by rw [hend]; decide), if_pos (by omega)]
          refine sp_no (er := 3) (A := A) (K := K0 + 2411 * qn A 2) (R := R0 + 3 * qn A 2) (by decide) hS.fl (mRd_le hM (by omega) (by omega)) ⟨fun m1 q1 q2 q0 q3 q4 => ?_, fun m1 A'' er q1 q2 q3 q4 q5 q6 => ?_⟩
          · exact absurd q0 (by show ¬ ((4 : Nat) = 1); decide)
          · have e2 : qn A'' 2 = qn A 2 := by
              have : qn (qfin A 4 3) 2 = qn A 2 := rfl
              rw [q2] at this
              exact this
            refine stop m1 A'' er made q1 ?_ q5 (mRd_le q6 (by rw [e2]; omega) (by rw [e2]; omega)) (by rw [eq, q2])
            by_cases c : er = 0
            · rw [q3 c, h33, c]; rfl
            · exact q4 c
end MZ
