/-! THE MODEL CALLS A PREDICATE OF THE PROGRAM -/
/-- a goal of the program's -/
noncomputable def qusr (E : qE) (A : qA) (k : Int) (a : pE) : qA := match qcand E (.mulL k a) with
  | [] => qbk E A
  | c :: L => qbk E (qadd A (some (.mulL k a)) (c :: L))
section MM
variable {E : qE} {ss : List Nat} {m m' : hy_m} {T : List Nat} {B B' : bM} {s s' : Nat → pE} {A : qA} {Q : Int → hy_m → Prop} {N : Nat}
theorem eAr_0 (s : Nat → pE) {b : pE} (h : isL b) (hn : eN b ≠ 0) : eAr (sb s b) 0 = sb s (eAr b 0) := by
  cases b with
  | num i => exact absurd rfl hn
  | add x r => rfl
  | var v => exact h.elim
  | mulL k a => exact h.elim
  | sub a r => exact h.elim
  | neg a => exact h.elim
  | mulR a k => exact h.elim
theorem mTm_Ls {G : Nat → Nat → Prop} {x : Int} {t : pE} (h : mTm G m x t) : ∀ k b, t = .mulL k b → isL b := fun k b e => by
  rw [e] at h
  exact (mTm_L h).1
theorem qcand_b {g : pE} {x : Int} (h20 : E.1.length ≤ 20) (h : bS x (cdB E.1 (eKy g) (fk g) (fy g))) : bS x (fun v => decide (v ∈ qcand E g)) := by
  refine bS_c h (fun v _ => ?_)
  unfold qcand
  by_cases c : cdB E.1 (eKy g) (fk g) (fy g) v = true
  · have hv : v < E.1.length := by
      by_cases q : v < E.1.length
      · exact q
      · rw [cdB_hi (by omega)] at c
        cases c
    rw [c, decide_eq_true]
    rw [List.mem_filter, List.mem_range]
    exact ⟨hv, c⟩
  · rw [decide_eq_false]
    · exact Bool.eq_false_iff.mpr c
    · rw [List.mem_filter]
      exact fun q => c q.2
theorem sp_259 {G : Nat → Nat → Prop} {D : Nat → Prop} {x k : Int} {b : pE} (hP : mPr E ss m) (h20 : E.1.length ≤ 20) (hg : gC G m) (hB : mBd G m D B) (hR : Res B s) (ht : mTm G m x (.mulL k b)) (hD : ∀ w, vIn w (.mulL k b) → D w) (hq : ∀ y, bS y (fun v => decide (v ∈ qcand E (.mulL k (sb s b)))) → Q y m) : wq_259 x m Q := by
  have hL := mTm_L ht
  have hkey : eKy (.mulL k (sb s b)) = kC k (eN b) := by
    show kC k (eN (sb s b)) = _
    rw [(isL_sbL s b hL.1).2]
  have hls := isL_sbL s b hL.1
  -- the loop
  have loop : ∀ (y : Int) (t' : pE), (eN b = 0 ∧ y = mF 0 ∨ 0 < eN b ∧ mTm G m y t' ∧ ((∃ w : Nat, w < 2500 ∧ y = mF w ∧ t' = .var w) ∨ ((∀ w : Nat, t' ≠ .var w) ∧ ∀ w : Nat, w < 2500 → y ≠ mF w))) → (eN b = 0 ∧ fk (.mulL k (sb s b)) = 0 ∧ fy (.mulL k (sb s b)) = 0 ∨ 0 < eN b ∧ fk (.mulL k (sb s b)) = eKd t' ∧ fy (.mulL k (sb s b)) = eKy t') → wq_259_35 x y 0 0 m Q := by
    intro y t' hy hf
    unfold wq_259_35
    refine wL2_rule (Nat.lt_wfRel.wf) (fun x5 x6 m' => m' = m ∧ ∃ d : Nat, x6 = d ∧ d ≤ E.1.length ∧ bS x5 (fun v => decide (v < d) && cdB E.1 (kC k (eN b)) (fk (.mulL k (sb s b))) (fy (.mulL k (sb s b))) v)) (fun _ x6 _ => 30 - x6.toNat) ?_ ⟨rfl, 0, rfl, Nat.zero_le _, bS_00⟩
    rintro P x5 x6 m' ⟨rfl, d, rfl, hd, hb⟩ hPP
    have h85 : m' 85 0 = E.1.length := hP.1.1
    unfold wf_259_35
    rw [h85]
    refine ⟨by decide, by decide, fun hle => ?_, fun hlt => sp_258 hP h20 (by omega) ht hy hf ⟨fun q => ?_, fun q => ?_⟩⟩
    · have : d = E.1.length := by omega
      rw [this] at hb
      refine hq x5 (qcand_b h20 ?_)
      rw [hkey]
      exact bS_al hb (fun v hv => cdB_hi hv)
    · have hcf : cdB E.1 (kC k (eN b)) (fk (.mulL k (sb s b))) (fy (.mulL k (sb s b))) d = false := by
        cases h : cdB E.1 (kC k (eN b)) (fk (.mulL k (sb s b))) (fy (.mulL k (sb s b))) d with
        | false => rfl
        | true =>
          rw [h, if_pos rfl] at q
          exact absurd q (by decide)
      refine ⟨show -2147483648 ≤ _ ∧ _ < 2147483648 by omega, hPP _ _ _ ⟨rfl, d + 1, by omega, by omega, ?_⟩ (show 30 - ((d : Int) + 1).toNat < 30 - ((d : Nat) : Int).toNat by omega)⟩
      refine bS_c (bS_or (bS_nx hb hcf) bS_0) (fun v _ => ?_)
      rw [Bool.or_false]
    · have hct : cdB E.1 (kC k (eN b)) (fk (.mulL k (sb s b))) (fy (.mulL k (sb s b))) d = true := by
        cases h : cdB E.1 (kC k (eN b)) (fk (.mulL k (sb s b))) (fy (.mulL k (sb s b))) d with
        | true => rfl
        | false =>
          rw [h, if_neg (by decide)] at q
          exact absurd rfl q
      exact ⟨show -2147483648 ≤ _ ∧ _ < 2147483648 by omega, hPP _ _ _ ⟨rfl, d + 1, by omega, by omega, bS_in hb (by omega) hct⟩ (show 30 - ((d : Int) + 1).toNat < 30 - ((d : Nat) : Int).toNat by omega)⟩
  obtain ⟨n, p, rfl, hn, h77, h78⟩ := mTm_mul ht
  unfold wq_259
  refine sp_232Q hn ⟨by omega, by omega, ?_⟩
  rw [h78]
  refine ⟨fun h0 => ?_, fun h0 => ?_⟩
  · have hb0 : eN b ≠ 0 := by omega
    refine sp_236 (j := 0) hg ht (by omega) (fun y hy _ => sp_237 hB hR hy (fun w hw => hD w (vIn_ar w b 0 hL.1 (by omega) hw)) (fun y' t' hF hso => ?_))
    refine loop y' t' (Or.inr ⟨by omega, hF.1, ?_⟩) (Or.inr ⟨by omega, ?_⟩)
    · rcases hF.2.2 with ⟨w, a1, a2, a3, a4⟩ | q
      · exact Or.inl ⟨w, a4, a1, a2⟩
      · exact Or.inr q
    · have hfk := fk_first (k := k) hls.1 (by rw [hls.2]; exact hb0)
      rw [hfk.1, hfk.2, eAr_0 s hL.1 hb0, hso s hR.sol]
      rcases hF.2.2 with ⟨w, a1, a2, a3, a4⟩ | ⟨q, -⟩
      · rw [a2]
        have : sb s (.var w) = .var w := (hR w).1 a3
        rw [this]
        exact ⟨rfl, rfl⟩
      · exact eK_sb s q (mTm_Ls hF.1)
  · have hb0 : eN b = 0 := by omega
    exact loop _ (.num 0) (Or.inl ⟨hb0, rfl⟩) (Or.inl ⟨hb0, fk_none hls.1 (by rw [hls.2]; exact hb0)⟩)
/-- newChoice -/
theorem sp_253 {x1 x3 : Int} {p : Nat} (hp : m 74 59 = p) (h : p < 700) (hq : ∀ m' : hy_m, (∀ (a : Nat) (e : Int), ¬ (105 ≤ a ∧ a ≤ 110 ∧ e = (p : Int)) → ¬ (a = 74 ∧ e = 59) → m' a e = m a e) → m' 105 (p : Int) = x1 → m' 106 (p : Int) = x3 → m' 107 (p : Int) = m 74 52 → m' 108 (p : Int) = m 74 44 → m' 109 (p : Int) = m 74 42 → m' 110 (p : Int) = m 74 51 → m' 74 59 = (p : Int) + 1 → Q 0 m') : wq_253 x1 x3 m Q := by
  unfold wq_253
  rw [hp]
  refine ⟨by omega, by omega, by omega, by omega, by omega, by omega, by omega, by omega, by omega, by omega, by omega, by omega, show -2147483648 ≤ _ ∧ _ < 2147483648 by omega, hq _ (fun a e q1 q2 => ?_) ?_ ?_ ?_ ?_ ?_ ?_ ?_⟩
  · rw [hy_uf (by omega), hy_uf (by omega), hy_uf (by omega), hy_uf (by omega), hy_uf (by omega), hy_uf (by omega), hy_uf (by omega)]
  · rw [hy_ua (by decide), hy_ua (by decide), hy_ua (by decide), hy_ua (by decide), hy_ua (by decide), hy_ua (by decide), hy_us]
  · rw [hy_ua (by decide), hy_ua (by decide), hy_ua (by decide), hy_ua (by decide), hy_ua (by decide), hy_us]
  · rw [hy_ua (by decide), hy_ua (by decide), hy_ua (by decide), hy_ua (by decide), hy_us]
  · rw [hy_ua (by decide), hy_ua (by decide), hy_ua (by decide), hy_us]
  · rw [hy_ua (by decide), hy_ua (by decide), hy_us]
  · rw [hy_ua (by decide), hy_us]
  · rw [hy_us]
/-- a choice is added -/
theorem add_se {og : Option pE} {L : List Nat} {p I : Nat} (hk : chK E (qi A) I (qh A) (qi A).length (qn A 7) (qn A 8)) (hpl : (qh A).length = p) (hS : mSe E ss m A) (h1 : ∀ (a : Nat) (e : Int), ¬ (105 ≤ a ∧ a ≤ 110 ∧ e = (p : Int)) → ¬ (a = 74 ∧ e = 59) → m' a e = m a e) (h7 : m' 107 (p : Int) = m 74 52) (h8 : m' 108 (p : Int) = m 74 44) (h9 : m' 109 (p : Int) = m 74 42) (h10 : m' 110 (p : Int) = m 74 51) (h59 : m' 74 59 = (p : Int) + 1) (hg : match og with
    | none => m' 106 (p : Int) = -9
    | some g => bS (m' 106 (p : Int)) (fun v => decide (v ∈ L)) ∧ mFg E ss m (qi A) (qs A) (m' 105 (p : Int)) g ∧ ∀ x ∈ L, ∃ cl, E.1[x]? = some cl ∧ eKy cl.1 = eKy g) : mSe E ss m' (qadd A og L) := by
  obtain ⟨hP, hN, ⟨h42, h51, hch⟩, B, T, ⟨d1, d2, d3, d4, d5, d6⟩, hR, hT⟩ := hS
  have hr : mRw m m' := fun a e q1 q2 => h1 a e (by omega) (by omega)
  have hall := chK_all _ hk
  have hch' : mCh E ss m' (qi A) (qs A) (qn A 8) (qp A) (m 74 52) := mCh_fr hr (fun a j q1 q2 _ => h1 a j (by omega) (by omega)) _ _ hch
  have d1' : mBd (mG E ss m' (qi A)) m' (fun w => w < tot E (qi A)) B := by
    rw [mG_rw hr]
    exact mBd_fr d1 (fun a e q => h1 a e (by omega) (by omega))
  have eB : bRs B T T.length (tot E (qi A)) = B := by
    funext v
    unfold bRs
    rw [List.drop_length]
    by_cases c : v < tot E (qi A)
    · rw [if_pos ⟨c, fun q => by cases q⟩]
    · rw [if_neg (fun q => c q.1), (d1 v).2 c]
  refine ⟨mPr_rw hr (fun e => h1 85 e (by omega) (by omega)) hP, mNm_fr hN (fun e q1 q2 => h1 74 e (by omega) (by omega)) (fun e => h1 95 e (by omega) (by omega)) (fun e => h1 96 e (by omega) (by omega)), ⟨?_, ?_, ?_⟩, B, T, ⟨d1', ⟨?_, fun i hi => ?_⟩, d3, d4, ?_, ?_⟩, hR, hT⟩
  · rw [h1 _ _ (by omega) (by omega)]; exact h42
  · rw [h1 _ _ (by omega) (by omega)]; exact h51
  · rw [h1 74 52 (by omega) (by omega)]; exact hch'
  · rw [h1 _ _ (by omega) (by omega)]; exact d2.1
  · rw [h1 _ _ (by omega) (by omega)]; exact d2.2 i hi
  · show mCc E ss m' (qi A) T B ((og, L, qp A, ((qi A).length, qn A 7, qn A 8), qs A) :: qh A)
    have etk : (qi A).take (qi A).length = qi A := List.take_length
    refine ⟨?_, ?_, ?_, ?_, ?_, ?_, ?_⟩
    · rw [hpl]
      show m' 108 (p : Int) = qn A 7 ∧ m' 109 (p : Int) = tot E ((qi A).take (qi A).length) ∧ m' 110 (p : Int) = qn A 8
      rw [etk, h8, h9, h10, h42, h51, d2.1, hT]
      exact ⟨rfl, rfl, rfl⟩
    · show qn A 7 ≤ T.length ∧ ∀ w ∈ T.take (qn A 7), w < tot E ((qi A).take (qi A).length)
      rw [etk, hT]
      refine ⟨Nat.le_refl _, fun w hw => ?_⟩
      by_cases c : w < tot E (qi A)
      · exact c
      · exact absurd ((d1 w).2 c) (d4 w (List.mem_of_mem_take hw))
    · rw [hpl]
      cases og with
      | none => exact hg
      | some g =>
        show bS (m' 106 (p : Int)) (fun v => decide (v ∈ L)) ∧ mFg E ss m' ((qi A).take (qi A).length) (qs A) (m' 105 (p : Int)) g ∧ ∀ x ∈ L, ∃ cl, E.1[x]? = some cl ∧ eKy cl.1 = eKy g
        rw [etk]
        exact ⟨hg.1, mFg_rw hr hg.2.1, hg.2.2⟩
    · rw [hpl]
      show mCh E ss m' ((qi A).take (qi A).length) (qs A) (qn A 8) (qp A) (m' 107 (p : Int))
      rw [etk, h7]
      exact hch'
    · show Res (bRs B T (qn A 7) (tot E ((qi A).take (qi A).length))) (qs A)
      rw [etk, ← hT, eB]
      exact hR
    · show ∀ v t, bRs B T (qn A 7) (tot E ((qi A).take (qi A).length)) v = some t → mTm (mG E ss m' ((qi A).take (qi A).length)) m' (m' 97 (v : Int)) t ∧ ∀ w, vIn w t → w < tot E ((qi A).take (qi A).length)
      rw [etk, ← hT, eB]
      intro v t hv
      by_cases c : v < tot E (qi A)
      · rcases ((d1' v).1 c).2 with ⟨q, -⟩ | ⟨t', q1, q2, q3, q4⟩
        · rw [hv] at q
          cases q
        · rw [hv] at q1
          injection q1 with q1
          rw [q1]
          exact ⟨q3, q4⟩
      · rw [(d1 v).2 c] at hv
        cases hv
    · exact mCc_fr (N := qn A 8) hr (fun a j q1 q2 _ => h1 a j (by omega) (by omega)) _ (fun a q q1 q2 q3 => h1 a q (by omega) (by omega)) (fun c hc => ⟨(hall c hc).2.2, ⟨mCc_T _ d5 c hc, rfl⟩, rfl, rfl, fun v _ => h1 97 v (by omega) (by omega)⟩) d5
  · rw [h59, ← hpl]
    rfl
/-- behind a new choice nothing is to be undone -/
theorem qrest_add {og : Option pE} {L : List Nat} {C : List qC} : qrest (qadd A og L) (og, L, qp A, ((qi A).length, qn A 7, qn A 8), qs A) C = qcs A C := by
  have e1 : upn (upn A.1 7 (A.1 7)) 8 (A.1 8) = A.1 := by
    funext j
    unfold upn
    by_cases c : j = 8
    · rw [if_pos c, c]
    · rw [if_neg c]
      by_cases c2 : j = 7
      · rw [if_pos c2, c2]
      · rw [if_neg c2]
  have e2 : (A.2.2.2.1).take (qi A).length = A.2.2.2.1 := List.take_length
  show (upn (upn A.1 7 (A.1 7)) 8 (A.1 8), A.2.1, A.2.2.1, (A.2.2.2.1).take (qi A).length, qs A, qp A, C) = qcs A C
  rw [e1, e2]
  rfl
end MM
