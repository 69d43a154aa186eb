/-! THE MODEL TRIES A CLAUSE: its arguments -/
section ME
variable {E : qE} {ss : List Nat} {m m' : hy_m} {T : List Nat} {B B' : bM} {s s' : Nat → pE} {A : qA} {Q : Int → hy_m → Prop} {N : Nat}
set_option maxHeartbeats 1000000 in
theorem sp_255_86 {c cut sl k0 r0 : Nat} {g a b : pE} {x k : Int} (hp : qPr E A cut) (hc : c < E.1.length) (hP : mPr E ss m) (hu4 : qu A c ≤ qn A 4) (hN : mNm m (qent A c)) (hD : mDy E ss m (qent A c) B T) (hRes : Res B (qs A)) (hTl : T.length = qn A 7) (h42 : m 74 42 = tot E (qi (qent A c))) (h51 : m 74 51 = qn A 8) (hch : mCh E ss m (qi A) (qs A) (qn A 8) (qp A) (m 74 52)) (hsl : ss.getD c 0 = sl) (ht : mTm (mG E ss m (qi (qent A c))) m x (.mulL k b)) (hv : ∀ w, vIn w (.mulL k b) → w < tot E (qi (qent A c))) (hhd : E.1[c].1 = .mulL k a) (hab : eN a = eN b) (hg : ∀ v, SolS (qs A) v → sb v (.mulL k b) = sb v g) (hr0 : rOK m k0) (hk0 : k0 + 6000 < 4294967295) (ht0 : tOK m r0) (hr1 : r0 + 10 < 999999990) (h1 : ∀ m', sFr m m' → mSe E ss m' (qtry E A c g cut).1 → (qtry E A c g cut).2 = true → mRd m' (k0 + 2411) (r0 + 3) → Q 1 m') (h0 : ∀ m', sFr m m' → mFl E ss m' (qtry E A c g cut).1 → (qtry E A c g cut).2 = false → mRd m' (k0 + 2411) (r0 + 3) → Q 0 m') : wq_255_86 (c : Int) x (cut : Int) (sl : Int) (tot E (qi A) : Int) 0 m Q := by
  obtain ⟨s0, z1, z2, z3, z4, z5, z6, z7⟩ := mPr_cl hP hc
  rw [hsl] at z1
  subst z1
  obtain ⟨hentO, hentF⟩ := qent_ok hp hc
  have hl : lOK E (qi (qent A c)) := hentO.2.2.1
  have hln : (qi (qent A c)).length ≤ 300 := by
    have q1 := hentO.2.2.2.1
    have q2 := hentO.2.2.2.2.2.2.2.1
    omega
  obtain ⟨g82, g84, gg, gh⟩ := clR_g z4 (by omega)
  have hhN := gh E.1[c].1 rfl
  rw [hhd] at hhN
  have hgO := z5.2.1 E.1[c].1 rfl
  rw [hhd] at hgO
  have hka : eK E.1[c].2.2 a true := hgO.1.2.2.2.2.2
  have ha3 : eN a ≤ 3 := hgO.1.2.2.1
  have hla : isL (rn (tot E (qi A)) a) := isL_sb _ a _ hka
  have hna : eN (rn (tot E (qi A)) a) = eN a := eN_sb _ a _ hka
  obtain ⟨hlb, hb3⟩ := mTm_L ht
  have h81 := rP_A hhN
  have h78 : m 78 (m 81 (sl : Int)) = (eN a : Nat) := hhN.2.2.2.1
  -- the whole equation
  have hall : ∀ v, (∀ i, i < eN a → sb v (eAr (rn (tot E (qi A)) a) i) = sb v (eAr b i)) ↔ sb v (.mulL k b) = sb v (rn (tot E (qi A)) E.1[c].1) := by
    intro v
    rw [hhd]
    have := ar_eq v (rn (tot E (qi A)) a) b hla hlb (by omega)
    rw [hna] at this
    rw [this]
    show _ ↔ (.mulL k (sb v b) : pE) = .mulL k (sb v (rn (tot E (qi A)) a))
    constructor
    · intro e
      rw [e]
    · intro e
      injection e with _ e
      exact e.symm
  have hcl9 : c < 20 := by
    have := hp.2.2.2.2.2.2.2.2.2
    omega
  have hT4 : qn A 4 ≤ 6000 := by
    have q1 := hp.2.2.2.2.2.2.2.1
    have q2 := hp.2.2.2.2.2.2.2.2.1
    omega
  have hE? : E.1[c]? = some E.1[c] := List.getElem?_eq_getElem hc
  have hB9 : ∀ w, tot E (qi (qent A c)) ≤ w → B w = none := fun w hw => (hD.1 w).2 (by omega)
  have hfcB := fc_le B 2500
  unfold wq_255_86
  refine wL1_rule (Nat.lt_wfRel.wf) (fun x7 (m' : hy_m) => ∃ (j : Nat) (Bj : bM) (sj : Nat → pE) (Tj : List Nat) (kj : Nat), x7 = j ∧ j ≤ eN a ∧ uGr m m' ∧ mDy E ss m' (qent A c) Bj Tj ∧ Res Bj sj ∧ (∀ v, SolS sj v ↔ SolS (qs A) v ∧ ∀ i, i < j → sb v (eAr (rn (tot E (qi A)) a) i) = sb v (eAr b i)) ∧ Tj.length = T.length + nbC (qs A) sj (qlim E (qent A c)) ∧ (∀ w, isv w (sj w) = true → isv w (qs A w) = true) ∧ rOK m' kj ∧ kj + fc Bj 2500 ≤ k0 + fc B 2500 + j ∧ tOK m' (r0 + j)) (fun x7 _ => 20 - x7.toNat) ?_ ⟨0, B, qs A, T, k0, rfl, Nat.zero_le _, ⟨fun _ _ _ _ _ _ _ _ _ => rfl, fun _ _ => rfl⟩, hD, hRes, fun v => ⟨fun q => ⟨q, fun i hi => absurd hi (Nat.not_lt_zero _)⟩, fun q => q.1⟩, by rw [nbC_self]; rfl, fun _ q => q, hr0, Nat.le_refl _, ht0⟩
  rintro P x7 m1 ⟨j, Bj, sj, Tj, kj, rfl, hj, hfG, hDj, hRj, hSj, hTj, hmo, hrj, hkj, htj⟩ hPP
  have hf := hfG.1
  have hrw : mRw m m1 := hfG.s.rw
  have hto9 := mPr_tot hP hl hln
  have e81 : m1 81 (sl : Int) = m 81 (sl : Int) := hrw _ _ (by decide) (by decide)
  have e78 : m1 78 (m 81 (sl : Int)) = (eN a : Nat) := by rw [hrw _ _ (by decide) (by decide)]; exact h78
  have hPj : mPr E ss m1 := mPr_rw hrw (fun e => hf 85 e (by decide) (by decide) (by decide) (by decide) (by decide) (by decide) (by omega)) hP
  have hNj : mNm m1 (qent A c) := mNm_fr hN (fun e q1 q2 => hf 74 e (by decide) (by decide) (by decide) (by decide) (by decide) (by decide) (by omega)) (fun e => hf 95 e (by decide) (by decide) (by decide) (by decide) (by decide) (by decide) (by omega)) (fun e => hf 96 e (by decide) (by decide) (by decide) (by decide) (by decide) (by decide) (by omega))
  have hBj9 : ∀ w, tot E (qi (qent A c)) ≤ w → Bj w = none := fun w hw => (hDj.1 w).2 (by omega)
  have hto := mPr_tot hP hl hln
  have hlo := fc_lo (k := tot E (qi (qent A c))) hBj9 2500
  unfold wf_255_86
  rw [e81, e78]
  refine ⟨by omega, by omega, h81.1, h81.2, fun hle => ?_, fun hlt => ?_⟩
  · -- all arguments are done
    have hje : j = eN a := by omega
    subst hje
    have hu : uni (qs A) g (rn (tot E (qi A)) E.1[c].1) = some sj := by
      refine uni_t (unR_c (t := .mulL k b) (u := rn (tot E (qi A)) E.1[c].1) hg (fun _ _ => rfl) ⟨⟨Bj, hRj⟩, fun v => ?_⟩)
      rw [hSj v, hall v]
    have hq2 : (qtry E A c g cut).2 = true := by
      unfold qtry
      rw [hE?]
      dsimp only
      rw [hu]
    have hm96 : m1 96 (c : Int) = qu (qent A c) c ∧ qu (qent A c) c ≤ qn (qent A c) 4 := ⟨(hNj.2.2.2.2.2 c hcl9).2.1, (hNj.2.2.2.2.2 c hcl9).2.2.2⟩
    have e4 : qn (qent A c) 4 = qn A 4 + 1 := rfl
    have hun : qu (qent A c) c ≤ qn A 4 := hu4
    have hr96 : hy_r 0 (m1 96 (c : Int) + 1) := by
      rw [hm96.1]
      show -2147483648 ≤ _ ∧ _ < 2147483648
      omega
    have e82 : m1 82 (sl : Int) = (E.1[c].2.1.length : Nat) := by rw [hrw _ _ (by decide) (by decide)]; exact g82
    have hfm : ∀ (z : Nat) (e : Int), ¬ (z = 96 ∧ e = (c : Int)) → hy_u m1 96 (c : Int) (m1 96 (c : Int) + 1) z e = m1 z e := fun z e q => hy_uf q
    have hv96 : hy_u m1 96 (c : Int) (m1 96 (c : Int) + 1) 96 (c : Int) = m1 96 (c : Int) + 1 := hy_us _ _ _ _
    rw [e82]
    have h52e : m1 74 52 = hy_u m1 96 (c : Int) (m1 96 (c : Int) + 1) 74 52 := (hy_ua (by decide)).symm
    rw [h52e]
    generalize hy_u m1 96 (c : Int) (m1 96 (c : Int) + 1) = m2 at hfm hv96
    have f2 : ∀ (z : Nat) (e : Int), z ≠ 96 → z ≠ 97 → z ≠ 98 → z ≠ 111 → z ≠ 112 → z ≠ 113 → z ≠ 115 → ¬ (z = 74 ∧ (e = 44 ∨ e = 64 ∨ e = 66)) → m2 z e = m z e := fun z e q0 q1 q2 q3 q4 q5 q6 q7 => (hfm z e (fun q => q0 q.1)).trans (hf z e q1 q2 q3 q4 q5 q6 q7)
    have hrw2 : mRw m1 m2 := fun z e q1 q2 => hfm z e (by omega)
    have hs2 : sFr m m2 := hfG.s.tr (fun z e q1 q2 => hfm z e (by omega))
    have hP2 : mPr E ss m2 := mPr_rw hrw2 (fun e => hfm 85 e (by omega)) hPj
    have hN2 : mNm m2 (qmat (qbind E (qent A c) sj) c) := by
      obtain ⟨n1, n2, n3, n4, n5, n6⟩ := hNj
      refine ⟨?_, ?_, ?_, ?_, ?_, fun d hd => ?_⟩
      · rw [hfm _ _ (by omega)]; exact n1
      · rw [hfm _ _ (by omega)]; exact n2
      · rw [hfm _ _ (by omega)]; exact n3
      · rw [hfm _ _ (by omega)]; exact n4
      · rw [hfm _ _ (by omega)]; exact n5
      · obtain ⟨b1, b2, b3, b4⟩ := n6 d hd
        have eu : qu (qmat (qbind E (qent A c) sj) c) d = upn (qu (qent A c)) c (qu (qent A c) c + 1) d := rfl
        have et : qt (qmat (qbind E (qent A c) sj) c) d = qt (qent A c) d := rfl
        have e4' : qn (qmat (qbind E (qent A c) sj) c) 4 = qn (qent A c) 4 := rfl
        rw [eu, et, e4', hfm 95 _ (by omega)]
        by_cases q : d = c
        · rw [q] at b1 b2 b3 b4 ⊢
          rw [upn_s, hv96, b2]
          exact ⟨b1, by omega, b3, by omega⟩
        · rw [upn_o q, hfm 96 _ (by omega)]
          exact ⟨b1, b2, b3, b4⟩
    have hpre : qi A <+: qi (qent A c) := List.prefix_append _ _
    have hsol : ∀ v, SolS sj v → SolS (qs A) v := fun v q => ((hSj v).mp q).1
    have hch2 : mCh E ss m2 (qi (qent A c)) sj (qn A 8) (qp A) (m2 74 52) := by
      rw [f2 74 52 (by decide) (by decide) (by decide) (by decide) (by decide) (by decide) (by decide) (by omega)]
      exact mCh_mo hpre hsol (Nat.le_refl _) _ _ _ hp.2.1 (mCh_fr (hrw.tr hrw2) (fun z i q1 q2 _ => f2 z i (by omega) (by omega) (by omega) (by omega) (by omega) (by omega) (by omega) (by omega)) _ _ hch)
    have hD2 : mDy E ss m2 (qmat (qbind E (qent A c) sj) c) Bj Tj := by
      have hcs := chK_all _ hentO.1
      exact mDy_fr (A := qent A c) (N := qn (qent A c) 8) hrw2 (fun e => hfm 97 e (by omega)) (fun e => hfm 98 e (by omega)) (hfm _ _ (by omega)) (hfm _ _ (by omega)) (fun z p q1 q2 _ => hfm z p (by omega)) (fun z i q1 q2 _ => hfm z i (by omega)) (fun d hd => (hcs d hd).2.2) hDj
    have hT2 : Tj.length = qn (qmat (qbind E (qent A c) sj) c) 7 := by
      rw [hTj, hTl]
      rfl
    have hM2 : mRd m2 (k0 + 2411) (r0 + 3) := ⟨⟨kj, rOK_fr hrj (hfm _ _ (by omega)) (fun e => hfm _ _ (by omega)), by omega⟩, r0 + eN a, tOK_fr htj (hfm _ _ (by omega)) (fun e => hfm _ _ (by omega)), by omega⟩
    have h42' : m2 74 42 = tot E (qi (qent A c)) := by rw [f2 74 42 (by decide) (by decide) (by decide) (by decide) (by decide) (by decide) (by decide) (by omega)]; exact h42
    have h51' : m2 74 51 = qn A 8 := by rw [f2 74 51 (by decide) (by decide) (by decide) (by decide) (by decide) (by decide) (by decide) (by omega)]; exact h51
    have h8 : qn A 8 ≤ 600 := by
      have q1 := hp.2.2.2.2.2.1
      have q2 := hp.2.2.2.2.2.2.2.2.1
      omega
    refine ⟨by omega, by omega, by omega, by omega, hr96, by omega, by omega, fun hz => ?_, fun hz => ?_⟩
    · have hgs : E.1[c].2.1 = [] := List.length_eq_zero_iff.mp (by omega)
      have hq1 : (qtry E A c g cut).1 = qmat (qbind E (qent A c) sj) c := by
        unfold qtry
        rw [hE?]
        dsimp only
        rw [hu]
        dsimp only
        rw [hgs]
      refine h1 m2 hs2 ?_ hq2 hM2
      rw [hq1]
      exact ⟨hP2, hN2, ⟨h42', h51', hch2⟩, Bj, Tj, hD2, hRj, hT2⟩
    · have hq1 : (qtry E A c g cut).1 = qpush (qmat (qbind E (qent A c) sj) c) ((qi A).length + 2, 0, cut, none) (qp A) := by
        unfold qtry
        rw [hE?]
        dsimp only
        rw [hu]
        dsimp only
        cases hgs : E.1[c].2.1 with
        | nil =>
          rw [hgs] at hz
          exact absurd hz (by decide)
        | cons y r => rfl
      refine sp_252 (j := qn A 8) h51' (by omega) (fun m3 g1 g2 g3 g4 g5 g6 g7 => ?_)
      have f4 : ∀ (z : Nat) (e : Int), ¬ (99 ≤ z ∧ z ≤ 104 ∧ e = ((qn A 8 : Nat) : Int)) → ¬ (z = 74 ∧ (e = 51 ∨ e = 52)) → hy_u m3 74 52 ((qn A 8 : Nat) : Int) z e = m2 z e := fun z e q1 q2 => by
        rw [hy_uf (by omega)]
        exact g1 z e (by omega) (by omega)
      refine h1 _ (hs2.tr (fun z e q1 q2 => f4 z e (by omega) (by omega))) ?_ hq2 ?_
      · rw [hq1]
        refine push_se (A := qmat (qbind E (qent A c) sj) c) (j := qn A 8) (m := m2) (I := qn A 2) (tr := qn (qmat (qbind E (qent A c) sj) c) 7) ?_ ⟨hP2, hN2, ⟨h42', h51', rfl, m2 74 52, by rw [hy_ua (by decide)]; exact g5, hch2⟩, Bj, Tj, hD2, hRj, hT2⟩ f4 (by rw [hy_uk (by decide)]; exact g7) (hy_us _ _ _ _) ⟨?_, ?_, ?_, ?_⟩
        · exact (qbind_ok (s' := sj) hentO).1
        · rw [hy_ua (by decide)]; exact g3
        · rw [hy_ua (by decide)]; exact g6
        · rw [hy_ua (by decide), g2]
          show (sl : Int) = (sO ss (qi A ++ [c]) ((qi A).length + 2) : Nat)
          unfold sO
          rw [if_neg (by omega), Nat.add_sub_cancel, List.getD_eq_getElem?_getD (l := qi A ++ [c]), List.getElem?_append_right (Nat.le_refl _), Nat.sub_self]
          show (sl : Int) = (ss.getD c 0 : Nat)
          rw [hsl]
        · rw [hy_ua (by decide), g4]
          show ((tot E (qi A) : Nat) : Int) = (plc E (qi A ++ [c]) ((qi A).length + 2) : Nat)
          unfold plc
          rw [if_neg (by omega), Nat.add_sub_cancel, List.take_left']
          rfl
      · exact mRd_fr hM2 (f4 _ _ (by omega) (by omega)) (fun e => f4 _ _ (by omega) (by omega)) (f4 _ _ (by omega) (by omega)) (fun e => f4 _ _ (by omega) (by omega))
  · -- one more argument
    have hjl : j < eN a := by omega
    have e79 : m1 79 (3 * m 81 (sl : Int) + (j : Int)) = m 79 (3 * m 81 (sl : Int) + (j : Int)) := hrw _ _ (by decide) (by decide)
    have ha0 := rP_ar a 0 j E.1[c].2.2 hhN.2.2.2.2.2.2 hka hjl
    rw [Nat.zero_add] at ha0
    have ha1 := rP_A ha0
    have htm1 : mTm (mG E ss m1 (qi (qent A c))) m1 (4096 * (tot E (qi A) : Int) + m1 79 (3 * m 81 (sl : Int) + (j : Int))) (rn (tot E (qi A)) (eAr a j)) := by
      have hz := zNd_all (clR_rw hrw z4) (by omega) z5 z7
      have hx := (hz.1 _ (hz.2.2.1 E.1[c].1 rfl)).2 (j : Int) (by omega) (by rw [e81, e78]; omega)
      rw [e81] at hx
      have hjn : (qi (qent A c))[(qi A).length]? = some c := by
        show (qi A ++ [c])[(qi A).length]? = some c
        rw [List.getElem?_append_right (Nat.le_refl _), Nat.sub_self]
        rfl
      have := mT_j hPj hl hln hjn (x := m1 79 (3 * m 81 (sl : Int) + (j : Int))) (t := eAr a j) (by rw [clN_c hc, hsl]; exact hx) (by rw [e79]; exact rP_rw hrw _ _ _ ha0) (by rw [nvO_c hc]; exact (eAr_sb (fun v => .var v) a E.1[c].2.2 j hka hjl).2)
      have ett : (qi (qent A c)).take (qi A).length = qi A := by
        show (qi A ++ [c]).take (qi A).length = qi A
        rw [List.take_left']
        rfl
      rw [ett] at this
      exact this
    have earn : eAr (rn (tot E (qi A)) a) j = rn (tot E (qi A)) (eAr a j) := (eAr_sb (fun v => .var (tot E (qi A) + v)) a E.1[c].2.2 j hka hjl).1
    have hln2 : (qi (qent A c)).length = (qi A).length + 1 := by
      show (qi A ++ [c]).length = _
      rw [List.length_append]
      rfl
    have ttot : tot E (qi (qent A c)) = tot E (qi A) + E.1[c].2.2 := by
      show tot E (qi A ++ [c]) = _
      rw [tot_app, nvO_c hc]
    have h5 : ∀ w ∈ Tj, w < 2500 := fun w hw => by
      by_cases q : w < tot E (qi (qent A c))
      · omega
      · exact absurd (hBj9 w (by omega)) (hDj.2.2.2.1 w hw)
    refine ⟨by omega, by omega, by omega, by omega, ?_⟩
    unfold wq_234
    rw [e79]
    refine ⟨show -9223372036854775808 ≤ _ ∧ _ < 9223372036854775808 by have := ha1.1; have := ha1.2; omega, sp_236 (mG_C hPj hl) (mTm_rw hrw ht) (by omega) (fun y hy _ => ?_)⟩
    rw [← e79]
    have h700 : m1 74 59 ≤ 700 := by
      rw [hDj.2.2.2.2.2]
      have q1 := hentO.2.2.2.2.2.1
      have q2 := hentO.2.2.2.2.2.2.2.1
      omega
    refine sp_247 (mG_C hPj hl) (mG_W hPj hl) (by omega) hDj.1 hRj hrj (by omega) h700 hDj.2.1 (fc_T hDj.2.2.1 hDj.2.2.2.1 h5) htj (by omega) htm1 hy (fun z hz => ?_) (fun z hz => ?_) (fun m3 B3 hO hso => ⟨fun _ => ⟨show -2147483648 ≤ _ ∧ _ < 2147483648 by omega, ?_⟩, fun q => absurd q (by decide)⟩) (fun m3 B3 hO hno => ⟨fun q => absurd rfl q, fun _ => ?_⟩)
    · have := rn_in (eAr_sb (fun v => .var v) a E.1[c].2.2 j hka hjl).2 hz
      omega
    · exact hv z (vIn_ar z b j hlb (by omega) hz)
    · obtain ⟨s3, hR3⟩ := hO.2.2.1
      obtain ⟨T3, y1, y2, y3, y4⟩ := uO_dy hentO.1 hDj hRj hR3 hO
      obtain ⟨k3, y5, y6⟩ := hO.2.2.2.2.1
      refine hPP _ _ ⟨j + 1, B3, s3, T3, k3, by omega, by omega, hfG.tr (hO.g (fun w hw => Nat.lt_of_lt_of_le hw (by omega))), y1, hR3, fun v => ?_, ?_, fun w hw => hmo w (y4 w hw), y5, by omega, ?_⟩ (show 20 - ((j : Int) + 1).toNat < 20 - ((j : Nat) : Int).toNat by omega)
      · rw [← SolS_B hR3, hso v, SolS_B hRj, hSj v, ← earn]
        constructor
        · rintro ⟨⟨q1, q2⟩, q3⟩
          refine ⟨q1, fun i hi => ?_⟩
          by_cases e : i = j
          · rw [e]; exact q3
          · exact q2 i (by omega)
        · rintro ⟨q1, q2⟩
          exact ⟨⟨q1, fun i hi => q2 i (by omega)⟩, q2 j (by omega)⟩
      · rw [y2, hTj, nbC_add hmo y4]
        omega
      · have := hO.2.2.2.2.2.1
        exact this
    · obtain ⟨s3, hR3⟩ := hO.2.2.1
      obtain ⟨T3, y1, y2, y3, y4⟩ := uO_dy hentO.1 hDj hRj hR3 hO
      obtain ⟨k3, y5, y6⟩ := hO.2.2.2.2.1
      have hu : uni (qs A) g (rn (tot E (qi A)) E.1[c].1) = none := by
        refine uni_f (unF_c (t := .mulL k b) (u := rn (tot E (qi A)) E.1[c].1) hg (fun _ _ => rfl) (fun v hv2 e => ?_))
        have q1 := (hall v).mpr e
        refine hno v ((SolS_B hRj v).mpr ((hSj v).mpr ⟨hv2, fun i hi => q1 i (by omega)⟩)) ?_
        rw [← earn]
        exact q1 j hjl
      have hq : qtry E A c g cut = (qent A c, false) := by
        unfold qtry
        rw [hE?]
        dsimp only
        rw [hu]
      have hlo3 := fc_lo (B := B3) (k := tot E (qi (qent A c))) (fun w hw => (y1.1 w).2 (by omega)) 2500
      refine h0 m3 (hfG.s.tr (hO.g (fun w hw => Nat.lt_of_lt_of_le hw (by omega))).s) ?_ (by rw [hq]) ⟨⟨k3, y5, by omega⟩, r0 + j + 1, hO.2.2.2.2.2.1, by omega⟩
      rw [hq]
      have hO1 := hO.1
      exact ⟨mPr_rw y3 (fun e => hO1 85 e (by decide) (by decide) (by decide) (by decide) (by decide) (by decide) (by omega)) hPj, mNm_fr hNj (fun e q1 q2 => hO1 74 e (by decide) (by decide) (by decide) (by decide) (by decide) (by decide) (by omega)) (fun e => hO1 95 e (by decide) (by decide) (by decide) (by decide) (by decide) (by decide) (by omega)) (fun e => hO1 96 e (by decide) (by decide) (by decide) (by decide) (by decide) (by decide) (by omega)), B3, T3, y1⟩
end ME
