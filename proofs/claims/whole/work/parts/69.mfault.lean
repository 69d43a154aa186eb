/-! THE MODEL'S PARSER: a clause; the fault of the text -/
section NC
variable {m m' m'' : hy_m} {tx : List Int} {sl c : Nat} {vs : List Int} {K : List (pE × Int)} {p p' : Nat} {Q : Int → hy_m → Prop} {qy : Bool} {hd : Option pE} {gs : List pE} {us : Nat → Bool}
theorem mU_begin (h : mPg m sl) : mU (mBs m sl) sl 0 [] [] := ⟨fun _ => rfl, mPg_fr h (fun e => mBs_r m sl _ _ (by omega) (by omega))⟩
theorem gR_begin (h : gPg m sl) : gR (mBs m sl) sl none [] [] := ⟨(mBs_v m sl).2.2.1, fun i hi => absurd hi (Nat.not_lt_zero _), (fun t ht => by cases ht), fun _ => rfl, gPg_fr h (fun e => mBs_r m sl _ _ (by omega) (by omega))⟩
theorem zFr_begin (m : hy_m) (sl : Nat) : zFr m (mBs m sl) (fun s => s = sl) := fun a e q1 q2 q3 q4 q5 q6 q7 q8 q9 q10 => mBs_r m sl a e (by omega) (fun z => q4 ⟨by omega, z.2⟩)
/-- a clause was read into slot sl, or the text is wrong -/
def kO (m m' : hy_m) (tx : List Int) (sl n p : Nat) : Prop := zFr m m' (fun s => s = sl) ∧ mPg m' sl ∧ gPg m' sl ∧
  ((∃ (t : pE) (gs : List pE) (nv p' : Nat), pRun tx false (s00 p) (.inr (some t, gs, nv, p')) ∧ clR m' sl (some t) gs nv ∧ mAt m' tx p' ∧ p < p' ∧ m' 74 27 = (n : Int) + 1 ∧ m' 91 (n : Int) = sl ∧ ∀ e, e ≠ (n : Int) → m' 91 e = m 91 e) ∨
  (∃ w : Nat, m' 74 18 = w ∧ pRun tx false (s00 p) (.inl w) ∧ m' 74 27 = n ∧ ∀ e, m' 91 e = m 91 e))
theorem sp_198 {n st : Nat} (hu : uOK m us) (hA : mAt m tx p) (hPg : aPg m) (h27 : m 74 27 = n) (hn : n < 20) (h0 : n = 0 → st = 0) (h1 : n ≠ 0 → m 91 ((n : Int) - 1) = (st : Int) - 1) (hex : ∃ j, st ≤ j ∧ j ≤ 25 ∧ us j = false) (hq : ∀ m' sl, st ≤ sl → sl ≤ 25 → us sl = false → (∀ i, st ≤ i → i < sl → us i = true) → kO m m' tx sl n p → Q 0 m') : wq_198 m Q := by
  unfold wq_198
  refine sp_197 hu h27 (by omega) h0 h1 hex (fun sl a1 a2 a3 a4 => sp_193 (by omega) ?_)
  have hsl : sl < 28 := by omega
  have hS := mS_begin hA hsl
  have hP := hPg sl hsl (by omega)
  have hU := mU_begin (m := m) hP.1
  have hG := gR_begin (m := m) hP.2
  have e19 : mBs m sl 74 19 = sl := (mBs_v m sl).1
  have e27 : mBs m sl 74 27 = n := by rw [mBs_r m sl _ _ (by omega) (by omega)]; exact h27
  have e91 : ∀ e, mBs m sl 91 e = m 91 e := fun e => mBs_r m sl _ _ (by omega) (by omega)
  have hz0 := zFr_begin m sl
  generalize mBs m sl = m2 at hS hU hG e19 e27 e91 hz0 ⊢
  -- the end of readClause
  have fin : ∀ M : hy_m, kO m M tx sl n p ∨ (zFr m M (fun s => s = sl) ∧ mPg M sl ∧ gPg M sl ∧ M 74 19 = sl ∧ M 74 27 = n ∧ (∀ e, M 91 e = m 91 e) ∧ ∃ (t : pE) (gs : List pE) (nv p' : Nat), pRun tx false (s00 p) (.inr (some t, gs, nv, p')) ∧ clR M sl (some t) gs nv ∧ mAt M tx p' ∧ p < p') → (kO m M tx sl n p → M 74 18 ≠ -9) → wq_198_56 M Q := by
    intro M hM hw
    unfold wq_198_56
    rcases hM with hM | ⟨b1, b2, b3, b4, b5, b6, t, gs, nv, p', b7, b8, b9, b10⟩
    · exact ⟨fun _ => hq M sl a1 a2 a3 a4 hM, fun q => absurd q (hw hM)⟩
    · refine ⟨fun q => absurd b9.2.2 q, fun _ => ?_⟩
      rw [b4, b5]
      refine ⟨by omega, by omega, show -2147483648 ≤ _ ∧ _ < 2147483648 by omega, ?_⟩
      have hr : ∀ (a : Nat) (e : Int), ¬ (a = 91 ∧ e = n) → ¬ (a = 74 ∧ e = 27) → hy_u (hy_u M 91 (n : Int) (sl : Int)) 74 27 ((n : Int) + 1) a e = M a e := by
        intro a e q1 q2
        unfold hy_u
        rw [if_neg q2, if_neg q1]
      refine hq _ sl a1 a2 a3 a4 ⟨b1.trans (fun a e q1 q2 q3 q4 q5 q6 q7 q8 q9 q10 => hr a e (by omega) (by omega)), mPg_fr b2 (fun e => hr _ _ (by omega) (by omega)), gPg_fr b3 (fun e => hr _ _ (by omega) (by omega)), Or.inl ⟨t, gs, nv, p', b7, ?_, ?_, b10, hy_us _ _ _ _, ?_, fun e he => ?_⟩⟩
      · exact clR_fr b8 (fun a e q q1 q2 => hr _ _ (by omega) (by omega)) (fun e q1 q2 => hr _ _ (by omega) (by omega)) (fun a q => hr _ _ (by omega) (by omega)) (fun e q1 q2 => hr _ _ (by omega) (by omega))
      · obtain ⟨c1, c2, c3⟩ := b9
        refine ⟨⟨?_, c1.2.1, fun i hi => ?_, c1.2.2.2⟩, ⟨c2.1, ?_, ?_, ?_, fun z => ?_, fun z => ?_⟩, ?_⟩
        · rw [hr _ _ (by omega) (by omega)]; exact c1.1
        · rw [hr _ _ (by omega) (by omega)]; exact c1.2.2.1 i hi
        · rw [hr _ _ (by omega) (by omega)]; exact c2.2.1
        · rw [hr _ _ (by omega) (by omega)]; exact c2.2.2.1
        · rw [hr _ _ (by omega) (by omega)]; exact c2.2.2.2.1
        · rw [hr _ _ (by omega) (by omega)]; exact c2.2.2.2.2.1 z
        · rw [hr _ _ (by omega) (by omega)]; exact c2.2.2.2.2.2 z
        · rw [hr _ _ (by omega) (by omega)]; exact c3
      · rw [hy_ua (by decide), hy_us]
      · rw [hr _ _ (by omega) (by omega)]; exact b6 e
  refine sp_192 (qy := false) (hd := none) (gs := []) rfl hS hU (Nat.zero_le _) (fun r m3 hO => ?_)
  rw [e19]
  obtain ⟨hF3, hO⟩ := hO
  have f19 : m3 74 19 = sl := by rw [hF3 _ _ (by omega) (by omega) (by omega) (by omega) (by omega) (by omega) (by omega) (by omega)]; exact e19
  have f27 : m3 74 27 = n := by rw [hF3 _ _ (by omega) (by omega) (by omega) (by omega) (by omega) (by omega) (by omega) (by omega)]; exact e27
  have f91 : ∀ e, m3 91 e = m 91 e := fun e => by rw [hF3 _ _ (by omega) (by omega) (by omega) (by omega) (by omega) (by omega) (by omega) (by omega)]; exact e91 e
  have f82 : m3 82 (sl : Int) = 0 := by rw [hF3 _ _ (by omega) (by omega) (by omega) (by omega) (by omega) (by omega) (by omega) (by omega)]; exact hG.1
  have f83 : ∀ e, m3 83 e = m2 83 e := fun e => hF3 _ _ (by omega) (by omega) (by omega) (by omega) (by omega) (by omega) (by omega) (by omega)
  have eM : ∀ (a : Nat) (e : Int), ¬ (a = 81 ∧ e = sl) → hy_u m3 81 (sl : Int) r a e = m3 a e := fun a e q => if_neg q
  have eM1 : hy_u m3 81 (sl : Int) r 81 (sl : Int) = r := hy_us _ _ _ _
  generalize hy_u m3 81 (sl : Int) r = M at eM eM1
  have hzM : zFr m M (fun s => s = sl) := (hz0.trans hF3.z).trans (fun a e q1 q2 q3 q4 q5 q6 q7 q8 q9 q10 => eM a e (fun z => q4 ⟨by omega, z.2⟩))
  have M19 : M 74 19 = sl := by rw [eM _ _ (by omega)]; exact f19
  have M27 : M 74 27 = n := by rw [eM _ _ (by omega)]; exact f27
  have M91 : ∀ e, M 91 e = m 91 e := fun e => by rw [eM _ _ (by omega)]; exact f91 e
  have MG : gPg M sl := gPg_fr hG.2.2.2.2 (fun e => by rw [eM _ _ (by omega)]; exact f83 e)
  refine ⟨by omega, by omega, ?_⟩
  rcases hO with ⟨c3, vs3, t, nm, p3, b1, b2, b3, b4, b5, b6, b7⟩ | ⟨w, b1, b2, b3⟩
  · have hp3 : p3 ≤ 120 := Nat.le_trans b2.2.1.1 b2.1.2.1
    have hSM : mS M tx sl c3 vs3 [] [] [(t, r)] p3 := mS_fr b2 (fun a e q => eM a e (by omega))
    have hUM : mU M sl c3 [(t, r)] [] := mU_fr b3 (fun a e q => eM a e (by omega))
    have hGM : gR M sl (some t) [] [(t, r)] := by
      refine ⟨by rw [eM _ _ (by omega)]; exact f82, fun i hi => absurd hi (Nat.not_lt_zero _), fun t' ht => ?_, fun v => ?_, MG⟩
      · cases ht
        rw [eM1]
        exact List.mem_cons_self ..
      · show oE t v + 0 = 0 + oE t v
        omega
    have hst : pSt tx false (3, vs3, none, [], t, nm, [], p3) = (if pk1 tx p3 = 4 then .inr (.inr (some t, [], vs3.length, pnx tx p3)) else if pk1 tx p3 = 11 then .inl (0, vs3, some t, [], eNil, false, [], pnx tx p3) else .inr (.inl p3)) := by
      unfold pSt
      dsimp only
      rw [if_neg (by decide), if_neg (by decide), if_neg (by decide), if_neg (fun q => b4 q.1 q.2)]
      unfold pG
      rw [if_pos (by decide)]
    refine ⟨fun q => absurd b2.2.2.2.1.1 q, fun _ => ?_⟩
    rw [show m3 74 15 = pk1 tx p3 from b2.2.1.2.2.1]
    refine ⟨fun n11 => ?_, fun h11 => ?_⟩
    · refine sp_195 hSM (fun k4 m4 d1 d2 d3 => fin m4 (Or.inr ⟨hzM.trans (fun a e q1 q2 q3 q4 q5 q6 q7 q8 q9 q10 => d3 a e (by omega) (fun z => q4 ⟨by omega, z.2⟩)), mPg_fr hUM.2 (fun e => d3 _ _ (by omega) (by omega)), gPg_fr MG (fun e => d3 _ _ (by omega) (by omega)), ?_, ?_, fun e => ?_, t, [], vs3.length, pnx tx p3, (b5 _).mpr (pRun_e tx false (by rw [hst, if_pos k4])), ?_, ⟨d1.1, d1.2.1, d1.2.2.2.1.1⟩, ?_⟩) (fun hk => ?_)) (fun n4 => fin _ (Or.inl ⟨hzM.trans (fun a e q1 q2 q3 q4 q5 q6 q7 q8 q9 q10 => (if_neg (by omega)).trans (if_neg (fun z => q4 ⟨by omega, z.2⟩))), mPg_fr hUM.2 (fun e => (hy_ua (by decide)).trans (hy_ua (by decide))), gPg_fr MG (fun e => (hy_ua (by decide)).trans (hy_ua (by decide))), Or.inr ⟨p3, hy_us _ _ _ _, (b5 _).mpr (pRun_e tx false (by rw [hst, if_neg n4, if_neg n11])), ?_, fun e => ?_⟩⟩) (fun _ => ?_))
      · rw [d3 _ _ (by omega) (by omega)]; exact M19
      · rw [d3 _ _ (by omega) (by omega)]; exact M27
      · rw [d3 _ _ (by omega) (by omega)]; exact M91 e
      · refine clR_of d1 (mU_fr hUM (fun a e q => d3 a e (by omega) (by omega))) ⟨by rw [d3 _ _ (by omega) (by omega)]; exact hGM.1, fun i hi => absurd hi (Nat.not_lt_zero _), fun h' hh => by rw [d3 _ _ (by omega) (by omega)]; exact hGM.2.2.1 h' hh, hGM.2.2.2.1, gPg_fr MG (fun e => d3 _ _ (by omega) (by omega))⟩ (by omega) (by simp) d2
      · have := pk_pos b2.2.1.1 (show pk1 tx p3 ≠ 0 by omega)
        omega
      · rcases hk.2.2.2 with ⟨t', gs', nv', p', x1, x2, x3, x4, x5, x6, x7⟩ | ⟨w, x1, x2, x3, x4⟩
        · rw [d3 _ _ (by omega) (by omega), M27] at x5
          omega
        · rw [x1]
          omega
      · rw [hy_uk (by decide), hy_ua (by decide)]; exact M27
      · rw [hy_ua (by decide), hy_ua (by decide)]; exact M91 e
      · rw [hy_us]
        omega
    · have hp4 := pk_pos b2.2.1.1 (show pk1 tx p3 ≠ 0 by omega)
      refine sp_next hSM.1 hSM.2.1 (fun m6 k1 k2 k3 => ?_)
      obtain ⟨hS6, hF6⟩ := mS_next hSM k1 k2 k3
      have h250 : hy_u m6 74 25 0 = m6 := hy_ui (by have := hS6.2.2.2.1.2.2.2.2; simpa using this)
      have hGM6 : gR m6 sl (some t) [] [(t, r)] := by
        refine ⟨by rw [k3 _ _ (by omega)]; exact hGM.1, fun i hi => absurd hi (Nat.not_lt_zero _), fun h' hh => by rw [k3 _ _ (by omega)]; exact hGM.2.2.1 h' hh, hGM.2.2.2.1, gPg_fr hGM.2.2.2.2 (fun e => k3 _ _ (by omega))⟩
      refine sp_194 (qy := false) (hd := some t) rfl (by rw [h250]; exact hS6) (mU_fr hUM (fun a e q => k3 a e (by omega))) (by omega) hGM6 (fun m7 hg => ?_)
      obtain ⟨g1, g2, g3, g4, g5, g6, g7⟩ := hg
      have hz7 := (hzM.trans hF6.z).trans g1
      have N27 : m7 74 27 = n := by rw [g5, k3 _ _ (by omega)]; exact M27
      have N91 : ∀ e, m7 91 e = m 91 e := fun e => by rw [g6 e, k3 _ _ (by omega)]; exact M91 e
      have hrun : ∀ R, pRun tx false (0, vs3, some t, [], eNil, false, [], pnx tx p3) R → pRun tx false (s00 p) R := fun R hR => (b5 R).mpr ((pRun_s tx false (by rw [hst, if_neg (by omega), if_pos h11]) R).mpr hR)
      rcases g7 with ⟨gs, nv, p', x1, x2, x3, x4⟩ | ⟨w, x1, x2⟩
      · refine fin m7 (Or.inr ⟨hz7, g3, g4, g2, N27, N91, t, gs, nv, p', hrun _ x1, x2, x3, by omega⟩) (fun hk => ?_)
        rcases hk.2.2.2 with ⟨t', gs', nv', p'', y1, y2, y3, y4, y5, y6, y7⟩ | ⟨w, y1, y2, y3, y4⟩
        · rw [N27] at y5
          omega
        · rw [y1]
          omega
      · refine fin m7 (Or.inl ⟨hz7, g3, g4, Or.inr ⟨w, x1, hrun _ x2, N27, N91⟩⟩) (fun _ => ?_)
        rw [x1]
        omega
  · refine ⟨fun _ => ?_, fun q => by omega⟩
    have M18 : M 74 18 = w := by rw [eM _ _ (by omega)]; exact b1
    refine sp_195w M18 M19 hsl (fin _ (Or.inl ⟨hzM.trans (fun a e q1 q2 q3 q4 q5 q6 q7 q8 q9 q10 => if_neg (fun z => q4 ⟨by omega, z.2⟩)), mPg_fr b3 (fun e => (hy_ua (by decide)).trans (eM _ _ (by omega))), gPg_fr MG (fun e => hy_ua (by decide)), Or.inr ⟨w, ?_, b2, ?_, fun e => ?_⟩⟩) (fun _ => ?_))
    · rw [hy_ua (by decide)]; exact M18
    · rw [hy_ua (by decide)]; exact M27
    · rw [hy_ua (by decide)]; exact M91 e
    · rw [hy_ua (by decide), M18]
      omega
/-- the clauses that were read, in their slots -/
def kL (m : hy_m) (us : Nat → Bool) (cls : List pCl) (fs : List Nat) (st : Nat) : Prop := fs.length = cls.length ∧ m 74 27 = cls.length ∧ cls.length + cu us st = st ∧ st ≤ 26 ∧ fs.Nodup ∧ (cls.length = 0 → st = 0) ∧ (cls.length ≠ 0 → m 91 ((cls.length : Int) - 1) = (st : Int) - 1) ∧ ∀ i (hi : i < cls.length) (hj : i < fs.length), m 91 (i : Int) = fs[i] ∧ fs[i] < st ∧ us fs[i] = false ∧ clR m fs[i] (some cls[i].1) cls[i].2.1 cls[i].2.2
/-- inside of faultOf(0) -/
def fI (m m' : hy_m) (tx : List Int) (us : Nat → Bool) (room p0 : Nat) : Prop := zFr m m' (fun s => 0 ≤ s ∧ s ≤ 25 ∧ us s.toNat = false) ∧ aPg m' ∧ ∃ (cls : List pCl) (fs : List Nat) (st : Nat), kL m' us cls fs st ∧ cls.length ≤ room ∧
  ((∃ p, mAt m' tx p ∧ ∀ R, cR tx (room - cls.length) p cls R → cR tx room p0 [] R) ∨ ∃ w : Nat, m' 74 18 = w ∧ cR tx room p0 [] (.inl w))
theorem uOK_z {S : Int → Prop} (hu : uOK m us) (hz : zFr m m' S) : uOK m' us := by
  have e85 : ∀ e, m' 85 e = m 85 e := fun e => hz _ _ (by omega) (by omega) (by omega) (by omega) (by omega) (by omega) (by omega) (by omega) (by omega) (by omega)
  have e86 : ∀ e, m' 86 e = m 86 e := fun e => hz _ _ (by omega) (by omega) (by omega) (by omega) (by omega) (by omega) (by omega) (by omega) (by omega) (by omega)
  have e13 : m' 74 13 = m 74 13 := hz _ _ (by omega) (by omega) (by omega) (by omega) (by omega) (by omega) (by omega) (by omega) (by omega) (by omega)
  unfold uOK at hu ⊢
  rw [e85, e13]
  simp only [e85, e86]
  exact hu
theorem sp_199c {room : Nat} (hu : uOK m us) (hT : mTx m tx) (hPg : aPg m) (hr : m 85 0 + room = 20) (hcu : cu us 26 + room ≤ 26) {x : Int} (hx : x ≠ 1) (hq : ∀ (r : Int) (m' : hy_m), zFr m m' (fun s => 0 ≤ s ∧ s ≤ 25 ∧ us s.toNat = false) → aPg m' → (∃ cls fs st, r = -9 ∧ kL m' us cls fs st ∧ cR tx room (sk tx 0) [] (.inr cls) ∧ cls.length ≤ room) ∨ (∃ w : Nat, r = w ∧ cR tx room (sk tx 0) [] (.inl w)) → Q r m') : wq_199 x m Q := by
  unfold wq_199
  have hz0 : zFr m (hy_u (hy_u (hy_u m 74 14 0) 74 18 (-9)) 74 27 0) (fun s => 0 ≤ s ∧ s ≤ 25 ∧ us s.toNat = false) := by
    intro a e q1 q2 q3 q4 q5 q6 q7 q8 q9 q10
    unfold hy_u
    rw [if_neg (by omega), if_neg (by omega), if_neg (by omega)]
  have e14 : hy_u (hy_u (hy_u m 74 14 0) 74 18 (-9)) 74 27 0 74 14 = ((0 : Nat) : Int) := by rw [hy_uk (by decide), hy_uk (by decide), hy_us]; rfl
  have e18 : hy_u (hy_u (hy_u m 74 14 0) 74 18 (-9)) 74 27 0 74 18 = -9 := by rw [hy_uk (by decide), hy_us]
  have e27 : hy_u (hy_u (hy_u m 74 14 0) 74 18 (-9)) 74 27 0 74 27 = 0 := hy_us _ _ _ _
  have hT0 : mTx (hy_u (hy_u (hy_u m 74 14 0) 74 18 (-9)) 74 27 0) tx := ((hT.u (by decide)).u (by decide)).u (by decide)
  have hP0 : aPg (hy_u (hy_u (hy_u m 74 14 0) 74 18 (-9)) 74 27 0) := fun s h1 h2 => ⟨mPg_fr (hPg s h1 h2).1 (fun e => ((hy_ua (by decide)).trans (hy_ua (by decide))).trans (hy_ua (by decide))), gPg_fr (hPg s h1 h2).2 (fun e => ((hy_ua (by decide)).trans (hy_ua (by decide))).trans (hy_ua (by decide)))⟩
  generalize hy_u (hy_u (hy_u m 74 14 0) 74 18 (-9)) 74 27 0 = m0 at hz0 e14 e18 e27 hT0 hP0
  refine sp_179 hT0 e14 (Nat.zero_le _) (fun m1 hN => ?_)
  refine ⟨fun _ => ?_, fun q => absurd q hx⟩
  have hs := sk_le (tx := tx) (p := 0) (Nat.zero_le _)
  obtain ⟨n1, n2, n3, n4, n5, n6⟩ := hN
  have hA1 : mAt m1 tx (sk tx 0) := by
    refine ⟨⟨by rw [n6 _ _ (by omega)]; exact hT0.1, hT0.2.1, fun i hi => by rw [n6 _ _ (by omega)]; exact hT0.2.2.1 i hi, hT0.2.2.2⟩, ⟨hs.2, n1, n2, n3, n4, n5⟩, by rw [n6 _ _ (by omega)]; exact e18⟩
  have hz1 : zFr m m1 (fun s => 0 ≤ s ∧ s ≤ 25 ∧ us s.toNat = false) := hz0.trans (fun a e q1 q2 q3 q4 q5 q6 q7 q8 q9 q10 => n6 a e (by omega))
  unfold wq_199_61
  refine wL0_rule (Nat.lt_wfRel.wf) (fun m' => fI m m' tx us room (sk tx 0)) (fun m' => if m' 74 18 = -9 then 1 + (200 - (m' 74 16).toNat) else 0) ?_ ⟨hz1, fun s h1 h2 => ⟨mPg_fr (hP0 s h1 h2).1 (fun e => n6 _ _ (by omega)), gPg_fr (hP0 s h1 h2).2 (fun e => n6 _ _ (by omega))⟩, [], [], 0, ⟨rfl, by rw [n6 _ _ (by omega)]; exact e27, rfl, by omega, List.nodup_nil, fun _ => rfl, fun q => absurd rfl q, fun i hi => absurd hi (Nat.not_lt_zero _)⟩, Nat.zero_le _, Or.inl ⟨sk tx 0, hA1, fun R hR => hR⟩⟩
  rintro P m' ⟨hz, hPg', cls, fs, st, hL, hle, hO⟩ hP
  have e85 : m' 85 0 = m 85 0 := hz _ _ (by omega) (by omega) (by omega) (by omega) (by omega) (by omega) (by omega) (by omega) (by omega) (by omega)
  unfold wf_199_61
  rcases hO with ⟨p, hA, hR⟩ | ⟨w, hw, hR⟩
  · rw [hA.2.2, hA.2.1.2.2.1]
    refine ⟨fun h0 => hq _ _ hz hPg' (Or.inl ⟨cls, fs, st, rfl, hL, hR _ (cR_0 h0), hle⟩), fun hk0 => ⟨fun q => absurd rfl q, fun _ => ⟨by omega, by omega, ?_⟩⟩⟩
    have h27 := hL.2.1
    have hp120 : p ≤ 120 := Nat.le_trans hA.2.1.1 hA.1.2.1
    rw [e85, h27]
    refine ⟨show -2147483648 ≤ _ ∧ _ < 2147483648 by omega, fun hne => ?_, fun heq => ?_⟩
    · obtain ⟨l1, l2, l3, l4, l5, l6, l7, l8⟩ := hL
      have hlt : cls.length < room := by omega
      have hex : ∃ j, st ≤ j ∧ j ≤ 25 ∧ us j = false := by
        by_cases hall : ∀ j, st ≤ j → j < st + (26 - st) → us j = true
        · have := cu_run (26 - st) hall
          rw [show st + (26 - st) = 26 by omega] at this
          omega
        · simp only [Classical.not_forall] at hall
          obtain ⟨j, h1, h2, h3⟩ := hall
          exact ⟨j, h1, by omega, by cases hj : us j with
            | false => rfl
            | true => exact absurd hj h3⟩
      refine sp_198 (uOK_z hu hz) hA hPg' h27 (by have := hu.1; omega) l6 l7 hex (fun m4 sl a1 a2 a3 a4 hk => ?_)
      obtain ⟨k1, k2, k3, k4⟩ := hk
      have hz4 : zFr m m4 (fun s => 0 ≤ s ∧ s ≤ 25 ∧ us s.toNat = false) := hz.trans (k1.mono (fun s hs => by subst hs; exact ⟨by omega, by omega, by simpa using a3⟩))
      have hPg4 := aPg_z hPg' k1 k2 k3
      have hcu1 : cls.length + 1 + cu us (sl + 1) = sl + 1 := by
        have := cu_run (us := us) (st := st) (sl - st) (fun j q1 q2 => a4 j q1 (by omega))
        rw [show st + (sl - st) = sl by omega] at this
        show cls.length + 1 + (cu us sl + (if us sl = true then 1 else 0)) = sl + 1
        rw [a3, if_neg (by decide)]
        omega
      have hkeep : ∀ i (hi : i < cls.length) (hj : i < fs.length), clR m4 fs[i] (some cls[i].1) cls[i].2.1 cls[i].2.2 := fun i hi hj => by
        have g := l8 i hi hj
        exact clR_z g.2.2.2 k1 (fun q => by have := g.2.1; omega)
      rcases k4 with ⟨t, gs, nv, p', x1, x2, x3, x4, x5, x6, x7⟩ | ⟨w, x1, x2, x3, x4⟩
      · refine hP _ ⟨hz4, hPg4, cls ++ [(t, gs, nv)], fs ++ [sl], sl + 1, ⟨?_, ?_, ?_, by omega, ?_, fun q => by simp at q, fun _ => ?_, fun i hi hj => ?_⟩, by simp; omega, Or.inl ⟨p', x3, fun R hc => hR R ?_⟩⟩ ?_
        · simp [l1]
        · rw [x5]; simp
        · simpa using hcu1
        · rw [List.nodup_append]
          refine ⟨l5, by simp, fun a ha b hb e => ?_⟩
          have hb : b = sl := by simpa using hb
          obtain ⟨i, hi, rfl⟩ := List.getElem_of_mem ha
          have := (l8 i (by omega) hi).2.1
          omega
        · rw [show (((cls ++ [(t, gs, nv)]).length : Nat) : Int) - 1 = (cls.length : Int) by simp, x6]
          omega
        · by_cases e : i = cls.length
          · subst e
            rw [x6]
            have e1 : (fs ++ [sl])[cls.length] = sl := by simp [← l1]
            rw [e1]
            refine ⟨rfl, by omega, a3, ?_⟩
            simpa using x2
          · have hi' : i < cls.length := by simp at hi; omega
            have hj' : i < fs.length := by omega
            have g := l8 i hi' hj'
            rw [x7 _ (by omega), List.getElem_append_left hj', List.getElem_append_left hi']
            exact ⟨g.1, by have := g.2.1; omega, g.2.2.1, hkeep i hi' hj'⟩
        · refine cR_s hk0 (by omega) x1 ?_
          rw [show room - (cls ++ [(t, gs, nv)]).length = room - cls.length - 1 by simp; omega] at hc
          exact hc
        · show (if m4 74 18 = -9 then 1 + (200 - (m4 74 16).toNat) else 0) < (if m' 74 18 = -9 then 1 + (200 - (m' 74 16).toNat) else 0)
          rw [if_pos hA.2.2, if_pos x3.2.2, hA.2.1.2.1, x3.2.1.2.1]
          have := x3.2.1.1
          have := x3.1.2.1
          omega
      · refine hP _ ⟨hz4, hPg4, cls, fs, st, ⟨l1, x3, l3, l4, l5, l6, fun q => by rw [x4]; exact l7 q, fun i hi hj => ?_⟩, hle, Or.inr ⟨w, x1, hR _ (cR_w hk0 (by omega) x2)⟩⟩ ?_
        · have g := l8 i hi hj
          rw [x4]
          exact ⟨g.1, g.2.1, g.2.2.1, hkeep i hi hj⟩
        · show (if m4 74 18 = -9 then 1 + (200 - (m4 74 16).toNat) else 0) < (if m' 74 18 = -9 then 1 + (200 - (m' 74 16).toNat) else 0)
          rw [if_pos hA.2.2, if_neg (show ¬ m4 74 18 = -9 by omega)]
          omega
    · have hroom : room - cls.length = 0 := by omega
      refine sp_180 (p := p) hA.2.1.2.1 (hP _ ⟨hz.trans (fun a e q1 q2 q3 q4 q5 q6 q7 q8 q9 q10 => if_neg (by omega)), fun s h1 h2 => ⟨mPg_fr (hPg' s h1 h2).1 (fun e => hy_ua (by decide)), gPg_fr (hPg' s h1 h2).2 (fun e => hy_ua (by decide))⟩, cls, fs, st, ⟨hL.1, ?_, hL.2.2.1, hL.2.2.2.1, hL.2.2.2.2.1, hL.2.2.2.2.2.1, fun q => ?_, fun i hi hj => ?_⟩, hle, Or.inr ⟨p, hy_us _ _ _ _, hR _ (by rw [hroom]; exact cR_f hk0)⟩⟩ ?_)
      · rw [hy_uk (by decide)]; exact h27
      · rw [hy_ua (by decide)]; exact hL.2.2.2.2.2.2.1 q
      · have g := hL.2.2.2.2.2.2.2 i hi hj
        rw [hy_ua (by decide)]
        exact ⟨g.1, g.2.1, g.2.2.1, clR_fr g.2.2.2 (fun a e q q1 q2 => if_neg (by omega)) (fun e q1 q2 => if_neg (by omega)) (fun a q => if_neg (by omega)) (fun e q1 q2 => if_neg (by omega))⟩
      · show (if hy_u m' 74 18 (p : Int) 74 18 = -9 then 1 + (200 - (hy_u m' 74 18 (p : Int) 74 16).toNat) else 0) < (if m' 74 18 = -9 then 1 + (200 - (m' 74 16).toNat) else 0)
        rw [if_pos hA.2.2, hy_us, if_neg (by omega)]
        omega
  · rw [hw]
    refine ⟨fun _ => hq _ _ hz hPg' (Or.inr ⟨w, rfl, hR⟩), fun _ => ⟨fun _ => hq _ _ hz hPg' (Or.inr ⟨w, rfl, hR⟩), fun q => by omega⟩⟩
/-- the fault of the text as a query -/
theorem sp_199q (hT : mTx m tx) (hPg : aPg m) (hq : ∀ (r : Int) (m' : hy_m), zFr m m' (fun s => s = 27) → aPg m' → (∃ gs nv, r = -9 ∧ clR m' 27 none gs nv ∧ qR tx (.inr (gs, nv))) ∨ (∃ w : Nat, r = w ∧ qR tx (.inl w)) → Q r m') : wq_199 1 m Q := by
  unfold wq_199
  have hz0 : zFr m (hy_u (hy_u (hy_u m 74 14 0) 74 18 (-9)) 74 27 0) (fun s => s = 27) := by
    intro a e q1 q2 q3 q4 q5 q6 q7 q8 q9 q10
    unfold hy_u
    rw [if_neg (by omega), if_neg (by omega), if_neg (by omega)]
  have e14 : hy_u (hy_u (hy_u m 74 14 0) 74 18 (-9)) 74 27 0 74 14 = ((0 : Nat) : Int) := by rw [hy_uk (by decide), hy_uk (by decide), hy_us]; rfl
  have e18 : hy_u (hy_u (hy_u m 74 14 0) 74 18 (-9)) 74 27 0 74 18 = -9 := by rw [hy_uk (by decide), hy_us]
  have hT0 : mTx (hy_u (hy_u (hy_u m 74 14 0) 74 18 (-9)) 74 27 0) tx := ((hT.u (by decide)).u (by decide)).u (by decide)
  have hP0 : aPg (hy_u (hy_u (hy_u m 74 14 0) 74 18 (-9)) 74 27 0) := fun s h1 h2 => ⟨mPg_fr (hPg s h1 h2).1 (fun e => ((hy_ua (by decide)).trans (hy_ua (by decide))).trans (hy_ua (by decide))), gPg_fr (hPg s h1 h2).2 (fun e => ((hy_ua (by decide)).trans (hy_ua (by decide))).trans (hy_ua (by decide)))⟩
  generalize hy_u (hy_u (hy_u m 74 14 0) 74 18 (-9)) 74 27 0 = m0 at hz0 e14 e18 hT0 hP0
  refine sp_179 hT0 e14 (Nat.zero_le _) (fun m1 hN => ?_)
  refine ⟨fun q => absurd rfl q, fun _ => ?_⟩
  have hs := sk_le (tx := tx) (p := 0) (Nat.zero_le _)
  obtain ⟨n1, n2, n3, n4, n5, n6⟩ := hN
  have hA1 : mAt m1 tx (sk tx 0) := by
    refine ⟨⟨by rw [n6 _ _ (by omega)]; exact hT0.1, hT0.2.1, fun i hi => by rw [n6 _ _ (by omega)]; exact hT0.2.2.1 i hi, hT0.2.2.2⟩, ⟨hs.2, n1, n2, n3, n4, n5⟩, by rw [n6 _ _ (by omega)]; exact e18⟩
  have hz1 : zFr m m1 (fun s => s = 27) := hz0.trans (fun a e q1 q2 q3 q4 q5 q6 q7 q8 q9 q10 => n6 a e (by omega))
  have hP1 : aPg m1 := fun s h1 h2 => ⟨mPg_fr (hP0 s h1 h2).1 (fun e => n6 _ _ (by omega)), gPg_fr (hP0 s h1 h2).2 (fun e => n6 _ _ (by omega))⟩
  refine sp_193 (sl := 27) (by omega) (sp_194 (qy := true) (hd := none) rfl (mS_begin hA1 (by omega)) (mU_begin (hP1 27 (by omega) (by omega)).1) (Nat.zero_le _) (gR_begin (hP1 27 (by omega) (by omega)).2) (fun m3 hg => ?_))
  obtain ⟨g1, g2, g3, g4, g5, g6, g7⟩ := hg
  have hz3 : zFr m m3 (fun s => s = 27) := (hz1.trans (zFr_begin m1 27)).trans g1
  have hP3 : aPg m3 := aPg_z hP1 ((zFr_begin m1 27).trans g1) g3 g4
  rcases g7 with ⟨gs, nv, p, x1, x2, x3, x4⟩ | ⟨w, x1, x2⟩
  · refine ⟨fun q => absurd x3.2.2 q, fun _ => ?_⟩
    rw [x3.2.1.2.2.1]
    refine ⟨fun h0 => hq _ _ hz3 hP3 (Or.inl ⟨gs, nv, x3.2.2, x2, Or.inr ⟨gs, nv, p, x1, by rw [if_pos h0]⟩⟩), fun hn => sp_180 (p := p) x3.2.1.2.1 ?_⟩
    refine hq _ _ (hz3.trans (fun a e q1 q2 q3 q4 q5 q6 q7 q8 q9 q10 => if_neg (by omega))) (fun s h1 h2 => ⟨mPg_fr (hP3 s h1 h2).1 (fun e => hy_ua (by decide)), gPg_fr (hP3 s h1 h2).2 (fun e => hy_ua (by decide))⟩) (Or.inr ⟨p, hy_us _ _ _ _, Or.inr ⟨gs, nv, p, x1, by rw [if_neg hn]⟩⟩)
  · exact ⟨fun _ => hq _ _ hz3 hP3 (Or.inr ⟨w, x1, Or.inl ⟨w, x2, rfl⟩⟩), fun q => by omega⟩
end NC
