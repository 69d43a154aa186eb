/-! BOTH SIDES TOGETHER: the model's calls -/
section JP
variable {A A' : jst} {E : qE} {B : qA} {ss : List Nat} {HS : List (List Nat)} {K0 R0 k : Nat} {T : hy_T} {m m' m1 : hy_m} {a b x : Int} {tx : List Int} {S : Int → Prop} {PL' : List pCl} {PH' : List (List pCl)} {ss' : List Nat} {HS' : List (List Nat)}
/-- write -/
theorem jm_0 (hV : jV k A) (h : jM k A m) : wq_200 a m (fun x m' => ∃ A', jx0 a A x A' ∧ jM (k + 1) A' m') := by
  obtain ⟨t1, t2, t3, t4⟩ := h.1
  have hs := jM_s hV h
  unfold wq_200 wq_170
  refine ⟨fun q => ⟨fun z => absurd rfl z, fun _ => ⟨A, Or.inl ⟨by omega, rfl, rfl⟩, hs⟩⟩, fun q => ⟨fun q2 => ⟨fun z => absurd rfl z, fun _ => ⟨A, Or.inl ⟨by omega, rfl, rfl⟩, hs⟩⟩, fun q2 => ⟨fun _ => ⟨fun q3 => ?_, fun q3 => ⟨A, Or.inr ⟨⟨q, q2⟩, Or.inl ⟨by omega, rfl, rfl⟩⟩, hs⟩⟩, fun z => absurd z (by decide)⟩⟩⟩
  refine ⟨by omega, by omega, show -2147483648 ≤ _ ∧ _ < 2147483648 by omega, ?_⟩
  rw [t1] at q3 ⊢
  have v1 : hy_u (hy_u m 75 (A.1.length : Int) a) 74 1 ((A.1.length : Int) + 1) 74 1 = (A.1.length : Int) + 1 := hy_us _ _ _ _
  have v2 : ∀ (z : Nat) (e : Int), z ≠ 75 → ¬ (z = 74 ∧ e = 1) → hy_u (hy_u m 75 (A.1.length : Int) a) 74 1 ((A.1.length : Int) + 1) z e = m z e := fun z e z1 z2 => by
    rw [show hy_u (hy_u m 75 (A.1.length : Int) a) 74 1 ((A.1.length : Int) + 1) z e = hy_u m 75 (A.1.length : Int) a z e from if_neg z2, hy_ua z1]
  have v3 : ∀ e : Int, hy_u (hy_u m 75 (A.1.length : Int) a) 74 1 ((A.1.length : Int) + 1) 75 e = if e = (A.1.length : Int) then a else m 75 e := fun e => by
    rw [hy_ua (by decide)]
    by_cases c : e = (A.1.length : Int)
    · rw [if_pos c, c, hy_us]
    · rw [if_neg c, hy_uk c]
  generalize hy_u (hy_u m 75 (A.1.length : Int) a) 74 1 ((A.1.length : Int) + 1) = M at v1 v2 v3
  have hlen : (A.1 ++ [a]).length = A.1.length + 1 := by rw [List.length_append]; rfl
  refine ⟨(A.1 ++ [a], A.2), Or.inr ⟨⟨q, q2⟩, Or.inr ⟨by omega, rfl, rfl⟩⟩, jM_w hV h ⟨fun z e z1 => v2 z e (by omega) (by omega), fun e z1 => v2 _ _ (by omega) (by omega)⟩ (fun z e z1 z2 => v2 z e (by omega) (by omega)) ⟨by rw [v1, hlen]; omega, by omega, fun i hi => ?_, fun c hc => ?_⟩⟩
  · rw [v3]
    by_cases c : i = A.1.length
    · rw [c, if_pos rfl, hd_end]
    · rw [if_neg (by omega), hd_app (by omega)]
      exact t3 i (by omega)
  · rcases List.mem_append.mp hc with z | z
    · exact t4 c z
    · rw [List.mem_singleton.mp z]
      exact ⟨q, q2⟩
/-- wipe -/
theorem jm_1 (hV : jV k A) (h : jM k A m) : wq_201 m (fun x m' => ∃ A', jx1 A x A' ∧ jM (k + 1) A' m') := by
  unfold wq_201
  have v2 : ∀ (z : Nat) (e : Int), ¬ (z = 74 ∧ e = 1) → hy_u m 74 1 0 z e = m z e := fun z e z2 => if_neg z2
  exact ⟨([], A.2), ⟨h.1.1, rfl⟩, jM_w hV h ⟨fun z e z1 => v2 z e (by omega), fun e z1 => v2 _ _ (by omega)⟩ (fun z e z1 z2 => v2 z e (by omega)) ⟨hy_us _ _ _ _, Nat.zero_le _, fun i hi => absurd hi (Nat.not_lt_zero i), fun c hc => by cases hc⟩⟩
theorem jM_pl (h : jM k A m) : A.2.1.length ≤ 20 ∧ m 85 0 = A.2.1.length := by
  obtain ⟨-, -, -, ss, HS, K0, R0, d, -⟩ := h
  exact ⟨d.1.2.1, d.1.1⟩
/-- fault -/
theorem jm_2 (hV : jV k A) (h : jM k A m) : wq_202 a m (fun x m' => ∃ A', jx2 a A x A' ∧ jM (k + 1) A' m') := by
  obtain ⟨l1, l2⟩ := jM_pl h
  have hs := jM_s hV h
  obtain ⟨hTx, hPg, c3, ss, HS, K0, R0, d⟩ := h
  have hP := d.1
  unfold wq_202 wq_170
  refine ⟨fun q => ⟨fun _ => ⟨A, ⟨rfl, Or.inl ⟨by omega, by omega, rfl⟩⟩, hs⟩, fun z => absurd rfl z⟩, fun q => ⟨fun q2 => ⟨fun _ => ⟨A, ⟨rfl, Or.inl ⟨by omega, by omega, rfl⟩⟩, hs⟩, fun z => absurd rfl z⟩, fun q2 => ⟨fun z => absurd z (by decide), fun _ => ?_⟩⟩⟩
  by_cases c : a = 1
  · rw [c]
    refine sp_199q hTx hPg (fun r m' z1 pg hres => ⟨A, ⟨rfl, Or.inr (Or.inr ⟨rfl, ?_⟩)⟩, jM_z hV hTx c3 d z1 (by decide) (fun sl hu z => by have := usF_25 hP hu; omega) pg⟩)
    rcases hres with ⟨gs, nv, rfl, -, hr⟩ | ⟨w, rfl, hr⟩
    · exact ⟨_, hr, rfl⟩
    · exact ⟨_, hr, rfl⟩
  · have e0 : a = 0 := by omega
    have hcu := cu_le hP.2.2.2.2.1 26
    have s1 := hP.1.2.2.1
    have s2 := hP.2.2.2.1
    have s3 := hP.2.2.1
    refine sp_199c (room := 20 - A.2.1.length) (mPz_uOK hP) hTx hPg (by rw [l2]; omega) (by omega) c (fun r m' z1 pg hres => ⟨A, ⟨rfl, Or.inr (Or.inl ⟨e0, ?_⟩)⟩, jM_z hV hTx c3 d z1 (fun z => by omega) (fun sl hu z => by
      have z := z.2.2
      rw [Int.toNat_natCast, hu] at z
      cases z) pg⟩)
    rcases hres with ⟨cls, fs, st, rfl, -, hr, -⟩ | ⟨w, rfl, hr⟩
    · exact ⟨_, hr, rfl⟩
    · exact ⟨_, hr, rfl⟩
/-- another program -/
theorem jM_p (hV : jV k A) (d : jMx k A m ss HS K0 R0) (hf : m' 74 64 = m 74 64 ∧ (∀ e, m' 113 e = m 113 e) ∧ m' 74 66 = m 74 66 ∧ ∀ e, m' 115 e = m 115 e) (hT : mTx m' A.1) (hPg : aPg m') (hc : cVal m') (hP : mPz m' PL' ss' PH' HS') : jM (k + 1) (jP A PL' PH') m' := by
  obtain ⟨K, R, g1, g2, g3⟩ := jMx_R hV d
  refine ⟨hT, hPg, hc.2.2.2, ss', HS', K, R, hP, by omega, fun _ => ⟨hc, mRd_fr g1 hf.1 hf.2.1 hf.2.2.1 hf.2.2.2, by omega⟩, fun q hq => ?_⟩
  have hq : (none : Option (qE × qA)) = some q := hq
  cases hq
theorem jM_r (hV : jV k A) (hT : mTx m A.1) (hPg : aPg m) (d : jMx k A m ss HS K0 R0) (hf : rFr m m') (hP : mPz m' PL' ss' PH' HS') : jM (k + 1) (jP A PL' PH') m' := by
  have o : ∀ (a : Nat) (e : Int), (a = 75 ∨ a = 79 ∨ a = 83 ∨ a = 113 ∨ a = 115 ∨ (a = 74 ∧ (e = 1 ∨ e = 64 ∨ e = 66))) → m' a e = m a e := fun a e q => hf.1 a e (by omega) (by omega) (by omega) (by unfold cEx; omega)
  exact jM_p hV d ⟨o _ _ (by omega), fun e => o _ _ (by omega), o _ _ (by omega), fun e => o _ _ (by omega)⟩ (mTx_f hT (o _ _ (by omega)) (fun e => o _ _ (by omega))) (aPg_f hPg (fun e => o _ _ (by omega)) (fun e => o _ _ (by omega))) hf.2 hP
/-- consult -/
theorem jm_3 (hT : mTt T) (hV : jV k A) (h : jM k A m) : wq_207 T m (fun x m' => ∃ A', jx3 A x A' ∧ jM (k + 1) A' m') := by
  obtain ⟨l1, l2⟩ := jM_pl h
  obtain ⟨hTx, hPg, c3, ss, HS, K0, R0, d⟩ := h
  refine sp_207 (room := 20 - A.2.1.length) hT d.1 hTx hPg (by omega) (fun m1 w z1 pg hr => ⟨A, Or.inl ⟨w, hr, rfl, rfl⟩, jM_z hV hTx c3 d z1 (fun z => by omega) (fun sl hu z => by
      have z := z.2.2
      rw [Int.toNat_natCast, hu] at z
      cases z) pg⟩) (fun cls fs m1 m' hr z1 r1 pg hP => ⟨_, Or.inr ⟨cls, hr, rfl, rfl⟩, ?_⟩)
  have o : ∀ (a : Nat) (e : Int), (a = 75 ∨ a = 113 ∨ a = 115 ∨ (a = 74 ∧ (e = 1 ∨ e = 64 ∨ e = 66))) → m' a e = m a e := fun a e q => (r1.1 a e (by omega) (by omega) (by omega) (by unfold cEx; omega)).trans (z1 a e (by omega) (fun z => by omega) (fun z => by omega) (fun z => by omega) (fun z => by omega) (by omega) (by omega) (by omega) (by omega) (by omega))
  exact jM_p hV d ⟨o _ _ (by omega), fun e => o _ _ (by omega), o _ _ (by omega), fun e => o _ _ (by omega)⟩ (mTx_f hTx (o _ _ (by omega)) (fun e => o _ _ (by omega))) pg r1.2 hP
/-- retract -/
theorem jm_4 (hT : mTt T) (hV : jV k A) (h : jM k A m) : wq_208 a T m (fun x m' => ∃ A', jx4 a A x A' ∧ jM (k + 1) A' m') := by
  have hs := jM_s hV h
  obtain ⟨hTx, hPg, c3, ss, HS, K0, R0, d⟩ := h
  exact sp_208 hT d.1 (fun q => ⟨A, Or.inl ⟨q, rfl, rfl⟩, hs⟩) (fun c m' e1 e2 e3 e4 => ⟨_, Or.inr ⟨c, e1, e2, rfl, rfl⟩, jM_r hV hTx hPg d e4 e3⟩)
/-- move -/
theorem jm_5 (hT : mTt T) (hV : jV k A) (h : jM k A m) : wq_209 a b T m (fun x m' => ∃ A', jx5 a b A x A' ∧ jM (k + 1) A' m') := by
  have hs := jM_s hV h
  obtain ⟨hTx, hPg, c3, ss, HS, K0, R0, d⟩ := h
  exact sp_209 hT d.1 (fun q => ⟨A, Or.inl ⟨q, rfl, rfl⟩, hs⟩) (fun c t PL' ss' m' e1 e2 e3 e4 e5 e6 e7 => ⟨_, Or.inr ⟨c, t, PL', e1, e2, e3, e4, e5, rfl, rfl⟩, jM_r hV hTx hPg d e7 e6⟩)
/-- undo -/
theorem jm_6 (hT : mTt T) (hV : jV k A) (h : jM k A m) : wq_210 T m (fun x m' => ∃ A', jx6 A x A' ∧ jM (k + 1) A' m') := by
  have hs := jM_s hV h
  obtain ⟨hTx, hPg, c3, ss, HS, K0, R0, d⟩ := h
  exact sp_210 hT d.1 (fun q => ⟨A, Or.inl ⟨q, rfl, rfl⟩, hs⟩) (fun PHi PLo HSi so m' e1 e2 e3 => ⟨_, Or.inr ⟨PHi, PLo, e1, rfl, rfl⟩, jM_r hV hTx hPg d e3 e2⟩)
/-- told -/
theorem jm_7 (hV : jV k A) (h : jM k A m) : wq_219 a m (fun x m' => ∃ A', jx7 a A x A' ∧ jM (k + 1) A' m') := by
  have hh := h
  obtain ⟨hTx, hPg, c3, ss, HS, K0, R0, d⟩ := h
  exact sp_219 d.1 hTx (fun m' hf => ⟨A, ⟨rfl, rfl⟩, jM_v hV hh (fun z e q1 q2 q3 q4 q5 => hf z e (by omega) (by omega))⟩)
/-- clause -/
theorem jm_8 (hV : jV k A) (h : jM k A m) : wq_223 a b m (fun x m' => ∃ A', jx8 a b A x A' ∧ jM (k + 1) A' m') := by
  have hs := jM_s hV h
  obtain ⟨l1, l2⟩ := jM_pl h
  obtain ⟨hTx, hPg, c3, ss, HS, K0, R0, d⟩ := h
  refine sp_223 (mLo_P d.1.1) (fun q => ⟨A, ⟨rfl, Or.inl ⟨q, rfl⟩⟩, hs⟩) (fun c cl r e1 e2 e3 => ⟨A, ⟨rfl, Or.inr ⟨c, cl, e1, e2, ?_⟩⟩, hs⟩)
  have hc := (List.getElem?_eq_some_iff.mp e2).1
  have t1 : m 95 a = jT A c ∧ m 96 a = jU A c := by
    unfold jT jU
    cases e : A.2.2.2 with
    | none => exact (d.2.2.1 e).1.2.2.1 a (by omega) (by omega)
    | some q =>
      have := (d.2.2.2 q e).1.1.2.1.2.2.2.2.2 c (by omega)
      rw [e1]
      exact ⟨this.1, this.2.1⟩
  rw [t1.1, t1.2] at e3
  exact e3
/-- listing -/
theorem jm_9 (hV : jV k A) (h : jM k A m) : wq_296 a b m (fun x m' => ∃ A', jx9 a b A x A' ∧ jM (k + 1) A' m') := by
  have hh := h
  have hs := jM_s hV h
  obtain ⟨hTx, hPg, c3, ss, HS, K0, R0, d⟩ := h
  exact sp_296 d.1.1 hV.1 c3 (fun q => ⟨A, ⟨rfl, Or.inl ⟨q, rfl⟩⟩, hs⟩) (fun c cl m' e1 e2 e3 hf => ⟨A, ⟨rfl, Or.inr ⟨c, cl, e1, e2, e3, rfl⟩⟩, jM_v hV hh (fun z e q1 q2 q3 q4 q5 => hf z e (by omega) (by omega) (by omega) (by omega))⟩)
/-- overlaps -/
theorem jm_10 (hV : jV k A) (h : jM k A m) : wq_225 a m (fun x m' => ∃ A', jx10 a A x A' ∧ jM (k + 1) A' m') := by
  have hs := jM_s hV h
  obtain ⟨hTx, hPg, c3, ss, HS, K0, R0, d⟩ := h
  exact sp_225 (mLo_P d.1.1) (fun q => ⟨A, ⟨rfl, Or.inl ⟨q, rfl⟩⟩, hs⟩) (fun i cl e1 e2 => ⟨A, ⟨rfl, Or.inr ⟨i, cl, e1, e2, rfl⟩⟩, hs⟩)
/-- reaches -/
theorem jm_11 (hV : jV k A) (h : jM k A m) : wq_228 a b m (fun x m' => ∃ A', jx11 a b A x A' ∧ jM (k + 1) A' m') := by
  have hh := h
  have hs := jM_s hV h
  obtain ⟨hTx, hPg, c3, ss, HS, K0, R0, d⟩ := h
  exact sp_228 (mLo_P d.1.1) (fun q => ⟨A, ⟨rfl, Or.inl ⟨q, rfl⟩⟩, hs⟩) (fun f d cl m' r e1 e2 e3 e4 hf hr => ⟨A, ⟨rfl, Or.inr ⟨f, d, cl, e1, e2, e3, e4, hr⟩⟩, jM_v hV hh (fun z e q1 q2 q3 q4 q5 => hf z e (by omega))⟩)
theorem mPz_a {PL : List pCl} {PH : List (List pCl)} (h : mPz m PL ss PH HS) (hf : aKr m m') : mPz m' PL ss PH HS := by
  obtain ⟨g1, g2⟩ : (∀ (z : Nat) (e : Int), 76 ≤ z ∧ z ≤ 84 → (fun z e => if 76 ≤ z ∧ z ≤ 84 then m' z e else m z e : hy_m) z e = m' z e) ∧ ∀ (z : Nat) (e : Int), ¬ (76 ≤ z ∧ z ≤ 84) → (fun z e => if 76 ≤ z ∧ z ≤ 84 then m' z e else m z e : hy_m) z e = m z e := ⟨fun z e q => if_pos q, fun z e q => if_neg q⟩
  generalize (fun z e => if 76 ≤ z ∧ z ≤ 84 then m' z e else m z e : hy_m) = M at g1 g2
  have hz : zFr m M (fun s => s = 26) := fun z e q1 q2 q3 q4 q5 q6 q7 q8 q9 q10 => by
    by_cases c : 76 ≤ z ∧ z ≤ 84
    · rw [g1 z e c]
      exact hf z e (by omega) (by omega) (by omega) (by omega) (by unfold cEx; omega) (by omega)
    · exact g2 z e c
  have hM := mPz_z h hz (fun sl hu z => by have := usF_25 h hu; omega)
  have o : ∀ (z : Nat) (e : Int), (z = 85 ∨ z = 86 ∨ (z = 74 ∧ e = 13)) → m' z e = M z e := fun z e q => by
    rw [g2 z e (by omega)]
    exact hf z e (by omega) (by omega) (by omega) (by omega) (by unfold cEx; omega) (by omega)
  exact mPz_fr hM (fun z e q1 q2 => (g1 z e ⟨q1, q2⟩).symm) (fun e => o _ _ (by omega)) (fun e => o _ _ (by omega)) (o _ _ (by omega))
theorem aPg_a (h : aPg m) (hf : aKr m m') : aPg m' := by
  intro s hs h6
  obtain ⟨h1, h2⟩ := h s hs h6
  refine ⟨fun e q1 q2 => ?_, fun e q1 q2 => ?_⟩
  · rw [hf 79 e (by omega) (by omega) (by omega) (by omega) (by unfold cEx; omega) (by omega)]
    exact h1 e q1 q2
  · rw [hf 83 e (by omega) (by omega) (by omega) (by omega) (by unfold cEx; omega) (by omega)]
    exact h2 e q1 q2
/-- ask -/
theorem jm_12 (hV : jV k A) (h : jM k A m) : wq_276 m (fun x m' => ∃ A', jx12 A x A' ∧ jM (k + 1) A' m') := by
  obtain ⟨hTx, hPg, c3, ss, HS, K0, R0, d⟩ := h
  have hP := d.1
  refine sp_276 hTx hPg hP hV.1 (fun m1 w z1 pg hr => ⟨A, Or.inl ⟨w, hr, rfl, rfl⟩, jM_z hV hTx c3 d z1 (by decide) (fun sl hu z => by have := usF_25 hP hu; omega) pg⟩) (fun gs nv m1 m' hr z1 pg hk hA h97 => ⟨(A.1, A.2.1, A.2.2.1, some ((A.2.1, gs, nv), qask)), Or.inr ⟨gs, nv, hr, rfl, rfl⟩, ?_⟩)
  have o : ∀ (a : Nat) (e : Int), (a = 75 ∨ a = 113 ∨ a = 115 ∨ (a = 74 ∧ (e = 1 ∨ e = 64 ∨ e = 66))) → m' a e = m a e := fun a e q => (hk a e (by omega) (by omega) (by omega) (by omega) (by unfold cEx; omega) (by omega)).trans (z1 a e (by omega) (fun z => by omega) (fun z => by omega) (fun z => by omega) (fun z => by omega) (by omega) (by omega) (by omega) (by omega) (by omega))
  obtain ⟨K, R, g1, g2, g3⟩ := jMx_R hV d
  have e0 : qn qask 4 + qn qask 2 = 0 := rfl
  refine ⟨mTx_f hTx (o _ _ (by omega)) (fun e => o _ _ (by omega)), aPg_a pg hk, h97, ss, HS, K, R, mPz_a (mPz_z hP z1 (fun sl hu z => by have := usF_25 hP hu; omega)) hk, by omega, fun q => ?_, fun q hq => ?_⟩
  · have q : some ((A.2.1, gs, nv), qask) = none := q
    cases q
  · have hq : some ((A.2.1, gs, nv), qask) = some q := hq
    cases hq
    refine ⟨hA, ?_, Or.inr ⟨by omega, e0⟩⟩
    show mRd m' (K + 2411 * (qn qask 4 + qn qask 2)) (R + 3 * (qn qask 4 + qn qask 2))
    rw [e0]
    exact mRd_fr g1 (o _ _ (by omega)) (fun e => o _ _ (by omega)) (o _ _ (by omega)) (fun e => o _ _ (by omega))
/-- run -/
theorem jm_13 (hk : k ≤ 511) (hV : jV k A) (h : jM k A m) : wq_275 a m (fun x m' => ∃ A', jx13 a A x A' ∧ jM (k + 1) A' m') := by
  have hs := jM_s hV h
  obtain ⟨hTx, hPg, c3, ss, HS, K0, R0, d⟩ := h
  have hP := d.1
  cases e : A.2.2.2 with
  | none =>
    have h32 := (d.2.2.1 e).1.1 32 (by omega)
    have no : ∀ q : qE × qA, A.2.2.2 = some q → qn q.2 0 ≠ 1 ∧ qn q.2 0 ≠ 2 := fun q hq => by rw [e] at hq; cases hq
    unfold wq_275 wq_170
    refine ⟨fun q => ⟨fun z => absurd rfl z, fun _ => ⟨A, Or.inl ⟨by omega, rfl, rfl⟩, hs⟩⟩, fun q => ⟨fun q2 => ⟨fun z => absurd rfl z, fun _ => ⟨A, Or.inl ⟨by omega, rfl, rfl⟩, hs⟩⟩, fun q2 => ⟨fun _ => ⟨fun z => ?_, fun _ => ⟨fun z => ?_, fun _ => ⟨A, Or.inr ⟨⟨q, q2⟩, Or.inl ⟨no, rfl, rfl⟩⟩, hs⟩⟩⟩, fun z => absurd z (by decide)⟩⟩⟩
    · omega
    · omega
  | some q =>
    obtain ⟨g1, g2, g3, g4⟩ := hV.2.2 q.1 q.2 e
    obtain ⟨i1, i2, i3⟩ := d.2.2.2 q e
    have hR0 := d.2.1
    refine sp_275 (K0 := K0) (R0 := R0) (by rcases i3 with i3 | i3 <;> omega) (by omega) g2.1 i1 g2.2.2.2.1 i2 (by omega) ⟨by have := g2.2.2.2.2.1; omega, by have := g2.2.2.2.2.2; omega⟩ (fun z => ⟨A, Or.inl ⟨z, rfl, rfl⟩, hs⟩) (fun z1 z2 z3 z4 => ⟨A, Or.inr ⟨⟨z1, z2⟩, Or.inl ⟨fun q' hq' => ?_, rfl, rfl⟩⟩, hs⟩) (fun lim f1 f2 f3 f4 m' s1 s2 s3 => ⟨(A.1, A.2.1, A.2.2.1, some (q.1, qproc q.1 lim q.2)), Or.inr ⟨by omega, Or.inr ⟨q.1, q.2, lim, e, f4, f1, rfl, rfl⟩⟩, ?_⟩)
    · rw [e] at hq'
      cases hq'
      exact ⟨z3, z4⟩
    · have o : ∀ (a : Nat) (e : Int), (a ≤ 94 ∧ (a = 74 → e < 32)) ∨ (a = 97 ∧ 2490 ≤ e) → m' a e = m a e := fun a e q => s1 a e (by omega) (by omega)
      refine ⟨mTx_f hTx (o _ _ (by omega)) (fun e => o _ _ (by omega)), aPg_f hPg (fun e => o _ _ (by omega)) (fun e => o _ _ (by omega)), fun e e1 e2 => by rw [o 97 e (by omega)]; exact c3 e e1 e2, ss, HS, K0, R0, mPz_fr hP (fun z e q1 q2 => o z e (by omega)) (fun e => o _ _ (by omega)) (fun e => o _ _ (by omega)) (o _ _ (by omega)), by omega, fun q => ?_, fun q' hq' => ?_⟩
      · cases q
      · cases hq'
        exact ⟨s2, s3, Or.inl (by rcases i3 with i3 | i3 <;> omega)⟩
/-- stop -/
theorem jm_14 (hV : jV k A) (h : jM k A m) : wq_277 m (fun x m' => ∃ A', jx14 A x A' ∧ jM (k + 1) A' m') := by
  have hs := jM_s hV h
  obtain ⟨hTx, hPg, c3, ss, HS, K0, R0, d⟩ := h
  have hP := d.1
  unfold wq_277
  cases e : A.2.2.2 with
  | none =>
    have h32 := (d.2.2.1 e).1.1 32 (by omega)
    exact ⟨fun z => absurd h32 z, fun _ => ⟨A, Or.inl ⟨e, rfl, rfl⟩, hs⟩⟩
  | some q =>
    obtain ⟨g1, g2, g3, g4⟩ := hV.2.2 q.1 q.2 e
    obtain ⟨i1, i2, i3⟩ := d.2.2.2 q e
    have h32 := i1.2.1
    have := g2.2.2.1.1
    refine ⟨fun _ => sp_229 (fun m' f1 f2 => ⟨_, Or.inr ⟨q, e, h32, rfl⟩, ?_⟩), fun z => by omega⟩
    have o : ∀ (a : Nat) (e : Int), ((a < 95 ∨ 97 < a) ∧ (a = 74 → ¬ (32 ≤ e ∧ e ≤ 59))) → m' a e = m a e := fun a e q => f1 a e (by unfold cEx; omega)
    exact jM_p hV d ⟨o _ _ (by omega), fun e => o _ _ (by omega), o _ _ (by omega), fun e => o _ _ (by omega)⟩ (mTx_f hTx (o _ _ (by omega)) (fun e => o _ _ (by omega))) (aPg_f hPg (fun e => o _ _ (by omega)) (fun e => o _ _ (by omega))) f2 (mPz_fr hP (fun z e q1 q2 => o z e (by omega)) (fun e => o _ _ (by omega)) (fun e => o _ _ (by omega)) (o _ _ (by omega)))
theorem no_268 {Q : Int → hy_m → Prop} (h52 : m 74 52 = -9) (hq : Q 0 m) : wq_268 (m 74 52) m Q := by
  rw [h52]
  unfold wq_268 wq_268_4
  intro P hPP
  refine hPP _ _ _ ?_
  unfold wf_268_4
  exact ⟨fun _ => hq, fun z => absurd rfl z⟩
theorem no_280 {Q : Int → hy_m → Prop} (h52 : m 74 52 = -9) (hq : Q 0 m) : wq_280 a m Q := by
  unfold wq_280
  rw [h52]
  unfold wq_280_7
  intro P hPP
  refine hPP _ _ _ ?_
  unfold wf_280_7
  exact ⟨fun _ => hq, fun z => absurd rfl z⟩
theorem no_281 {Q : Int → hy_m → Prop} (h59 : m 74 59 = 0) (hq : Q 0 m) : wq_281 m Q := by
  unfold wq_281 wq_281_4
  intro P hPP
  refine hPP _ _ _ ?_
  unfold wf_281_4
  rw [h59]
  exact ⟨fun _ => hq, fun z => absurd z (by decide)⟩
/-- state -/
theorem jm_15 (hV : jV k A) (h : jM k A m) : wq_282 a m (fun x m' => ∃ A', jx15 a A x A' ∧ jM (k + 1) A' m') := by
  have hh := h
  have hs := jM_s hV h
  obtain ⟨hTx, hPg, c3, ss, HS, K0, R0, d⟩ := h
  cases e : A.2.2.2 with
  | none =>
    obtain ⟨v1, v2, v3, v4⟩ := (d.2.2.1 e).1
    have go : ∀ v : Int, v = 0 → 0 ≤ a ∧ a ≤ 12 → ∃ A', jx15 a A v A' ∧ jM (k + 1) A' m := fun v hv ha => ⟨A, ⟨rfl, Or.inl ⟨e, by rw [hv, if_pos ha]⟩⟩, hs⟩
    unfold wq_282
    refine ⟨⟨fun q => go _ (v1 _ (by omega)) (by omega), fun q => go _ (v1 _ (by omega)) (by omega), fun q => go _ (v1 _ (by omega)) (by omega), fun q => no_268 v2 (go _ rfl (by omega)), fun q => no_280 v2 (go _ rfl (by omega)), fun q => no_280 v2 (go _ rfl (by omega)), fun q => go _ (v1 _ (by omega)) (by omega), fun q => no_281 (v1 _ (by omega)) (go _ rfl (by omega)), fun q => go _ (v1 _ (by omega)) (by omega), fun q => go _ (v1 _ (by omega)) (by omega), fun q => go _ (v1 _ (by omega)) (by omega), fun q => go _ (v1 _ (by omega)) (by omega), fun q => go _ (v1 _ (by omega)) (by omega), trivial⟩, fun q => ⟨A, ⟨rfl, Or.inl ⟨e, (if_neg (by omega)).symm⟩⟩, hs⟩⟩
  | some q =>
    obtain ⟨g1, g2, g3, g4⟩ := hV.2.2 q.1 q.2 e
    exact sp_282 g2.1 (d.2.2.2 q e).1 (fun m' hf => ⟨A, ⟨rfl, Or.inr ⟨q, e, rfl⟩⟩, jM_v hV hh (fun z e q1 q2 q3 q4 q5 => hf z e (by omega))⟩)
/-- variable -/
theorem jm_16 (hV : jV k A) (h : jM k A m) : wq_285 a b m (fun x m' => ∃ A', jx16 a b A x A' ∧ jM (k + 1) A' m') := by
  have hs := jM_s hV h
  obtain ⟨hTx, hPg, c3, ss, HS, K0, R0, d⟩ := h
  cases e : A.2.2.2 with
  | none =>
    have h32 := (d.2.2.1 e).1.1 32 (by omega)
    unfold wq_285 wq_283
    exact ⟨fun _ => ⟨fun z => absurd rfl z, fun _ => ⟨A, ⟨rfl, Or.inl ⟨e, rfl⟩⟩, hs⟩⟩, fun z => absurd h32 z⟩
  | some q =>
    obtain ⟨g1, g2, g3, g4⟩ := hV.2.2 q.1 q.2 e
    have := g2.2.2.1.1
    exact sp_285 g2.1 (d.2.2.2 q e).1 (fun z => ⟨A, ⟨rfl, Or.inr ⟨q, e, Or.inl ⟨fun w => z ⟨by omega, w⟩, rfl⟩⟩⟩, hs⟩) (fun v r f1 f2 f3 f4 => ⟨A, ⟨rfl, Or.inr ⟨q, e, Or.inr ⟨v, f1, f2, f4⟩⟩⟩, hs⟩)
/-- value -/
theorem jm_17 (hV : jV k A) (h : jM k A m) : wq_297 a b m (fun x m' => ∃ A', jx17 a b A x A' ∧ jM (k + 1) A' m') := by
  have hh := h
  have hs := jM_s hV h
  obtain ⟨hTx, hPg, c3, ss, HS, K0, R0, d⟩ := h
  cases e : A.2.2.2 with
  | none =>
    have h32 := (d.2.2.1 e).1.1 32 (by omega)
    unfold wq_297 wq_283
    exact ⟨fun _ => ⟨fun _ => ⟨A, ⟨rfl, Or.inl ⟨e, rfl⟩⟩, hs⟩, fun z => absurd rfl z⟩, fun z => absurd h32 z⟩
  | some q =>
    obtain ⟨g1, g2, g3, g4⟩ := hV.2.2 q.1 q.2 e
    have := g2.2.2.1.1
    exact sp_297 g2.1 (d.2.2.2 q e).1 (fun z => ⟨A, ⟨rfl, Or.inr ⟨q, e, Or.inl ⟨fun w => z ⟨by omega, w⟩, rfl⟩⟩⟩, hs⟩) (fun v m' f1 f2 f3 f4 f5 => ⟨A, ⟨rfl, Or.inr ⟨q, e, Or.inr ⟨v, f1, f2, f4, rfl⟩⟩⟩, jM_v hV hh (fun z e q1 q2 q3 q4 q5 => f5 z e (by omega) (by omega) (by omega) (by omega))⟩)
/-- goal -/
theorem jm_18 (hV : jV k A) (h : jM k A m) : wq_298 a m (fun x m' => ∃ A', jx18 a A x A' ∧ jM (k + 1) A' m') := by
  have hh := h
  have hs := jM_s hV h
  obtain ⟨hTx, hPg, c3, ss, HS, K0, R0, d⟩ := h
  cases e : A.2.2.2 with
  | none =>
    have h52 := (d.2.2.1 e).1.2.1
    unfold wq_298
    exact ⟨fun q => ⟨fun z => absurd h52 z, fun _ => ⟨A, ⟨rfl, Or.inr (Or.inl ⟨q, e, rfl⟩)⟩, hs⟩⟩, fun q => ⟨A, ⟨rfl, Or.inl ⟨q, rfl⟩⟩, hs⟩⟩
  | some q =>
    obtain ⟨g1, g2, g3, g4⟩ := hV.2.2 q.1 q.2 e
    exact sp_298 g2.1 (d.2.2.2 q e).1.1 g3 (fun z => ⟨A, ⟨rfl, Or.inl ⟨z, rfl⟩⟩, hs⟩) (fun z1 z2 => ⟨A, ⟨rfl, Or.inr (Or.inr ⟨z1, q, e, Or.inl ⟨z2, rfl⟩⟩)⟩, hs⟩) (fun f r m' z1 z2 z3 => ⟨A, ⟨rfl, Or.inr (Or.inr ⟨z1, q, e, Or.inr ⟨f, r, z2, rfl⟩⟩)⟩, jM_v hV hh (fun z e q1 q2 q3 q4 q5 => z3 z e (by omega) (by omega) (by omega) (by omega))⟩)
/-- frame -/
theorem jm_19 (hV : jV k A) (h : jM k A m) : wq_300 a b m (fun x m' => ∃ A', jx19 a b A x A' ∧ jM (k + 1) A' m') := by
  have hh := h
  have hs := jM_s hV h
  obtain ⟨hTx, hPg, c3, ss, HS, K0, R0, d⟩ := h
  cases e : A.2.2.2 with
  | none =>
    have h52 := (d.2.2.1 e).1.2.1
    have no : ∃ A', jx19 a b A (-1) A' ∧ jM (k + 1) A' m := ⟨A, ⟨rfl, Or.inl ⟨e, rfl⟩⟩, hs⟩
    unfold wq_300
    exact ⟨fun _ => no, fun q => no_268 h52 ⟨fun z => by omega, fun _ => no⟩⟩
  | some q =>
    obtain ⟨g1, g2, g3, g4⟩ := hV.2.2 q.1 q.2 e
    exact sp_300 g2.1 (d.2.2.2 q e).1.1 (fun m' hf => ⟨A, ⟨rfl, Or.inr ⟨q, e, rfl⟩⟩, jM_v hV hh (fun z e q1 q2 q3 q4 q5 => hf z e (by omega))⟩)
/-- choice -/
theorem jm_20 (hV : jV k A) (h : jM k A m) : wq_302 a b m (fun x m' => ∃ A', jx20 a b A x A' ∧ jM (k + 1) A' m') := by
  have hs := jM_s hV h
  obtain ⟨hTx, hPg, c3, ss, HS, K0, R0, d⟩ := h
  cases e : A.2.2.2 with
  | none =>
    have h59 := (d.2.2.1 e).1.1 59 (by omega)
    have no : ∃ A', jx20 a b A (-1) A' ∧ jM (k + 1) A' m := ⟨A, ⟨rfl, Or.inl ⟨e, rfl⟩⟩, hs⟩
    unfold wq_302
    rw [h59]
    exact ⟨fun _ => no, fun q => ⟨fun z => by omega, fun _ => no⟩⟩
  | some q =>
    obtain ⟨g1, g2, g3, g4⟩ := hV.2.2 q.1 q.2 e
    exact sp_302 g2.1 (d.2.2.2 q e).1.1 ⟨A, ⟨rfl, Or.inr ⟨q, e, rfl⟩⟩, hs⟩
end JP
