/-! THE CLASS'S SEARCH: choices are kept, changed; a query ends -/
section CY
variable {E : qE} {l l' TI TI' TL : List Nat} {F : Nat → Prop} {T T' : hy_T} {m m' m1 m2 : hy_m} {Z Z' : cZ} {N N' n u n' u' k n0 u0 K J : Nat} {A A' : qA} {B B' : bM} {s s' : Nat → pE} {Q : sQ}
theorem cCc_tr : ∀ C : List qC, cCc E Z N m l TI B C → ∀ c ∈ C, c.2.2.2.1.2.1 ≤ TI.length
  | [], _, c, hc => by cases hc
  | x :: r, h, c, hc => by
    rcases List.mem_cons.mp hc with rfl | hc
    · exact h.2.1.1
    · exact cCc_tr r h.2.2.2.2 c hc
theorem cCc_drop : ∀ (C : List qC) (k : Nat), cCc E Z N m l TI B C → cCc E Z N m l TI B (C.drop k)
  | [], _, h => by rw [List.drop_nil]; exact h
  | c :: r, 0, h => h
  | c :: r, k + 1, h => cCc_drop r k h.2.2.2.2
/-- keepChoices, and choices above may have changed -/
theorem keep_sc {k : Nat} (hk : ∀ c ∈ qh A, c.2.2.2.1.1 ≤ (qi A).length) (hkl : k ≤ (qh A).length) (hS : cSe E F Z N T m A) (hf : ∀ (a : Nat) (e : Int), ¬ (a = 36 ∧ e = 8) → ¬ (a = 41 ∧ e = 7) → (∀ j, k ≤ j → (zC Z)[j]? ≠ some a) → m' a e = m a e) (h8 : m' 36 8 = k) (h70 : k = 0 → m' 41 7 = 0) (h7 : ∀ (j cc : Nat), j + 1 = k → (zC Z)[j]? = some cc → m' 41 7 = m' cc 3) : cSe E F Z N T m' (qkeep A k) := by
  obtain ⟨hP, hNm, ⟨h3, h5, h8', hch⟩, B, TI, ⟨d1, ⟨TL, dt, dl, dv⟩, d4, d5, d6, d7⟩, hRes, hTI⟩ := hS
  have hO := hP.2.2.2.2.1
  have hzc : ∀ {a : Nat}, a ∉ zC Z → ∀ j, k ≤ j → (zC Z)[j]? ≠ some a := fun q j _ z => q (List.mem_of_getElem? z)
  have hnc : ∀ {a : Nat} {e : Int}, a ∉ zC Z → ¬ (a = 36 ∧ e = 8) → ¬ (a = 41 ∧ e = 7) → m' a e = m a e := fun q1 q2 q3 => hf _ _ q2 q3 (hzc q1)
  have hP' : cPr E F T m' Z (qi A) := cPr_s hP (fun a e q => hnc (fun z => q (by unfold kEx; simp [z])) (fun z => q (Or.inl z.1)) (fun z => q (by unfold kEx; omega)))
  have nzC : ∀ a, (∃ tg nn, T.1 a = some (tg, nn) ∧ tg ≠ 2) → a ∉ zC Z := fun a ⟨tg, nn, q1, q2⟩ q3 => by
    have := (zC_tag hO q3).1
    rw [q1] at this
    injection this with this
    injection this with this
    exact q2 this
  have small : ∀ a : Nat, a < 74 → a ∉ zC Z := fun a q1 q2 => by
    have := (zC_tag hO q2).2.1
    omega
  obtain ⟨zz1, zz2, zz3, zz4, zz5, zz6, zz7⟩ := cRo_z hP.1
  have hyt := (hP.1.1.2 (yt (zU Z)) (by unfold rwL; simp)).1
  have t4 := hP.1.2.2.2.2.2.1.2
  have tt := hP.1.2.2.2.2.2.2.1.2.2.2.2.2.2
  have r4 : ∀ e, m' (z4 Z) e = m (z4 Z) e := fun e => hnc (nzC _ ⟨_, _, t4, by decide⟩) (by omega) (by omega)
  have rt : ∀ e, m' (yt (zU Z)) e = m (yt (zU Z)) e := fun e => hnc (nzC _ ⟨_, _, tt, by decide⟩) (by omega) (by omega)
  have hFc : ∀ b z, F b → m' b z = m b z := fun b z hb => hnc (fun q => (zC_tag hO q).2.2 hb) (by have := hP.1.2.1 b hb; omega) (by have := hP.1.2.1 b hb; omega)
  have h46 : ∀ j : Nat, j < N → m' 46 (j : Int) = m 46 (j : Int) := fun j _ => hnc (small _ (by decide)) (by omega) (by omega)
  have hTE : ∀ k', k' ≤ (qi A).length → tE (zX Z k' N) m (zX Z k' N) m' := fun k' hk' => tE_s hP hP' hk' hk' (fun _ q => q) hFc h46 (Nat.le_refl _)
  have hFr : ∀ (j c' : Nat), (zF Z)[j]? = some c' → ∀ z, m' c' z = m c' z := fun j c' q z => by
    have ht := hO.1.2.1 j c' q
    exact hnc (nzC _ ⟨_, _, ht.2.1, by decide⟩) (by have := ht.2.2.1; omega) (by have := ht.2.2.1; omega)
  have hCr : ∀ (j c' : Nat), j < k → (zC Z)[j]? = some c' → ∀ z, m' c' z = m c' z := fun j c' hj q z => by
    have ht := hO.2.2.1 j c' q
    refine hf c' z (by have := ht.2.2.1; omega) (by have := ht.2.2.1; omega) (fun j' q1 q2 => ?_)
    have hi := (List.getElem?_eq_some_iff.mp q).1
    have : j = j' := (List.getElem?_inj hi hO.2.2.2.2).mp (by rw [q, q2])
    omega
  have hlen : ((qh A).drop ((qh A).length - k)).length = k := by rw [List.length_drop]; omega
  refine ⟨hP', cNm_fr (A := A) hNm (fun e q1 q2 => hnc (small _ (by decide)) (by omega) (by omega)) (fun e => hnc (small _ (by decide)) (by omega) (by omega)) (fun e => hnc (small _ (by decide)) (by omega) (by omega)), ⟨?_, ?_, h8', ?_⟩, B, TI, ⟨⟨fun i n q1 q2 => ?_, fun v hv => d1.2 v hv⟩, ⟨TL, ⟨?_, fun i hi => ?_, dt.2.2.1, fun e he => ⟨(dt.2.2.2 e he).1, ?_⟩⟩, dl, dv⟩, d4, ?_, ?_, ?_⟩, hRes, hTI⟩
  · rw [hnc (small _ (by decide)) (by omega) (by omega)]; exact h3
  · rw [hnc (small _ (by decide)) (by omega) (by omega)]; exact h5
  · rw [show m' 36 6 = m 36 6 from hnc (small _ (by decide)) (by omega) (by omega)]
    exact cCh_mo (hTE _ (Nat.le_refl _)) (Nat.le_refl _) (fun _ q => q) _ _ _ (fun j c' _ q => ⟨q, hFr j c' q⟩) hch
  · show (_ ∧ m' (z4 Z) _ = -1) ∨ ∃ t, _ ∧ m' (z4 Z) _ ≠ -1 ∧ cTm _ m' (m' (z4 Z) _) t ∧ _
    rw [r4]
    rcases d1.1 i n q1 q2 with q | ⟨t, b1, b2, b3, b4⟩
    · exact Or.inl q
    · exact Or.inr ⟨t, b1, b2, hTE _ (Nat.le_refl _) _ _ b3, b4⟩
  · rw [hnc (small _ (by decide)) (by omega) (by omega)]; exact dt.1
  · show m' (yt (zU Z)) _ = _
    rw [rt]; exact dt.2.1 i hi
  · show m' (z4 Z) _ ≠ -1
    rw [r4]; exact (dt.2.2.2 e he).2
  · have d5' := cCc_drop (qh A) ((qh A).length - k) d5
    refine cCc_mo (Z := Z) (Z' := Z) _ (fun j cc q1 q2 => ⟨q2, hCr j cc (by have e : (qh (qkeep A k)).length = k := hlen; omega) q2⟩) (fun c hc => ?_) d5'
    have hc' := List.mem_of_mem_drop hc
    exact ⟨fun j c' _ q => ⟨q, hFr j c' q⟩, rfl, hTE _ (hk c hc'), rfl, ⟨cCc_tr _ d5 c hc', rfl⟩, rfl, fun i n _ _ _ => r4 _⟩
  · show m' 36 8 = (((qh A).drop ((qh A).length - k)).length : Nat)
    rw [hlen]; exact h8
  · show m' 41 7 = (match (qh A).drop ((qh A).length - k) with
      | [] => 0
      | c :: _ => (c.2.2.2.1.1 : Int) + 2)
    have d5' := cCc_drop (qh A) ((qh A).length - k) d5
    cases he : (qh A).drop ((qh A).length - k) with
    | nil =>
      rw [he] at hlen
      exact h70 hlen.symm
    | cons c r =>
      rw [he] at hlen d5'
      simp only [List.length_cons] at hlen
      obtain ⟨⟨cc, h1, ⟨h2, -⟩, -⟩, -⟩ := d5'
      dsimp only
      rw [h7 r.length cc hlen h1, hCr r.length cc (by omega) h1]
      exact h2
/-- the newest choice has fewer candidates -/
theorem left_sc {c : qC} {r : List qC} {cc : Nat} {L : List Nat} {g : pE} (hk : ∀ c ∈ qh A, c.2.2.2.1.1 ≤ (qi A).length) (he : qh A = c :: r) (hS : cSe E F Z N T m A) (hcc : (zC Z)[r.length]? = some cc) (hf : ∀ (a : Nat) (e : Int), ¬ (a = cc ∧ e = 2) → m' a e = m a e) (hg : c.1 = some g) (hb : bS (m' cc 2) (fun v => decide (v ∈ L))) : cSe E F Z N T m' (qcs A ((c.1, L, c.2.2) :: r)) := by
  obtain ⟨hP, hNm, ⟨h3, h5, h8', hch⟩, B, TI, ⟨d1, ⟨TL, dt, dl, dv⟩, d4, d5, d6, d7⟩, hRes, hTI⟩ := hS
  have hO := hP.2.2.2.2.1
  have hct := zC_tag hO (List.mem_of_getElem? hcc)
  have hnc : ∀ {a : Nat} {e : Int}, a ≠ cc → m' a e = m a e := fun q => hf _ _ (fun z => q z.1)
  have hP' : cPr E F T m' Z (qi A) := cPr_s hP (fun a e q => hnc (fun z => q (by unfold kEx; simp [z, List.mem_of_getElem? hcc])))
  have nzC : ∀ a, (∃ tg nn, T.1 a = some (tg, nn) ∧ tg ≠ 2) → a ≠ cc := fun a ⟨tg, nn, q1, q2⟩ q3 => by
    have := hct.1
    rw [← q3, q1] at this
    injection this with this
    injection this with this
    exact q2 this
  have small : ∀ a : Nat, a < 74 → a ≠ cc := fun a q1 => by
    have := hct.2.1
    omega
  have t4 := hP.1.2.2.2.2.2.1.2
  have tt := hP.1.2.2.2.2.2.2.1.2.2.2.2.2.2
  have r4 : ∀ e, m' (z4 Z) e = m (z4 Z) e := fun e => hnc (nzC _ ⟨_, _, t4, by decide⟩)
  have rt : ∀ e, m' (yt (zU Z)) e = m (yt (zU Z)) e := fun e => hnc (nzC _ ⟨_, _, tt, by decide⟩)
  have hFc : ∀ b z, F b → m' b z = m b z := fun b z hb => hnc (fun q => hct.2.2 (q ▸ hb))
  have h46 : ∀ j : Nat, j < N → m' 46 (j : Int) = m 46 (j : Int) := fun j _ => hnc (small _ (by decide))
  have hTE : ∀ k', k' ≤ (qi A).length → tE (zX Z k' N) m (zX Z k' N) m' := fun k' hk' => tE_s hP hP' hk' hk' (fun _ q => q) hFc h46 (Nat.le_refl _)
  have hFr : ∀ (j c' : Nat), (zF Z)[j]? = some c' → ∀ z, m' c' z = m c' z := fun j c' q z => by
    have ht := hO.1.2.1 j c' q
    exact hnc (nzC _ ⟨_, _, ht.2.1, by decide⟩)
  have hCr : ∀ (j c' : Nat), j < r.length → (zC Z)[j]? = some c' → ∀ z, m' c' z = m c' z := fun j c' hj q z => by
    refine hnc (fun q3 => ?_)
    have hi := (List.getElem?_eq_some_iff.mp q).1
    have : j = r.length := (List.getElem?_inj hi hO.2.2.2.2).mp (by rw [q, hcc, q3])
    omega
  rw [he] at d5 d6 d7 hk
  refine ⟨hP', cNm_fr (A := A) hNm (fun e q1 q2 => hnc (small _ (by decide))) (fun e => hnc (small _ (by decide))) (fun e => hnc (small _ (by decide))), ⟨?_, ?_, h8', ?_⟩, B, TI, ⟨⟨fun i n q1 q2 => ?_, fun v hv => d1.2 v hv⟩, ⟨TL, ⟨?_, fun i hi => ?_, dt.2.2.1, fun e he => ⟨(dt.2.2.2 e he).1, ?_⟩⟩, dl, dv⟩, d4, ?_, ?_, ?_⟩, hRes, hTI⟩
  · rw [hnc (small _ (by decide))]; exact h3
  · rw [hnc (small _ (by decide))]; exact h5
  · rw [show m' 36 6 = m 36 6 from hnc (small _ (by decide))]
    exact cCh_mo (hTE _ (Nat.le_refl _)) (Nat.le_refl _) (fun _ q => q) _ _ _ (fun j c' _ q => ⟨q, hFr j c' q⟩) hch
  · show (_ ∧ m' (z4 Z) _ = -1) ∨ ∃ t, _ ∧ m' (z4 Z) _ ≠ -1 ∧ cTm _ m' (m' (z4 Z) _) t ∧ _
    rw [r4]
    rcases d1.1 i n q1 q2 with q | ⟨t, b1, b2, b3, b4⟩
    · exact Or.inl q
    · exact Or.inr ⟨t, b1, b2, hTE _ (Nat.le_refl _) _ _ b3, b4⟩
  · rw [hnc (small _ (by decide))]; exact dt.1
  · show m' (yt (zU Z)) _ = _
    rw [rt]; exact dt.2.1 i hi
  · show m' (z4 Z) _ ≠ -1
    rw [r4]; exact (dt.2.2.2 e he).2
  · have hc0 := hk c (List.mem_cons_self ..)
    obtain ⟨⟨cc', h1, ⟨h2, h3', h4⟩, h5', h6⟩, ⟨h7, h8⟩, h9, h10, h11⟩ := d5
    rw [hcc] at h1
    injection h1 with h1
    subst h1
    have rest : cCc E Z N m' (qi A) TI B r := cCc_mo (Z := Z) (Z' := Z) _ (fun j cc q1 q2 => ⟨q2, hCr j cc q1 q2⟩) (fun c' hc' => ⟨fun j c' _ q => ⟨q, hFr j c' q⟩, rfl, hTE _ (hk c' (List.mem_cons_of_mem _ hc')), rfl, ⟨cCc_tr _ h11 c' hc', rfl⟩, rfl, fun i n _ _ _ => r4 _⟩) h11
    rw [hg] at h5'
    refine ⟨⟨cc, hcc, ⟨?_, ?_, ?_⟩, ?_, ?_⟩, ⟨h7, h8⟩, h9, fun i n t q1 q2 q3 => ?_, rest⟩
    · rw [hf cc 3 (fun z => absurd z.2 (by decide))]; exact h2
    · rw [hf cc 4 (fun z => absurd z.2 (by decide))]; exact h3'
    · rw [hf cc 5 (fun z => absurd z.2 (by decide))]; exact h4
    · rw [hg]
      dsimp only
      rw [hf cc 1 (fun z => absurd z.2 (by decide))]
      exact ⟨hb, cFg_mo (hTE _ hc0) (Nat.le_refl _) (fun _ q => q) h5'.2⟩
    · rw [hf cc 0 (fun z => absurd z.2 (by decide))]
      exact cCh_mo (hTE _ hc0) (Nat.le_refl _) (fun _ q => q) _ _ _ (fun j c' _ q => ⟨q, hFr j c' q⟩) h6
    · obtain ⟨b1, b2⟩ := h10 i n t q1 q2 q3
      rw [r4]
      exact ⟨hTE _ hc0 _ _ b1, b2⟩
  · rw [hnc (small _ (by decide))]
    exact d6
  · rw [hnc (small _ (by decide))]
    exact d7
/-- finish -/
theorem fin_sc {st er : Nat} (hP : cPr E F T m Z (qi A)) (hNm : cNm m A) : cSe E F (zTk Z 0) N T (cFin m (z4 Z) st er) (qfin A st er) ∧ (∀ (a : Nat) (e : Int), ¬ (a = 36 ∧ (e = 5 ∨ e = 6 ∨ e = 8 ∨ e = 10 ∨ e = 11)) → ¬ (a = 41 ∧ (e = 3 ∨ e = 6 ∨ e = 7)) → a ≠ z4 Z → cFin m (z4 Z) st er a e = m a e) ∧ cFin m (z4 Z) st er 36 10 = st ∧ cFin m (z4 Z) st er 36 11 = er := by
  obtain ⟨zz1, zz2, zz3, zz4, zz5, zz6, zz7⟩ := cRo_z hP.1
  have hf : ∀ (a : Nat) (e : Int), ¬ (a = 36 ∧ (e = 5 ∨ e = 6 ∨ e = 8 ∨ e = 10 ∨ e = 11)) → ¬ (a = 41 ∧ (e = 3 ∨ e = 6 ∨ e = 7)) → a ≠ z4 Z → cFin m (z4 Z) st er a e = m a e := fun a e q1 q2 q3 => cFin_o q1 q2 (fun z => q3 z.1)
  have v10 : cFin m (z4 Z) st er 36 10 = st := by
    unfold cFin
    rw [hy_ua (by decide), hy_ua (by decide), hy_ua (by decide), mFill_o (by omega), hy_uk (by decide), hy_uk (by decide), hy_uk (by decide), hy_uk (by decide), hy_us]
  have v11 : cFin m (z4 Z) st er 36 11 = er := by
    unfold cFin
    rw [hy_ua (by decide), hy_ua (by decide), hy_ua (by decide), mFill_o (by omega), hy_uk (by decide), hy_uk (by decide), hy_uk (by decide), hy_us]
  have v6 : cFin m (z4 Z) st er 36 6 = 0 := by
    unfold cFin
    rw [hy_ua (by decide), hy_ua (by decide), hy_ua (by decide), mFill_o (by omega), hy_uk (by decide), hy_uk (by decide), hy_us]
  have v5 : cFin m (z4 Z) st er 36 5 = 0 := by
    unfold cFin
    rw [hy_ua (by decide), hy_ua (by decide), hy_ua (by decide), mFill_o (by omega), hy_uk (by decide), hy_us]
  have v8 : cFin m (z4 Z) st er 36 8 = 0 := by
    unfold cFin
    rw [hy_ua (by decide), hy_ua (by decide), hy_ua (by decide), mFill_o (by omega), hy_us]
  have v3 : cFin m (z4 Z) st er 41 3 = 2 := by
    unfold cFin
    rw [hy_uk (by decide), hy_uk (by decide), hy_us]
  have v46 : cFin m (z4 Z) st er 41 6 = 0 := by
    unfold cFin
    rw [hy_uk (by decide), hy_us]
  have v7 : cFin m (z4 Z) st er 41 7 = 0 := hy_us _ _ _ _
  have vb : ∀ e : Int, 0 ≤ e → e < 8 → cFin m (z4 Z) st er (z4 Z) e = -1 := fun e q1 q2 => by
    unfold cFin
    rw [hy_ua (by omega), hy_ua (by omega), hy_ua (by omega), mFill_s ⟨q1, q2⟩]
  refine ⟨?_, hf, v10, v11⟩
  generalize cFin m (z4 Z) (st : Int) (er : Int) = M at hf v10 v11 v6 v5 v8 v3 v46 v7 vb
  have hP1 : cPr E F T M Z (qi A) := cPr_s hP (fun a e q => hf a e (fun z => q (Or.inl z.1)) (fun z => q (by unfold kEx; omega)) (fun z => q (by unfold kEx; simp [z])))
  have hP2 := cPr_tk hP1 (k := 0) (Nat.zero_le _)
  rw [List.take_zero] at hP2
  refine ⟨hP2, ?_, ⟨?_, ?_, Nat.zero_le _, ?_⟩, fun _ => none, [], ⟨⟨fun i n q1 q2 => Or.inl ⟨rfl, ?_⟩, fun _ _ => rfl⟩, ⟨[], ⟨?_, fun i hi => absurd hi (Nat.not_lt_zero _), List.nodup_nil, fun e he => by cases he⟩, rfl, fun k e w q => by cases q⟩, (fun w hw => by cases hw), trivial, ?_, ?_⟩, fun x => ⟨fun _ => rfl, (fun t e => by cases e)⟩, rfl⟩
  · exact cNm_fr (A := A) hNm (fun e q1 q2 => hf _ _ (by omega) (by omega) (by omega)) (fun e => hf _ _ (by omega) (by omega) (by omega)) (fun e => hf _ _ (by omega) (by omega) (by omega))
  · show M 41 3 = ((0 : Nat) : Int) + 2
    rw [v3]; rfl
  · show M 36 5 = ((0 : Nat) : Int)
    rw [v5]; rfl
  · show M 36 6 = 0
    exact v6
  · have hi0 : i = 0 := by
      obtain ⟨e, he, rfl⟩ := q1
      have hI := wIs_tk hP2.2.2.2.1 0 (Nat.zero_le _)
      rcases wIs_at hI he with ⟨-, g, -⟩ | ⟨j, c, cl, g, -⟩
      · exact g
      · cases g
    have h8 := ((zX_uPr hP2 N).2.1.2.2.2.2.2 i q1).2.2.2.1
    have q2 : n < xV (zX (zTk Z 0) ([] : List Nat).length N) i := q2
    show M (z4 Z) _ = -1
    exact vb _ (by omega) (by omega)
  · show M 41 6 = ((0 : Nat) : Int)
    rw [v46]; rfl
  · show M 36 8 = ((0 : Nat) : Int)
    rw [v8]; rfl
  · exact v7
theorem sp_fin {st er : Nat} {Q : Int → hy_m → Prop} (hP : cPr E F T m Z (qi A)) (hNm : cNm m A) (hOk : zOk n0 u0 Z T n u) (hCt : cCt m A K J) (hq : ∀ m', zSp F T m T m' → zOk n0 u0 (zTk Z 0) T n u → cSe E F (zTk Z 0) N T m' (qfin A st er) → cCt m' (qfin A st er) K J → Q 0 m') : wq_88 (st : Int) (er : Int) T m Q := by
  have h4 := hP.1.2.2.2.2.2.1
  obtain ⟨g1, g2, g3, g4⟩ := fin_sc (N := N) (st := st) (er := er) hP hNm
  have hz := hP.1.2.2.1
  refine sp_88 (b := z4 Z) h4.1 h4.2 (by omega) (by omega) (hq _ ⟨fun _ _ q => q, fun a e q => ?_⟩ hOk g1 ⟨⟨g3, g4⟩, ?_, ?_⟩)
  · have hk := kFs_F hP q
    exact g2 a e (fun z => hk.2.2.2.1 z.1) (fun z => hk.2.2.2.2.2.2.2.2.1 z.1) (fun z => hk.2.2.2.2.2.2.2.2.2.2.2.2 (by rw [z]; unfold rwL; simp))
  · have h47 := (hP.1.1.2 (z4 Z) (by unfold rwL; simp)).2.2.1
    rw [g2 47 _ (by omega) (by omega) (fun z => h47 z.symm)]
    exact hCt.2.1
  · have h53 := (hP.1.1.2 (z4 Z) (by unfold rwL; simp)).2.2.2.1
    rw [g2 53 _ (by omega) (by omega) (fun z => h53 z.symm)]
    exact hCt.2.2
end CY
