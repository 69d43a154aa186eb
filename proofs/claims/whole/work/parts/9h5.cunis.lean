/-! THE CLASS'S SEARCH: a unification -/
section CV
variable {E : qE} {l l' TI TI' TL : List Nat} {F : Nat → Prop} {T T' : hy_T} {m m' : hy_m} {Z Z' : cZ} {N N' : Nat} {A : qA} {B B' : bM} {s s' : Nat → pE} {P P' : Nat} {Q : Int → hy_m → Prop}
/-- the unifier's rows -/
theorem urw_no (h : cRo F T m Z) {a k N : Nat} (ha : uRw (zX Z k N) (zU Z) a) : 42 ≤ a ∧ a ≠ 46 ∧ a ≠ 47 ∧ a ≠ 53 ∧ ¬ (69 ≤ a ∧ a ≤ 73) ∧ ¬ F a ∧ a ≠ z1 Z ∧ a ≠ z2 Z ∧ a ≠ (zV Z).1 ∧ a ≠ (zV Z).2 ∧ ∃ n, T.1 a = some (100, n) := by
  obtain ⟨⟨hn, hb⟩, hf, h3, h4, h5, h6, ⟨h71, h72, h73, h74, h75, h76⟩, -⟩ := h
  have hb' : ∀ b, b = z1 Z ∨ b = z2 Z ∨ b = z4 Z ∨ b = yj (zU Z) ∨ b = yq (zU Z) ∨ b = ys (zU Z) ∨ b = yp (zU Z) ∨ b = ym (zU Z) ∨ b = yt (zU Z) ∨ b = (zV Z).1 ∨ b = (zV Z).2 → 42 ≤ b ∧ b ≠ 46 ∧ b ≠ 47 ∧ b ≠ 53 ∧ ¬ (69 ≤ b ∧ b ≤ 73) ∧ ¬ F b := fun b q => hb b (by
    unfold rwL
    simp only [List.mem_cons, List.not_mem_nil, or_false]
    exact q)
  unfold rwL at hn
  simp only [List.nodup_cons, List.mem_cons, List.not_mem_nil, or_false, not_or, List.nodup_nil, and_true, not_false_eq_true] at hn
  obtain ⟨⟨n1, n2, n3, n4, n5, n6, n7, n8, n9, n10⟩, ⟨p1, p2, p3, p4, p5, p6, p7, p8, p9⟩, ⟨r1, r2, r3, r4, r5, r6, r7, r8⟩, ⟨s1, s2, s3, s4, s5, s6, s7⟩, ⟨t1, t2, t3, t4, t5, t6⟩, ⟨u1, u2, u3, u4, u5⟩, ⟨v1, v2, v3, v4⟩, ⟨w1, w2, w3⟩, ⟨x1, x2⟩, y1⟩ := hn
  rcases ha with rfl | rfl | rfl | rfl | rfl | rfl | ha
  · obtain ⟨b1, b2, b3, b4, b5, b6⟩ := hb' (yj (zU Z)) (by simp only [true_or, or_true])
    exact ⟨b1, b2, b3, b4, b5, b6, Ne.symm n3, Ne.symm p2, s6, s7, _, h71.2⟩
  · obtain ⟨b1, b2, b3, b4, b5, b6⟩ := hb' (yq (zU Z)) (by simp only [true_or, or_true])
    exact ⟨b1, b2, b3, b4, b5, b6, Ne.symm n4, Ne.symm p3, t5, t6, _, h72.2⟩
  · obtain ⟨b1, b2, b3, b4, b5, b6⟩ := hb' (ys (zU Z)) (by simp only [true_or, or_true])
    exact ⟨b1, b2, b3, b4, b5, b6, Ne.symm n5, Ne.symm p4, u4, u5, _, h73.2⟩
  · obtain ⟨b1, b2, b3, b4, b5, b6⟩ := hb' (yp (zU Z)) (by simp only [true_or, or_true])
    exact ⟨b1, b2, b3, b4, b5, b6, Ne.symm n6, Ne.symm p5, v3, v4, _, h74.2⟩
  · obtain ⟨b1, b2, b3, b4, b5, b6⟩ := hb' (ym (zU Z)) (by simp only [true_or, or_true])
    exact ⟨b1, b2, b3, b4, b5, b6, Ne.symm n7, Ne.symm p6, w2, w3, _, h75.2⟩
  · obtain ⟨b1, b2, b3, b4, b5, b6⟩ := hb' (yt (zU Z)) (by simp only [true_or, or_true])
    exact ⟨b1, b2, b3, b4, b5, b6, Ne.symm n8, Ne.symm p7, x1, x2, _, h76.2⟩
  · have ha : a = z4 Z := ha
    subst ha
    obtain ⟨b1, b2, b3, b4, b5, b6⟩ := hb' (z4 Z) (by simp only [true_or, or_true])
    exact ⟨b1, b2, b3, b4, b5, b6, Ne.symm n2, Ne.symm p1, r7, r8, _, h6.2⟩
/-- cells that no unification touches -/
theorem uFx_c (h : cRo F T m Z) {k N : Nat} (hu : uFx (zX Z k N) (zU Z) m m') {a : Nat} (ha : (a < 41 ∨ (42 ≤ a ∧ F a)) ∨ a = 46 ∨ a = 53 ∨ a = z1 Z ∨ a = z2 Z ∨ a = (zV Z).1 ∨ a = (zV Z).2 ∨ T.1 a = some (4, 5) ∨ T.1 a = some (2, 6)) (h41 : a ≠ 41) (h47 : a ≠ 47) (e : Int) : m' a e = m a e := by
  refine hu a e (fun q => ?_) (fun q => h41 q.1) (fun q => h47 q.1)
  obtain ⟨b1, b2, b3, b4, b5, b6, b7, b8, b9, b10, n, b11⟩ := urw_no h q
  rcases ha with ha | ha | ha | ha | ha | ha | ha | ha | ha
  · rcases ha with ha | ha
    · omega
    · exact b6 ha.2
  · exact b2 ha
  · exact b4 ha
  · exact b7 ha
  · exact b8 ha
  · exact b9 ha
  · exact b10 ha
  · rw [b11] at ha
    injection ha with ha
    injection ha with ha
    omega
  · rw [b11] at ha
    injection ha with ha
    injection ha with ha
    omega
theorem cRo_fc (h : cRo F T m Z) {a : Nat} (ha : F a) : a ≠ 41 ∧ a ≠ 47 := by
  have := h.2.1 a ha
  omega
theorem cRo_z (h : cRo F T m Z) : 42 ≤ z1 Z ∧ z1 Z ≠ 47 ∧ 42 ≤ z2 Z ∧ z2 Z ≠ 47 ∧ 42 ≤ (zV Z).2 ∧ (zV Z).2 ≠ 47 ∧ 42 ≤ z4 Z := by
  have hb := h.1.2
  have q1 := hb (z1 Z) (by unfold rwL; simp)
  have q2 := hb (z2 Z) (by unfold rwL; simp)
  have q3 := hb (zV Z).2 (by unfold rwL; simp)
  have q4 := hb (z4 Z) (by unfold rwL; simp)
  exact ⟨q1.1, q1.2.2.1, q2.1, q2.2.2.1, q3.1, q3.2.2.1, q4.1⟩
theorem cPr_u {k : Nat} (hP : cPr E F T m Z l) {l0 : List Nat} (hZ : uZ (zX Z k N) (zU Z) m B l0 m' B') : cPr E F T m' Z l := by
  obtain ⟨z01, z02, z03, z04, z05, z06, z07, z08, z09, z10⟩ := hZ
  obtain ⟨hR, p2, p3, p4, p5, p6⟩ := hP
  have nr : ∀ a e, ((a < 41 ∨ (42 ≤ a ∧ F a)) ∨ a = 46 ∨ a = 53 ∨ a = z1 Z ∨ a = z2 Z ∨ a = (zV Z).1 ∨ a = (zV Z).2 ∨ T.1 a = some (4, 5) ∨ T.1 a = some (2, 6)) → a ≠ 41 → a ≠ 47 → m' a e = m a e := fun a e q1 q2 q3 => uFx_c hR z01 q1 q2 q3 e
  have hFc : ∀ b z, F b → m' b z = m b z := fun b z hb => by
    have h2 := hR.2.1 b hb
    refine nr b z (Or.inl ?_) (by omega) (by omega)
    rcases h2 with h2 | h2
    · exact Or.inl (by omega)
    · exact Or.inr ⟨by omega, hb⟩
  have n41 : ∀ e : Int, e ≠ 6 → m' 41 e = m 41 e := fun e he => z01 41 e (fun q => by have := (urw_no hR q).1; omega) (fun q => he q.2) (fun q => absurd q.1 (by decide))
  have n47 : ∀ e : Int, ¬ (e = 3 ∨ e = 5 ∨ e = 7 ∨ e = 9 ∨ e = 10) → m' 47 e = m 47 e := fun e he => z01 47 e (fun q => (urw_no hR q).2.2.1 rfl) (fun q => absurd q.1 (by decide)) (fun q => he q.2)
  obtain ⟨zz1, zz2, zz3, zz4, zz5, zz6, -⟩ := cRo_z hR
  have n53 : ∀ e, m' 53 e = m 53 e := fun e => nr 53 e (by simp) (by decide) (by decide)
  refine ⟨?_, cPo_fr p2 (fun _ q => q) (fun _ _ q => q) (fun b e q => ?_), p3, wIs_fr p4 (fun _ _ q => q) hFc (fun z _ _ _ => nr _ z (by simp) (by omega) zz2) (fun z _ _ _ => nr _ z (by simp) (by omega) zz4), ?_, cGd_fr p6 (fun _ _ q => q) (fun e => nr _ e (by simp) (by omega) zz2) (n41 _ (by decide))⟩
  · obtain ⟨r1, r2, r3, r4, r5, r6, r7, r8, r9, r10, r11⟩ := hR
    refine ⟨r1, r2, r3, ⟨by rw [n41 _ (by decide)]; exact r4.1, r4.2⟩, ⟨by rw [n41 _ (by decide)]; exact r5.1, r5.2⟩, ⟨by rw [n41 _ (by decide)]; exact r6.1, r6.2⟩, ⟨⟨by rw [n47 _ (by decide)]; exact r7.1.1, r7.1.2⟩, ⟨by rw [n47 _ (by decide)]; exact r7.2.1.1, r7.2.1.2⟩, ⟨by rw [n47 _ (by decide)]; exact r7.2.2.1.1, r7.2.2.1.2⟩, ⟨by rw [n47 _ (by decide)]; exact r7.2.2.2.1.1, r7.2.2.2.1.2⟩, ⟨by rw [n47 _ (by decide)]; exact r7.2.2.2.2.1.1, r7.2.2.2.2.1.2⟩, ⟨by rw [n41 _ (by decide)]; exact r7.2.2.2.2.2.1, r7.2.2.2.2.2.2⟩⟩, ?_, ⟨z06, z07, by have := r9.2.2; omega⟩, fun z => ?_, ?_⟩
    · rw [n53, n53, n53, n53]
      exact r8
    · rw [nr _ _ (by simp) (by omega) zz6, n53]
      exact r10 z
    · rw [n53]; exact r11
  · rcases q with q | q | q
    · exact hFc b e q
    · exact nr b e (Or.inl (Or.inl (by omega))) (by omega) (by omega)
    · exact nr b e (Or.inl (Or.inl (by omega))) (by omega) (by omega)
  · obtain ⟨⟨o1, o2, o3, o4⟩, o5, o6, o7, o8⟩ := p5
    have n37 : ∀ e, m' 37 e = m 37 e := fun e => nr 37 e (Or.inl (Or.inl (by decide))) (by decide) (by decide)
    have n38 : ∀ e, m' 38 e = m 38 e := fun e => nr 38 e (Or.inl (Or.inl (by decide))) (by decide) (by decide)
    exact ⟨⟨o1, fun j c q => by rw [n37]; exact o2 j c q, fun j q => by rw [n37]; exact o3 j q, o4⟩, o5, fun j c q => by rw [n38]; exact o6 j c q, fun j q => by rw [n38]; exact o7 j q, o8⟩
/-- instances of a part are instances of the whole -/
theorem zX_sub (hP : cPr E F T m Z l) {k : Nat} (hk : k ≤ l.length) {i : Nat} (hi : xL (zX Z k N) i) : xL (zX Z l.length N') i ∧ xV (zX Z l.length N') i = xV (zX Z k N) i ∧ xP (zX Z l.length N') i = xP (zX Z k N) i := by
  have hA := zX_all hP l.length N' (Nat.le_refl _)
  have hA2 := zX_all hP k N hk
  obtain ⟨e, he, rfl⟩ := hi
  have he2 : e ∈ (zW Z).take (l.length + 1) := by
    have eq : (zW Z).take (k + 1) = ((zW Z).take (l.length + 1)).take (k + 1) := by rw [List.take_take, Nat.min_eq_left (by omega)]
    rw [eq] at he
    exact List.mem_of_mem_take he
  obtain ⟨-, -, -, -, -, a6, a7, -⟩ := wX_at (c1 := z1 Z) (b4 := z4 Z) (cap := zc Z) (N := N') hA.1 he2
  obtain ⟨-, -, -, -, -, b6, b7, -⟩ := wX_at (c1 := z1 Z) (b4 := z4 Z) (cap := zc Z) (N := N) hA2.1 he
  exact ⟨⟨e, he2, rfl⟩, a6.trans b6.symm, a7.trans b7.symm⟩
theorem tE_u (hP : cPr E F T m Z l) {k k' N N' : Nat} (hk : k ≤ l.length) (hu : uFx (zX Z k' N') (zU Z) m m') : tE (zX Z k N) m (zX Z k N) m' := fun x t h => cTm_fx (cRo_sep (b4 := 0) (N := N) hP.1 (zX_all hP k N hk)).1 (show uFx (zX Z k N) (zU Z) m m' from hu) h
/-- behind a unification -/
theorem uZ_dy {ni tr ce I : Nat} (hk : chK E (qi A) I (qh A) ni tr ce) (hni : ni ≤ (qi A).length) (hP : cPr E F T m Z (qi A)) (d1 : cBd (zX Z (qi A).length N) m B) (dt : cTr (zX Z (qi A).length N) (zU Z) m TL) (dl : TL.length = TI.length) (dv : ∀ (k e w : Nat), TL[k]? = some e → TI[k]? = some w → sV (zX Z (qi A).length N) e w) (d4 : ∀ w ∈ TI, B w ≠ none) (d5 : cCc E Z N m (qi A) TI B (qh A)) (d6 : m 36 8 = (qh A).length) (d7 : m 41 7 = (match qh A with
  | [] => 0
  | c :: _ => (c.2.2.2.1.1 : Int) + 2)) (hR : Res B s) (hR' : Res B' s') (hZ : uZ (zX Z (qi A).length N) (zU Z) m B TL m' B') : ∃ TI', cDy E Z N m' A B' TI' ∧ TI'.length = TI.length + nbC s s' (qlim E A) ∧ cPr E F T m' Z (qi A) ∧ (∀ w, isv w (s' w) = true → isv w (s w) = true) := by
  have hP' := cPr_u hP hZ
  obtain ⟨z01, z02, z03, o3, ⟨nb, z04, z05⟩, z06, z07, z08, z09, z10⟩ := hZ
  have hU := zX_uPr hP N
  have hO := hU.2.2.2.1
  have hmo : ∀ w, isv w (s' w) = true → isv w (s w) = true := fun w hw => by
    rw [isv_B hR'] at hw
    rw [isv_B hR]
    cases h : B w with
    | none => rfl
    | some t =>
      rw [o3 w t h] at hw
      cases hw
  -- the slots' variables
  have hnbs : ∀ e ∈ nb, sV (zX Z (qi A).length N) e (xP (zX Z (qi A).length N) (e / 8) + e % 8) := by
    intro e he
    obtain ⟨i, n, a1, a2, a3, -⟩ := (z05 e).mp he
    have h8 := (hU.2.1.2.2.2.2.2 i a1).2.2.2.1
    refine ⟨i, n, a1, a2, a3, ?_⟩
    rw [a3, show (8 * i + n) / 8 = i by omega, show (8 * i + n) % 8 = n by omega]
  have hlim : ∀ i n, xL (zX Z (qi A).length N) i → n < xV (zX Z (qi A).length N) i → ((i : Int) < m 41 7 ↔ xP (zX Z (qi A).length N) i + n < qlim E A) := by
    intro i n a1 a2
    rw [d7]
    unfold qlim
    cases he : qh A with
    | nil => exact ⟨fun q => absurd q (by show ¬ ((i : Int) < 0); omega), fun q => absurd q (Nat.not_lt_zero _)⟩
    | cons c r =>
      rw [he] at hk
      have := zX_lim (N := N) hP (k := c.2.2.2.1.1) (by have := hk.1.1; omega) a1 a2
      dsimp only
      rw [← this]
      exact ⟨fun q => by
        have q : (i : Int) < (c.2.2.2.1.1 : Int) + 2 := q
        omega, fun q => by
        show (i : Int) < (c.2.2.2.1.1 : Int) + 2
        omega⟩
  have n2 : ∀ w, w ∈ nb.map (fun e => xP (zX Z (qi A).length N) (e / 8) + e % 8) ↔ (B w = none ∧ B' w ≠ none ∧ w < qlim E A) := by
    intro w
    rw [List.mem_map]
    constructor
    · rintro ⟨e, he, rfl⟩
      obtain ⟨i, n, a1, a2, a3, a4, a5, a6⟩ := (z05 e).mp he
      have h8 := (hU.2.1.2.2.2.2.2 i a1).2.2.2.1
      rw [a3, show (8 * i + n) / 8 = i by omega, show (8 * i + n) % 8 = n by omega]
      exact ⟨a4, a5, (hlim i n a1 a2).mp a6⟩
    · rintro ⟨a4, a5, a6⟩
      have hdm : cDm (zX Z (qi A).length N) w := by
        apply Classical.byContradiction
        intro q
        exact a5 (z02.2 w q)
      obtain ⟨i, n, a1, a2, rfl⟩ := hdm
      have h8 := (hU.2.1.2.2.2.2.2 i a1).2.2.2.1
      refine ⟨8 * i + n, (z05 _).mpr ⟨i, n, a1, a2, rfl, a4, a5, (hlim i n a1 a2).mpr a6⟩, ?_⟩
      show xP (zX Z (qi A).length N) ((8 * i + n) / 8) + (8 * i + n) % 8 = _
      rw [show (8 * i + n) / 8 = i by omega, show (8 * i + n) % 8 = n by omega]
  have hndL := z04.2.2.1
  rw [List.nodup_append] at hndL
  have n1 : (nb.map (fun e => xP (zX Z (qi A).length N) (e / 8) + e % 8)).Nodup := by
    refine List.Pairwise.map _ ?_ (List.Pairwise.and_mem.mp hndL.2.1)
    rintro e e' ⟨q1, q2, q3⟩ q4
    have b1 := hnbs e q1
    have b2 := hnbs e' q2
    rw [q4] at b1
    exact q3 (sV_e hO b1 b2)
  have hrow : ∀ a e, ((a < 41 ∨ (42 ≤ a ∧ F a)) ∨ a = 46 ∨ a = 53 ∨ a = z1 Z ∨ a = z2 Z ∨ a = (zV Z).1 ∨ a = (zV Z).2 ∨ T.1 a = some (4, 5) ∨ T.1 a = some (2, 6)) → a ≠ 41 → a ≠ 47 → m' a e = m a e := fun a e q1 q2 q3 => uFx_c hP.1 z01 q1 q2 q3 e
  have h41 : m' 41 7 = m 41 7 := z01 41 7 (fun q => by have := (urw_no hP.1 q).1; omega) (fun q => absurd q.2 (by decide)) (fun q => absurd q.1 (by decide))
  refine ⟨TI ++ nb.map (fun e => xP (zX Z (qi A).length N) (e / 8) + e % 8), ⟨z02, ⟨TL ++ nb, z04, ?_, fun k e w q1 q2 => ?_⟩, fun w hw => ?_, ?_, ?_, ?_⟩, ?_, hP', hmo⟩
  · rw [List.length_append, List.length_append, List.length_map, dl]
  · by_cases hkl : k < TL.length
    · rw [List.getElem?_append_left hkl] at q1
      rw [List.getElem?_append_left (by omega)] at q2
      exact dv k e w q1 q2
    · rw [List.getElem?_append_right (by omega)] at q1
      rw [List.getElem?_append_right (by omega), ← dl, List.getElem?_map, q1] at q2
      injection q2 with q2
      rw [← q2]
      exact hnbs e (List.mem_of_getElem? q1)
  · rcases List.mem_append.mp hw with hw | hw
    · cases h : B w with
      | none => exact absurd h (d4 w hw)
      | some t => rw [o3 w t h]; simp
    · exact ((n2 w).mp hw).2.1
  · have hall := chK_all _ hk
    have hobF := hP.2.2.2.2.1.1.2.1
    have hobC := hP.2.2.2.2.1.2.2.1
    cases he : qh A with
    | nil => trivial
    | cons c0 r0 =>
      have hql : qlim E A = tot E ((qi A).take c0.2.2.2.1.1) := by unfold qlim; rw [he]
      rw [he] at d5 hk hall
      refine cCc_mo _ (fun k cc _ q => ⟨q, fun z => hrow cc z (by have := (hobC k cc q).2.1; simp only [this, or_true]) (by have := (hobC k cc q).2.2.1; omega) (by have := (hobC k cc q).2.2.1; omega)⟩) (fun c hc => ?_) d5
      have hcT : c.2.2.2.1.2.1 ≤ TI.length := by
        clear hall hk hql
        revert hc d5
        generalize c0 :: r0 = L
        intro d5 hc
        induction L with
        | nil => cases hc
        | cons x L ih =>
          rcases List.mem_cons.mp hc with rfl | hc
          · exact d5.2.1.1
          · exact ih d5.2.2.2.2 hc
      have hPl : tot E ((qi A).take c.2.2.2.1.1) ≤ qlim E A := by
        rw [hql]
        have : c.2.2.2.1.1 ≤ c0.2.2.2.1.1 := by
          rcases List.mem_cons.mp hc with rfl | h
          · exact Nat.le_refl _
          · exact (chK_all r0 hk.2.2.2.2.2.2 c h).1
        refine tot_pre ?_
        rw [← tak_tak (L := qi A) this]
        exact List.take_prefix _ _
      have hci : c.2.2.2.1.1 ≤ (qi A).length := Nat.le_trans (hall c hc).1 hni
      refine ⟨fun j c' _ q => ⟨q, fun z => hrow c' z (by have := (hobF j c' q).2.1; simp only [this, true_or, or_true]) (by have := (hobF j c' q).2.2.1; omega) (by have := (hobF j c' q).2.2.1; omega)⟩, rfl, tE_u hP hci z01, rfl, ⟨by rw [List.length_append]; omega, List.take_append_of_le_length hcT⟩, bRs_nb hcT o3 n2 hPl, fun i n q1 q2 q3 => ?_⟩
      obtain ⟨g1, g2, g3⟩ := zX_sub (N := N) (N' := N) hP hci q1
      have q4 : B (xP (zX Z c.2.2.2.1.1 N) i + n) ≠ none := fun q => q3 (by
        unfold bRs
        split
        · exact q
        · rfl)
      rw [← g3] at q4
      rcases d1.1 i n g1 (by rw [g2]; exact q2) with ⟨b1, -⟩ | ⟨t, -, b2, -⟩
      · exact absurd b1 q4
      · exact z10 _ b2
  · rw [hrow 36 8 (Or.inl (Or.inl (by decide))) (by decide) (by decide)]
    exact d6
  · rw [h41]; exact d7
  · rw [List.length_append]
    congr 1
    unfold nbC
    refine nb_len n1 (fun w => ?_)
    rw [n2 w, Bool.and_eq_true, isv_B hR, Bool.not_eq_true']
    have : isv w (s' w) = false ↔ B' w ≠ none := by
      rw [← Bool.not_eq_true, isv_B hR']
    rw [this]
    constructor
    · rintro ⟨q1, q2, q3⟩
      exact ⟨q3, q1, q2⟩
    · rintro ⟨q1, q2, q3⟩
      refine ⟨?_, q3, q1⟩
      cases h : B w with
      | none => rfl
      | some t => rw [h] at q2; cases q2
/-- behind a unification, also one that failed -/
theorem uZ_dn {ni tr ce I : Nat} (hk : chK E (qi A) I (qh A) ni tr ce) (hni : ni ≤ (qi A).length) (hP : cPr E F T m Z (qi A)) (d1 : cBd (zX Z (qi A).length N) m B) (dt : cTr (zX Z (qi A).length N) (zU Z) m TL) (dl : TL.length = TI.length) (dv : ∀ (k e w : Nat), TL[k]? = some e → TI[k]? = some w → sV (zX Z (qi A).length N) e w) (d4 : ∀ w ∈ TI, B w ≠ none) (d5 : cCc E Z N m (qi A) TI B (qh A)) (d6 : m 36 8 = (qh A).length) (d7 : m 41 7 = (match qh A with
  | [] => 0
  | c :: _ => (c.2.2.2.1.1 : Int) + 2)) (hZ : uZ (zX Z (qi A).length N) (zU Z) m B TL m' B') : ∃ TI', cDy E Z N m' A B' TI' := by
  have hP' := cPr_u hP hZ
  obtain ⟨z01, z02, z03, o3, ⟨nb, z04, z05⟩, z06, z07, z08, z09, z10⟩ := hZ
  have hU := zX_uPr hP N
  have hO := hU.2.2.2.1
  -- the slots' variables
  have hnbs : ∀ e ∈ nb, sV (zX Z (qi A).length N) e (xP (zX Z (qi A).length N) (e / 8) + e % 8) := by
    intro e he
    obtain ⟨i, n, a1, a2, a3, -⟩ := (z05 e).mp he
    have h8 := (hU.2.1.2.2.2.2.2 i a1).2.2.2.1
    refine ⟨i, n, a1, a2, a3, ?_⟩
    rw [a3, show (8 * i + n) / 8 = i by omega, show (8 * i + n) % 8 = n by omega]
  have hlim : ∀ i n, xL (zX Z (qi A).length N) i → n < xV (zX Z (qi A).length N) i → ((i : Int) < m 41 7 ↔ xP (zX Z (qi A).length N) i + n < qlim E A) := by
    intro i n a1 a2
    rw [d7]
    unfold qlim
    cases he : qh A with
    | nil => exact ⟨fun q => absurd q (by show ¬ ((i : Int) < 0); omega), fun q => absurd q (Nat.not_lt_zero _)⟩
    | cons c r =>
      rw [he] at hk
      have := zX_lim (N := N) hP (k := c.2.2.2.1.1) (by have := hk.1.1; omega) a1 a2
      dsimp only
      rw [← this]
      exact ⟨fun q => by
        have q : (i : Int) < (c.2.2.2.1.1 : Int) + 2 := q
        omega, fun q => by
        show (i : Int) < (c.2.2.2.1.1 : Int) + 2
        omega⟩
  have n2 : ∀ w, w ∈ nb.map (fun e => xP (zX Z (qi A).length N) (e / 8) + e % 8) ↔ (B w = none ∧ B' w ≠ none ∧ w < qlim E A) := by
    intro w
    rw [List.mem_map]
    constructor
    · rintro ⟨e, he, rfl⟩
      obtain ⟨i, n, a1, a2, a3, a4, a5, a6⟩ := (z05 e).mp he
      have h8 := (hU.2.1.2.2.2.2.2 i a1).2.2.2.1
      rw [a3, show (8 * i + n) / 8 = i by omega, show (8 * i + n) % 8 = n by omega]
      exact ⟨a4, a5, (hlim i n a1 a2).mp a6⟩
    · rintro ⟨a4, a5, a6⟩
      have hdm : cDm (zX Z (qi A).length N) w := by
        apply Classical.byContradiction
        intro q
        exact a5 (z02.2 w q)
      obtain ⟨i, n, a1, a2, rfl⟩ := hdm
      have h8 := (hU.2.1.2.2.2.2.2 i a1).2.2.2.1
      refine ⟨8 * i + n, (z05 _).mpr ⟨i, n, a1, a2, rfl, a4, a5, (hlim i n a1 a2).mpr a6⟩, ?_⟩
      show xP (zX Z (qi A).length N) ((8 * i + n) / 8) + (8 * i + n) % 8 = _
      rw [show (8 * i + n) / 8 = i by omega, show (8 * i + n) % 8 = n by omega]
  have hndL := z04.2.2.1
  rw [List.nodup_append] at hndL
  have n1 : (nb.map (fun e => xP (zX Z (qi A).length N) (e / 8) + e % 8)).Nodup := by
    refine List.Pairwise.map _ ?_ (List.Pairwise.and_mem.mp hndL.2.1)
    rintro e e' ⟨q1, q2, q3⟩ q4
    have b1 := hnbs e q1
    have b2 := hnbs e' q2
    rw [q4] at b1
    exact q3 (sV_e hO b1 b2)
  have hrow : ∀ a e, ((a < 41 ∨ (42 ≤ a ∧ F a)) ∨ a = 46 ∨ a = 53 ∨ a = z1 Z ∨ a = z2 Z ∨ a = (zV Z).1 ∨ a = (zV Z).2 ∨ T.1 a = some (4, 5) ∨ T.1 a = some (2, 6)) → a ≠ 41 → a ≠ 47 → m' a e = m a e := fun a e q1 q2 q3 => uFx_c hP.1 z01 q1 q2 q3 e
  have h41 : m' 41 7 = m 41 7 := z01 41 7 (fun q => by have := (urw_no hP.1 q).1; omega) (fun q => absurd q.2 (by decide)) (fun q => absurd q.1 (by decide))
  refine ⟨TI ++ nb.map (fun e => xP (zX Z (qi A).length N) (e / 8) + e % 8), ⟨z02, ⟨TL ++ nb, z04, ?_, fun k e w q1 q2 => ?_⟩, fun w hw => ?_, ?_, ?_, ?_⟩⟩
  · rw [List.length_append, List.length_append, List.length_map, dl]
  · by_cases hkl : k < TL.length
    · rw [List.getElem?_append_left hkl] at q1
      rw [List.getElem?_append_left (by omega)] at q2
      exact dv k e w q1 q2
    · rw [List.getElem?_append_right (by omega)] at q1
      rw [List.getElem?_append_right (by omega), ← dl, List.getElem?_map, q1] at q2
      injection q2 with q2
      rw [← q2]
      exact hnbs e (List.mem_of_getElem? q1)
  · rcases List.mem_append.mp hw with hw | hw
    · cases h : B w with
      | none => exact absurd h (d4 w hw)
      | some t => rw [o3 w t h]; simp
    · exact ((n2 w).mp hw).2.1
  · have hall := chK_all _ hk
    have hobF := hP.2.2.2.2.1.1.2.1
    have hobC := hP.2.2.2.2.1.2.2.1
    cases he : qh A with
    | nil => trivial
    | cons c0 r0 =>
      have hql : qlim E A = tot E ((qi A).take c0.2.2.2.1.1) := by unfold qlim; rw [he]
      rw [he] at d5 hk hall
      refine cCc_mo _ (fun k cc _ q => ⟨q, fun z => hrow cc z (by have := (hobC k cc q).2.1; simp only [this, or_true]) (by have := (hobC k cc q).2.2.1; omega) (by have := (hobC k cc q).2.2.1; omega)⟩) (fun c hc => ?_) d5
      have hcT : c.2.2.2.1.2.1 ≤ TI.length := by
        clear hall hk hql
        revert hc d5
        generalize c0 :: r0 = L
        intro d5 hc
        induction L with
        | nil => cases hc
        | cons x L ih =>
          rcases List.mem_cons.mp hc with rfl | hc
          · exact d5.2.1.1
          · exact ih d5.2.2.2.2 hc
      have hPl : tot E ((qi A).take c.2.2.2.1.1) ≤ qlim E A := by
        rw [hql]
        have : c.2.2.2.1.1 ≤ c0.2.2.2.1.1 := by
          rcases List.mem_cons.mp hc with rfl | h
          · exact Nat.le_refl _
          · exact (chK_all r0 hk.2.2.2.2.2.2 c h).1
        refine tot_pre ?_
        rw [← tak_tak (L := qi A) this]
        exact List.take_prefix _ _
      have hci : c.2.2.2.1.1 ≤ (qi A).length := Nat.le_trans (hall c hc).1 hni
      refine ⟨fun j c' _ q => ⟨q, fun z => hrow c' z (by have := (hobF j c' q).2.1; simp only [this, true_or, or_true]) (by have := (hobF j c' q).2.2.1; omega) (by have := (hobF j c' q).2.2.1; omega)⟩, rfl, tE_u hP hci z01, rfl, ⟨by rw [List.length_append]; omega, List.take_append_of_le_length hcT⟩, bRs_nb hcT o3 n2 hPl, fun i n q1 q2 q3 => ?_⟩
      obtain ⟨g1, g2, g3⟩ := zX_sub (N := N) (N' := N) hP hci q1
      have q4 : B (xP (zX Z c.2.2.2.1.1 N) i + n) ≠ none := fun q => q3 (by
        unfold bRs
        split
        · exact q
        · rfl)
      rw [← g3] at q4
      rcases d1.1 i n g1 (by rw [g2]; exact q2) with ⟨b1, -⟩ | ⟨t, -, b2, -⟩
      · exact absurd b1 q4
      · exact z10 _ b2
  · rw [hrow 36 8 (Or.inl (Or.inl (by decide))) (by decide) (by decide)]
    exact d6
  · rw [h41]; exact d7
end CV
