/-! THE CLASS'S SEARCH: a state with more room -/
section CR3
variable {E : qE} {l l' TI TI' TL : List Nat} {F : Nat → Prop} {T T' : hy_T} {m m' : hy_m} {Z Z' : cZ} {N N' n u k : Nat} {A : qA} {B B' : bM} {s s' : Nat → pE}
theorem wIs_cap {c1 n2 cap c1' n2' cap' : Nat} {WI : List cEn} (h : wIs E l T m F c1 n2 cap WI) (hT : ∀ b x, T.1 b = some x → T'.1 b = some x) (hF : ∀ b z, F b → m' b z = m b z) (hc : cap ≤ cap') (h1 : ∀ z : Int, 0 ≤ z → z < (cap : Int) → m' c1' z = m c1 z ∧ m' n2' z = m n2 z) : wIs E l T' m' F c1' n2' cap' WI := by
  have hl : l.length + 2 ≤ cap ∨ l = [] := by
    cases hll : l with
    | nil => exact Or.inr rfl
    | cons a r =>
      refine Or.inl ?_
      obtain ⟨g1, -, g7⟩ := h
      have hj : l.length - 1 < l.length := by rw [hll, List.length_cons]; omega
      obtain ⟨e, cl, -, -, a3, -, -, a6, -⟩ := g7 _ _ (List.getElem?_eq_getElem hj)
      have := a6.2.2.2.2.2.2
      rw [← hll]
      omega
  have mv : ∀ {hd gs e}, wOn T m F c1 cap hd gs e → wOn T' m' F c1' cap' hd gs e := by
    intro hd gs e he
    have hlt := he.2.2.2.2.2.2
    have g := h1 (e.1 : Int) (by omega) (by omega)
    obtain ⟨y1, ⟨z4', y2, y3⟩, y4⟩ := he
    obtain ⟨f1, f2, f3, f4, f5, k8, o1, o2, o3, o4⟩ := y2.2.2.2.2.2.2.2
    obtain ⟨⟨d1, d2, d3, d4, d5, d6, d7, d8⟩, e2, e3, e4', e5, e6, e7, e8⟩ := y2
    refine ⟨by rw [g.1]; exact y1, ⟨z4', ⟨⟨hT _ _ d1, by rw [hF _ _ f1]; exact d2, hT _ _ d3, by rw [hF _ _ f1]; exact d4, hT _ _ d5, by rw [hF _ _ f1]; exact d6, hT _ _ d7, d8⟩, e2, by rw [hF _ _ f1]; exact e3, hT _ _ e4', fun i q1 q2 => by rw [hF _ _ f2]; exact e5 i q1 q2, fun t ht => ?_, fun i hi => ?_, f1, f2, f3, f4, f5, k8, by rw [hF _ _ f1]; exact o1, hT _ _ o2, o3, fun i hi => by rw [hF _ _ o3]; exact o4 i hi⟩, ?_⟩, by rw [hF _ _ f1]; exact y4.1, y4.2.1, y4.2.2.1, y4.2.2.2.1, Nat.lt_of_lt_of_le hlt hc⟩
    · rw [hF _ _ f1]
      show cP _ _ _ _ _ _ _
      rw [show m' e.2.1.2.2.1 = m e.2.1.2.2.1 from funext fun z => hF _ z f2, show m' e.2.1.2.2.2.1 = m e.2.1.2.2.2.1 from funext fun z => hF _ z f3, show m' e.2.1.2.2.2.2 = m e.2.1.2.2.2.2 from funext fun z => hF _ z f4]
      exact e6 t ht
    · rw [hF _ _ f5]
      show cP _ _ _ _ _ _ _
      rw [show m' e.2.1.2.2.1 = m e.2.1.2.2.1 from funext fun z => hF _ z f2, show m' e.2.1.2.2.2.1 = m e.2.1.2.2.2.1 from funext fun z => hF _ z f3, show m' e.2.1.2.2.2.2 = m e.2.1.2.2.2.2 from funext fun z => hF _ z f4]
      exact e7 i hi
    · rw [y3, hF _ _ f1, show m' e.2.1.2.2.2.2 = m e.2.1.2.2.2.2 from funext fun z => hF _ z f4, show m' z4' = m z4' from funext fun z => hF _ z f5]
  obtain ⟨g1, ⟨e0, g2, g3, g4, g5, g6, g8⟩, g7⟩ := h
  have h0 := g6.2.2.2.2.2.2
  refine ⟨g1, ⟨e0, g2, g3, g4, g5, mv g6, by rw [(h1 0 (by omega) (by omega)).2]; exact g8⟩, fun j c hj => ?_⟩
  obtain ⟨e, cl, a1, a2, a3, a4, a5, a6, a7⟩ := g7 j c hj
  have h2 := a6.2.2.2.2.2.2
  exact ⟨e, cl, a1, a2, a3, a4, a5, mv a6, by rw [(h1 _ (by omega) (by omega)).2]; exact a7⟩
theorem gr_nd (n : Nat) : [n, n + 1, n + 2, n + 4, n + 5, n + 7, n + 6, n + 8, n + 3, n + 9, n + 10].Nodup := by
  have : ([0, 1, 2, 4, 5, 7, 6, 8, 3, 9, 10].map (fun x => n + x)).Nodup := by
    rw [List.Nodup, List.pairwise_map]
    exact List.Pairwise.imp (fun h q => h (Nat.add_left_cancel q)) (by decide : [0, 1, 2, 4, 5, 7, 6, 8, 3, 9, 10].Nodup)
  exact this
theorem fz3 {b : Nat} (h : (14 ≤ b ∧ b < 21) ∨ 74 ≤ b) : b ≠ 41 ∧ b ≠ 47 ∧ b ≠ 53 := by omega
theorem gr_mem {n b : Nat} (hn : 74 ≤ n) (h : b ∈ [n, n + 1, n + 2, n + 4, n + 5, n + 7, n + 6, n + 8, n + 3, n + 9, n + 10]) : n ≤ b ∧ 42 ≤ b ∧ b ≠ 46 ∧ b ≠ 47 ∧ b ≠ 53 ∧ ¬ (69 ≤ b ∧ b ≤ 73) := by
  simp only [List.mem_cons, List.not_mem_nil, or_false] at h
  omega
theorem grow_pr (hP : cPr E F T m Z l) (hW : sWf T n) (hn : 74 ≤ n) (hk : zc Z < k) (hk3 : k ≤ 302) (hg : gRo Z n k T T' m m') : cPr E F T' m' (zGr Z n k) l := by
  have h74 : ∀ a : Nat, a < 74 → a < n := fun a q => Nat.lt_of_lt_of_le q hn
  obtain ⟨gT, gW, ⟨t0, t1, t2, t3, t4, t5, t6, t7, t8, t9, t10⟩, gf, ⟨v1, v2, v3, v4⟩, ⟨w1, w2, w3, w4, w5⟩, ⟨x1, x2, x3, x4⟩, r1, r2, r3, r0⟩ := hg
  obtain ⟨hR, p2, p3, p4, p5, p6⟩ := hP
  have hFb : ∀ b, F b → b < n := fun b hb => by
    cases h : T.1 b with
    | none => exact absurd h (p6.1 b hb)
    | some x => exact hW b x h
  have hFc : ∀ b z, F b → m' b z = m b z := fun b z hb => by
    have h14 := fz3 (hR.2.1 b hb)
    exact gf b z (hFb b hb) (fun q => h14.1 q.1) (fun q => h14.2.1 q.1) (fun q => h14.2.2 q.1)
  obtain ⟨s1, s2, s3, s4, s5, s6, s7, s8, s9, s10, s11⟩ := hR
  have n10 : m' 47 10 = m 47 10 := gf _ _ (h74 _ (by decide)) (by decide) (by decide) (by decide)
  have n7 : m' 53 7 = m 53 7 := gf _ _ (h74 _ (by decide)) (by decide) (by decide) (by decide)
  have low : ∀ (a : Nat) (e : Int), a < 41 → m' a e = m a e := fun a e q => gf a e (h74 a (Nat.lt_trans q (by decide))) (fun z => absurd z.1 (Nat.ne_of_lt q)) (fun z => absurd z.1 (Nat.ne_of_lt (Nat.lt_trans q (by decide)))) (fun z => absurd z.1 (Nat.ne_of_lt (Nat.lt_trans q (by decide))))
  refine ⟨⟨⟨gr_nd n, fun b hb => ?_⟩, s2, ⟨Nat.le_trans s3.1 (Nat.le_of_lt hk), hk3⟩, ⟨v1, t0⟩, ⟨v2, t1⟩, ⟨v3, t2⟩, ⟨⟨w1, t4⟩, ⟨w2, t5⟩, ⟨w4, t7⟩, ⟨w3, t6⟩, ⟨w5, t8⟩, v4, t3⟩, ⟨⟨x1, t6⟩, ⟨x2, t5⟩, ⟨x3, t9⟩, x4, t10⟩, ⟨fun z _ _ => (r0 z).1, fun z => ?_, by rw [n10]; exact s9.2.2⟩, fun z => ?_, by rw [n7]; exact s11⟩, cPo_fr p2 (fun _ q => q) gT (fun b e q => ?_), p3, wIs_cap p4 gT hFc (Nat.le_of_lt hk) r1, ?_, ?_⟩
  · obtain ⟨y1, y2, y3, y4, y5, y6⟩ := gr_mem hn hb
    exact ⟨y2, y3, y4, y5, y6, fun q => absurd (hFb b q) (Nat.not_lt.mpr y1)⟩
  · show m' (n + 8) z ≤ _
    rw [(r0 z).2.1, n10]
    exact s9.2.2
  · show m' (n + 10) z ≤ _
    rw [(r0 z).2.2, n7]
    exact s11
  · rcases q with q | q | q
    · exact hFc b e q
    · exact low b e (by omega)
    · exact low b e (by omega)
  · obtain ⟨⟨o1, o2, o3, o4⟩, o5, o6, o7, o8⟩ := p5
    refine ⟨⟨o1, fun j c q => ?_, fun j q => by rw [low _ _ (by decide)]; exact o3 j q, o4⟩, o5, fun j c q => ?_, fun j q => by rw [low _ _ (by decide)]; exact o7 j q, o8⟩
    · rw [low _ _ (by decide)]
      obtain ⟨b1, b2, b3⟩ := o2 j c q
      exact ⟨b1, gT _ _ b2, b3⟩
    · rw [low _ _ (by decide)]
      obtain ⟨b1, b2, b3⟩ := o6 j c q
      exact ⟨b1, gT _ _ b2, b3⟩
  · obtain ⟨g1, g2, nv0, g4⟩ := p6
    refine ⟨fun b hb => ?_, r3, nv0, gT _ _ g4⟩
    cases q : T.1 b with
    | none => exact absurd q (g1 b hb)
    | some x => rw [gT _ _ q]; simp
theorem grow_sc {I tr ce : Nat} (hkk : chK E (qi A) I (qh A) (qi A).length tr ce) (hS : cSe E F Z N T m A) (hW : sWf T n) (hn : 74 ≤ n) (hk : zc Z < k) (hk3 : k ≤ 302) (hg : gRo Z n k T T' m m') : cSe E F (zGr Z n k) N T' m' A := by
  obtain ⟨hP, hNm, ⟨h3, h5, h8, hch⟩, B, TI, ⟨d1, ⟨TL, dt, dl, dv⟩, d4, d5, d6, d7⟩, hRes, hTI⟩ := hS
  have hP' := grow_pr hP hW hn hk hk3 hg
  have h74 : ∀ a : Nat, a < 74 → a < n := fun a q => Nat.lt_of_lt_of_le q hn
  have hall := chK_all _ hkk
  obtain ⟨gT, gW, -, gf, ⟨v1, v2, v3, v4⟩, -, -, r1, r2, r3, r0⟩ := hg
  have hFb : ∀ b, F b → b < n := fun b hb => by
    cases h : T.1 b with
    | none => exact absurd h (hP.2.2.2.2.2.1 b hb)
    | some x => exact hW b x h
  have hFc : ∀ b z, F b → m' b z = m b z := fun b z hb => by
    have h14 := fz3 (hP.1.2.1 b hb)
    exact gf b z (hFb b hb) (fun q => h14.1 q.1) (fun q => h14.2.1 q.1) (fun q => h14.2.2 q.1)
  have low : ∀ (a : Nat) (e : Int), a < 41 → m' a e = m a e := fun a e q => gf a e (h74 a (Nat.lt_trans q (by decide))) (fun z => absurd z.1 (Nat.ne_of_lt q)) (fun z => absurd z.1 (Nat.ne_of_lt (Nat.lt_trans q (by decide)))) (fun z => absurd z.1 (Nat.ne_of_lt (Nat.lt_trans q (by decide))))
  have n41 : ∀ e : Int, e = 3 ∨ e = 6 ∨ e = 7 → m' 41 e = m 41 e := fun e he => gf 41 e (h74 _ (by decide)) (fun q => by rcases he with rfl | rfl | rfl <;> exact absurd q.2 (by decide)) (fun q => absurd q.1 (by decide)) (fun q => absurd q.1 (by decide))
  have h46 : ∀ j : Nat, j < N → m' 46 (j : Int) = m 46 (j : Int) := fun j _ => gf 46 _ (h74 _ (by decide)) (fun q => absurd q.1 (by decide)) (fun q => absurd q.1 (by decide)) (fun q => absurd q.1 (by decide))
  have hTE : ∀ k', k' ≤ (qi A).length → tE (zX Z k' N) m (zX (zGr Z n k) k' N) m' := fun k' hk' => tE_s hP hP' hk' hk' (fun _ q => q) hFc h46 (Nat.le_refl _)
  have hU := zX_uPr hP N
  have hO := hP.2.2.2.2.1
  have cell : ∀ c : Nat, 74 ≤ c → c < n → ∀ z, m' c z = m c z := fun c q1 q2 z => gf c z q2 (fun q => (fz3 (Or.inr q1)).1 q.1) (fun q => (fz3 (Or.inr q1)).2.1 q.1) (fun q => (fz3 (Or.inr q1)).2.2 q.1)
  have hFr : ∀ (j c' : Nat), (zF Z)[j]? = some c' → ∀ z, m' c' z = m c' z := fun j c' q => by
    have ht := hO.1.2.1 j c' q
    exact cell c' ht.2.2.1 (hW _ _ ht.2.1)
  have hCr : ∀ (j c' : Nat), (zC Z)[j]? = some c' → ∀ z, m' c' z = m c' z := fun j c' q => by
    have ht := hO.2.2.1 j c' q
    exact cell c' ht.2.2.1 (hW _ _ ht.2.1)
  have r4 : ∀ i n' : Nat, xL (zX Z (qi A).length N) i → n' < xV (zX Z (qi A).length N) i → m' (n + 2) (8 * (i : Int) + (n' : Int)) = m (z4 Z) (8 * (i : Int) + (n' : Int)) := fun i n' q1 q2 => by
    obtain ⟨b1, b2, b3, b4, -⟩ := hU.2.1.2.2.2.2.2 i q1
    have b1 : i < zc Z := b1
    exact (r2 _ (by omega) (by omega)).1
  have hTl : TL.length ≤ 8 * zc Z := by
    have := ln_sub TL (List.range (8 * zc Z)) dt.2.2.1 (fun x hx => List.mem_range.mpr (dt.2.2.2 x hx).1)
    rw [List.length_range] at this
    exact this
  refine ⟨hP', cNm_fr (A := A) hNm (fun e _ _ => low _ _ (by decide)) (fun e => low _ _ (by decide)) (fun e => low _ _ (by decide)), ⟨by rw [n41 _ (by decide)]; exact h3, by rw [low _ _ (by decide)]; exact h5, h8, ?_⟩, B, TI, ⟨⟨fun i n' q1 q2 => ?_, fun v hv => d1.2 v hv⟩, ⟨TL, ⟨by rw [n41 _ (by decide)]; exact dt.1, fun i hi => ?_, dt.2.2.1, fun e he => ⟨?_, ?_⟩⟩, dl, dv⟩, d4, ?_, by rw [low _ _ (by decide)]; exact d6, by rw [n41 _ (by decide)]; exact d7⟩, hRes, hTI⟩
  · rw [low 36 6 (by decide)]
    exact cCh_mo (hTE _ (Nat.le_refl _)) (Nat.le_refl _) (fun _ q => q) _ _ _ (fun j c' _ q => ⟨q, hFr j c' q⟩) hch
  · show (_ ∧ m' (n + 2) _ = -1) ∨ ∃ t, _ ∧ m' (n + 2) _ ≠ -1 ∧ cTm _ m' (m' (n + 2) _) t ∧ _
    rw [r4 i n' q1 q2]
    rcases d1.1 i n' q1 q2 with q | ⟨t, b1, b2, b3, b4⟩
    · exact Or.inl q
    · exact Or.inr ⟨t, b1, b2, hTE _ (Nat.le_refl _) _ _ b3, b4⟩
  · show m' (n + 3) _ = _
    rw [(r2 (i : Int) (by omega) (by omega)).2]
    exact dt.2.1 i hi
  · have := (dt.2.2.2 e he).1
    show e < 8 * k
    have : e < 8 * zc Z := this
    omega
  · show m' (n + 2) _ ≠ -1
    have h1 : e < 8 * zc Z := (dt.2.2.2 e he).1
    rw [(r2 (e : Int) (by omega) (by omega)).1]
    exact (dt.2.2.2 e he).2
  · exact cCc_mo (Z := Z) (Z' := zGr Z n k) _ (fun k cc _ q => ⟨q, hCr k cc q⟩) (fun c hc => by
      have hci := (hall c hc).1
      refine ⟨fun j c' _ q => ⟨q, hFr j c' q⟩, rfl, hTE _ hci, rfl, ⟨?_, rfl⟩, rfl, fun i n' q1 q2 _ => ?_⟩
      · have : ∀ (C : List qC), cCc E Z N m (qi A) TI B C → c ∈ C → c.2.2.2.1.2.1 ≤ TI.length := by
          intro C
          induction C with
          | nil => exact fun _ h => by cases h
          | cons x r ih =>
            intro h hm
            rcases List.mem_cons.mp hm with rfl | hm
            · exact h.2.1.1
            · exact ih h.2.2.2.2 hm
        exact this _ d5 hc
      · obtain ⟨s1, s2, s3⟩ := zX_sub (N := N) (N' := N) hP hci q1
        exact r4 i n' s1 (by rw [s2]; exact q2)) d5
end CR3
