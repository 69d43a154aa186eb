/-! THE CLASS'S SEARCH: new choices -/
section CG
variable {E : qE} {l l' TI TI' TL : List Nat} {F : Nat → Prop} {T T' : hy_T} {m m' : hy_m} {Z Z' : cZ} {N N' n u : Nat} {A : qA} {B B' : bM} {s s' : Nat → pE} {Q : sQ} {c : qC} {r : List qC} {FC CC : List Nat}
theorem cCc_len (h : cCc E Z N m l TI B (qh A)) : (qh A).length ≤ (zC Z).length := by
  cases he : qh A with
  | nil => exact Nat.zero_le _
  | cons c r =>
    rw [he] at h
    obtain ⟨⟨cc, h1, -⟩, -⟩ := h
    exact (List.getElem?_eq_some_iff.mp h1).1
theorem bRs_all {P : Nat} (h : ∀ v, P ≤ v → B v = none) : bRs B TI TI.length P = B := by
  funext v
  unfold bRs
  rw [List.drop_length]
  by_cases c : v < P
  · rw [if_pos ⟨c, List.not_mem_nil⟩]
  · rw [if_neg (fun q => c q.1), h v (by omega)]
theorem sp_98 {g : Option pE} {L : List Nat} {x1 x2 : Int} {I tr : Nat} (hk : chK E (qi A) I (qh A) (qi A).length tr (qn A 8)) (hC3 : (qh A).length ≤ 300) (hS : cSe E F Z N T m A) (hW : sWf T n) (hn : 74 ≤ n) (hg : match g with
  | none => x1 = -9 ∧ x2 = 0
  | some g => bS x2 (fun v => decide (v ∈ L)) ∧ cFg (zX Z (qi A).length N) m (tot E (qi A)) (qs A) x1 g) (hq : ∀ (CC : List Nat) (T' : hy_T) (n' u' : Nat) (m' : hy_m), (∀ b x, T.1 b = some x → T'.1 b = some x) → sWf T' n' → n' + (zC Z).length = n + CC.length → u' + 6 * (zC Z).length = u + 6 * CC.length → n ≤ n' → (∀ (a : Nat) (e : Int), (a < 74 ∨ T.1 a ≠ none) → a ∉ zC Z → ¬ (a = 36 ∧ e = 8) → ¬ (a = 41 ∧ e = 7) → a ≠ 38 → m' a e = m a e) → cSe E F (zSt Z (zF Z) CC) N T' m' (qadd A g L) → Q 0 (T', n', u', m')) : wq_98 x1 x2 (T, n, u, m) Q := by
  obtain ⟨hP, hNm, ⟨h3, h5, h8, hch⟩, B, TI, hD, hRes, hTI⟩ := hS
  have hO := hP.2.2.2.2.1
  have hall := chK_all _ hk
  have h301 := hO.2.1
  have hD0 := hD
  obtain ⟨d1, ⟨TL, dt, dl, dv⟩, d4, d5, d6, d7⟩ := hD0
  have hkl := cCc_len d5
  have hBn : ∀ v, tot E (qi A) ≤ v → B v = none := fun v hv => d1.2 v (fun q => by
    have := (zX_dm hP N v).mp q
    omega)
  have small : ∀ a : Nat, a < 74 → a ∉ zC Z := fun a q1 q2 => by
    have := (zC_tag hO q2).2.1
    omega
  -- a choice with this cell
  have go : ∀ (CC : List Nat) (T' : hy_T) (n' u' : Nat) (m1 : hy_m) (c : Nat), (∀ b x, T.1 b = some x → T'.1 b = some x) → sWf T' n' → n' + (zC Z).length = n + CC.length → u' + 6 * (zC Z).length = u + 6 * CC.length → n ≤ n' → (∀ (i c' : Nat), i < (qh A).length → (zC Z)[i]? = some c' → CC[i]? = some c' ∧ c' ≠ c) → CC[(qh A).length]? = some c → T'.1 c = some (2, 6) → 74 ≤ c → ¬ F c → (c ∈ zC Z ∨ T.1 c = none) → (∀ (a : Nat) (e : Int), a ≠ c → a ≠ 38 → m1 a e = m a e) → (∀ m2 : hy_m, (∀ e, m2 37 e = m1 37 e) → (∀ e, m2 38 e = m1 38 e) → cOb F T' m2 (zSt Z (zF Z) CC)) → wq_98_45 x1 x2 (c : Int) (T', n', u', m1) Q := by
    intro CC T' n' u' m1 c hT hW' hn' hu' hnn hCC hCj hTc hc74 hFc hcz hm1 hO'
    unfold wq_98_45
    dsimp only
    rw [Int.toNat_natCast]
    have n36 : (36 : Nat) ≠ c := by omega
    have n41 : (41 : Nat) ≠ c := by omega
    rw [show hy_u (hy_u (hy_u m1 c 0 (m1 36 6)) c 1 x1) c 2 x2 41 3 = m1 41 3 by rw [hy_ua n41, hy_ua n41, hy_ua n41],
      show hy_u (hy_u (hy_u (hy_u m1 c 0 (m1 36 6)) c 1 x1) c 2 x2) c 3 (m1 41 3) 41 6 = m1 41 6 by rw [hy_ua n41, hy_ua n41, hy_ua n41, hy_ua n41],
      show hy_u (hy_u (hy_u (hy_u (hy_u m1 c 0 (m1 36 6)) c 1 x1) c 2 x2) c 3 (m1 41 3)) c 4 (m1 41 6) 36 5 = m1 36 5 by rw [hy_ua n36, hy_ua n36, hy_ua n36, hy_ua n36, hy_ua n36],
      show hy_u (hy_u (hy_u (hy_u (hy_u (hy_u m1 c 0 (m1 36 6)) c 1 x1) c 2 x2) c 3 (m1 41 3)) c 4 (m1 41 6)) c 5 (m1 36 5) 36 8 = m1 36 8 by rw [hy_ua n36, hy_ua n36, hy_ua n36, hy_ua n36, hy_ua n36, hy_ua n36]]
    have e8 : m1 36 8 = (qh A).length := by rw [hm1 _ _ n36 (by decide)]; exact d6
    have e3 : m1 41 3 = ((qi A).length : Int) + 2 := by rw [hm1 _ _ n41 (by decide)]; exact h3
    have e6 : m1 41 6 = (qn A 7 : Nat) := by rw [hm1 _ _ n41 (by decide), dt.1, dl, hTI]
    have e5 : m1 36 5 = (qn A 8 : Nat) := by rw [hm1 _ _ n36 (by decide)]; exact h5
    have e66 : m1 36 6 = m 36 6 := hm1 _ _ n36 (by decide)
    rw [e8, e3, e6, e5, e66]
    have f1 : ∀ (a : Nat) (e : Int), a ≠ c → a ≠ 38 → hy_u (hy_u (hy_u (hy_u (hy_u (hy_u m1 c 0 (m 36 6)) c 1 x1) c 2 x2) c 3 (((qi A).length : Int) + 2)) c 4 (qn A 7 : Nat)) c 5 (qn A 8 : Nat) a e = m a e := fun a e q1 q2 => by
      rw [hy_ua q1, hy_ua q1, hy_ua q1, hy_ua q1, hy_ua q1, hy_ua q1]
      exact hm1 a e q1 q2
    have f38 : ∀ (a : Nat) (e : Int), a = 37 ∨ a = 38 → hy_u (hy_u (hy_u (hy_u (hy_u (hy_u m1 c 0 (m 36 6)) c 1 x1) c 2 x2) c 3 (((qi A).length : Int) + 2)) c 4 (qn A 7 : Nat)) c 5 (qn A 8 : Nat) a e = m1 a e := fun a e q1 => by
      rw [hy_ua (by omega), hy_ua (by omega), hy_ua (by omega), hy_ua (by omega), hy_ua (by omega), hy_ua (by omega)]
    have v0 : hy_u (hy_u (hy_u (hy_u (hy_u (hy_u m1 c 0 (m 36 6)) c 1 x1) c 2 x2) c 3 (((qi A).length : Int) + 2)) c 4 (qn A 7 : Nat)) c 5 (qn A 8 : Nat) c 0 = m 36 6 := by rw [hy_uk (by decide), hy_uk (by decide), hy_uk (by decide), hy_uk (by decide), hy_uk (by decide), hy_us]
    have v1 : hy_u (hy_u (hy_u (hy_u (hy_u (hy_u m1 c 0 (m 36 6)) c 1 x1) c 2 x2) c 3 (((qi A).length : Int) + 2)) c 4 (qn A 7 : Nat)) c 5 (qn A 8 : Nat) c 1 = x1 := by rw [hy_uk (by decide), hy_uk (by decide), hy_uk (by decide), hy_uk (by decide), hy_us]
    have v2 : hy_u (hy_u (hy_u (hy_u (hy_u (hy_u m1 c 0 (m 36 6)) c 1 x1) c 2 x2) c 3 (((qi A).length : Int) + 2)) c 4 (qn A 7 : Nat)) c 5 (qn A 8 : Nat) c 2 = x2 := by rw [hy_uk (by decide), hy_uk (by decide), hy_uk (by decide), hy_us]
    have v3 : hy_u (hy_u (hy_u (hy_u (hy_u (hy_u m1 c 0 (m 36 6)) c 1 x1) c 2 x2) c 3 (((qi A).length : Int) + 2)) c 4 (qn A 7 : Nat)) c 5 (qn A 8 : Nat) c 3 = ((qi A).length : Int) + 2 := by rw [hy_uk (by decide), hy_uk (by decide), hy_us]
    have v4 : hy_u (hy_u (hy_u (hy_u (hy_u (hy_u m1 c 0 (m 36 6)) c 1 x1) c 2 x2) c 3 (((qi A).length : Int) + 2)) c 4 (qn A 7 : Nat)) c 5 (qn A 8 : Nat) c 4 = (qn A 7 : Nat) := by rw [hy_uk (by decide), hy_us]
    have v5 : hy_u (hy_u (hy_u (hy_u (hy_u (hy_u m1 c 0 (m 36 6)) c 1 x1) c 2 x2) c 3 (((qi A).length : Int) + 2)) c 4 (qn A 7 : Nat)) c 5 (qn A 8 : Nat) c 5 = (qn A 8 : Nat) := hy_us _ _ _ _
    generalize hy_u (hy_u (hy_u (hy_u (hy_u (hy_u m1 c 0 (m 36 6)) c 1 x1) c 2 x2) c 3 (((qi A).length : Int) + 2)) c 4 (qn A 7 : Nat)) c 5 (qn A 8 : Nat) = m2 at f1 f38 v0 v1 v2 v3 v4 v5
    have hjCC : (qh A).length < CC.length := (List.getElem?_eq_some_iff.mp hCj).1
    have ek : ((qh A).length : Int) + 1 = (((qh A).length + 1 : Nat) : Int) := by omega
    rw [ek]
    refine ⟨hTc, hTc, hTc, hTc, hTc, hTc, show -2147483648 ≤ _ ∧ _ < 2147483648 by omega, sp_99 (Z := zSt Z (zF Z) CC) (hO' m2 (fun e => f38 _ _ (Or.inl rfl)) (fun e => f38 _ _ (Or.inr rfl))) hjCC (fun m3 w1 w8 w70 w7 => ?_)⟩
    have w7' : m3 41 7 = ((qi A).length : Int) + 2 := by rw [w7 (qh A).length c rfl hCj]; exact v3
    have wc : ∀ z, m3 c z = m2 c z := fun z => w1 c z (by omega) (by omega)
    have hcN : ∀ a : Nat, (a < 74 ∨ T.1 a ≠ none) → a ∉ zC Z → a ≠ c := fun a q1 q2 q3 => by
      subst q3
      rcases hcz with q | q
      · exact q2 q
      · rcases q1 with q1 | q1
        · omega
        · exact q1 q
    have g1 : ∀ (a : Nat) (e : Int), (a < 74 ∨ T.1 a ≠ none) → a ∉ zC Z → ¬ (a = 36 ∧ e = 8) → ¬ (a = 41 ∧ e = 7) → a ≠ 38 → m3 a e = m a e := fun a e q1 q2 q3 q4 q5 => (w1 a e q3 q4).trans (f1 a e (hcN a q1 q2) q5)
    have g2 : ∀ (i c' : Nat), i < (qh A).length → (zC Z)[i]? = some c' → ∀ z, m3 c' z = m c' z := fun i c' q1 q2 z => by
      have ht := hO.2.2.1 i c' q2
      exact (w1 c' z (by have := ht.2.2.1; omega) (by have := ht.2.2.1; omega)).trans (f1 c' z (hCC i c' q1 q2).2 (by have := ht.2.2.1; omega))
    have nzC : ∀ a, (∃ tg nn, T.1 a = some (tg, nn) ∧ tg ≠ 2) → a ∉ zC Z := fun a ⟨tg, nn, q1, q2⟩ q3 => by
      have := (zC_tag hO q3).1
      rw [q1] at this
      injection this with this
      injection this with this
      exact q2 this
    have hP' : cPr E F T' m3 (zSt Z (zF Z) CC) (qi A) := cPr_x hP hT (hO' m3 (fun e => (w1 _ _ (by omega) (by omega)).trans (f38 _ _ (Or.inl rfl))) (fun e => (w1 _ _ (by omega) (by omega)).trans (f38 _ _ (Or.inr rfl)))) (fun a e q1 q2 q3 q4 => g1 a e q3 (fun q => q4 (by unfold kEx; simp [q])) (fun q => q4 (Or.inl q.1)) (fun q => q4 (by unfold kEx; omega)) q2)
    have hFk : ∀ b z, F b → m3 b z = m b z := fun b z hb => g1 b z (Or.inr (hP.2.2.2.2.2.1 b hb)) (fun q => (zC_tag hO q).2.2 hb) (by have := hP.1.2.1 b hb; omega) (by have := hP.1.2.1 b hb; omega) (by have := hP.1.2.1 b hb; omega)
    obtain ⟨zz1, zz2, zz3, zz4, zz5, zz6, zz7⟩ := cRo_z hP.1
    have hyt := (hP.1.1.2 (yt (zU Z)) (by unfold rwL; simp)).1
    have t4 := hP.1.2.2.2.2.2.1.2
    have tt := hP.1.2.2.2.2.2.2.1.2.2.2.2.2.2
    have r4 : ∀ e, m3 (z4 Z) e = m (z4 Z) e := fun e => g1 _ e (Or.inr (by rw [t4]; simp)) (nzC _ ⟨_, _, t4, by decide⟩) (by omega) (by omega) (by omega)
    have rt : ∀ e, m3 (yt (zU Z)) e = m (yt (zU Z)) e := fun e => g1 _ e (Or.inr (by rw [tt]; simp)) (nzC _ ⟨_, _, tt, by decide⟩) (by omega) (by omega) (by omega)
    have h46 : ∀ j : Nat, j < N → m3 46 (j : Int) = m 46 (j : Int) := fun j _ => g1 46 _ (Or.inl (by decide)) (small _ (by decide)) (by omega) (by omega) (by decide)
    have hTE : ∀ k, k ≤ (qi A).length → tE (zX Z k N) m (zX (zSt Z (zF Z) CC) k N) m3 := fun k hk => tE_s hP hP' hk hk (fun _ q => q) hFk h46 (Nat.le_refl _)
    have hFr : ∀ (j c' : Nat), (zF Z)[j]? = some c' → ∀ z, m3 c' z = m c' z := fun j c' q z => by
      have ht := hO.1.2.1 j c' q
      exact g1 c' z (Or.inr (by rw [ht.2.1]; simp)) (nzC _ ⟨_, _, ht.2.1, by decide⟩) (by have := ht.2.2.1; omega) (by have := ht.2.2.1; omega) (by have := ht.2.2.1; omega)
    have hch' : cCh (zF Z) (zX Z (qi A).length N) m3 (tot E (qi A)) (qs A) (qn A 8) (qp A) (m 36 6) := cCh_mo (hTE _ (Nat.le_refl _)) (Nat.le_refl _) (fun _ q => q) _ _ _ (fun j c' _ q => ⟨q, hFr j c' q⟩) hch
    have etk : (qi A).take (qi A).length = qi A := List.take_length
    have cc' : cCc E (zSt Z (zF Z) CC) N m3 (qi A) TI B (qh A) := cCc_mo (Z := Z) (Z' := zSt Z (zF Z) CC) _ (fun k cc q1 q2 => ⟨(hCC k cc q1 q2).1, g2 k cc q1 q2⟩) (fun c hc => ⟨fun j c' _ q => ⟨q, hFr j c' q⟩, rfl, hTE _ (hall c hc).1, rfl, ⟨by
        have : ∀ (C : List qC), cCc E Z N m (qi A) TI B C → c ∈ C → c.2.2.2.1.2.1 ≤ TI.length := by
          intro C
          induction C with
          | nil => exact fun _ h => by cases h
          | cons x r ih =>
            intro h hm
            rcases List.mem_cons.mp hm with rfl | hm
            · exact h.2.1.1
            · exact ih h.2.2.2.2 hm
        exact this _ d5 hc, rfl⟩, rfl, fun i n _ _ _ => r4 _⟩) d5
    have hBd' : cBd (zX (zSt Z (zF Z) CC) (qi A).length N) m3 B := by
      refine ⟨fun i n q1 q2 => ?_, fun v hv => d1.2 v hv⟩
      show (_ ∧ m3 (z4 Z) _ = -1) ∨ ∃ t, _ ∧ m3 (z4 Z) _ ≠ -1 ∧ cTm _ m3 (m3 (z4 Z) _) t ∧ _
      rw [r4]
      rcases d1.1 i n q1 q2 with q | ⟨t, b1, b2, b3, b4⟩
      · exact Or.inl q
      · exact Or.inr ⟨t, b1, b2, hTE _ (Nat.le_refl _) _ _ b3, b4⟩
    refine hq CC T' n' u' m3 hT hW' hn' hu' hnn g1 ⟨hP', cNm_fr (A := A) hNm (fun e q1 q2 => g1 _ _ (Or.inl (by decide)) (small _ (by decide)) (by omega) (by omega) (by decide)) (fun e => g1 _ _ (Or.inl (by decide)) (small _ (by decide)) (by omega) (by omega) (by decide)) (fun e => g1 _ _ (Or.inl (by decide)) (small _ (by decide)) (by omega) (by omega) (by decide)), ⟨?_, ?_, h8, ?_⟩, B, TI, ⟨hBd', ⟨TL, ⟨?_, fun i hi => ?_, dt.2.2.1, fun e he => ⟨(dt.2.2.2 e he).1, ?_⟩⟩, dl, dv⟩, d4, ⟨⟨c, hCj, ⟨?_, ?_, ?_⟩, ?_, ?_⟩, ⟨?_, fun w hw => ?_⟩, ?_, fun i k t q1 q2 q3 => ?_, cc'⟩, w8, w7'⟩, hRes, hTI⟩
    · rw [g1 41 3 (Or.inl (by decide)) (small _ (by decide)) (by omega) (by omega) (by decide)]; exact h3
    · rw [g1 36 5 (Or.inl (by decide)) (small _ (by decide)) (by omega) (by omega) (by decide)]; exact h5
    · rw [g1 36 6 (Or.inl (by decide)) (small _ (by decide)) (by omega) (by omega) (by decide)]; exact hch'
    · rw [g1 41 6 (Or.inl (by decide)) (small _ (by decide)) (by omega) (by omega) (by decide)]; exact dt.1
    · show m3 (yt (zU Z)) _ = _
      rw [rt]; exact dt.2.1 i hi
    · show m3 (z4 Z) _ ≠ -1
      rw [r4]; exact (dt.2.2.2 e he).2
    · rw [wc, v3]
    · rw [wc, v4]
    · rw [wc, v5]
    · cases hgg : g with
      | none =>
        rw [hgg] at hg
        dsimp only
        rw [wc, wc, v1, v2]
        exact hg
      | some g0 =>
        rw [hgg] at hg
        dsimp only
        rw [wc, wc, v1, v2]
        show _ ∧ cFg (zX Z (qi A).length N) m3 (tot E ((qi A).take (qi A).length)) (qs A) x1 g0
        rw [etk]
        exact ⟨hg.1, cFg_mo (hTE _ (Nat.le_refl _)) (Nat.le_refl _) (fun _ q => q) hg.2⟩
    · dsimp only
      rw [wc, v0]
      show cCh (zF Z) (zX Z (qi A).length N) m3 (tot E ((qi A).take (qi A).length)) (qs A) (qn A 8) (qp A) (m 36 6)
      rw [etk]
      exact hch'
    · show qn A 7 ≤ TI.length
      omega
    · show w < tot E ((qi A).take (qi A).length)
      rw [etk]
      have := d4 w (List.mem_of_mem_take hw)
      by_cases q : w < tot E (qi A)
      · exact q
      · exact absurd (hBn w (by omega)) this
    · show Res (bRs B TI (qn A 7) (tot E ((qi A).take (qi A).length))) (qs A)
      rw [etk, ← hTI, bRs_all hBn]
      exact hRes
    · have q3 : bRs B TI (qn A 7) (tot E ((qi A).take (qi A).length)) (xP (zX Z (qi A).length N) i + k) = some t := q3
      rw [etk, ← hTI, bRs_all hBn] at q3
      show cTm (zX Z (qi A).length N) m3 (m3 (z4 Z) (8 * (i : Int) + (k : Int))) t ∧ ∀ w, vIn w t → w < tot E ((qi A).take (qi A).length)
      rw [etk]
      rcases hBd'.1 i k q1 q2 with ⟨b1, -⟩ | ⟨t', b1, b2, b3, b4⟩
      · have b1 : B (xP (zX Z (qi A).length N) i + k) = none := b1
        rw [q3] at b1
        cases b1
      · have b1 : B (xP (zX Z (qi A).length N) i + k) = some t' := b1
        rw [q3] at b1
        injection b1 with b1
        subst b1
        exact ⟨b3, fun w hw => (zX_dm hP N w).mp (b4 w hw)⟩
  unfold wq_98
  dsimp only
  rw [d6]
  refine ⟨fun _ => ⟨by omega, by omega, fun q => ?_, fun q => ?_⟩, fun q => by omega⟩
  · have hjL : (qh A).length = (zC Z).length := by
      by_cases c : (qh A).length < (zC Z).length
      · have ht := hO.2.2.1 _ _ (List.getElem?_eq_getElem c)
        have h74 := ht.2.2.1
        rw [ht.1] at q
        omega
      · omega
    have hfr : T.1 n = none := by
      cases h : T.1 n with
      | none => rfl
      | some x => exact absurd (hW n x h) (Nat.lt_irrefl _)
    have hFn : ¬ F n := fun h => hP.2.2.2.2.2.1 n h hfr
    have hTe : ∀ b x, T.1 b = some x → (hy_e T n 2 6).1 b = some x := fun b x hb => by
      show (if b = n then some (2, 6) else T.1 b) = some x
      rw [if_neg (fun e => by rw [e, hfr] at hb; cases hb)]
      exact hb
    have hTn : (hy_e T n 2 6).1 n = some (2, 6) := if_pos rfl
    have hnC : n ∉ zC Z := fun h => by
      have := (zC_tag hO h).1
      rw [hfr] at this
      cases this
    have hzz : ∀ (a : Nat) (e : Int), a ≠ n → hy_z m n a e = m a e := fun a e q => if_neg q
    have e8 : hy_z m n 36 8 = (qh A).length := by rw [hzz _ _ (by omega)]; exact d6
    rw [Int.toNat_natCast]
    refine ⟨hTn, ⟨by omega, ?_⟩⟩
    dsimp only
    rw [e8]
    refine ⟨by omega, by omega, Or.inr ⟨6, hTn, by decide⟩, ?_⟩
    refine go (zC Z ++ [n]) (hy_e T n 2 6) (n + 1) (u + 6) _ n hTe (sWf_e hW) (by rw [List.length_append, List.length_singleton]; omega) (by rw [List.length_append, List.length_singleton]; omega) (Nat.le_succ _) (fun i c' q1 q2 => ⟨by rw [List.getElem?_append_left (by omega)]; exact q2, fun q3 => hnC (q3 ▸ List.mem_of_getElem? q2)⟩) (by rw [hjL, List.getElem?_append_right (Nat.le_refl _), Nat.sub_self]; rfl) hTn hn hFn (Or.inr hfr) (fun a e q1 q2 => by rw [hy_ua q2]; exact hzz a e q1) (fun m2 q1 q2 => ?_)
    obtain ⟨⟨o1, o2, o3, o4⟩, o5, o6, o7, o8⟩ := hO
    have e38 : ∀ e : Int, m2 38 e = if e = ((qh A).length : Int) then (n : Int) else m 38 e := fun e => by
      rw [q2]
      by_cases c : e = ((qh A).length : Int)
      · rw [c, hy_us, if_pos rfl]
      · rw [hy_uk c, hzz _ _ (by omega), if_neg c]
    refine ⟨⟨o1, fun i c' hi => ?_, fun e he => ?_, o4⟩, ?_, fun i c' hi => ?_, fun e he => ?_, ?_⟩
    · rw [q1, hy_ua (by decide), hzz _ _ (by omega)]
      obtain ⟨b1, b2, b3⟩ := o2 i c' hi
      exact ⟨b1, hTe _ _ b2, b3⟩
    · rw [q1, hy_ua (by decide), hzz _ _ (by omega)]
      exact o3 e he
    · show (zC Z ++ [n]).length ≤ 301
      rw [List.length_append, List.length_singleton]
      omega
    · have hi : (zC Z ++ [n])[i]? = some c' := hi
      rw [e38]
      by_cases c : i < (zC Z).length
      · rw [List.getElem?_append_left c] at hi
        obtain ⟨b1, b2, b3⟩ := o6 i c' hi
        rw [if_neg (by omega)]
        exact ⟨b1, hTe _ _ b2, b3⟩
      · rw [List.getElem?_append_right (by omega)] at hi
        have hi0 : i - (zC Z).length = 0 := by
          have := (List.getElem?_eq_some_iff.mp hi).1
          rw [List.length_singleton] at this
          omega
        rw [hi0] at hi
        have hi : some n = some c' := hi
        injection hi with hi
        subst hi
        rw [if_pos (by omega)]
        exact ⟨rfl, hTn, hn, hFn⟩
    · have he : (((zC Z ++ [n]).length : Nat) : Int) ≤ e := he
      rw [List.length_append, List.length_singleton] at he
      rw [e38, if_neg (by omega)]
      exact o7 e (by omega)
    · show (zC Z ++ [n]).Nodup
      rw [List.nodup_append]
      exact ⟨o8, by simp, fun x hx y hy e => hnC (by rw [List.mem_singleton.mp hy] at e; exact e ▸ hx)⟩
  · have hjL : (qh A).length < (zC Z).length := by
      by_cases c : (qh A).length < (zC Z).length
      · exact c
      · exact absurd (hO.2.2.2.1 ((qh A).length : Int) (by omega)) q
    have hg2 := List.getElem?_eq_getElem hjL
    obtain ⟨b1, b2, b3, b4⟩ := hO.2.2.1 _ _ hg2
    rw [b1]
    refine go (zC Z) T n u m _ (fun _ _ q => q) hW rfl rfl (Nat.le_refl _) (fun i c' q1 q2 => ⟨q2, fun q3 => ?_⟩) hg2 b2 b3 b4 (Or.inl (List.getElem_mem hjL)) (fun a e _ _ => rfl) (fun m2 q1 q2 => ?_)
    · have hi := (List.getElem?_eq_some_iff.mp q2)
      have : i = (qh A).length := (List.getElem?_inj hi.1 hO.2.2.2.2).mp (by rw [q2, hg2, q3])
      omega
    · obtain ⟨⟨o1, o2, o3, o4⟩, o5, o6, o7, o8⟩ := hO
      exact ⟨⟨o1, fun i c' hi => by rw [q1]; exact o2 i c' hi, fun e he => by rw [q1]; exact o3 e he, o4⟩, o5, fun i c' hi => by rw [q2]; exact o6 i c' hi, fun e he => by rw [q2]; exact o7 e he, o8⟩
end CG
