/-! THE CLASS'S SEARCH: backtrack -/
section CX6
variable {E : qE} {l l' TI TI' TL : List Nat} {F : Nat → Prop} {T T' : hy_T} {m m' m1 m2 : hy_m} {Z Z' : cZ} {N N' n u n' u' k n0 u0 K J : Nat} {A A' : qA} {B B' : bM} {s s' : Nat → pE} {Q : sQ}
set_option maxHeartbeats 2000000 in
theorem sp_100_2 {nn d : Nat} (hK : K + 13000 < 2147480000) (hF : qFl E A) (hn : qpt (qh A) < nn) (hd : d + nn ≤ 999999) (hS : cFl E F Z N T m A) (hOk : zOk n0 u0 Z T n u) (hCt : cCt m A K 0) (hq : ∀ Z' T' n' u' m', zSp F T m T' m' → zOk n0 u0 Z' T' n' u' → cSe E F Z' N T' m' (qback E nn A) → cCt m' (qback E nn A) K 0 → Q 0 (T', n', u', m')) : wq_100_2 (d : Int) (T, n, u, m) Q := by
  unfold wq_100_2
  intro P hP
  induction nn generalizing d A Z T n u m with
  | zero => exact absurd hn (Nat.not_lt_zero _)
  | succ nn ih =>
    refine hP _ _ ?_
    unfold wf_100_2
    dsimp only
    refine ⟨fun q => by omega, fun _ => ?_⟩
    obtain ⟨hPr, hNm, ⟨B, TI, hD⟩, h8f⟩ := hS
    have hk := hF.1
    obtain ⟨d1, ⟨TL, dt, dl, dv⟩, d4, d5, d6, d7⟩ := hD
    have hO := hPr.2.2.2.2.1
    have d6' := d6
    have d7' := d7
    have d5' := d5
    cases he : qh A with
    | nil =>
      rw [he] at d6'
      have d6' : m 36 8 = ((0 : Nat) : Int) := d6'
      rw [qback_nil he] at hq
      exact sp_110 (k := 0) hO d6' (Nat.zero_le _) (fun _ => ⟨fun _ => sp_fin (st := 3) (er := 0) hPr hNm hOk hCt (fun m' g1 g2 g3 g4 => hq _ T n u m' g1 g2 g3 g4), fun q => absurd rfl q⟩) (fun j cc q1 q2 _ => by omega) (by decide)
    | cons c r =>
      rw [he] at d6' d7' d5' hk
      have d6' : m 36 8 = ((r.length + 1 : Nat) : Int) := d6'
      have d7' : m 41 7 = (c.2.2.2.1.1 : Int) + 2 := d7'
      have hcl := cCc_len d5
      rw [he] at hcl
      have hcl : r.length + 1 ≤ (zC Z).length := hcl
      have h301 := hO.2.1
      refine sp_110 (k := r.length + 1) hO d6' hcl (fun q => by omega) (fun j cc _ hj hcc => ⟨fun z => ?_, fun _ => ?_⟩) (by decide)
      · have := (zC_tag hO (List.mem_of_getElem? hcc)).2.1
        omega
      have hj : j = r.length := by omega
      subst hj
      have hct := zC_tag hO (List.mem_of_getElem? hcc)
      rw [Int.toNat_natCast]
      obtain ⟨⟨cc', h1, ⟨h2, h3, h4⟩, h5, h6⟩, ⟨h7, h8⟩, h9, h10, h11⟩ := d5'
      rw [hcc] at h1
      injection h1 with h1
      subst h1
      have hall := chK_all (c :: r) hk
      have hc0 := hall c (List.mem_cons_self ..)
      have hcell : c.2.2.2.1.2.2 ≤ (zF Z).length := Nat.le_trans hc0.2.2 h8f
      have hzc := hPr.1.2.2.1
      have hTl : TL.length ≤ 8 * zc Z := by
        have := ln_sub TL (List.range (8 * zc Z)) dt.2.2.1 (fun x hx => List.mem_range.mpr (dt.2.2.2 x hx).1)
        rw [List.length_range] at this
        exact this
      obtain ⟨ne1, ne2, ne3, ne4, ne5, ne6, ne7, ne8, ne9, ne10, ne11, ne12, ne13, ne14⟩ := cRo_ne hPr.1
      obtain ⟨zz1, zz2, zz3, zz4, zz5, zz6, zz7⟩ := cRo_z hPr.1
      have h4r := hPr.1.2.2.2.2.2.1
      have h5r := hPr.1.2.2.2.2.2.2.1.2.2.2.2.2
      have hcz4 : cc ≠ z4 Z := fun q => by
        have := hct.1
        rw [q, h4r.2] at this
        injection this with this
        injection this with this
        omega
      have hc74 := hct.2.1
      rw [h3]
      refine ⟨hct.1, hct.1, sp_121 (TL := TL) (k := c.2.2.2.1.2.1) (cap := zc Z) (b4 := z4 Z) (t5 := yt (zU Z)) dt.1 dt.2.1 (fun e he => (dt.2.2.2 e he).1) hTl hzc.2 (by omega) h5r.1 h5r.2 h4r.1 h4r.2 ⟨Ne.symm ne6, by omega, by omega⟩ (fun m3 g1 g2 g3 g4 => ⟨hct.1, hct.1, hct.1, ?_⟩)⟩
      have hm3c : ∀ z, m3 cc z = m cc z := fun z => g1 cc z (fun q => hcz4 q.1) (by omega)
      have e05 : hy_u m3 36 5 (m3 cc 5) cc 0 = m cc 0 := by rw [hy_ua (by omega)]; exact hm3c 0
      rw [e05, hm3c 5]
      have fM : ∀ (a : Nat) (e : Int), ¬ (a = 36 ∧ (e = 5 ∨ e = 6)) → hy_u (hy_u m3 36 5 (m cc 5)) 36 6 (m cc 0) a e = m3 a e := fun a e q => by rw [hy_uf (by omega), hy_uf (by omega)]
      have vM5 : hy_u (hy_u m3 36 5 (m cc 5)) 36 6 (m cc 0) 36 5 = m cc 5 := by rw [hy_uk (by decide), hy_us]
      have vM6 : hy_u (hy_u m3 36 5 (m cc 5)) 36 6 (m cc 0) 36 6 = m cc 0 := hy_us _ _ _ _
      generalize hy_u (hy_u m3 36 5 (m cc 5)) 36 6 (m cc 0) = M at fM vM5 vM6
      have hMc : ∀ z, M cc z = m cc z := fun z => (fM cc z (by omega)).trans (hm3c z)
      have gM : ∀ (a : Nat) (e : Int), ¬ (a = z4 Z ∧ ∃ w ∈ TL.drop c.2.2.2.1.2.1, e = (w : Int)) → ¬ (a = 41 ∧ (e = 6 ∨ e = 3)) → ¬ (a = 36 ∧ (e = 5 ∨ e = 6)) → M a e = m a e := fun a e q1 q2 q3 => (fM a e q3).trans (g1 a e q1 q2)
      have hSr : cSe E F (zTk Z c.2.2.2.1.1) N T M (qrest A c (c :: r)) := back_sc hF he hPr hNm d1 dt dl dv d4 d5 d6 d7' hcc hcell gM (fun w hw => by rw [fM _ _ (by omega)]; exact g2 w hw) (by rw [fM _ _ (by omega)]; exact g3) (by rw [fM _ _ (by omega)]; exact g4) vM5 vM6
      have hOkr : zOk n0 u0 (zTk Z c.2.2.2.1.1) T n u := hOk
      have hkr : ∀ c' ∈ qh (qrest A c (c :: r)), c'.2.2.2.1.1 ≤ (qi (qrest A c (c :: r))).length := by
        intro c' hc'
        have el : (qi (qrest A c (c :: r))).length = c.2.2.2.1.1 := by
          show ((qi A).take c.2.2.2.1.1).length = _
          rw [List.length_take]
          have := hc0.1
          omega
        rw [el]
        have hc' : c' ∈ c :: r := hc'
        rcases List.mem_cons.mp hc' with rfl | hc'
        · exact Nat.le_refl _
        · exact (chK_all r hk.2.2.2.2.2.2 c' hc').1
      have hlow : ∀ (a : Nat) (e : Int), (a < 36 ∨ (69 ≤ a ∧ a ≤ 73) ∨ F a) ∨ (a = 36 ∧ (e = 10 ∨ e = 11)) ∨ a = 46 ∨ a = 47 ∨ a = 53 → M a e = m a e := fun a e q => by
        rcases q with q | q
        · have hf := kFs_F hPr q
          have hrw := hf.2.2.2.2.2.2.2.2.2.2.2.2
          unfold rwL at hrw
          simp only [List.mem_cons, not_or] at hrw
          exact gM a e (fun z => hrw.2.2.1 z.1) (fun z => hf.2.2.2.2.2.2.2.2.1 z.1) (fun z => hf.2.2.2.1 z.1)
        · exact gM a e (fun z => by omega) (by omega) (by omega)
      have r36 : m 36 8 - 1 = (r.length : Int) := by omega
      rw [hMc 2, r36]
      cases hc : c.1 with
      | none =>
        rw [hc] at h5
        have h5 : m cc 1 = -9 ∧ m cc 2 = 0 := h5
        rw [h5.2]
        refine sp_27_0 (fun r4 => ⟨hct.1, hct.1, hct.1, hct.1, ?_⟩)
        have fM2 : ∀ (a : Nat) (e : Int), ¬ (a = cc ∧ e = 2) → hy_u M cc 2 (iA (M cc 2) (M cc 2 - 1)) a e = M a e := fun a e q => hy_uf q
        have vM2 : hy_u M cc 2 (iA (M cc 2) (M cc 2 - 1)) cc 2 = 0 := by rw [hy_us, hMc, h5.2]; exact iA_0
        generalize hy_u M cc 2 (iA (M cc 2) (M cc 2 - 1)) = M2 at fM2 vM2
        rw [vM2]
        refine ⟨fun q => absurd rfl q, fun _ => ⟨show -2147483648 ≤ _ ∧ _ < 2147483648 by omega, sp_99 (Z := zTk Z c.2.2.2.1.1) (k := r.length) (cOb_m hSr.1.2.2.2.2.1 (fun e => fM2 _ _ (by omega)) (fun e => fM2 _ _ (by omega))) (show r.length ≤ (zC Z).length by omega) (fun m5 w1 w8 w70 w7 => ⟨show -2147483648 ≤ _ ∧ _ < 2147483648 by omega, ?_⟩)⟩⟩
        have hS5 := keep_sc (k := r.length) hkr (show r.length ≤ (c :: r).length from Nat.le_succ _) hSr (m' := m5) (fun a e q1 q2 q3 => by
          rw [w1 a e q1 q2]
          exact fM2 a e (fun z => q3 r.length (Nat.le_refl _) (by rw [z.1]; exact hcc))) w8 w70 (fun j c' q1 q2 => by
          rw [w7 j c' q1 q2]
          have := (zC_tag hO (List.mem_of_getElem? q2)).2.1
          exact (w1 c' 3 (by omega) (by omega)).symm)
        rw [qkeep_1] at hS5
        rw [qback_bar he hc] at hq
        have m5l : ∀ (a : Nat) (e : Int), (a < 36 ∨ (69 ≤ a ∧ a ≤ 73) ∨ F a) ∨ (a = 36 ∧ (e = 10 ∨ e = 11)) ∨ a = 46 ∨ a = 47 ∨ a = 53 → m5 a e = m a e := fun a e q => by
          have h41 : ¬ (a = 36 ∧ e = 8) ∧ ¬ (a = 41 ∧ e = 7) ∧ a ≠ cc := by
            rcases q with q | q
            · have hf := kFs_F hPr q
              exact ⟨fun z => hf.2.2.2.1 z.1, fun z => hf.2.2.2.2.2.2.2.2.1 z.1, fun z => hf.2.2.1 (by rw [z]; exact List.mem_of_getElem? hcc)⟩
            · exact ⟨by omega, by omega, by omega⟩
          rw [w1 a e h41.1 h41.2.1, fM2 a e (fun z => h41.2.2 z.1)]
          exact hlow a e q
        have e51 : m5 cc 1 = -9 := by
          rw [w1 _ _ (by omega) (by omega), fM2 _ _ (fun z => absurd z.2 (by decide)), hMc]
          exact h5.1
        unfold wq_100_99 wq_38
        dsimp only
        rw [Int.toNat_natCast, e51]
        refine ⟨hct.1, hct.1, fun q => absurd rfl q, fun _ => ⟨fun _ => ?_, fun q => absurd q (by decide)⟩⟩
        exact hq _ T n u m5 ⟨fun _ _ q => q, fun a e q => m5l a e (Or.inl q)⟩ hOkr hS5 (cCt_fr hCt (m5l _ _ (by omega)) (m5l _ _ (by omega)) (m5l _ _ (by omega)) (m5l _ _ (by omega)) rfl rfl rfl rfl)
      | some g =>
        rw [hc] at h5
        have h5 : bS (m cc 2) (fun v => decide (v ∈ c.2.1)) ∧ cFg (zX Z c.2.2.2.1.1 N) m (tot E ((qi A).take c.2.2.2.1.1)) c.2.2.2.2 (m cc 1) g := h5
        cases hl : c.2.1 with
        | nil =>
          have := hk.2.2.2.1.mpr hl
          rw [hc] at this
          cases this
        | cons c0 L =>
          obtain ⟨hpr, hc0'⟩ := qrest_pr (g := g) hF he hl
          have hls : ∀ v ∈ c0 :: L, v < 20 := fun v hv => by
            have q1 := hk.2.2.2.2.2.1 v (by rw [hl]; exact hv)
            have q2 := hF.2.2.2.2.2.1
            omega
          have hpw := hk.2.2.2.2.1
          rw [hl] at hpw
          have hb6 := h5.1
          rw [hl] at hb6
          obtain ⟨b1, b2, b3⟩ := bS_lw hb6 hpw hls
          refine b1 _ _ ⟨hct.1, hct.1, hct.1, hct.1, ?_⟩
          have fM2 : ∀ (a : Nat) (e : Int), ¬ (a = cc ∧ e = 2) → hy_u M cc 2 (iA (M cc 2) (M cc 2 - 1)) a e = M a e := fun a e q => hy_uf q
          have vM2 : hy_u M cc 2 (iA (M cc 2) (M cc 2 - 1)) cc 2 = iA (m cc 2) (m cc 2 - 1) := by rw [hy_us, hMc]
          generalize hy_u M cc 2 (iA (M cc 2) (M cc 2 - 1)) = M2 at fM2 vM2
          rw [vM2]
          have eqi : (qi (qrest A c (qmore c L r))).length = c.2.2.2.1.1 := by
            show ((qi A).take c.2.2.2.1.1).length = _
            rw [List.length_take]
            have := hc0.1
            omega
          -- behind the change of the choice
          have go : ∀ m5 : hy_m, (∀ (a : Nat) (e : Int), ¬ (a = cc ∧ e = 2) → ¬ (a = 36 ∧ e = 8) → ¬ (a = 41 ∧ e = 7) → m5 a e = M a e) → cSe E F (zTk Z c.2.2.2.1.1) N T m5 (qrest A c (qmore c L r)) → wq_100_99 P (d : Int) (cc : Int) (r.length : Int) (c0 : Int) (T, n, u, m5) Q := by
            intro m5 hf5 hS5
            have m5l : ∀ (a : Nat) (e : Int), (a < 36 ∨ (69 ≤ a ∧ a ≤ 73) ∨ F a) ∨ (a = 36 ∧ (e = 10 ∨ e = 11)) ∨ a = 46 ∨ a = 47 ∨ a = 53 → m5 a e = m a e := fun a e q => by
              have h41 : ¬ (a = 36 ∧ e = 8) ∧ ¬ (a = 41 ∧ e = 7) ∧ a ≠ cc := by
                rcases q with q | q
                · have hf := kFs_F hPr q
                  exact ⟨fun z => hf.2.2.2.1 z.1, fun z => hf.2.2.2.2.2.2.2.2.1 z.1, fun z => hf.2.2.1 (by rw [z]; exact List.mem_of_getElem? hcc)⟩
                · exact ⟨by omega, by omega, by omega⟩
              rw [hf5 a e (fun z => h41.2.2 z.1) h41.1 h41.2.1]
              exact hlow a e q
            have e51 : m5 cc 1 = m cc 1 := by rw [hf5 _ _ (fun z => absurd z.2 (by decide)) (by omega) (by omega), hMc]
            have hsp : zSp F T m T m5 := ⟨fun _ _ q => q, fun a e q => m5l a e (Or.inl q)⟩
            have hC5 : cCt m5 (qrest A c (qmore c L r)) K 0 := cCt_fr hCt (m5l _ _ (by omega)) (m5l _ _ (by omega)) (m5l _ _ (by omega)) (m5l _ _ (by omega)) rfl rfl rfl rfl
            have hTE : tE (zX Z c.2.2.2.1.1 N) m (zX (zTk Z c.2.2.2.1.1) (qi (qrest A c (qmore c L r))).length N) m5 := tE_s hPr hS5.1 hc0.1 (Nat.le_refl _) (fun x hx => by
              rw [eqi]
              show x ∈ ((zW Z).take (c.2.2.2.1.1 + 1)).take (c.2.2.2.1.1 + 1)
              rw [List.take_take, Nat.min_self]
              exact hx) (fun b z hb => m5l b z (Or.inl (Or.inr (Or.inr hb)))) (fun j _ => m5l 46 _ (by omega)) (Nat.le_refl _)
            have hgo : cFg (zX (zTk Z c.2.2.2.1.1) (qi (qrest A c (qmore c L r))).length N) m5 (tot E (qi (qrest A c (qmore c L r)))) (qs (qrest A c (qmore c L r))) (m5 cc 1) g := by
              rw [e51]
              exact cFg_mo hTE (Nat.le_refl _) (fun _ q => q) h5.2
            have hbt := qback_try (E := E) (n := nn) he hc hl
            have h0x := hgo.choose_spec.2.1
            unfold wq_100_99 wq_38
            dsimp only
            rw [Int.toNat_natCast]
            refine ⟨hct.1, hct.1, fun q => ⟨fun z => absurd rfl z, fun _ => ⟨hct.1, ?_⟩⟩, fun q => by omega⟩
            refine sp_101 hK hpr hc0' hS5 hgo hOkr hC5 (fun Z' T' n' u' m' a1 a2 a3 a4 a5 => ⟨fun q => absurd q (by decide), fun _ => ?_⟩) (fun Z' T' n' u' m' a1 a2 a3 a4 a5 => ⟨fun _ => ⟨show -2147483648 ≤ _ ∧ _ < 2147483648 by omega, ?_⟩, fun q => absurd rfl q⟩)
            · rw [a5, if_pos rfl] at hbt
              refine hq Z' T' n' u' m' (hsp.tr a1) a2 ?_ ?_
              · rw [hbt]; exact a3
              · rw [hbt]; exact a4
            · rw [a5, if_neg (by decide)] at hbt
              have := ih (d := d + 1) (qtry_ok (g := g) hpr hc0').fl (by
                rw [qtry_h]
                have := qpt_more (r := r) hl
                rw [← he] at this
                exact Nat.lt_of_lt_of_le this (Nat.le_of_lt_succ hn)) (by omega) a3 a2 a4 (fun Z2 T2 n2 u2 m2 y1 y2 y3 y4 => hq Z2 T2 n2 u2 m2 ((hsp.tr a1).tr y1) y2 (by rw [hbt]; exact y3) (by rw [hbt]; exact y4))
              rw [show (d : Int) + 1 = ((d + 1 : Nat) : Int) by omega]
              exact this
          refine ⟨fun hz => ⟨show -2147483648 ≤ _ ∧ _ < 2147483648 by omega, go M2 (fun a e q1 _ _ => fM2 a e q1) ?_⟩, fun hz => ⟨show -2147483648 ≤ _ ∧ _ < 2147483648 by omega, sp_99 (Z := zTk Z c.2.2.2.1.1) (k := r.length) (cOb_m hSr.1.2.2.2.2.1 (fun e => fM2 _ _ (by omega)) (fun e => fM2 _ _ (by omega))) (show r.length ≤ (zC Z).length by omega) (fun m5 w1 w8 w70 w7 => ⟨show -2147483648 ≤ _ ∧ _ < 2147483648 by omega, go m5 (fun a e q1 q2 q3 => (w1 a e q2 q3).trans (fM2 a e q1)) ?_⟩)⟩⟩
          · have hL : qmore c L r = (c.1, L, c.2.2) :: r := by
              cases L with
              | nil => exact absurd (b3.mpr rfl) hz
              | cons y L => rfl
            rw [hL]
            exact left_sc (A := qrest A c (c :: r)) hkr rfl hSr hcc fM2 hc (by rw [vM2]; exact b2)
          · have hL : qmore c L r = r := by
              rw [b3.mp hz]
              rfl
            rw [hL]
            have hS5 := keep_sc (k := r.length) hkr (show r.length ≤ (c :: r).length from Nat.le_succ _) hSr (m' := m5) (fun a e q1 q2 q3 => by
              rw [w1 a e q1 q2]
              exact fM2 a e (fun z => q3 r.length (Nat.le_refl _) (by rw [z.1]; exact hcc))) w8 w70 (fun j c' q1 q2 => by
              rw [w7 j c' q1 q2]
              have := (zC_tag hO (List.mem_of_getElem? q2)).2.1
              exact (w1 c' 3 (by omega) (by omega)).symm)
            rw [qkeep_1] at hS5
            exact hS5
/-- backtrack -/
theorem sp_100 (hK : K + 13000 < 2147480000) (hF : qFl E A) (hS : cFl E F Z N T m A) (hOk : zOk n0 u0 Z T n u) (hCt : cCt m A K 0) (hq : ∀ Z' T' n' u' m', zSp F T m T' m' → zOk n0 u0 Z' T' n' u' → cSe E F Z' N T' m' (qbk E A) → cCt m' (qbk E A) K 0 → Q 0 (T', n', u', m')) : wq_100 (T, n, u, m) Q := by
  unfold wq_100
  refine sp_100_2 (d := 0) (nn := qpot A + 1) hK hF (Nat.lt_succ_self _) ?_ hS hOk hCt hq
  have h1 : ∀ C : List qC, qpt C = sLf C + C.length := by
    intro C
    induction C with
    | nil => rfl
    | cons c r ih =>
      rw [qpt_cons, sLf_cons, ih, List.length_cons]
      omega
  have h2 : qpot A = qpt (qh A) := rfl
  obtain ⟨-, -, f1, f2, f3, -, -⟩ := hF
  rw [h2, h1]
  omega
end CX6
