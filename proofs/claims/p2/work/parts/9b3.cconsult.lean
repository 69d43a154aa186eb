/-! UNDO AND CONSULT, IN THE CLASS -/
section CCO
variable {T T' : hy_T} {m m' : hy_m} {F F' : Nat → Prop} {Q : Int → hy_m → Prop} {PL PL' : List pCl} {PH : List (List pCl)} {b : Nat}
theorem cPs_mo (hp : cPs T m F PL PH) (hF : ∀ b, F b → F' b) (hT : ∀ b x, T.1 b = some x → T'.1 b = some x) (h14 : m' 1 4 = m 1 4) (h : ∀ (z : Nat) (e : Int), F z ∨ (21 ≤ z ∧ z ≤ 35) → m' z e = m z e) : cPs T' m' F' PL PH := by
  obtain ⟨p1, p2, p3, qs, XS, q1, q2, q3, q4, q5, q6⟩ := hp
  refine ⟨cPo_fr p1 hF hT (fun z e q => h z e (q.imp id (fun y => by omega))), h14.trans p2, p3, qs, XS, q1, q2, q3, q4, q5, fun i q X h1 h2 => ?_⟩
  obtain ⟨g1, g2⟩ := q6 i q X h1 h2
  have := q3 q (List.mem_of_getElem? h1)
  exact ⟨by rw [h _ _ (Or.inr (by omega))]; exact g1, cPo_fr g2 hF hT (fun z e q => h z e (q.imp id (fun y => by omega)))⟩
/-- undo -/
theorem sp_7 (hg : gOk T m F b) (hp : cPs T m F PL PH) (h0 : PH = [] → Q (-2) m) (hq : ∀ PHi PLo m', PH = PHi ++ [PLo] → cPs T m' F PLo PHi → gFr b m m' → Q (PHi.length : Int) m') : wq_7 T m Q := by
  obtain ⟨hF, h4, ⟨n, hT, hn, hn2⟩, hb, hbF⟩ := hg
  have hp' := hp
  obtain ⟨p1, p2, p3, qs, XS, q1, q2, q3, q4, q5, q6⟩ := hp
  unfold wq_7
  rw [p2]
  refine ⟨fun q => h0 (List.eq_nil_of_length_eq_zero (by omega)), fun q => ⟨fun _ => ⟨show -2147483648 ≤ _ ∧ _ < 2147483648 by omega, by omega, by omega, ?_⟩, fun q2 => by omega⟩⟩
  have hne : PH ≠ [] := fun e => by rw [e] at q; exact absurd q (by decide)
  obtain ⟨PHi, PLo, rfl⟩ : ∃ PHi PLo, PH = PHi ++ [PLo] := ⟨PH.dropLast, PH.getLast hne, (List.dropLast_concat_getLast hne).symm⟩
  have hlen : (PHi ++ [PLo]).length = PHi.length + 1 := by
    rw [List.length_append]
    rfl
  rw [hlen] at q5 p3 p2 q ⊢
  have hk : PHi.length < qs.length := by omega
  have hqs := List.getElem?_eq_getElem hk
  have hX : XS[PHi.length]? = some PLo := by
    have : (XS.take (PHi.length + 1))[PHi.length]? = some PLo := by
      rw [q5, List.getElem?_append_right (Nat.le_refl _), Nat.sub_self]
      rfl
    rw [List.getElem?_take_of_lt (Nat.lt_succ_self _)] at this
    exact this
  obtain ⟨g1, g2⟩ := q6 _ _ _ hqs hX
  have hr := q3 _ (List.getElem_mem hk)
  generalize hqq : qs[PHi.length] = q0 at *
  rw [show ((PHi.length + 1 : Nat) : Int) - 1 = (PHi.length : Int) by omega, g1]
  have fr0 : ∀ (z : Nat) (e : Int), z ≠ 1 → hy_u m 1 4 (PHi.length : Int) z e = m z e := fun z e hz => hy_ua hz
  have hFz : ∀ z, F z → z ≠ 1 ∧ z ≠ 21 ∧ z ≠ 22 := fun z hz => by have := hF _ hz; omega
  have hn5 : 21 ≠ q0 ∧ 21 ≠ q0 + 1 ∧ 22 ≠ q0 ∧ 22 ≠ q0 + 1 ∧ 21 ≠ 22 := by omega
  refine sp_54 (a := 21) (r := 22) (b := q0) (rb := q0 + 1) (cPo_fr p1 (fun _ q => q) (fun _ _ q => q) (fun z e y => fr0 z e ?_)) (cPo_fr g2 (fun _ q => q) (fun _ _ q => q) (fun z e y => fr0 z e ?_)) hn5 ⟨fun z => (hFz _ z).2.1 rfl, fun z => (hFz _ z).2.2 rfl⟩ (fun m1 f1 f2 => ?_)
  · rcases y with y | y
    · exact (hFz z y).1
    · omega
  · rcases y with y | y
    · exact (hFz z y).1
    · omega
  have e41 : m1 41 4 = b := by
    rw [f1 41 4 (by decide) (by decide), fr0 41 4 (by decide)]
    exact h4
  have hps : cPs T m1 F PLo PHi := by
    refine ⟨f2, ?_, by omega, qs, XS, q1, q2, q3, q4, ?_, fun i q' X h1 h2 => ?_⟩
    · rw [f1 1 4 (by decide) (by decide), hy_us]
    · have : (XS.take (PHi.length + 1)).take PHi.length = PHi := by
        rw [q5, List.take_left']
        rfl
      rw [List.take_take, Nat.min_eq_left (Nat.le_succ _)] at this
      exact this
    · obtain ⟨a1, a2⟩ := q6 i q' X h1 h2
      have hr' := q3 q' (List.mem_of_getElem? h1)
      have fz : ∀ (z : Nat) (e : Int), z ≠ 22 → z ≠ 21 → z ≠ 1 → m1 z e = m z e := fun z e w1 w2 w3 => by
        rw [f1 z e w1 (fun w => w2 w.1)]
        exact fr0 z e w3
      refine ⟨by rw [fz 23 _ (by decide) (by decide) (by decide)]; exact a1, cPo_fr a2 (fun _ q => q) (fun _ _ q => q) (fun z e y => fz z e ?_ ?_ ?_)⟩
      · rcases y with y | y
        · exact (hFz z y).2.2
        · omega
      · rcases y with y | y
        · exact (hFz z y).2.1
        · omega
      · rcases y with y | y
        · exact (hFz z y).1
        · omega
  unfold wq_87
  refine sp_88 (b := b) (n := n) e41 hT hn hn2 ?_
  have e14 : cFin m1 b 0 0 1 4 = PHi.length := by
    rw [cFin_o (by omega) (by omega) (by omega), hps.2.1]
  show Q (cFin m1 b 0 0 1 4) (cFin m1 b 0 0)
  rw [e14]
  refine hq PHi PLo _ rfl (cPs_fr hps (cFin_o (by omega) (by omega) (by omega)) (fun z e y => ?_)) (fun z e y1 y2 => cFin_c ?_)
  · rcases y with y | y
    · have := hF z y
      exact cFin_o (by omega) (by omega) (fun w => hbF (w.1 ▸ y))
    · exact cFin_o (by omega) (by omega) (by omega)
  · rw [f1 z e (by omega) (by omega), hy_uf y2]
theorem cDn_lo {c : Nat} {K : List (pE × Int)} {hd : Option pE} {gs : List pE} {nv : Nat} (h : ∀ (z : Nat) (e : Int), z < 14 → m' z e = m z e) (hD : cDn m c K hd gs nv) : cDn m' c K hd gs nv := by
  have h' : ∀ z, z < 14 → m' z = m z := fun z hz => funext fun e => h z e hz
  unfold cDn cT at hD ⊢
  rw [h' 4 (by decide), h' 5 (by decide), h' 6 (by decide), h' 7 (by decide), h' 8 (by decide), h' 10 (by decide), h' 11 (by decide)]
  exact hD
theorem cTx_lo {tx : List Int} (h : ∀ (z : Nat) (e : Int), z < 14 → m' z e = m z e) (hD : cTx m tx) : cTx m' tx := by
  unfold cTx at hD ⊢
  rw [h 2 1 (by decide)]
  exact ⟨hD.1, hD.2.1, fun i hi => by rw [h 3 _ (by decide)]; exact hD.2.2.1 i hi, hD.2.2.2⟩
theorem cCu_lo {tx : List Int} {p : Nat} (h : ∀ (z : Nat) (e : Int), z < 14 → m' z e = m z e) (hD : cCu m tx p) : cCu m' tx p := by
  unfold cCu at hD ⊢
  rw [h 2 3 (by decide), h 2 2 (by decide), h 2 5 (by decide), h 2 4 (by decide)]
  exact hD
theorem rRef_lo (hT : ∀ b x, T.1 b = some x → T'.1 b = some x) (h : ∀ e : Int, e = 1 ∨ e = 2 ∨ e = 3 ∨ e = 6 ∨ e = 9 ∨ e = 11 → m' 4 e = m 4 e) (hr : rRef T m) : rRef T' m' := by
  obtain ⟨r1, r2, r3, r4, r5, r6, r7, t5, t6, t7, t8, t10, t11⟩ := hr
  exact ⟨hT _ _ r1, by rw [h 1 (by decide)]; exact r2, by rw [h 2 (by decide)]; exact r3, by rw [h 3 (by decide)]; exact r4, by rw [h 6 (by decide)]; exact r5, by rw [h 9 (by decide)]; exact r6, by rw [h 11 (by decide)]; exact r7, hT _ _ t5, hT _ _ t6, hT _ _ t7, hT _ _ t8, hT _ _ t10, hT _ _ t11⟩
end CCO
