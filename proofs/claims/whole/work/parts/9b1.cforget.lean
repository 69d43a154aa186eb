/-! A QUERY IS FORGOTTEN; A CHANGE IS RECORDED -/
def mFill (m : hy_m) (a : Nat) (i j v : Int) : hy_m := fun z e => if z = a ∧ i ≤ e ∧ e < j then v else m z e
/-- behind finish -/
def cFin (m : hy_m) (b : Nat) (st er : Int) : hy_m := hy_u (hy_u (hy_u (mFill (hy_u (hy_u (hy_u (hy_u (hy_u m 36 10 st) 36 11 er) 36 6 0) 36 5 0) 36 8 0) b 0 8 (-1)) 41 3 2) 41 6 0) 41 7 0
section CFG
variable {T : hy_T} {m : hy_m} {Q : Int → hy_m → Prop} {a b : Nat}
theorem mFill_o {i j v e : Int} {z : Nat} (h : ¬ (z = a ∧ i ≤ e ∧ e < j)) : mFill m a i j v z e = m z e := if_neg h
theorem mFill_s {i j v e : Int} (h : i ≤ e ∧ e < j) : mFill m a i j v a e = v := if_pos ⟨rfl, h⟩
/-- Arrays.fill -/
theorem sp_303 {n : Nat} {i j v : Int} (hT : T.1 a = some (100, n)) (h0 : 0 ≤ i) (h1 : i ≤ j) (h2 : j ≤ n) (hn : (n : Int) < 2147483647) (hq : Q 0 (mFill m a i j v)) : wq_303 (a : Int) i j v T m Q := by
  unfold wq_303 wq_304
  rw [Int.toNat_natCast]
  refine ⟨100, n, hT, by decide, fun _ => ⟨fun _ => ⟨fun _ => ?_, fun q => by omega⟩, fun q => by omega⟩, fun q => by omega⟩
  unfold wq_303_10
  refine wL1_rule (Nat.lt_wfRel.wf) (fun x4 m' => i ≤ x4 ∧ x4 ≤ j ∧ m' = mFill m a i x4 v) (fun x4 _ => (j - x4).toNat) ?_ ⟨Int.le_refl _, h1, ?_⟩
  · rintro P x4 m' ⟨h3, h4, rfl⟩ hP
    unfold wf_303_10
    rw [Int.toNat_natCast]
    refine ⟨fun q => ?_, fun q => ⟨n, hT, by omega, by omega, show -2147483648 ≤ _ ∧ _ < 2147483648 by omega, hP _ _ ⟨by omega, by omega, ?_⟩ ?_⟩⟩
    · rw [show x4 = j by omega]
      exact hq
    · funext z e
      by_cases c : z = a ∧ e = x4
      · rw [c.1, c.2, hy_us, mFill_s (by omega)]
      · rw [hy_uf c]
        by_cases c2 : z = a ∧ i ≤ e ∧ e < x4
        · rw [c2.1, mFill_s c2.2, mFill_s (by omega)]
        · rw [mFill_o c2, mFill_o (by omega)]
    · show (j - (x4 + 1)).toNat < (j - x4).toNat
      omega
  · funext z e
    rw [mFill_o (by omega)]
/-- finish -/
theorem sp_88 {n : Nat} {st er : Int} (h4 : m 41 4 = b) (hT : T.1 b = some (100, n)) (hn : 8 ≤ n) (hn2 : n < 3000) (hq : Q 0 (cFin m b st er)) : wq_88 st er T m Q := by
  unfold wq_88 wq_120
  rw [show hy_u (hy_u (hy_u (hy_u (hy_u m 36 10 st) 36 11 er) 36 6 0) 36 5 0) 36 8 0 41 4 = m 41 4 by rw [hy_ua (by decide), hy_ua (by decide), hy_ua (by decide), hy_ua (by decide), hy_ua (by decide)], h4, Int.toNat_natCast]
  refine ⟨100, n, hT, by decide, ?_⟩
  rw [if_neg (by omega)]
  exact sp_303 hT (by decide) (by decide) (by omega) (by omega) hq
theorem cFin_o {st er e : Int} {z : Nat} (h1 : ¬ (z = 36 ∧ (e = 5 ∨ e = 6 ∨ e = 8 ∨ e = 10 ∨ e = 11))) (h2 : ¬ (z = 41 ∧ (e = 3 ∨ e = 6 ∨ e = 7))) (h3 : ¬ (z = b ∧ 0 ≤ e ∧ e < 8)) : cFin m b st er z e = m z e := by
  unfold cFin
  rw [hy_uf (by omega), hy_uf (by omega), hy_uf (by omega), mFill_o h3, hy_uf (by omega), hy_uf (by omega), hy_uf (by omega), hy_uf (by omega), hy_uf (by omega)]
end CFG
/-- the program and its past -/
def cPs (T : hy_T) (m : hy_m) (F : Nat → Prop) (PL : List pCl) (PH : List (List pCl)) : Prop := cPo T m F 21 22 PL ∧ m 1 4 = PH.length ∧ PH.length ≤ 6 ∧ ∃ (qs : List Nat) (XS : List (List pCl)), qs.length = 6 ∧ qs.Nodup ∧ (∀ q ∈ qs, 24 ≤ q ∧ q ≤ 34 ∧ q % 2 = 0) ∧ XS.length = 6 ∧ XS.take PH.length = PH ∧ ∀ (i q : Nat) (X : List pCl), qs[i]? = some q → XS[i]? = some X → m 23 (i : Int) = q ∧ cPo T m F q (q + 1) X
def fzn (F : Nat → Prop) : Prop := ∀ b, F b → (14 ≤ b ∧ b < 21) ∨ 74 ≤ b
def phN (PH : List (List pCl)) (PL : List pCl) : List (List pCl) := if PH.length = 6 then PH.tail ++ [PL] else PH ++ [PL]
section CRC
variable {T : hy_T} {m m' : hy_m} {F : Nat → Prop} {Q : Int → hy_m → Prop} {PL PL' : List pCl} {PH : List (List pCl)} {b : Nat}
theorem cPs_fr (hp : cPs T m F PL PH) (h14 : m' 1 4 = m 1 4) (h : ∀ (z : Nat) (e : Int), F z ∨ (21 ≤ z ∧ z ≤ 35) → m' z e = m z e) : cPs T m' F PL PH := by
  obtain ⟨p1, p2, p3, qs, XS, q1, q2, q3, q4, q5, q6⟩ := hp
  refine ⟨cPo_fr p1 (fun _ q => q) (fun _ _ q => q) (fun z e q => h z e (q.imp id (fun y => by omega))), h14.trans p2, p3, qs, XS, q1, q2, q3, q4, q5, fun i q X h1 h2 => ?_⟩
  obtain ⟨g1, g2⟩ := q6 i q X h1 h2
  have := q3 q (List.mem_of_getElem? h1)
  exact ⟨by rw [h _ _ (Or.inr (by omega))]; exact g1, cPo_fr g2 (fun _ q => q) (fun _ _ q => q) (fun z e q => h z e (q.imp id (fun y => by omega)))⟩
/-- the past takes one more program -/
theorem sp_22_70 {n : Nat} (hF : fzn F) (hp : cPs T m F PL PH) (hl : PH.length < 6) (h4 : m 41 4 = b) (hT : T.1 b = some (100, n)) (hn : 8 ≤ n) (hn2 : n < 3000) (hb : 36 < b) (hbF : ¬ F b) (hq : ∀ m1, cPs T m1 F PL (PH ++ [PL]) → (∀ (z : Nat) (e : Int), ¬ (24 ≤ z ∧ z ≤ 35) → ¬ (z = 1 ∧ e = 4) → m1 z e = m z e) → cPs T (cFin m1 b 0 0) F PL (PH ++ [PL]) → Q 0 (cFin m1 b 0 0)) : wq_22_70 T m Q := by
  obtain ⟨p1, p2, p3, qs, XS, q1, q2, q3, q4, q5, q6⟩ := hp
  have hk : PH.length < qs.length := by omega
  have hk2 : PH.length < XS.length := by omega
  have hqs := List.getElem?_eq_getElem hk
  obtain ⟨g1, g2⟩ := q6 _ _ _ hqs (List.getElem?_eq_getElem hk2)
  have hr := q3 _ (List.getElem_mem hk)
  generalize hqq : qs[PH.length] = q at *
  unfold wq_22_70
  rw [p2, g1, Int.toNat_natCast]
  have hFq : ¬ F q ∧ ¬ F (q + 1) := ⟨fun z => by have := hF _ z; omega, fun z => by have := hF _ z; omega⟩
  have hn5 : q ≠ 21 ∧ q ≠ 22 ∧ q + 1 ≠ 21 ∧ q + 1 ≠ 22 ∧ q ≠ q + 1 := by omega
  refine ⟨by omega, by omega, g2.1, sp_54 (b := 21) (rb := 22) g2 p1 hn5 hFq (fun m1 f1 f2 => ?_)⟩
  have e14 : m1 1 4 = PH.length := by rw [f1 1 4 (by omega) (by omega)]; exact p2
  rw [e14]
  refine ⟨show -2147483648 ≤ _ ∧ _ < 2147483648 by omega, ?_⟩
  have hFn1 : ∀ z, F z → z ≠ 1 := fun z hz => by have := hF _ hz; omega
  have hps : cPs T (hy_u m1 1 4 ((PH.length : Int) + 1)) F PL (PH ++ [PL]) := by
    have fr : ∀ (z : Nat) (e : Int), F z ∨ (21 ≤ z ∧ z ≤ 35 ∧ z ≠ q ∧ z ≠ q + 1) → hy_u m1 1 4 ((PH.length : Int) + 1) z e = m z e := fun z e hz => by
      have hzq : z ≠ q ∧ z ≠ q + 1 := by
        rcases hz with y | y
        · exact ⟨fun w => hFq.1 (w ▸ y), fun w => hFq.2 (w ▸ y)⟩
        · exact y.2.2
      have z1 : z ≠ 1 := by
        rcases hz with y | y
        · exact hFn1 z y
        · omega
      rw [hy_ua z1]
      exact f1 z e hzq.2 (fun w => hzq.1 w.1)
    refine ⟨cPo_fr p1 (fun _ q => q) (fun _ _ q => q) (fun z e y => fr z e (y.imp id (fun y => by omega))), ?_, ?_, qs, PH ++ [PL] ++ XS.drop (PH.length + 1), q1, q2, q3, ?_, ?_, fun i q' X h1 h2 => ?_⟩
    · rw [hy_us, List.length_append]
      rfl
    · rw [List.length_append]
      exact hl
    · rw [List.length_append, List.length_append, List.length_drop, q4]
      show PH.length + 1 + _ = 6
      omega
    · rw [List.take_left']
      rfl
    · have hi6 := (List.getElem?_eq_some_iff.mp h1).1
      by_cases c : i = PH.length
      · subst c
        rw [hqs] at h1
        injection h1 with h1
        have hX : X = PL := by
          rw [List.append_assoc, List.getElem?_append_right (Nat.le_refl _), Nat.sub_self] at h2
          injection h2 with h2
          exact h2.symm
        rw [← h1, hX]
        refine ⟨?_, cPo_fr f2 (fun _ q => q) (fun _ _ q => q) (fun z e y => hy_ua ?_)⟩
        · rw [fr 23 _ (Or.inr (by omega))]
          exact g1
        · rcases y with y | y
          · exact hFn1 z y
          · omega
      · have hX : XS[i]? = some X := by
          rw [← h2, List.append_assoc]
          by_cases ci : i < PH.length
          · rw [List.getElem?_append_left ci]
            conv => rhs; rw [← q5]
            rw [List.getElem?_take_of_lt ci]
          · rw [List.getElem?_append_right (by omega)]
            show _ = ([PL] ++ XS.drop (PH.length + 1))[i - PH.length]?
            rw [List.getElem?_append_right (show 1 ≤ i - PH.length by omega), List.getElem?_drop]
            show _ = XS[PH.length + 1 + (i - PH.length - 1)]?
            rw [show PH.length + 1 + (i - PH.length - 1) = i by omega]
        obtain ⟨g1', g2'⟩ := q6 i q' X h1 hX
        have hr' := q3 q' (List.mem_of_getElem? h1)
        have hqne : q' ≠ q := fun e => c (by
          have := (List.getElem?_inj hi6 q2).mp (h1.trans (e ▸ hqs.symm))
          exact this)
        refine ⟨?_, cPo_fr g2' (fun _ q => q) (fun _ _ q => q) (fun z e y => fr z e (y.imp id (fun y => by omega)))⟩
        rw [fr 23 _ (Or.inr (by omega))]
        exact g1'
  have hfr1 : ∀ (z : Nat) (e : Int), ¬ (24 ≤ z ∧ z ≤ 35) → ¬ (z = 1 ∧ e = 4) → hy_u m1 1 4 ((PH.length : Int) + 1) z e = m z e := fun z e y1 y2 => by
    rw [hy_uf y2]
    exact f1 z e (by omega) (by omega)
  unfold wq_87
  refine sp_88 (b := b) (n := n) ?_ hT hn hn2 (hq _ hps hfr1 (cPs_fr hps ?_ (fun z e y => ?_)))
  · rw [hfr1 41 4 (by omega) (by omega)]
    exact h4
  · exact cFin_o (by omega) (by omega) (by omega)
  · rcases y with y | y
    · have := hF z y
      exact cFin_o (by omega) (by omega) (fun w => hbF (w.1 ▸ y))
    · exact cFin_o (by omega) (by omega) (by omega)
end CRC
