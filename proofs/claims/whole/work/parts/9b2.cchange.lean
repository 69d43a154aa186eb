/-! RETRACT, MOVE, UNDO -/
/-- the program's cells and the past have changed, and the query was forgotten -/
def gFr (b : Nat) (m m' : hy_m) : Prop := ∀ (z : Nat) (e : Int), ¬ (21 ≤ z ∧ z ≤ 35) → ¬ (z = 1 ∧ e = 4) → m' z e = cFin m b 0 0 z e
/-- what forgetting needs -/
def gOk (T : hy_T) (m : hy_m) (F : Nat → Prop) (b : Nat) : Prop := fzn F ∧ m 41 4 = b ∧ (∃ n, T.1 b = some (100, n) ∧ 8 ≤ n ∧ n < 3000) ∧ 36 < b ∧ ¬ F b
section CRT
variable {T : hy_T} {m m' : hy_m} {F : Nat → Prop} {Q : Int → hy_m → Prop} {PL PL' : List pCl} {PH : List (List pCl)} {b : Nat}
theorem cFin_c {m1 m2 : hy_m} {st er : Int} {z : Nat} {e : Int} (h : m1 z e = m2 z e) : cFin m1 b st er z e = cFin m2 b st er z e := by
  have hu : ∀ (x y : hy_m) (a : Nat) (i v : Int), x z e = y z e → hy_u x a i v z e = hy_u y a i v z e := fun x y a i v q => by
    by_cases c : z = a ∧ e = i
    · rw [c.1, c.2, hy_us, hy_us]
    · rw [hy_uf c, hy_uf c, q]
  have hf : ∀ (x y : hy_m) (a : Nat) (i j v : Int), x z e = y z e → mFill x a i j v z e = mFill y a i j v z e := fun x y a i j v q => by
    by_cases c : z = a ∧ i ≤ e ∧ e < j
    · rw [c.1, mFill_s c.2, mFill_s c.2]
    · rw [mFill_o c, mFill_o c, q]
  unfold cFin
  exact hu _ _ _ _ _ (hu _ _ _ _ _ (hu _ _ _ _ _ (hf _ _ _ _ _ _ (hu _ _ _ _ _ (hu _ _ _ _ _ (hu _ _ _ _ _ (hu _ _ _ _ _ (hu _ _ _ _ _ h))))))))
/-- recordChange -/
theorem sp_22 (hg : gOk T m F b) (hp : cPs T m F PL PH) (hq : ∀ m', cPs T m' F PL (phN PH PL) → gFr b m m' → Q 0 m') : wq_22 T m Q := by
  obtain ⟨hF, h4, ⟨n, hT, hn, hn2⟩, hb, hbF⟩ := hg
  unfold wq_22
  refine ⟨fun q => ?_, fun q => ⟨by decide, by decide, ?_⟩⟩
  · have hl : PH.length ≠ 6 := fun e => q (by rw [hp.2.1, e]; rfl)
    have := hp.2.2.1
    refine sp_22_70 hF hp (by omega) h4 hT hn hn2 hb hbF (fun m1 g1 g2 g3 => hq _ ?_ (fun z e y1 y2 => ?_))
    · unfold phN
      rw [if_neg hl]
      exact g3
    · exact cFin_c (g2 z e (by omega) y2)
  · have hl : PH.length = 6 := by
      have := hp.2.1
      omega
    obtain ⟨p1, p2, p3, qs, XS, q1, q2, q3, q4, q5, q6⟩ := hp
    have hXS : XS = PH := by
      rw [hl, List.take_of_length_le (by omega)] at q5
      exact q5
    subst hXS
    obtain ⟨q0, qt, rfl⟩ : ∃ q0 qt, qs = q0 :: qt := by
      cases qs with
      | nil => exact absurd q1 (by decide)
      | cons a l => exact ⟨a, l, rfl⟩
    obtain ⟨X0, Xt, rfl⟩ : ∃ q0 qt, XS = q0 :: qt := by
      cases XS with
      | nil => exact absurd q4 (by decide)
      | cons a l => exact ⟨a, l, rfl⟩
    have lq : qt.length = 5 := by
      rw [List.length_cons] at q1
      omega
    have lX : Xt.length = 5 := by
      rw [List.length_cons] at q4
      omega
    have h23 : m 23 0 = q0 := (q6 0 q0 X0 rfl rfl).1
    rw [h23]
    have hT5 : ∀ i : Nat, i < 6 → ∃ q : Nat, m 23 (i : Int) = q ∧ T.1 q = some (5, 3) := fun i hi => by
      have hi1 : i < (q0 :: qt).length := by omega
      have hi2 : i < (X0 :: Xt).length := by omega
      obtain ⟨a1, a2⟩ := q6 i _ _ (List.getElem?_eq_getElem hi1) (List.getElem?_eq_getElem hi2)
      exact ⟨_, a1, a2.1⟩
    unfold wq_22_21
    refine wL1_rule (Nat.lt_wfRel.wf) (fun x2 m' => ∃ d : Nat, x2 = (d : Int) + 1 ∧ d ≤ 5 ∧ (∀ (z : Nat) (e : Int), z ≠ 23 → m' z e = m z e) ∧ ∀ k : Nat, k < 6 → m' 23 (k : Int) = m 23 (((if k < d then k + 1 else k) : Nat) : Int)) (fun x2 _ => 30 - x2.toNat) ?_ ⟨0, rfl, by decide, fun _ _ _ => rfl, fun k _ => by rw [if_neg (Nat.not_lt_zero _)]⟩
    rintro P x2 m1 ⟨d, rfl, hd, hf, hk⟩ hP
    unfold wf_22_21
    refine ⟨fun qq => ?_, fun qq => ?_⟩
    · have hd5 : d = 5 := by omega
      subst hd5
      rw [hf 1 4 (by decide), q]
      have hps : cPs T (hy_u (hy_u m1 1 4 (6 - 1)) 23 (6 - 1) (q0 : Int)) F PL Xt := by
        have hFz : ∀ z, F z → z ≠ 23 ∧ z ≠ 1 := fun z hz => by have := hF _ hz; omega
        have fr : ∀ (z : Nat) (e : Int), z ≠ 23 → z ≠ 1 → hy_u (hy_u m1 1 4 (6 - 1)) 23 (6 - 1) (q0 : Int) z e = m z e := fun z e z1 z2 => by
          rw [hy_ua z1, hy_ua z2]
          exact hf z e z1
        refine ⟨cPo_fr p1 (fun _ q => q) (fun _ _ q => q) (fun z e y => ?_), ?_, by omega, qt ++ [q0], Xt ++ [X0], ?_, ?_, ?_, ?_, ?_, fun i q' X h1 h2 => ?_⟩
        · rcases y with y | y
          · exact fr z e (hFz z y).1 (hFz z y).2
          · exact fr z e (by omega) (by omega)
        · rw [hy_ua (by decide), hy_us, lX]
          rfl
        · rw [List.length_append, lq]
          rfl
        · exact nd_snoc (List.nodup_cons.mp q2).2 (List.nodup_cons.mp q2).1
        · intro z hz
          rcases List.mem_append.mp hz with y | y
          · exact q3 z (List.mem_cons_of_mem _ y)
          · rw [List.mem_singleton.mp y]
            exact q3 q0 (List.mem_cons_self ..)
        · rw [List.length_append, lX]
          rfl
        · rw [List.take_left']
          rfl
        · have hi := (List.getElem?_eq_some_iff.mp h1).1
          rw [List.length_append, lq] at hi
          have hi : i < 6 := hi
          have cp : ∀ (q' : Nat) (X : List pCl), 24 ≤ q' ∧ q' ≤ 34 ∧ q' % 2 = 0 → cPo T m F q' (q' + 1) X → cPo T (hy_u (hy_u m1 1 4 (6 - 1)) 23 (6 - 1) (q0 : Int)) F q' (q' + 1) X := fun q' X hr hc => cPo_fr hc (fun _ q => q) (fun _ _ q => q) (fun z e y => by
            rcases y with y | y
            · exact fr z e (hFz z y).1 (hFz z y).2
            · exact fr z e (by omega) (by omega))
          by_cases c : i < 5
          · rw [List.getElem?_append_left (by omega)] at h1 h2
            obtain ⟨g1, g2⟩ := q6 (i + 1) q' X h1 h2
            refine ⟨?_, cp q' X (q3 q' (List.mem_cons_of_mem _ (List.mem_of_getElem? h1))) g2⟩
            rw [hy_uk (by omega), hy_ua (by decide), hk i hi, if_pos c]
            exact g1
          · have e5 : i = 5 := by omega
            subst e5
            rw [List.getElem?_append_right (by omega), lq] at h1
            rw [List.getElem?_append_right (by omega), lX] at h2
            injection h1 with h1
            injection h2 with h2
            obtain ⟨g1, g2⟩ := q6 0 q0 X0 rfl rfl
            rw [← h1, ← h2]
            refine ⟨?_, cp q0 X0 (q3 q0 (List.mem_cons_self ..)) g2⟩
            exact hy_us ..
      obtain ⟨-, hq0⟩ := q6 0 q0 X0 rfl rfl
      refine ⟨show -2147483648 ≤ _ ∧ _ < 2147483648 by omega, by decide, by decide, Or.inr ⟨3, by rw [Int.toNat_natCast]; exact hq0.1, by decide⟩, sp_22_70 hF hps (by omega) ?_ hT hn hn2 hb hbF (fun m2 g1 g2 g3 => hq _ ?_ (fun z e y1 y2 => ?_))⟩
      · rw [hy_ua (by decide), hy_ua (by decide), hf 41 4 (by decide)]
        exact h4
      · unfold phN
        rw [if_pos hl]
        exact g3
      · refine cFin_c ?_
        rw [g2 z e (by omega) y2, hy_ua (by omega), hy_uf y2]
        exact hf z e (by omega)
    · have hd5 : d < 5 := by omega
      have h1 := hk (d + 1) (by omega)
      rw [show ((d + 1 : Nat) : Int) = (d : Int) + 1 by omega, if_neg (by omega)] at h1
      rw [h1, show (d : Int) + 1 - 1 = d by omega]
      obtain ⟨v, v1, v2⟩ := hT5 (d + 1) (by omega)
      rw [v1]
      refine ⟨by omega, by omega, by omega, by omega, Or.inr ⟨3, by rw [Int.toNat_natCast]; exact v2, by decide⟩, show -2147483648 ≤ _ ∧ _ < 2147483648 by omega, hP _ _ ⟨d + 1, by omega, by omega, fun z e hz => by rw [hy_ua hz]; exact hf z e hz, fun k hk' => ?_⟩ ?_⟩
      · by_cases z : k = d
        · rw [z, hy_us, if_pos (by omega), ← v1]
        · rw [hy_uk (by omega), hk k hk']
          by_cases w : k < d
          · rw [if_pos w, if_pos (by omega)]
          · rw [if_neg w, if_neg (by omega)]
      · show 30 - _ < 30 - _
        omega
/-- the program alone is another one -/
theorem cPs_21 (hF : fzn F) (hp : cPs T m F PL PH) (hf : ∀ (z : Nat) (e : Int), z ≠ 22 → ¬ (z = 21 ∧ e = 2) → m' z e = m z e) (h : cPo T m' F 21 22 PL') : cPs T m' F PL' PH := by
  obtain ⟨p1, p2, p3, qs, XS, q1, q2, q3, q4, q5, q6⟩ := hp
  refine ⟨h, by rw [hf 1 4 (by decide) (by decide)]; exact p2, p3, qs, XS, q1, q2, q3, q4, q5, fun i q X h1 h2 => ?_⟩
  obtain ⟨g1, g2⟩ := q6 i q X h1 h2
  have hr := q3 q (List.mem_of_getElem? h1)
  refine ⟨by rw [hf 23 _ (by decide) (by omega)]; exact g1, cPo_fr g2 (fun _ q => q) (fun _ _ q => q) (fun z e y => hf z e ?_ ?_)⟩
  · rcases y with y | y
    · have := hF z y
      omega
    · omega
  · rcases y with y | y
    · have := hF z y
      omega
    · omega
theorem cPo_row {a r : Nat} {g : Nat → Nat} (hp : cPo T m F a r PL) (hF : ¬ F r ∧ ¬ F a) (hne : a ≠ r) (hf : ∀ (z : Nat) (e : Int), z ≠ r → ¬ (z = a ∧ e = 2) → m' z e = m z e) (hr : ∀ k : Nat, k < 20 → m' r (k : Int) = m r ((g k : Nat) : Int)) (hg : ∀ k, k < 20 → g k < 20) (h2 : m' a 2 = PL'.length) (hl : PL'.length ≤ 20) (hP : ∀ (i : Nat) (cl : pCl), PL'[i]? = some cl → PL[g i]? = some cl) : cPo T m' F a r PL' := by
  obtain ⟨p1, p2, p3, p4, p5, p6, ⟨no, p7, p7'⟩, p8⟩ := hp
  refine ⟨p1, by rw [hf a 1 hne (fun q => absurd q.2 (by decide))]; exact p2, p3, h2, hl, fun i cl hi => ?_, ⟨no, by rw [hf a 0 hne (fun q => absurd q.2 (by decide))]; exact p7, p7'⟩, fun i hi => ?_⟩
  · have hil := (List.getElem?_eq_some_iff.mp hi).1
    obtain ⟨⟨c, c1, c2⟩, c3⟩ := p6 _ cl (hP i cl hi)
    refine ⟨⟨c, by rw [hr i (by omega)]; exact c1, cCl_fr c2 (fun _ q => q) (fun _ _ _ q => q) (fun z e hz => hf z e (fun q => hF.1 (q ▸ hz)) (fun q => hF.2 (q.1 ▸ hz)))⟩, c3⟩
  · rw [hr i hi]
    exact p8 _ (hg i hi)
theorem mvI_20 {c t k : Nat} (hc : c < 20) (ht : t < 20) (hk : k < 20) : mvI c t k < 20 := mvI_lt hc ht hk
/-- move -/
theorem sp_6 {x1 x2 : Int} (hg : gOk T m F b) (hp : cPs T m F PL PH) (h0 : ¬ ((0 ≤ x1 ∧ x1 < PL.length) ∧ (0 ≤ x2 ∧ x2 < PL.length)) → Q (-1) m) (hq : ∀ (c t : Nat) PL' m', x1 = c → x2 = t → c < PL.length → t < PL.length → mvP PL c t PL' → cPs T m' F PL' (phN PH PL) → gFr b m m' → Q x2 m') : wq_6 x1 x2 T m Q := by
  have hF := hg.1
  unfold wq_6
  refine sp_52 hp.1 (fun a1 a2 => ⟨fun q => absurd q (by decide), fun _ => sp_52 hp.1 (fun b1 b2 => ⟨fun _ => sp_22 hg hp (fun m1 g1 g2 => ?_), fun q => absurd q (by decide)⟩) (fun q => ⟨fun z => absurd rfl z, fun _ => h0 (fun z => q z.2)⟩)⟩) (fun q => ⟨fun _ => h0 (fun z => q z.1), fun z => absurd rfl z⟩)
  obtain ⟨c, rfl⟩ : ∃ c : Nat, x1 = c := ⟨x1.toNat, by omega⟩
  obtain ⟨t, rfl⟩ : ∃ c : Nat, x2 = c := ⟨x2.toNat, by omega⟩
  have hc : c < PL.length := by omega
  have ht : t < PL.length := by omega
  have h20 := hp.1.2.2.2.2.1
  refine sp_57 g1.1 hc ht (by decide) (fun m2 f1 f2 => ?_)
  obtain ⟨PL', hmv⟩ := mvP_ex PL hc ht
  have hF2 : ¬ F 22 ∧ ¬ F 21 := ⟨fun z => by have := hF _ z; omega, fun z => by have := hF _ z; omega⟩
  refine hq c t PL' m2 rfl rfl hc ht hmv (cPs_21 hF g1 (fun z e y1 _ => f1 z e y1) (cPo_row g1.1 hF2 (by decide) (fun z e y1 _ => f1 z e y1) f2 (fun k hk => mvI_20 (by omega) (by omega) hk) ?_ ?_ (fun i cl hi => ?_))) (fun z e y1 y2 => ?_)
  · rw [f1 21 2 (by decide), g1.1.2.2.2.1, hmv.1]
  · rw [hmv.1]
    exact h20
  · have hil := (List.getElem?_eq_some_iff.mp hi).1
    rw [hmv.2 i (by have := hmv.1; omega)] at hi
    exact hi
  · rw [f1 z e (by omega)]
    exact g2 z e y1 y2
/-- retract -/
theorem sp_5 {x1 : Int} (hg : gOk T m F b) (hp : cPs T m F PL PH) (h0 : ¬ (0 ≤ x1 ∧ x1 < PL.length) → Q (-1) m) (hq : ∀ (c : Nat) m', x1 = c → c < PL.length → cPs T m' F (PL.eraseIdx c) (phN PH PL) → gFr b m m' → Q ((PL.length : Int) - 1) m') : wq_5 x1 T m Q := by
  have hF := hg.1
  unfold wq_5
  refine sp_52 hp.1 (fun a1 a2 => ⟨fun _ => sp_22 hg hp (fun m1 g1 g2 => ?_), fun q => absurd q (by decide)⟩) (fun q => ⟨fun z => absurd rfl z, fun _ => h0 q⟩)
  obtain ⟨c, rfl⟩ : ∃ c : Nat, x1 = c := ⟨x1.toNat, by omega⟩
  have hc : c < PL.length := by omega
  have h20 := hp.1.2.2.2.2.1
  have hF2 : ¬ F 22 ∧ ¬ F 21 := ⟨fun z => by have := hF _ z; omega, fun z => by have := hF _ z; omega⟩
  have p4 := g1.1.2.2.2.1
  unfold wq_56
  rw [show ((21 : Int)).toNat = 21 from rfl, p4]
  refine ⟨g1.1.1, g1.1.1, show -2147483648 ≤ _ ∧ _ < 2147483648 by omega, ?_⟩
  rw [show (PL.length : Int) - 1 = ((PL.length - 1 : Nat) : Int) by omega]
  refine sp_57 g1.1 hc (t := PL.length - 1) (by omega) (by decide) (fun m2 f1 f2 => ?_)
  have e2 : m2 21 2 = PL.length := by rw [f1 21 2 (by decide), p4]
  rw [e2]
  refine ⟨g1.1.1, g1.1.1, show -2147483648 ≤ _ ∧ _ < 2147483648 by omega, ?_⟩
  have hlen : (PL.eraseIdx c).length = PL.length - 1 := List.length_eraseIdx_of_lt hc
  have fr : ∀ (z : Nat) (e : Int), z ≠ 22 → ¬ (z = 21 ∧ e = 2) → hy_u m2 21 2 ((PL.length : Int) - 1) z e = m1 z e := fun z e y1 y2 => by
    rw [hy_uf y2]
    exact f1 z e y1
  have e3 : hy_u m2 21 2 ((PL.length : Int) - 1) 21 2 = (PL.length : Int) - 1 := hy_us ..
  show Q (hy_u m2 21 2 ((PL.length : Int) - 1) 21 2) (hy_u m2 21 2 ((PL.length : Int) - 1))
  rw [e3]
  refine hq c _ rfl hc (cPs_21 hF g1 fr (cPo_row g1.1 hF2 (by decide) fr (fun k hk => by rw [hy_ua (by decide)]; exact f2 k hk) (fun k hk => mvI_20 (by omega) (by omega) hk) ?_ ?_ (fun i cl hi => ?_))) (fun z e y1 y2 => ?_)
  · rw [e3, hlen]
    omega
  · rw [hlen]
    omega
  · have hil := (List.getElem?_eq_some_iff.mp hi).1
    rw [List.getElem?_eraseIdx] at hi
    unfold mvI
    by_cases z : i < c
    · rw [if_pos z] at hi
      rw [if_neg (by omega), if_neg (by omega), if_neg (by omega)]
      exact hi
    · rw [if_neg z] at hi
      rw [if_neg (by omega), if_pos (by omega)]
      exact hi
  · rw [fr z e (by omega) (by omega)]
    exact g2 z e y1 y2
end CRT
