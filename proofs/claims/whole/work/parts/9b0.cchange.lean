/-! THE CLASS'S PROGRAM CHANGES -/
/-- clause k of the list in which clause c has gone to place t -/
def mvI (c t k : Nat) : Nat := if k = t then c else if c ≤ k ∧ k < t then k + 1 else if t < k ∧ k ≤ c then k - 1 else k
def mvP {α : Type} (l : List α) (c t : Nat) (l' : List α) : Prop := l'.length = l.length ∧ ∀ k, k < l.length → l'[k]? = l[mvI c t k]?
theorem mvI_lt {c t k n : Nat} (hc : c < n) (ht : t < n) (hk : k < n) : mvI c t k < n := by
  unfold mvI
  split
  · exact hc
  · split
    · omega
    · split <;> omega
theorem mvP_ex {α : Type} (l : List α) {c t : Nat} (hc : c < l.length) (ht : t < l.length) : ∃ l', mvP l c t l' := by
  refine ⟨(List.range l.length).attach.map (fun k => l[mvI c t k.1]'(mvI_lt hc ht (List.mem_range.mp k.2))), by simp, fun k hk => ?_⟩
  rw [List.getElem?_eq_getElem (mvI_lt hc ht hk)]
  simp [hk]
theorem mvP_uq {α : Type} {l l1 l2 : List α} {c t : Nat} (h1 : mvP l c t l1) (h2 : mvP l c t l2) : l1 = l2 := by
  refine List.ext_getElem? fun k => ?_
  by_cases hk : k < l.length
  · rw [h1.2 k hk, h2.2 k hk]
  · rw [List.getElem?_eq_none (by have := h1.1; omega), List.getElem?_eq_none (by have := h2.1; omega)]
section CCH
variable {T T' : hy_T} {m m' : hy_m} {F F' : Nat → Prop} {Q : Int → hy_m → Prop} {a b r rb c nv : Nat} {PL PLb : List pCl}
theorem cPo_fr (hp : cPo T m F a r PL) (hF : ∀ b, F b → F' b) (hT : ∀ b x, T.1 b = some x → T'.1 b = some x) (hm : ∀ (b : Nat) (e : Int), F b ∨ b = a ∨ b = r → m' b e = m b e) : cPo T' m' F' a r PL := by
  obtain ⟨p1, p2, p3, p4, p5, p6, ⟨no, p7, p7'⟩, p8⟩ := hp
  have ha : ∀ e, m' a e = m a e := fun e => hm a e (Or.inr (Or.inl rfl))
  have hr : ∀ e, m' r e = m r e := fun e => hm r e (Or.inr (Or.inr rfl))
  refine ⟨hT _ _ p1, by rw [ha]; exact p2, hT _ _ p3, by rw [ha]; exact p4, p5, fun i cl hi => ?_, ⟨no, by rw [ha]; exact p7, hT _ _ p7'⟩, fun i hi => ?_⟩
  · obtain ⟨⟨c, c1, c2⟩, c3⟩ := p6 i cl hi
    exact ⟨⟨c, by rw [hr]; exact c1, cCl_fr c2 hF (fun b x _ h => hT b x h) (fun b e h => hm b e (Or.inl h))⟩, c3⟩
  · obtain ⟨c, c1, c2⟩ := p8 i hi
    exact ⟨c, by rw [hr]; exact c1, hT _ _ c2⟩
/-- at, beyond the program -/
theorem sp_53n {x : Int} {no : Nat} (hp : cPo T m F a r PL) (hx : ¬ (0 ≤ x ∧ x < PL.length)) (hn : m a 0 = no) (hq : Q (no : Int) m) : wq_53 (a : Int) x T m Q := by
  unfold wq_53
  rw [Int.toNat_natCast]
  refine ⟨hp.1, sp_52 hp (fun h1 h2 => absurd ⟨h1, h2⟩ hx) (fun _ => ⟨fun _ => ⟨hp.1, ?_⟩, fun q => absurd rfl q⟩)⟩
  rw [hn]
  exact hq
/-- copyFrom -/
theorem sp_54 {PLa : List pCl} (hp : cPo T m F a r PLa) (hb : cPo T m F b rb PLb) (hne : a ≠ b ∧ a ≠ rb ∧ r ≠ b ∧ r ≠ rb ∧ a ≠ r) (hF : ¬ F a ∧ ¬ F r) (hq : ∀ m', (∀ (z : Nat) (e : Int), z ≠ r → ¬ (z = a ∧ e = 2) → m' z e = m z e) → cPo T m' F a r PLb → Q 0 m') : wq_54 (a : Int) (b : Int) T m Q := by
  obtain ⟨p1, p2, p3, p4, p5, p6, ⟨no, p7, p7'⟩, p8⟩ := hp
  have hb' := hb
  obtain ⟨b1, b2, b3, b4, b5, b6, ⟨nb, b7, b7'⟩, b8⟩ := hb
  have e20 : ((20 : Nat) : Int) = 20 := rfl
  have bI' : ∀ m', (∀ (z : Nat) (e : Int), z ≠ r → m' z e = m z e) → cPo T m' F b rb PLb := fun m' h => cPo_fr hb' (fun _ q => q) (fun _ _ q => q) (fun z e q => h z e (fun y => by
    rcases q with q | q | q
    · exact hF.2 (y ▸ q)
    · exact hne.2.2.1 (y.symm.trans q)
    · exact hne.2.2.2.1 (y.symm.trans q)))
  unfold wq_54 wq_54_2
  refine wL1_rule (Nat.lt_wfRel.wf) (fun x2 m' => ∃ d : Nat, x2 = d ∧ d ≤ 20 ∧ (∀ (z : Nat) (e : Int), z ≠ r → m' z e = m z e) ∧ ∀ k : Nat, k < d → m' r (k : Int) = if k < PLb.length then m rb (k : Int) else nb) (fun x2 _ => 30 - x2.toNat) ?_ ⟨0, rfl, by decide, fun _ _ _ => rfl, fun k hk => absurd hk (Nat.not_lt_zero _)⟩
  rintro P x2 m1 ⟨d, rfl, hd, hf, hk⟩ hP
  have ea : ∀ e, m1 a e = m a e := fun e => hf a e hne.2.2.2.2
  unfold wf_54_2
  rw [Int.toNat_natCast, Int.toNat_natCast, ea, p2, Int.toNat_natCast]
  refine ⟨p1, 113, 20, p3, by decide, fun q => ⟨b1, p1, hq _ (fun z e q1 q2 => ?_) ?_⟩, fun q => ⟨p1, b1, ?_⟩⟩
  · rw [hy_uf q2]
    exact hf z e q1
  · have hd20 : d = 20 := by omega
    subst hd20
    have e1 : ∀ e : Int, hy_u m1 a 2 (m1 b 2) r e = m1 r e := fun e => hy_ua (fun q => hne.2.2.2.2 q.symm)
    refine ⟨p1, ?_, p3, ?_, b5, fun i cl hi => ?_, ⟨no, ?_, p7'⟩, fun i hi => ?_⟩
    · rw [hy_uk (by decide), ea]
      exact p2
    · rw [hy_us, hf b 2 (fun q => hne.2.2.1 q.symm)]
      exact b4
    · have hil := (List.getElem?_eq_some_iff.mp hi).1
      obtain ⟨⟨c, c1, c2⟩, c3⟩ := b6 i cl hi
      refine ⟨⟨c, ?_, cCl_fr c2 (fun _ q => q) (fun _ _ _ q => q) (fun z e hz => ?_)⟩, c3⟩
      · rw [e1, hk i (by omega), if_pos hil]
        exact c1
      · rw [hy_ua (show z ≠ a from fun q => hF.1 (q ▸ hz))]
        exact hf z e (fun q => hF.2 (q ▸ hz))
    · rw [hy_uk (by decide), ea]
      exact p7
    · rw [e1, hk i hi]
      by_cases c : i < PLb.length
      · rw [if_pos c]
        exact b8 i hi
      · rw [if_neg c]
        exact ⟨nb, rfl, b7'⟩
  · have hbm := bI' m1 hf
    have key : ∀ v : Nat, T.1 v = some (3, 9) → (v : Int) = (if d < PLb.length then m rb (d : Int) else nb) → ∃ t3 n3 : Nat, T.1 r = some (t3, n3) ∧ 110 ≤ t3 ∧ (0 ≤ (d : Int) ∧ (d : Int) < (n3 : Int) ∧ (((v : Int) = 0 ∨ ∃ nv, T.1 ((v : Int)).toNat = some (t3 - 110, nv) ∧ t3 < 160) ∧ (hy_r 0 ((d : Int) + 1) ∧ (P ((d : Int) + 1) (hy_u m1 r (d : Int) (v : Int)))))) := by
      intro v hv e
      refine ⟨113, 20, p3, by decide, by omega, by omega, Or.inr ⟨9, by rw [Int.toNat_natCast]; exact hv, by decide⟩, show -2147483648 ≤ _ ∧ _ < 2147483648 by omega, hP _ _ ⟨d + 1, by omega, by omega, fun z e hz => by rw [hy_ua hz]; exact hf z e hz, fun k hk' => ?_⟩ ?_⟩
      · by_cases z : k = d
        · rw [z, hy_us, e]
        · rw [hy_uk (by omega)]
          exact hk k (by omega)
      · show 30 - _ < 30 - _
        omega
    by_cases c : d < PLb.length
    · refine sp_53 hbm (List.getElem?_eq_getElem c) (fun v v1 v2 v3 => key v (cCl_T v1) ?_)
      rw [if_pos c, ← v3, hf rb _ (fun q => hne.2.2.2.1 q.symm)]
    · refine sp_53n (no := nb) hbm (fun q => c (by omega)) ?_ (key nb b7' (by rw [if_neg c]))
      rw [hf b _ (fun q => hne.2.2.1 q.symm)]
      exact b7
/-- append -/
theorem sp_55 {cl : pCl} (hp : cPo T m F a r PL) (hc : cCl T m F c (some cl.1) cl.2.1 cl.2.2) (hk : kOK (some cl.1) cl.2.1 cl.2.2) (hl : PL.length < 20) (hne : a ≠ r) (hF : ¬ F a ∧ ¬ F r) (hq : ∀ m', (∀ (z : Nat) (e : Int), z ≠ r → ¬ (z = a ∧ e = 2) → m' z e = m z e) → cPo T m' F a r (PL ++ [cl]) → Q 0 m') : wq_55 (a : Int) (c : Int) T m Q := by
  obtain ⟨p1, p2, p3, p4, p5, p6, ⟨no, p7, p7'⟩, p8⟩ := hp
  have e20 : ((20 : Nat) : Int) = 20 := rfl
  have hT := cCl_T hc
  unfold wq_55
  rw [Int.toNat_natCast, p2, p4, Int.toNat_natCast]
  have e2 : hy_u m r (PL.length : Int) (c : Int) a 2 = PL.length := by rw [hy_ua hne, p4]
  rw [e2]
  refine ⟨p1, p1, 113, 20, p3, by decide, fun q => by omega, fun _ => ⟨p1, p1, 113, 20, p3, by decide, by omega, by omega, Or.inr ⟨9, by rw [Int.toNat_natCast]; exact hT, by decide⟩, p1, p1, show -2147483648 ≤ _ ∧ _ < 2147483648 by omega, hq _ (fun z e q1 q2 => ?_) ?_⟩⟩
  · rw [hy_uf q2, hy_ua q1]
  · have hfr : ∀ (z : Nat) (e : Int), F z → hy_u (hy_u m r (PL.length : Int) (c : Int)) a 2 ((PL.length : Int) + 1) z e = m z e := fun z e hz => by
      rw [hy_ua (show z ≠ a from fun q => hF.1 (q ▸ hz)), hy_ua (show z ≠ r from fun q => hF.2 (q ▸ hz))]
    have er : ∀ e : Int, hy_u (hy_u m r (PL.length : Int) (c : Int)) a 2 ((PL.length : Int) + 1) r e = hy_u m r (PL.length : Int) (c : Int) r e := fun e => hy_ua (fun q => hne q.symm)
    refine ⟨p1, ?_, p3, ?_, ?_, fun i cl' hi => ?_, ⟨no, ?_, p7'⟩, fun i hi => ?_⟩
    · rw [hy_uk (by decide), hy_ua hne]
      exact p2
    · rw [hy_us, List.length_append]
      rfl
    · rw [List.length_append]
      exact hl
    · by_cases ci : i < PL.length
      · rw [List.getElem?_append_left ci] at hi
        obtain ⟨⟨c', c1, c2⟩, c3⟩ := p6 i cl' hi
        refine ⟨⟨c', ?_, cCl_fr c2 (fun _ q => q) (fun _ _ _ q => q) hfr⟩, c3⟩
        rw [er, hy_uk (by omega)]
        exact c1
      · have hil := (List.getElem?_eq_some_iff.mp hi).1
        rw [List.length_append] at hil
        have ei : i = PL.length := by
          have : [cl].length = 1 := rfl
          omega
        subst ei
        rw [List.getElem?_append_right (Nat.le_refl _), Nat.sub_self] at hi
        injection hi with hi
        subst hi
        refine ⟨⟨c, ?_, cCl_fr hc (fun _ q => q) (fun _ _ _ q => q) hfr⟩, hk⟩
        rw [er, hy_us]
    · rw [hy_uk (by decide), hy_ua hne]
      exact p7
    · rw [er]
      by_cases z : i = PL.length
      · rw [z, hy_us]
        exact ⟨c, rfl, hT⟩
      · rw [hy_uk (by omega)]
        exact p8 i hi
/-- shift: the row afterwards -/
theorem sp_57 {x t : Nat} (hp : cPo T m F a r PL) (hx : x < PL.length) (ht : t < PL.length) (hne : a ≠ r) (hq : ∀ m', (∀ (z : Nat) (e : Int), z ≠ r → m' z e = m z e) → (∀ k : Nat, k < 20 → m' r (k : Int) = m r ((mvI x t k : Nat) : Int)) → Q 0 m') : wq_57 (a : Int) (x : Int) (t : Int) T m Q := by
  have hp' := hp
  obtain ⟨p1, p2, p3, p4, p5, p6, ⟨no, p7, p7'⟩, p8⟩ := hp
  have e20 : ((20 : Nat) : Int) = 20 := rfl
  unfold wq_57
  rw [Int.toNat_natCast]
  refine ⟨p1, sp_53 hp' (List.getElem?_eq_getElem hx) (fun c c1 c2 c3 => ?_)⟩
  have hTc := cCl_T c1
  unfold wq_57_9
  refine wL1_rule (Nat.lt_wfRel.wf) (fun x4 m' => ∃ d : Nat, x4 = d ∧ x ≤ d ∧ (d ≤ t ∨ d = x) ∧ (∀ (z : Nat) (e : Int), z ≠ r → m' z e = m z e) ∧ ∀ k : Nat, k < 20 → m' r (k : Int) = m r (((if x ≤ k ∧ k < d then k + 1 else k) : Nat) : Int)) (fun x4 _ => 30 - x4.toNat) ?_ ⟨x, rfl, Nat.le_refl _, Or.inr rfl, fun _ _ _ => rfl, fun k hk => by rw [if_neg (by omega)]⟩
  rintro P9 x4 m1 ⟨d, rfl, hd1, hd2, hf, hk⟩ hP
  have ea : ∀ e, m1 a e = m a e := fun e => hf a e hne
  unfold wf_57_9
  rw [Int.toNat_natCast, ea, p2, Int.toNat_natCast]
  refine ⟨fun q => ?_, fun q => ?_⟩
  · have hdt : d = max x t := by omega
    unfold wq_57_40
    refine wL1_rule (Nat.lt_wfRel.wf) (fun x4 m' => ∃ e : Nat, x4 = e ∧ e ≤ x ∧ (t ≤ e ∨ e = x) ∧ (∀ (z : Nat) (e : Int), z ≠ r → m' z e = m z e) ∧ ∀ k : Nat, k < 20 → m' r (k : Int) = m r (((if x ≤ k ∧ k < t then k + 1 else if e < k ∧ k ≤ x then k - 1 else k) : Nat) : Int)) (fun x4 _ => x4.toNat) ?_ ⟨x, rfl, Nat.le_refl _, Or.inr rfl, hf, fun k hk' => ?_⟩
    · rintro P40 x4 m2 ⟨e, rfl, he1, he2, hf2, hk2⟩ hP2
      have ea2 : ∀ e, m2 a e = m a e := fun e => hf2 a e hne
      unfold wf_57_40
      rw [Int.toNat_natCast, ea2, p2, Int.toNat_natCast]
      refine ⟨fun q2 => ⟨p1, 113, 20, p3, by decide, by omega, by omega, Or.inr ⟨9, by rw [Int.toNat_natCast]; exact hTc, by decide⟩, hq _ (fun z e hz => by rw [hy_ua hz]; exact hf2 z e hz) (fun k hk' => ?_)⟩, fun q2 => ⟨p1, p1, 113, 20, p3, by decide, by omega, by omega, 113, 20, p3, by decide, by omega, by omega, ?_, show -2147483648 ≤ _ ∧ _ < 2147483648 by omega, hP2 _ _ ⟨e - 1, by omega, by omega, by omega, fun z y hz => by rw [hy_ua hz]; exact hf2 z y hz, fun k hk' => ?_⟩ ?_⟩⟩
      · unfold mvI
        by_cases z : k = t
        · rw [if_pos z, z, hy_us, c3]
        · rw [if_neg z, hy_uk (by omega), hk2 k hk']
          by_cases w : x ≤ k ∧ k < t
          · rw [if_pos w, if_pos w]
          · rw [if_neg w, if_neg w]
            by_cases v : t < k ∧ k ≤ x
            · rw [if_pos v, if_pos (by omega)]
            · rw [if_neg v, if_neg (by omega)]
      · have := hk2 (e - 1) (by omega)
        rw [show ((e - 1 : Nat) : Int) = (e : Int) - 1 by omega, if_neg (by omega), if_neg (by omega)] at this
        rw [this]
        obtain ⟨v, v1, v2⟩ := p8 (e - 1) (by omega)
        refine Or.inr ⟨9, ?_, by decide⟩
        rw [show ((e - 1 : Nat) : Int) = (e : Int) - 1 by omega] at v1 ⊢
        rw [v1, Int.toNat_natCast]
        exact v2
      · have h1 := hk2 (e - 1) (by omega)
        rw [show ((e - 1 : Nat) : Int) = (e : Int) - 1 by omega, if_neg (by omega), if_neg (by omega)] at h1
        by_cases z : k = e
        · rw [z, hy_us, h1, if_neg (by omega), if_pos (by omega)]
        · rw [hy_uk (by omega), hk2 k hk']
          by_cases w : x ≤ k ∧ k < t
          · rw [if_pos w, if_pos w]
          · rw [if_neg w, if_neg w]
            by_cases v : e < k ∧ k ≤ x
            · rw [if_pos v, if_pos (by omega)]
            · rw [if_neg v, if_neg (by omega)]
      · show ((e : Int) + -1).toNat < ((e : Int)).toNat
        omega
    · rw [hk k hk']
      by_cases w : x ≤ k ∧ k < t
      · rw [if_pos w, if_pos (by omega)]
      · rw [if_neg w, if_neg (by omega), if_neg (by omega)]
  · have hdt : d < t := by omega
    have h1 := hk (d + 1) (by omega)
    rw [show ((d + 1 : Nat) : Int) = (d : Int) + 1 by omega, if_neg (by omega)] at h1
    refine ⟨p1, p1, 113, 20, p3, by decide, by omega, by omega, 113, 20, p3, by decide, by omega, by omega, ?_, show -2147483648 ≤ _ ∧ _ < 2147483648 by omega, hP _ _ ⟨d + 1, by omega, by omega, Or.inl (by omega), fun z y hz => by rw [hy_ua hz]; exact hf z y hz, fun k hk' => ?_⟩ ?_⟩
    · rw [h1]
      obtain ⟨v, v1, v2⟩ := p8 (d + 1) (by omega)
      refine Or.inr ⟨9, ?_, by decide⟩
      rw [show ((d + 1 : Nat) : Int) = (d : Int) + 1 by omega] at v1 ⊢
      rw [v1, Int.toNat_natCast]
      exact v2
    · by_cases z : k = d
      · rw [z, hy_us, h1, if_pos (by omega)]
      · rw [hy_uk (by omega), hk k hk']
        by_cases w : x ≤ k ∧ k < d
        · rw [if_pos w, if_pos (by omega)]
        · rw [if_neg w, if_neg (by omega)]
    · show 30 - _ < 30 - _
      omega
end CCH
