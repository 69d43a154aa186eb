/-! RETRACT, MOVE AND CONSULT, IN THE MODEL -/
theorem mvI_inv {c t i n : Nat} (hc : c < n) (ht : t < n) (hi : i < n) : ∃ k, k < n ∧ mvI c t k = i := by
  refine ⟨mvI t c i, mvI_lt ht hc hi, ?_⟩
  unfold mvI
  repeat' split
  all_goals omega
theorem mvI_inj {c t i j : Nat} (h : mvI c t i = mvI c t j) : i = j := by
  unfold mvI at h
  repeat' split at h
  all_goals omega
theorem mvP_nd {l l' : List Nat} {c t : Nat} (hc : c < l.length) (ht : t < l.length) (h : mvP l c t l') (hn : l.Nodup) : l'.Nodup := by
  refine List.pairwise_iff_getElem.mpr (fun i j hi hj hij e => ?_)
  have e1 := h.2 i (by have := h.1; omega)
  have e2 := h.2 j (by have := h.1; omega)
  rw [List.getElem?_eq_getElem hi] at e1
  rw [List.getElem?_eq_getElem hj, ← e, e1] at e2
  have := (List.getElem?_inj (mvI_lt hc ht (by have := h.1; omega)) hn).mp e2
  have := mvI_inj this
  omega
theorem mvP_mem {l l' : List Nat} {c t : Nat} (hc : c < l.length) (ht : t < l.length) (h : mvP l c t l') {z : Nat} (hz : z ∈ l) : z ∈ l' := by
  obtain ⟨i, hi⟩ := List.getElem?_of_mem hz
  have hil := (List.getElem?_eq_some_iff.mp hi).1
  obtain ⟨k, k1, k2⟩ := mvI_inv hc ht hil
  have := h.2 k k1
  rw [k2, hi] at this
  exact List.mem_of_getElem? this
section MRT
variable {T : hy_T} {m m' : hy_m} {Q : Int → hy_m → Prop} {PL PL' : List pCl} {ss ss' : List Nat} {PH : List (List pCl)} {HS : List (List Nat)}
theorem mLo_row {g : Nat → Nat} (h : mLo m 85 0 PL ss) (hr : mRw m m') (h0 : m' 85 0 = PL'.length) (hl : PL'.length ≤ 20) (hs : ss'.length = PL'.length) (hn : ss'.Nodup) (he : ∀ i : Nat, i < PL'.length → m' 85 (1 + (i : Int)) = m 85 (1 + ((g i : Nat) : Int)) ∧ PL'[i]? = PL[g i]? ∧ ss'[i]? = ss[g i]?) : mLo m' 85 0 PL' ss' := by
  obtain ⟨p1, p2, p3, p4, p5⟩ := h
  refine ⟨h0, hl, hs, hn, fun i cl s h1 h2 => ?_⟩
  have hi := (List.getElem?_eq_some_iff.mp h1).1
  obtain ⟨e1, e2, e3⟩ := he i hi
  rw [e2] at h1
  rw [e3] at h2
  obtain ⟨s1, s2, s3, s4⟩ := p5 _ cl s h1 h2
  rw [show (0 : Int) + 1 + ((g i : Nat) : Int) = 1 + ((g i : Nat) : Int) by omega] at s2
  exact ⟨s1, by rw [show (0 : Int) + 1 + (i : Int) = 1 + (i : Int) by omega, e1]; exact s2, clR_rw hr s3, s4⟩
/-- only the program's row has changed -/
theorem mPz_85 (h : mPz m PL ss (phN PH PL) (hsN HS ss)) (hf : ∀ (z : Nat) (e : Int), z ≠ 85 → m' z e = m z e) (hp : mLo m' 85 0 PL' ss') (hc : ∃ x, ∀ z ∈ ss, z ∈ ss' ∨ z = x) : mPz m' PL' ss' (phN PH PL) (hsN HS ss) := by
  obtain ⟨p1, p2, p3, p4, p5, p6⟩ := h
  have hrw : mRw m m' := fun a e a1 a2 => hf a e (by omega)
  refine ⟨hp, by rw [hf 74 13 (by decide)]; exact p2, p3, p4, ?_, fun i X s h1 h2 => mLo_fr (p6 i X s h1 h2) hrw (fun k _ _ => hf 86 _ (by decide))⟩
  unfold hsN at p5 ⊢
  by_cases e : HS.length = 6
  · rw [if_pos e] at p5 ⊢
    exact chP_app hc _ (chP_un _ p5)
  · rw [if_neg e] at p5 ⊢
    exact chP_app hc _ (chP_un _ p5)
theorem rFr_85 {m1 : hy_m} (h : rFr m m1) (hf : ∀ (z : Nat) (e : Int), z ≠ 85 → m' z e = m1 z e) : rFr m m' := by
  refine ⟨fun z e z1 z2 z3 z4 => by rw [hf z e z1]; exact h.1 z e z1 z2 z3 z4, ?_⟩
  obtain ⟨v1, v2, v3, v4⟩ := h.2
  exact ⟨fun e he => by rw [hf 74 e (by decide)]; exact v1 e he, by rw [hf 74 _ (by decide)]; exact v2, fun e e1 e2 => by rw [hf 95 e (by decide), hf 96 e (by decide)]; exact v3 e e1 e2, fun e e1 e2 => by rw [hf 97 e (by decide)]; exact v4 e e1 e2⟩
/-- retract -/
theorem sp_208 {x1 : Int} (hT : mTt T) (h : mPz m PL ss PH HS) (h0 : ¬ (0 ≤ x1 ∧ x1 < PL.length) → Q (-1) m) (hq : ∀ (c : Nat) m', x1 = c → c < PL.length → mPz m' (PL.eraseIdx c) (ss.eraseIdx c) (phN PH PL) (hsN HS ss) → rFr m m' → Q ((PL.length : Int) - 1) m') : wq_208 x1 T m Q := by
  have h20 := h.1.2.1
  unfold wq_208
  refine sp_205 (mLo_P h.1) (fun a1 a2 => ⟨fun _ => sp_204 hT h (fun m1 g1 g2 g3 => ?_), fun q => absurd q (by decide)⟩) (fun q => ⟨fun z => absurd rfl z, fun _ => h0 q⟩)
  obtain ⟨c, rfl⟩ : ∃ c : Nat, x1 = c := ⟨x1.toNat, by omega⟩
  have hc : c < PL.length := by omega
  have hcs : c < ss.length := by have := h.1.2.2.1; omega
  refine ⟨show -2147483648 ≤ _ ∧ _ < 2147483648 by omega, ?_⟩
  have hlen : (PL.eraseIdx c).length = PL.length - 1 := List.length_eraseIdx_of_lt hc
  have hlens : (ss.eraseIdx c).length = ss.length - 1 := List.length_eraseIdx_of_lt hcs
  have hl1 := h.1.2.2.1
  unfold wq_208_18
  refine wL1_rule (Nat.lt_wfRel.wf) (fun x2 m' => ∃ d : Nat, x2 = d ∧ c + 1 ≤ d ∧ d ≤ PL.length ∧ (∀ (z : Nat) (e : Int), z ≠ 85 → m' z e = m1 z e) ∧ m' 85 0 = (PL.length : Int) ∧ ∀ k : Nat, 1 ≤ k → k ≤ 20 → m' 85 (k : Int) = m1 85 (((if c + 1 ≤ k ∧ k < d then k + 1 else k) : Nat) : Int)) (fun x2 _ => 30 - x2.toNat) ?_ ⟨c + 1, by omega, Nat.le_refl _, by omega, fun _ _ _ => rfl, g1.1.1, fun k _ _ => by rw [if_neg (by omega)]⟩
  rintro P x2 m2 ⟨d, rfl, hd1, hd2, hf, h85, hk⟩ hP
  unfold wf_208_18
  rw [h85]
  refine ⟨by decide, by decide, fun q => ⟨by decide, by decide, by decide, by decide, show -2147483648 ≤ _ ∧ _ < 2147483648 by omega, by decide, by decide, ?_⟩, fun q => ⟨by omega, by omega, by omega, by omega, show -2147483648 ≤ _ ∧ _ < 2147483648 by omega, hP _ _ ⟨d + 1, by omega, by omega, by omega, fun z e hz => by rw [hy_ua hz]; exact hf z e hz, ?_, fun k k1 k2 => ?_⟩ ?_⟩⟩
  · have hdl : d = PL.length := by omega
    have fr : ∀ (z : Nat) (e : Int), z ≠ 85 → hy_u m2 85 0 ((PL.length : Int) - 1) z e = m1 z e := fun z e hz => by
      rw [hy_ua hz]
      exact hf z e hz
    refine hq c _ rfl hc (mPz_85 g1 fr (mLo_row (g := fun i => if c ≤ i then i + 1 else i) g1.1 (fun a e a1 a2 => fr a e (by omega)) ?_ (by omega) (by omega) (h.1.2.2.2.1.eraseIdx c) (fun i hi => ⟨?_, ?_, ?_⟩)) ⟨ss[c], fun z hz => ?_⟩) (rFr_85 g2 fr)
    · rw [hy_us, hlen]
      omega
    · rw [hy_uk (by omega), show 1 + (i : Int) = ((i + 1 : Nat) : Int) by omega, hk (i + 1) (by omega) (by omega)]
      by_cases w : c ≤ i
      · rw [if_pos (by omega), if_pos w]
        congr 1
        omega
      · rw [if_neg (by omega), if_neg w]
        congr 1
        omega
    · rw [List.getElem?_eraseIdx]
      by_cases w : c ≤ i
      · rw [if_neg (by omega), if_pos w]
      · rw [if_pos (by omega), if_neg w]
    · rw [List.getElem?_eraseIdx]
      by_cases w : c ≤ i
      · rw [if_neg (by omega), if_pos w]
      · rw [if_pos (by omega), if_neg w]
    · obtain ⟨i, hi⟩ := List.getElem?_of_mem hz
      by_cases w : i = c
      · subst w
        rw [List.getElem?_eq_getElem hcs] at hi
        injection hi with hi
        exact Or.inr hi.symm
      · exact Or.inl (List.mem_eraseIdx_iff_getElem?.mpr ⟨i, w, hi⟩)
  · rw [hy_uk (by omega)]
    exact h85
  · have e1 := hk (d + 1) (by omega) (by omega)
    rw [if_neg (by omega), show ((d + 1 : Nat) : Int) = (d : Int) + 1 by omega] at e1
    by_cases w : k = d
    · rw [w, hy_us, e1, if_pos (by omega)]
      rfl
    · rw [hy_uk (by omega), hk k k1 k2]
      by_cases v : c + 1 ≤ k ∧ k < d
      · rw [if_pos v, if_pos (by omega)]
      · rw [if_neg v, if_neg (by omega)]
  · show 30 - _ < 30 - _
    omega
/-- move -/
theorem sp_209 {x1 x2 : Int} (hT : mTt T) (h : mPz m PL ss PH HS) (h0 : ¬ ((0 ≤ x1 ∧ x1 < PL.length) ∧ (0 ≤ x2 ∧ x2 < PL.length)) → Q (-1) m) (hq : ∀ (c t : Nat) PL' ss' m', x1 = c → x2 = t → c < PL.length → t < PL.length → mvP PL c t PL' → mPz m' PL' ss' (phN PH PL) (hsN HS ss) → rFr m m' → Q x2 m') : wq_209 x1 x2 T m Q := by
  have h20 := h.1.2.1
  have hl1 := h.1.2.2.1
  unfold wq_209
  refine sp_205 (mLo_P h.1) (fun a1 a2 => ⟨fun q => absurd q (by decide), fun _ => sp_205 (mLo_P h.1) (fun b1 b2 => ⟨fun _ => sp_204 hT h (fun m1 g1 g2 g3 => ?_), fun q => absurd q (by decide)⟩) (fun q => ⟨fun z => absurd rfl z, fun _ => h0 (fun z => q z.2)⟩)⟩) (fun q => ⟨fun _ => h0 (fun z => q z.1), fun z => absurd rfl z⟩)
  obtain ⟨x, rfl⟩ : ∃ c : Nat, x1 = c := ⟨x1.toNat, by omega⟩
  obtain ⟨t, rfl⟩ : ∃ c : Nat, x2 = c := ⟨x2.toNat, by omega⟩
  have hx : x < PL.length := by omega
  have ht : t < PL.length := by omega
  obtain ⟨PL', hmv⟩ := mvP_ex PL hx ht
  obtain ⟨ss', hms⟩ := mvP_ex ss (c := x) (t := t) (by omega) (by omega)
  have hq := hq x t PL' ss'
  refine ⟨by omega, by omega, ?_⟩
  unfold wq_209_34
  refine wL1_rule (Nat.lt_wfRel.wf) (fun x4 m' => ∃ d : Nat, x4 = d ∧ x ≤ d ∧ (d ≤ t ∨ d = x) ∧ (∀ (z : Nat) (e : Int), z ≠ 85 → m' z e = m1 z e) ∧ m' 85 0 = m1 85 0 ∧ ∀ k : Nat, k < 20 → m' 85 (1 + (k : Int)) = m1 85 (1 + (((if x ≤ k ∧ k < d then k + 1 else k) : Nat) : Int))) (fun x4 _ => 30 - x4.toNat) ?_ ⟨x, rfl, Nat.le_refl _, Or.inr rfl, fun _ _ _ => rfl, rfl, fun k hk => by rw [if_neg (by omega)]⟩
  rintro P34 x4 m2 ⟨d, rfl, hd1, hd2, hf, h85, hk⟩ hP
  unfold wf_209_34
  refine ⟨fun q => ?_, fun q => ?_⟩
  · unfold wq_209_67
    refine wL1_rule (Nat.lt_wfRel.wf) (fun x4 m' => ∃ e : Nat, x4 = e ∧ e ≤ x ∧ (t ≤ e ∨ e = x) ∧ (∀ (z : Nat) (e : Int), z ≠ 85 → m' z e = m1 z e) ∧ m' 85 0 = m1 85 0 ∧ ∀ k : Nat, k < 20 → m' 85 (1 + (k : Int)) = m1 85 (1 + (((if x ≤ k ∧ k < t then k + 1 else if e < k ∧ k ≤ x then k - 1 else k) : Nat) : Int))) (fun x4 _ => x4.toNat) ?_ ⟨x, rfl, Nat.le_refl _, Or.inr rfl, hf, h85, fun k hk' => ?_⟩
    · rintro P67 x4 m3 ⟨e, rfl, he1, he2, hf2, h852, hk2⟩ hP2
      unfold wf_209_67
      refine ⟨fun q2 => ⟨by omega, by omega, ?_⟩, fun q2 => ⟨by omega, by omega, by omega, by omega, show -2147483648 ≤ _ ∧ _ < 2147483648 by omega, hP2 _ _ ⟨e - 1, by omega, by omega, by omega, fun z y hz => by rw [hy_ua hz]; exact hf2 z y hz, ?_, fun k hk' => ?_⟩ ?_⟩⟩
      · have fr : ∀ (z : Nat) (e : Int), z ≠ 85 → hy_u m3 85 (1 + (t : Int)) (m1 85 (1 + (x : Int))) z e = m1 z e := fun z e hz => by
          rw [hy_ua hz]
          exact hf2 z e hz
        refine hq _ rfl rfl hx ht hmv (mPz_85 g1 fr (mLo_row (g := mvI x t) g1.1 (fun a e a1 a2 => fr a e (by omega)) ?_ (by rw [hmv.1]; exact h20) (by rw [hms.1, hmv.1]; exact hl1) (mvP_nd (by omega) (by omega) hms h.1.2.2.2.1) (fun i hi => ⟨?_, hmv.2 i (by have := hmv.1; omega), hms.2 i (by have := hmv.1; omega)⟩)) ⟨0, fun z hz => Or.inl (mvP_mem (by omega) (by omega) hms hz)⟩) (rFr_85 g2 fr)
        · rw [hy_uk (by omega), h852, g1.1.1, hmv.1]
        · have hi20 : i < 20 := by have := hmv.1; omega
          unfold mvI
          by_cases z : i = t
          · rw [if_pos z, z, hy_us]
          · rw [if_neg z, hy_uk (by omega), hk2 i hi20]
            by_cases w : x ≤ i ∧ i < t
            · rw [if_pos w, if_pos w]
            · rw [if_neg w, if_neg w]
              by_cases v : t < i ∧ i ≤ x
              · rw [if_pos v, if_pos (by omega)]
              · rw [if_neg v, if_neg (by omega)]
      · rw [hy_uk (by omega)]
        exact h852
      · have e1 := hk2 (e - 1) (by omega)
        rw [if_neg (by omega), if_neg (by omega), show 1 + ((e - 1 : Nat) : Int) = (e : Int) by omega] at e1
        by_cases z : k = e
        · rw [z, hy_us, e1, if_neg (by omega), if_pos (by omega)]
          congr 1
          omega
        · rw [hy_uk (by omega), hk2 k hk']
          by_cases w : x ≤ k ∧ k < t
          · rw [if_pos w, if_pos w]
          · rw [if_neg w, if_neg w]
            by_cases v : e < k ∧ k ≤ x
            · rw [if_pos v, if_pos (by omega)]
            · rw [if_neg v, if_neg (by omega)]
      · show ((e : Int) + -1).toNat < ((e : Int)).toNat
        omega
    · rw [hk k hk']
      by_cases w : x ≤ k ∧ k < t
      · rw [if_pos w, if_pos (by omega)]
      · rw [if_neg w, if_neg (by omega), if_neg (by omega)]
  · have hdt : d < t := by omega
    have e1 := hk (d + 1) (by omega)
    rw [if_neg (by omega), show 1 + ((d + 1 : Nat) : Int) = 2 + (d : Int) by omega] at e1
    refine ⟨by omega, by omega, by omega, by omega, show -2147483648 ≤ _ ∧ _ < 2147483648 by omega, hP _ _ ⟨d + 1, by omega, by omega, Or.inl (by omega), fun z y hz => by rw [hy_ua hz]; exact hf z y hz, ?_, fun k hk' => ?_⟩ ?_⟩
    · rw [hy_uk (by omega)]
      exact h85
    · by_cases z : k = d
      · rw [z, hy_us, e1, if_pos (by omega)]
        congr 1
        omega
      · rw [hy_uk (by omega), hk k hk']
        by_cases w : x ≤ k ∧ k < d
        · rw [if_pos w, if_pos (by omega)]
        · rw [if_neg w, if_neg (by omega)]
    · show 30 - _ < 30 - _
      omega
end MRT
