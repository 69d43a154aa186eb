/-! THE MODEL'S TEXT AND PARTS -/
theorem hy_uu (m : hy_m) (a : Nat) (e v w : Int) : hy_u (hy_u m a e v) a e w = hy_u m a e w := by
  funext b j
  unfold hy_u
  by_cases h : b = a ∧ j = e
  · rw [if_pos h, if_pos h]
  · rw [if_neg h, if_neg h, if_neg h]
theorem hy_uc {m : hy_m} {a b : Nat} {e f v w : Int} (h : a ≠ b ∨ e ≠ f) : hy_u (hy_u m a e v) b f w = hy_u (hy_u m b f w) a e v := by
  funext c j
  unfold hy_u
  by_cases h1 : c = b ∧ j = f
  · rw [if_pos h1, if_neg (by rintro ⟨rfl, rfl⟩; omega), if_pos h1]
  · rw [if_neg h1]
    by_cases h2 : c = a ∧ j = e
    · rw [if_pos h2, if_pos h2]
    · rw [if_neg h2, if_neg h2, if_neg h1]
theorem hy_ui {m : hy_m} {a : Nat} {e v : Int} (h : m a e = v) : hy_u m a e v = m := by
  funext b j
  unfold hy_u
  by_cases h1 : b = a ∧ j = e
  · rw [if_pos h1, ← h, h1.1, h1.2]
  · rw [if_neg h1]
/-- the text that the model holds -/
def mTx (m : hy_m) (tx : List Int) : Prop := m 74 1 = tx.length ∧ tx.length ≤ 120 ∧ (∀ i : Nat, i < tx.length → m 75 i = hd (tx.drop i)) ∧ ∀ c ∈ tx, 32 ≤ c ∧ c ≤ 126
theorem mTx.u {m : hy_m} {tx : List Int} {e v : Int} (h : mTx m tx) (he : e ≠ 1) : mTx (hy_u m 74 e v) tx := by
  refine ⟨by rw [hy_uk (Ne.symm he)]; exact h.1, h.2.1, fun i hi => ?_, h.2.2.2⟩
  rw [hy_ua (by decide)]
  exact h.2.2.1 i hi
section MT
variable {m : hy_m} {tx : List Int} {Q : Int → hy_m → Prop}
theorem sp_172 {p : Nat} (h : mTx m tx) (hp : m 74 14 = p) (hq : Q (hd (tx.drop p)) m) : wq_172 m Q := by
  unfold wq_172
  rw [h.1, hp]
  refine ⟨fun hc => ?_, fun hc => ?_⟩
  · rw [hd_none (by omega)] at hq
    exact hq
  · have h2 := h.2.1
    refine ⟨by omega, by omega, ?_⟩
    rw [h.2.2.1 p (by omega)]
    exact hq
theorem sp_173 {x : Int} (h1 : cSm x = true → Q 1 m) (h0 : cSm x = false → Q 0 m) : wq_173 x m Q := by
  unfold wq_173
  unfold cSm at h1 h0
  refine ⟨fun hc => h0 (by rw [Bool.and_eq_false_iff]; simp only [decide_eq_false_iff_not]; omega), fun hc => ⟨fun hd => h0 (by rw [Bool.and_eq_false_iff]; simp only [decide_eq_false_iff_not]; omega), fun hd => h1 (by rw [Bool.and_eq_true, decide_eq_true_eq, decide_eq_true_eq]; omega)⟩⟩
theorem sp_174 {x : Int} (h1 : cLg x = true → Q 1 m) (h0 : cLg x = false → Q 0 m) : wq_174 x m Q := by
  unfold wq_174
  unfold cLg at h1 h0
  refine ⟨fun hc => h0 (by rw [Bool.and_eq_false_iff]; simp only [decide_eq_false_iff_not]; omega), fun hc => ⟨fun hd => h0 (by rw [Bool.and_eq_false_iff]; simp only [decide_eq_false_iff_not]; omega), fun hd => h1 (by rw [Bool.and_eq_true, decide_eq_true_eq, decide_eq_true_eq]; omega)⟩⟩
theorem sp_175 {x : Int} (h1 : cDg x = true → Q 1 m) (h0 : cDg x = false → Q 0 m) : wq_175 x m Q := by
  unfold wq_175
  unfold cDg at h1 h0
  refine ⟨fun hc => h0 (by rw [Bool.and_eq_false_iff]; simp only [decide_eq_false_iff_not]; omega), fun hc => ⟨fun hd => h0 (by rw [Bool.and_eq_false_iff]; simp only [decide_eq_false_iff_not]; omega), fun hd => h1 (by rw [Bool.and_eq_true, decide_eq_true_eq, decide_eq_true_eq]; omega)⟩⟩
/-- found and at -/
def mFA (m : hy_m) (f a : Int) : hy_m := hy_u (hy_u m 74 17 f) 74 14 a
theorem mFA_14 (f a : Int) : mFA m f a 74 14 = a := hy_us _ _ _ _
theorem mFA_17 (f a : Int) : mFA m f a 74 17 = f := by unfold mFA; rw [hy_uk (by decide), hy_us]
theorem mFA_T (h : mTx m tx) (f a : Int) : mTx (mFA m f a) tx := (h.u (by decide)).u (by decide)
theorem mFA_n (f a g b : Int) : hy_u (hy_u (mFA m f a) 74 17 g) 74 14 b = mFA m g b := by
  unfold mFA
  rw [hy_uc (a := 74) (b := 74) (e := 14) (f := 17) (Or.inr (by decide)), hy_uu, hy_uu]
theorem sp_176 {kd : Int} {mo p : Nat} (h : mTx m tx) (hp : m 74 14 = p) (hpl : p ≤ tx.length) (hm : mo ≤ 6) (hq : Q 0 (hy_u (mFA m (pkM ((tx.drop p).take (min ((tx.drop p).takeWhile cWd).length mo))) ((p + ((tx.drop p).takeWhile cWd).length : Nat) : Int)) 74 15 (if ((tx.drop p).takeWhile cWd).length ≤ mo then kd else 12))) : wq_176 kd mo m Q := by
  have hL := h.2.1
  have hc6 : ∀ c ∈ tx.drop p, 32 ≤ c ∧ c ≤ 126 := fun c hc => h.2.2.2 c (List.mem_of_mem_drop hc)
  have hll : (tx.drop p).length = tx.length - p := List.length_drop
  unfold wq_176 wq_176_10
  rw [hp]
  have e0 : hy_u m 74 17 0 = mFA m (pkM ((tx.drop p).take (min 0 mo))) ((p + 0 : Nat) : Int) := by
    unfold mFA
    rw [Nat.zero_min]
    show hy_u m 74 17 0 = hy_u (hy_u m 74 17 0) 74 14 (p : Int)
    exact (hy_ui (by rw [hy_uk (by decide)]; exact hp)).symm
  rw [e0]
  have htl := tw_le (p := cWd) (tx.drop p)
  refine wL0_rule (Nat.lt_wfRel.wf) (fun m' => ∃ k : Nat, k ≤ ((tx.drop p).takeWhile cWd).length ∧ m' = mFA m (pkM ((tx.drop p).take (min k mo))) ((p + k : Nat) : Int)) (fun m' => 200 - (m' 74 14).toNat) ?_ ⟨0, Nat.zero_le _, rfl⟩
  rintro P m' ⟨k, hk, rfl⟩ hP
  have hT := mFA_T h (pkM ((tx.drop p).take (min k mo))) ((p + k : Nat) : Int)
  have h14 := mFA_14 (m := m) (pkM ((tx.drop p).take (min k mo))) ((p + k : Nat) : Int)
  have hdd : tx.drop (p + k) = (tx.drop p).drop k := by rw [List.drop_drop]
  have hw := tw_hd (p := cWd) rfl (tx.drop p) k hk
  have adv : cWd (hd ((tx.drop p).drop k)) = true → wq_176_40 P kd mo p (mFA m (pkM ((tx.drop p).take (min k mo))) ((p + k : Nat) : Int)) Q := by
    intro hcw
    have hkl := hw.mp hcw
    have hb := pkM_b hc6 (min k mo) (by omega)
    unfold wq_176_40
    rw [h14, mFA_17]
    refine ⟨show -2147483648 ≤ _ ∧ _ < 2147483648 by omega, fun hge => ?_, fun hlt => ?_⟩
    · refine ⟨show -2147483648 ≤ _ ∧ _ < 2147483648 by omega, ?_⟩
      rw [mFA_n]
      refine hP _ ⟨k + 1, by omega, ?_⟩ ?_
      · rw [show min (k + 1) mo = min k mo by omega]
        congr 1
      · rw [mFA_14, h14]
        show 200 - _ < 200 - _
        omega
    · refine sp_172 hT h14 ?_
      rw [hdd, h14]
      have hcc := hc6 _ (hd_mem (l := tx.drop p) (k := k) (by omega))
      refine ⟨show -9223372036854775808 ≤ _ ∧ _ < 9223372036854775808 by omega, show -2147483648 ≤ _ ∧ _ < 2147483648 by omega, ?_⟩
      rw [mFA_n]
      refine hP _ ⟨k + 1, by omega, ?_⟩ ?_
      · rw [show min (k + 1) mo = k + 1 by omega, show min k mo = k by omega, take_hd (by omega), pkM_s]
        congr 1
      · rw [mFA_14, h14]
        show 200 - _ < 200 - _
        omega
  unfold wf_176_10
  refine sp_172 hT h14 (sp_173 (fun hs => ⟨fun _ => ?_, fun q => by omega⟩) (fun hs => ⟨fun q => by omega, fun _ => ?_⟩))
  · rw [hdd] at hs
    exact adv (by unfold cWd; rw [hs]; rfl)
  refine sp_172 hT h14 (sp_174 (fun hl => ⟨fun _ => ?_, fun q => by omega⟩) (fun hl => ⟨fun q => by omega, fun _ => ?_⟩))
  · rw [hdd] at hl
    exact adv (by unfold cWd; rw [hl]; simp)
  refine sp_172 hT h14 (sp_175 (fun hf => ⟨fun q => by omega, fun _ => ?_⟩) (fun hf => ⟨fun _ => ?_, fun q => by omega⟩))
  · rw [hdd] at hf
    exact adv (by unfold cWd; rw [hf]; simp)
  have hkn : k = ((tx.drop p).takeWhile cWd).length := by
    have : ¬ cWd (hd ((tx.drop p).drop k)) = true := by
      rw [hdd] at hs hl hf
      unfold cWd
      rw [hs, hl, hf]
      decide
    have : ¬ k < ((tx.drop p).takeWhile cWd).length := fun q => this (hw.mpr q)
    omega
  rw [h14]
  rw [← hkn] at hq
  refine ⟨show -2147483648 ≤ _ ∧ _ < 2147483648 by omega, fun hle => ?_, fun hgt => ?_⟩
  · rw [if_pos (by omega)] at hq
    exact hq
  · rw [if_neg (by omega)] at hq
    exact hq
theorem sp_177 {p : Nat} (h : mTx m tx) (hp : m 74 14 = p) (hpl : p ≤ tx.length) (hq : Q 0 (hy_u (mFA m (pkI ((tx.drop p).take (min ((tx.drop p).takeWhile cDg).length 6))) ((p + ((tx.drop p).takeWhile cDg).length : Nat) : Int)) 74 15 (if ((tx.drop p).takeWhile cDg).length ≤ 6 then 3 else 12))) : wq_177 m Q := by
  have hL := h.2.1
  have hll : (tx.drop p).length = tx.length - p := List.length_drop
  unfold wq_177 wq_177_10
  rw [hp]
  have e0 : hy_u m 74 17 0 = mFA m (pkI ((tx.drop p).take (min 0 6))) ((p + 0 : Nat) : Int) := by
    unfold mFA
    rw [Nat.zero_min]
    show hy_u m 74 17 0 = hy_u (hy_u m 74 17 0) 74 14 (p : Int)
    exact (hy_ui (by rw [hy_uk (by decide)]; exact hp)).symm
  rw [e0]
  have htl := tw_le (p := cDg) (tx.drop p)
  refine wL0_rule (Nat.lt_wfRel.wf) (fun m' => ∃ k : Nat, k ≤ ((tx.drop p).takeWhile cDg).length ∧ m' = mFA m (pkI ((tx.drop p).take (min k 6))) ((p + k : Nat) : Int)) (fun m' => 200 - (m' 74 14).toNat) ?_ ⟨0, Nat.zero_le _, rfl⟩
  rintro P m' ⟨k, hk, rfl⟩ hP
  have hT := mFA_T h (pkI ((tx.drop p).take (min k 6))) ((p + k : Nat) : Int)
  have h14 := mFA_14 (m := m) (pkI ((tx.drop p).take (min k 6))) ((p + k : Nat) : Int)
  have hdd : tx.drop (p + k) = (tx.drop p).drop k := by rw [List.drop_drop]
  have hw := tw_hd (p := cDg) rfl (tx.drop p) k hk
  unfold wf_177_10
  refine sp_172 hT h14 (sp_175 (fun hf => ⟨fun q => by omega, fun _ => ?_⟩) (fun hf => ⟨fun _ => ?_, fun q => by omega⟩))
  · rw [hdd] at hf
    have hkl := hw.mp hf
    have hb : 0 ≤ pkI ((tx.drop p).take (min k 6)) ∧ pkI ((tx.drop p).take (min k 6)) < 1000000 := by
      have e : (tx.drop p).take (min k 6) = ((tx.drop p).takeWhile cDg).take (min k 6) := take_tw _ _ (by omega)
      rw [e]
      have := pkI_b (l := (tx.drop p).takeWhile cDg) (fun c hc => tw_all _ c hc) (min k 6) (by omega)
      exact ⟨this.1, this.2.1⟩
    rw [h14, mFA_17]
    refine ⟨show -2147483648 ≤ _ ∧ _ < 2147483648 by omega, fun hge => ?_, fun hlt => ?_⟩
    · refine ⟨show -2147483648 ≤ _ ∧ _ < 2147483648 by omega, ?_⟩
      rw [mFA_n]
      refine hP _ ⟨k + 1, by omega, ?_⟩ ?_
      · rw [show min (k + 1) 6 = min k 6 by omega]
        congr 1
      · rw [mFA_14, h14]
        show 200 - _ < 200 - _
        omega
    · refine sp_172 hT h14 ?_
      rw [hdd, h14]
      have hcc : 48 ≤ hd ((tx.drop p).drop k) ∧ hd ((tx.drop p).drop k) ≤ 57 := by
        unfold cDg at hf
        rw [Bool.and_eq_true, decide_eq_true_eq, decide_eq_true_eq] at hf
        exact hf
      refine ⟨show -9223372036854775808 ≤ _ ∧ _ < 9223372036854775808 by omega, show -2147483648 ≤ _ ∧ _ < 2147483648 by omega, ?_⟩
      rw [mFA_n]
      refine hP _ ⟨k + 1, by omega, ?_⟩ ?_
      · rw [show min (k + 1) 6 = k + 1 by omega, show min k 6 = k by omega, take_hd (by omega), pkI_s]
        congr 1
      · rw [mFA_14, h14]
        show 200 - _ < 200 - _
        omega
  · rw [hdd] at hf
    have hkn : k = ((tx.drop p).takeWhile cDg).length := by
      have : ¬ k < ((tx.drop p).takeWhile cDg).length := fun q => by
        have := hw.mpr q
        rw [hf] at this
        cases this
      omega
    rw [h14]
    rw [← hkn] at hq
    refine ⟨show -2147483648 ≤ _ ∧ _ < 2147483648 by omega, fun hle => ?_, fun hgt => ?_⟩
    · rw [if_pos (by omega)] at hq
      exact hq
    · rw [if_neg (by omega)] at hq
      exact hq
theorem sp_178 {x : Int} (hq : Q (sgn x) m) : wq_178 x m Q := by
  unfold wq_178
  unfold sgn at hq
  refine ⟨fun h => ?_, fun h1 => ⟨fun h => ?_, fun h2 => ⟨fun h => ?_, fun h3 => ⟨fun h => ?_, fun h4 => ⟨fun h => ?_, fun h5 => ⟨fun h => ?_, fun h6 => ⟨fun h => ?_, fun h7 => ?_⟩⟩⟩⟩⟩⟩⟩
  · subst h; exact hq
  · subst h; exact hq
  · subst h; exact hq
  · subst h; exact hq
  · subst h; exact hq
  · subst h; exact hq
  · subst h; exact hq
  · rw [if_neg h4, if_neg h3, if_neg h1, if_neg h2, if_neg h5, if_neg h6, if_neg h7] at hq
    exact hq
/-- the next part has been read: it begins at st -/
def mNx (m m' : hy_m) (tx : List Int) (st : Nat) : Prop := m' 74 16 = st ∧ m' 74 15 = (tk (tx.drop st)).1 ∧ m' 74 14 = ((st + (tk (tx.drop st)).2 : Nat) : Int) ∧ ((tk (tx.drop st)).1 = 1 ∨ (tk (tx.drop st)).1 = 2 → m' 74 17 = pkM ((tx.drop st).take (tk (tx.drop st)).2)) ∧ ((tk (tx.drop st)).1 = 3 → m' 74 17 = pkI ((tx.drop st).take (tk (tx.drop st)).2)) ∧ ∀ a e, ¬ (a = 74 ∧ (e = 14 ∨ e = 15 ∨ e = 16 ∨ e = 17)) → m' a e = m a e
theorem mFr {M : hy_m} {a : Nat} {f v e : Int} (hn : ¬ (a = 74 ∧ (e = 14 ∨ e = 15 ∨ e = 16 ∨ e = 17))) (hf : f = 14 ∨ f = 15 ∨ f = 16 ∨ f = 17) : hy_u M 74 f v a e = M a e := if_neg (fun q => hn ⟨q.1, by rw [q.2]; exact hf⟩)
theorem sp_179 {p : Nat} (h : mTx m tx) (hp : m 74 14 = p) (hpl : p ≤ tx.length) (hq : ∀ m', mNx m m' tx (sk tx p) → Q 0 m') : wq_179 m Q := by
  have hL := h.2.1
  unfold wq_179
  have hs := sk_le hpl
  refine wL0_rule (Nat.lt_wfRel.wf) (fun m' => ∃ k : Nat, k ≤ ((tx.drop p).takeWhile cSp).length ∧ m' = hy_u m 74 14 ((p + k : Nat) : Int)) (fun m' => 200 - (m' 74 14).toNat) ?_ ⟨0, Nat.zero_le _, (hy_ui hp).symm⟩
  rintro P m' ⟨k, hk, rfl⟩ hP
  have hT : mTx (hy_u m 74 14 ((p + k : Nat) : Int)) tx := h.u (by decide)
  have h14 : hy_u m 74 14 ((p + k : Nat) : Int) 74 14 = ((p + k : Nat) : Int) := hy_us _ _ _ _
  have hdd : tx.drop (p + k) = (tx.drop p).drop k := by rw [List.drop_drop]
  have hw := tw_hd (p := cSp) rfl (tx.drop p) k hk
  unfold sk at hs
  unfold wf_179_0
  refine sp_172 hT h14 ⟨fun hne => ?_, fun heq => ?_⟩
  · have hkn : k = ((tx.drop p).takeWhile cSp).length := by
      have : ¬ k < ((tx.drop p).takeWhile cSp).length := fun q => by
        have := hw.mpr q
        unfold cSp at this
        rw [decide_eq_true_eq, ← hdd] at this
        exact hne this
      omega
    have hsk : sk tx p = p + k := by unfold sk; omega
    rw [hsk] at hq
    rw [h14]
    generalize hst : p + k = st at hq hne hT h14 ⊢
    have hst2 : st ≤ tx.length := by omega
    have hT2 : mTx (hy_u (hy_u m 74 14 (st : Int)) 74 16 (st : Int)) tx := hT.u (by decide)
    have h14b : hy_u (hy_u m 74 14 (st : Int)) 74 16 (st : Int) 74 14 = (st : Int) := by rw [hy_uk (by decide)]; exact h14
    have h16b : hy_u (hy_u m 74 14 (st : Int)) 74 16 (st : Int) 74 16 = (st : Int) := hy_us _ _ _ _
    have hfr : ∀ a e, ¬ (a = 74 ∧ (e = 14 ∨ e = 15 ∨ e = 16 ∨ e = 17)) → hy_u (hy_u m 74 14 (st : Int)) 74 16 (st : Int) a e = m a e := fun a e hn => by rw [mFr hn (by omega), mFr hn (by omega)]
    have h1b : hy_u (hy_u m 74 14 (st : Int)) 74 16 (st : Int) 74 1 = (tx.length : Int) := hT2.1
    generalize hM : hy_u (hy_u m 74 14 (st : Int)) 74 16 (st : Int) = M at hT2 h14b h16b hfr h1b ⊢
    refine sp_172 hT2 h14b ⟨fun hne2 => ?_, fun heq2 => ?_⟩
    · rw [h14b, h1b] at hne2
      have hlt : st < tx.length := by omega
      have hcons := hd_drop hlt
      generalize hc : hd (tx.drop st) = c at hcons hne ⊢
      refine sp_173 (fun hsm => ⟨fun q => by omega, fun _ => ?_⟩) (fun hsm => ⟨fun _ => ?_, fun q => by omega⟩)
      · have htk : tk (tx.drop st) = (if ((tx.drop st).takeWhile cWd).length ≤ 6 then 1 else 12, ((tx.drop st).takeWhile cWd).length) := by
          rw [hcons]
          unfold tk
          dsimp only
          rw [if_pos hsm]
        refine sp_176 (mo := 6) hT2 h14b hst2 (by omega) (hq _ ⟨?_, ?_, ?_, ?_, ?_, ?_⟩)
        · unfold mFA
          rw [hy_uk (by decide), hy_uk (by decide), hy_uk (by decide)]
          exact h16b
        · rw [htk, hy_us]
        · rw [htk, hy_uk (by decide), mFA_14]
        · rw [htk]
          intro hk
          rw [hy_uk (by decide), mFA_17]
          by_cases h6 : ((tx.drop st).takeWhile cWd).length ≤ 6
          · dsimp only
            rw [show min ((tx.drop st).takeWhile cWd).length 6 = ((tx.drop st).takeWhile cWd).length by omega]
          · dsimp only at hk
            rw [if_neg h6] at hk
            omega
        · rw [htk]
          intro hk
          dsimp only at hk
          split at hk <;> omega
        · intro a e hn
          unfold mFA
          rw [mFr hn (by omega), mFr hn (by omega), mFr hn (by omega)]
          exact hfr a e hn
      refine sp_174 (fun hlg => ⟨fun q => by omega, fun _ => ?_⟩) (fun hlg => ⟨fun _ => ?_, fun q => by omega⟩)
      · have htk : tk (tx.drop st) = (if ((tx.drop st).takeWhile cWd).length ≤ 4 then 2 else 12, ((tx.drop st).takeWhile cWd).length) := by
          rw [hcons]
          unfold tk
          dsimp only
          rw [if_neg (by rw [hsm]; decide), if_pos hlg]
        refine sp_176 (mo := 4) hT2 h14b hst2 (by omega) (hq _ ⟨?_, ?_, ?_, ?_, ?_, ?_⟩)
        · unfold mFA
          rw [hy_uk (by decide), hy_uk (by decide), hy_uk (by decide)]
          exact h16b
        · rw [htk, hy_us]
        · rw [htk, hy_uk (by decide), mFA_14]
        · rw [htk]
          intro hk
          rw [hy_uk (by decide), mFA_17]
          by_cases h6 : ((tx.drop st).takeWhile cWd).length ≤ 4
          · dsimp only
            rw [show min ((tx.drop st).takeWhile cWd).length 4 = ((tx.drop st).takeWhile cWd).length by omega]
          · dsimp only at hk
            rw [if_neg h6] at hk
            omega
        · rw [htk]
          intro hk
          dsimp only at hk
          split at hk <;> omega
        · intro a e hn
          unfold mFA
          rw [mFr hn (by omega), mFr hn (by omega), mFr hn (by omega)]
          exact hfr a e hn
      refine sp_175 (fun hdg => ⟨fun q => by omega, fun _ => ?_⟩) (fun hdg => ⟨fun _ => ?_, fun q => by omega⟩)
      · have htk : tk (tx.drop st) = (if ((tx.drop st).takeWhile cDg).length ≤ 6 then 3 else 12, ((tx.drop st).takeWhile cDg).length) := by
          rw [hcons]
          unfold tk
          dsimp only
          rw [if_neg (by rw [hsm]; decide), if_neg (by rw [hlg]; decide), if_pos hdg]
        refine sp_177 hT2 h14b hst2 (hq _ ⟨?_, ?_, ?_, ?_, ?_, ?_⟩)
        · unfold mFA
          rw [hy_uk (by decide), hy_uk (by decide), hy_uk (by decide)]
          exact h16b
        · rw [htk, hy_us]
        · rw [htk, hy_uk (by decide), mFA_14]
        · rw [htk]
          intro hk
          dsimp only at hk
          split at hk <;> omega
        · rw [htk]
          intro hk
          rw [hy_uk (by decide), mFA_17]
          by_cases h6 : ((tx.drop st).takeWhile cDg).length ≤ 6
          · dsimp only
            rw [show min ((tx.drop st).takeWhile cDg).length 6 = ((tx.drop st).takeWhile cDg).length by omega]
          · dsimp only at hk
            rw [if_neg h6] at hk
            omega
        · intro a e hn
          unfold mFA
          rw [mFr hn (by omega), mFr hn (by omega), mFr hn (by omega)]
          exact hfr a e hn
      have one : ¬ (c = 58 ∧ hd (tx.drop (st + 1)) = 45) → wq_179_155 c M Q := by
        intro hno
        have htk : tk (tx.drop st) = (sgn c, 1) := by
          rw [hcons]
          unfold tk
          dsimp only
          rw [if_neg (by rw [hsm]; decide), if_neg (by rw [hlg]; decide), if_neg (by rw [hdg]; decide), if_neg hno]
        unfold wq_179_155
        rw [h14b]
        refine ⟨show -2147483648 ≤ _ ∧ _ < 2147483648 by omega, sp_178 (hq _ ⟨?_, ?_, ?_, ?_, ?_, ?_⟩)⟩
        · rw [hy_uk (by decide), hy_uk (by decide)]
          exact h16b
        · rw [htk, hy_us]
        · rw [htk, hy_uk (by decide), hy_us]
          rfl
        · rw [htk]
          unfold sgn
          intro hk
          dsimp only at hk
          repeat' split at hk
          all_goals omega
        · rw [htk]
          unfold sgn
          intro hk
          dsimp only at hk
          repeat' split at hk
          all_goals omega
        · intro a e hn
          rw [mFr hn (by omega), mFr hn (by omega)]
          exact hfr a e hn
      refine ⟨fun hn => one (fun q => hn q.1), fun hy => ⟨by rw [h14b]; exact (show -2147483648 ≤ _ ∧ _ < 2147483648 by omega), fun hle => ?_, fun hlt2 => ⟨by rw [h14b]; omega, by rw [h14b]; omega, fun hn => ?_, fun hy2 => ?_⟩⟩⟩
      · rw [h1b, h14b] at hle
        refine one (fun q => ?_)
        rw [hd_none (by omega)] at q
        exact absurd q.2 (by decide)
      · rw [h14b, h1b] at hlt2
        rw [h14b] at hn
        refine one (fun q => hn ?_)
        have := hT2.2.2.1 (st + 1) (by omega)
        rw [show ((st + 1 : Nat) : Int) = (st : Int) + 1 by omega] at this
        rw [this]
        exact q.2
      · rw [h14b, h1b] at hlt2
        rw [h14b] at hy2
        have h45 : hd (tx.drop (st + 1)) = 45 := by
          have := hT2.2.2.1 (st + 1) (by omega)
          rw [show ((st + 1 : Nat) : Int) = (st : Int) + 1 by omega] at this
          rw [← this]
          exact hy2
        have htk : tk (tx.drop st) = (11, 2) := by
          rw [hcons]
          unfold tk
          dsimp only
          rw [if_neg (by rw [hsm]; decide), if_neg (by rw [hlg]; decide), if_neg (by rw [hdg]; decide), if_pos ⟨hy, h45⟩]
        rw [h14b]
        refine ⟨show -2147483648 ≤ _ ∧ _ < 2147483648 by omega, hq _ ⟨?_, ?_, ?_, ?_, ?_, ?_⟩⟩
        · rw [hy_uk (by decide), hy_uk (by decide)]
          exact h16b
        · rw [htk, hy_us]
        · rw [htk, hy_uk (by decide), hy_us]
          rfl
        · rw [htk]
          intro hk
          dsimp only at hk
          omega
        · rw [htk]
          intro hk
          dsimp only at hk
          omega
        · intro a e hn
          rw [mFr hn (by omega), mFr hn (by omega)]
          exact hfr a e hn
    · rw [h14b, h1b] at heq2
      have htk : tk (tx.drop st) = (0, 0) := by
        rw [List.drop_eq_nil_of_le (by omega)]
        rfl
      refine hq _ ⟨?_, ?_, ?_, ?_, ?_, ?_⟩
      · rw [hy_uk (by decide)]
        exact h16b
      · rw [htk, hy_us]
      · rw [htk, hy_uk (by decide)]
        exact h14b
      · rw [htk]
        intro hk
        dsimp only at hk
        omega
      · rw [htk]
        intro hk
        dsimp only at hk
        omega
      · intro a e hn
        rw [mFr hn (by omega)]
        exact hfr a e hn
  · have hkl := hw.mp (by unfold cSp; rw [decide_eq_true_eq, ← hdd]; exact heq)
    rw [h14]
    refine ⟨show -2147483648 ≤ _ ∧ _ < 2147483648 by omega, ?_⟩
    rw [hy_uu]
    refine hP _ ⟨k + 1, by omega, ?_⟩ ?_
    · congr 1
    · rw [hy_us, hy_us]
      show 200 - _ < 200 - _
      omega
end MT
