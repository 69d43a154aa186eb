/-! THE CLASS'S TEXT AND PARTS -/
def pkC : List Int → Int
  | [] => 0
  | c :: r => c + 128 * pkC r
def p7 (k : Nat) : Int := ((2 ^ (7 * k) : Nat) : Int)
theorem p7_s (k : Nat) : p7 (k + 1) = 128 * p7 k := by
  unfold p7
  rw [show 7 * (k + 1) = 7 * k + 7 by omega, Nat.pow_add]
  show ((2 ^ (7 * k) * 128 : Nat) : Int) = _
  omega
theorem pkC_s (l : List Int) (c : Int) : pkC (l ++ [c]) = pkC l + c * p7 l.length := by
  induction l with
  | nil =>
    show c + 128 * 0 = 0 + c * 1
    omega
  | cons a r ih =>
    show a + 128 * pkC (r ++ [c]) = (a + 128 * pkC r) + c * p7 (r.length + 1)
    rw [ih, p7_s, Int.mul_add, ← Int.mul_assoc, ← Int.mul_assoc, Int.mul_comm 128 c]
    omega
theorem pkC_t {l : List Int} {k : Nat} (h : k < l.length) : pkC (l.take (k + 1)) = pkC (l.take k) + hd (l.drop k) * p7 k := by
  rw [take_hd h, pkC_s, List.length_take, Nat.min_eq_left (by omega)]
theorem p7_p (k : Nat) : 0 < p7 k := by
  unfold p7
  have := Nat.two_pow_pos (7 * k)
  omega
theorem pkC_b {l : List Int} (h : ∀ c ∈ l, 32 ≤ c ∧ c ≤ 126) : ∀ k : Nat, 0 ≤ pkC (l.take k) ∧ pkC (l.take k) < p7 k
  | 0 => by
    show 0 ≤ (0 : Int) ∧ (0 : Int) < 1
    omega
  | k + 1 => by
    have ih := pkC_b h k
    have hp := p7_p k
    by_cases hl : k < l.length
    · have hc := h _ (hd_mem hl)
      rw [pkC_t hl, p7_s]
      generalize hd (l.drop k) = c at hc
      have h1 : 0 ≤ c * p7 k := Int.mul_nonneg (by omega) (by omega)
      have h2 : c * p7 k ≤ 126 * p7 k := Int.mul_le_mul_of_nonneg_right (by omega) (by omega)
      omega
    · have : l.take (k + 1) = l.take k := by
        rw [List.take_of_length_le (by omega), List.take_of_length_le (by omega)]
      rw [this, p7_s]
      omega
theorem pk_or {f c : Int} {k : Nat} (hf : 0 ≤ f ∧ f < p7 k) (hc : 0 ≤ c ∧ c < 128) (hk : k ≤ 5) : jO f (jSl c (7 * (k : Int))) = f + c * p7 k := by
  obtain ⟨a, rfl⟩ := Int.eq_ofNat_of_zero_le hf.1
  obtain ⟨b, rfl⟩ := Int.eq_ofNat_of_zero_le hc.1
  have hp : 2 ^ (7 * k) ≤ 2 ^ 35 := Nat.pow_le_pow_right (by decide) (by omega)
  have hb : b * 2 ^ (7 * k) ≤ 127 * 2 ^ 35 := Nat.mul_le_mul (by omega) hp
  have ha : a < 2 ^ (7 * k) := by
    have := hf.2
    unfold p7 at this
    omega
  rw [show (7 * (k : Int)) = ((7 * k : Nat) : Int) by omega, jSl_n (by omega) (by omega), jO_n (by omega) (by omega), or_add ha]
  unfold p7
  rw [← Int.natCast_mul]
  omega
/-- the class's part for the model's sign -/
def pK (k : Int) : Int := if k = 11 then 4 else if k = 12 then 5 else if k = 4 then 46 else if k = 5 then 44 else if k = 6 then 40 else if k = 7 then 41 else if k = 8 then 91 else if k = 9 then 93 else if k = 10 then 124 else k
def cTx (m : hy_m) (tx : List Int) : Prop := m 2 1 = tx.length ∧ tx.length ≤ 120 ∧ (∀ i : Nat, i < tx.length → m 3 i = hd (tx.drop i)) ∧ ∀ c ∈ tx, 32 ≤ c ∧ c ≤ 126
theorem cTx.u {m : hy_m} {tx : List Int} {e v : Int} (h : cTx m tx) (he : e ≠ 1) : cTx (hy_u m 2 e v) tx := by
  refine ⟨by rw [hy_uk (Ne.symm he)]; exact h.1, h.2.1, fun i hi => ?_, h.2.2.2⟩
  rw [hy_ua (by decide)]
  exact h.2.2.1 i hi
section CT
variable {m : hy_m} {tx : List Int} {Q : Int → hy_m → Prop}
theorem sp_142 {x : Int} (h1 : cSm x = true → Q 1 m) (h0 : cSm x = false → Q 0 m) : wq_142 x m Q := sp_173 h1 h0
theorem sp_143 {x : Int} (h1 : cLg x = true → Q 1 m) (h0 : cLg x = false → Q 0 m) : wq_143 x m Q := sp_174 h1 h0
theorem sp_144 {x : Int} (h1 : cDg x = true → Q 1 m) (h0 : cDg x = false → Q 0 m) : wq_144 x m Q := sp_175 h1 h0
theorem sp_145 {x : Int} (h1 : cWd x = true → Q 1 m) (h0 : cWd x = false → Q 0 m) : wq_145 x m Q := by
  unfold wq_145
  refine sp_142 (fun h => ⟨fun _ => h1 ?_, fun q => by omega⟩) (fun hs => ⟨fun q => by omega, fun _ => ?_⟩)
  · unfold cWd; rw [h]; rfl
  refine sp_143 (fun h => ⟨fun _ => h1 ?_, fun q => by omega⟩) (fun hl => ⟨fun q => by omega, fun _ => ?_⟩)
  · unfold cWd; rw [h]; simp
  refine sp_144 (fun h => ⟨fun q => by omega, fun _ => h1 ?_⟩) (fun hg => ⟨fun _ => h0 ?_, fun q => by omega⟩)
  · unfold cWd; rw [h]; simp
  · unfold cWd; rw [hs, hl, hg]; rfl
theorem sp_138 {p : Nat} (h : cTx m tx) (hp : m 2 5 = p) (hpl : p ≤ tx.length) (hq : Q (sk tx p) m) : wq_138 m Q := by
  have hL := h.2.1
  have hs := sk_le hpl
  unfold wq_138 wq_138_5
  rw [hp]
  unfold sk at hs
  refine wL1_rule (Nat.lt_wfRel.wf) (fun x m' => ∃ k : Nat, k ≤ ((tx.drop p).takeWhile cSp).length ∧ x = ((p + k : Nat) : Int) ∧ m' = m) (fun x _ => 200 - x.toNat) ?_ ⟨0, Nat.zero_le _, rfl, rfl⟩
  rintro P x m' ⟨k, hk, rfl, rfl⟩ hP
  have hdd : tx.drop (p + k) = (tx.drop p).drop k := by rw [List.drop_drop]
  have hw := tw_hd (p := cSp) rfl (tx.drop p) k hk
  unfold wf_138_5
  rw [h.1]
  refine ⟨fun hle => ?_, fun hlt => ⟨by omega, by omega, fun hne => ?_, fun heq => ?_⟩⟩
  · have : ¬ k < ((tx.drop p).takeWhile cSp).length := fun q => by omega
    have e : sk tx p = p + k := by unfold sk; omega
    rw [e] at hq
    exact hq
  · have : ¬ k < ((tx.drop p).takeWhile cSp).length := fun q => by
      have := hw.mpr q
      unfold cSp at this
      rw [decide_eq_true_eq, ← hdd] at this
      rw [h.2.2.1 (p + k) (by omega)] at hne
      exact hne this
    have e : sk tx p = p + k := by unfold sk; omega
    rw [e] at hq
    exact hq
  · rw [h.2.2.1 (p + k) (by omega)] at heq
    have hkl := hw.mp (by unfold cSp; rw [decide_eq_true_eq, ← hdd]; exact heq)
    refine ⟨show -2147483648 ≤ _ ∧ _ < 2147483648 by omega, hP _ _ ⟨k + 1, by omega, by omega, rfl⟩ ?_⟩
    show 200 - _ < 200 - _
    omega
def cFA (m : hy_m) (f a : Int) : hy_m := hy_u (hy_u m 2 4 f) 2 5 a
theorem cFA_5 (f a : Int) : cFA m f a 2 5 = a := hy_us _ _ _ _
theorem cFA_4 (f a : Int) : cFA m f a 2 4 = f := by unfold cFA; rw [hy_uk (by decide), hy_us]
theorem cFA_3 (f a : Int) : cFA m f a 2 3 = m 2 3 := by unfold cFA; rw [hy_uk (by decide), hy_uk (by decide)]
theorem cFA_T (h : cTx m tx) (f a : Int) : cTx (cFA m f a) tx := (h.u (by decide)).u (by decide)
theorem cFA_n (f a g b : Int) : hy_u (hy_u (cFA m f a) 2 4 g) 2 5 b = cFA m g b := by
  unfold cFA
  rw [hy_uc (a := 2) (b := 2) (e := 5) (f := 4) (Or.inr (by decide)), hy_uu, hy_uu]
theorem cFA_a (f a b : Int) : hy_u (cFA m f a) 2 5 b = cFA m f b := by
  unfold cFA
  rw [hy_uu]
theorem sp_139 {kd : Int} {mo p : Nat} (h : cTx m tx) (hp : m 2 5 = p) (hp3 : m 2 3 = p) (hpl : p ≤ tx.length) (hm : mo ≤ 6) (hq : Q 0 (hy_u (cFA m (pkC ((tx.drop p).take (min ((tx.drop p).takeWhile cWd).length mo))) ((p + ((tx.drop p).takeWhile cWd).length : Nat) : Int)) 2 2 (if ((tx.drop p).takeWhile cWd).length ≤ mo then kd else 5))) : wq_139 kd mo m Q := by
  have hL := h.2.1
  have hc6 : ∀ c ∈ tx.drop p, 32 ≤ c ∧ c ≤ 126 := fun c hc => h.2.2.2 c (List.mem_of_mem_drop hc)
  have hll : (tx.drop p).length = tx.length - p := List.length_drop
  unfold wq_139 wq_139_5
  have e0 : hy_u m 2 4 0 = cFA m (pkC ((tx.drop p).take (min 0 mo))) ((p + 0 : Nat) : Int) := by
    unfold cFA
    rw [Nat.zero_min]
    show hy_u m 2 4 0 = hy_u (hy_u m 2 4 0) 2 5 (p : Int)
    exact (hy_ui (by rw [hy_uk (by decide)]; exact hp)).symm
  rw [e0]
  have htl := tw_le (p := cWd) (tx.drop p)
  refine wL0_rule (Nat.lt_wfRel.wf) (fun m' => ∃ k : Nat, k ≤ ((tx.drop p).takeWhile cWd).length ∧ m' = cFA m (pkC ((tx.drop p).take (min k mo))) ((p + k : Nat) : Int)) (fun m' => 200 - (m' 2 5).toNat) ?_ ⟨0, Nat.zero_le _, rfl⟩
  rintro P m' ⟨k, hk, rfl⟩ hP
  have hT := cFA_T h (pkC ((tx.drop p).take (min k mo))) ((p + k : Nat) : Int)
  have h5 := cFA_5 (m := m) (pkC ((tx.drop p).take (min k mo))) ((p + k : Nat) : Int)
  have h3 := cFA_3 (m := m) (pkC ((tx.drop p).take (min k mo))) ((p + k : Nat) : Int)
  have h4 := cFA_4 (m := m) (pkC ((tx.drop p).take (min k mo))) ((p + k : Nat) : Int)
  rw [hp3] at h3
  have hdd : tx.drop (p + k) = (tx.drop p).drop k := by rw [List.drop_drop]
  have hw := tw_hd (p := cWd) rfl (tx.drop p) k hk
  have out : ¬ k < ((tx.drop p).takeWhile cWd).length → wq_139_83 kd mo (cFA m (pkC ((tx.drop p).take (min k mo))) ((p + k : Nat) : Int)) Q := by
    intro hnk
    have hkn : ((tx.drop p).takeWhile cWd).length = k := by omega
    rw [hkn] at hq
    unfold wq_139_83
    rw [h5, h3]
    refine ⟨show -2147483648 ≤ _ ∧ _ < 2147483648 by omega, fun hgt => ?_, fun hle => ?_⟩
    · rw [if_neg (by omega)] at hq
      exact hq
    · rw [if_pos (by omega)] at hq
      exact hq
  unfold wf_139_5
  rw [h5, hT.1]
  refine ⟨fun hle => out (by omega), fun hlt => ⟨by omega, by omega, ?_⟩⟩
  rw [hT.2.2.1 (p + k) (by omega), hdd]
  refine sp_145 (fun hc => ⟨fun q => by omega, fun _ => ?_⟩) (fun hc => ⟨fun _ => out (fun q => by rw [hw.mpr q] at hc; cases hc), fun q => by omega⟩)
  have hkl := hw.mp hc
  have hcc := hc6 _ (hd_mem (l := tx.drop p) (k := k) (by omega))
  rw [h5, h3]
  refine ⟨show -2147483648 ≤ _ ∧ _ < 2147483648 by omega, fun hge => ⟨show -2147483648 ≤ _ ∧ _ < 2147483648 by omega, ?_⟩, fun hlt2 => ⟨by omega, by omega, show -2147483648 ≤ _ ∧ _ < 2147483648 by omega, ?_⟩⟩
  · rw [cFA_a]
    refine hP _ ⟨k + 1, by omega, ?_⟩ ?_
    · rw [show min (k + 1) mo = min k mo by omega]
      congr 1
    · rw [cFA_5, h5]
      show 200 - _ < 200 - _
      omega
  · rw [cFA_n]
    refine hP _ ⟨k + 1, by omega, ?_⟩ ?_
    · have hb := pkC_b hc6 k
      rw [h4, hT.2.2.1 (p + k) (by omega), hdd, show min (k + 1) mo = k + 1 by omega, show min k mo = k by omega, pkC_t (by omega), show (((p + k : Nat) : Int) - (p : Int)) = (k : Int) by omega, pk_or hb (by omega) (by omega)]
      congr 1
    · rw [cFA_5, h5]
      show 200 - _ < 200 - _
      omega
theorem sp_140 {p : Nat} (h : cTx m tx) (hp : m 2 5 = p) (hp3 : m 2 3 = p) (hpl : p ≤ tx.length) (hq : Q 0 (hy_u (cFA m (pkI ((tx.drop p).take (min ((tx.drop p).takeWhile cDg).length 6))) ((p + ((tx.drop p).takeWhile cDg).length : Nat) : Int)) 2 2 (if ((tx.drop p).takeWhile cDg).length ≤ 6 then 3 else 5))) : wq_140 m Q := by
  have hL := h.2.1
  have hll : (tx.drop p).length = tx.length - p := List.length_drop
  unfold wq_140 wq_140_5
  have e0 : hy_u m 2 4 0 = cFA m (pkI ((tx.drop p).take (min 0 6))) ((p + 0 : Nat) : Int) := by
    unfold cFA
    rw [Nat.zero_min]
    show hy_u m 2 4 0 = hy_u (hy_u m 2 4 0) 2 5 (p : Int)
    exact (hy_ui (by rw [hy_uk (by decide)]; exact hp)).symm
  rw [e0]
  have htl := tw_le (p := cDg) (tx.drop p)
  refine wL0_rule (Nat.lt_wfRel.wf) (fun m' => ∃ k : Nat, k ≤ ((tx.drop p).takeWhile cDg).length ∧ m' = cFA m (pkI ((tx.drop p).take (min k 6))) ((p + k : Nat) : Int)) (fun m' => 200 - (m' 2 5).toNat) ?_ ⟨0, Nat.zero_le _, rfl⟩
  rintro P m' ⟨k, hk, rfl⟩ hP
  have hT := cFA_T h (pkI ((tx.drop p).take (min k 6))) ((p + k : Nat) : Int)
  have h5 := cFA_5 (m := m) (pkI ((tx.drop p).take (min k 6))) ((p + k : Nat) : Int)
  have h3 := cFA_3 (m := m) (pkI ((tx.drop p).take (min k 6))) ((p + k : Nat) : Int)
  have h4 := cFA_4 (m := m) (pkI ((tx.drop p).take (min k 6))) ((p + k : Nat) : Int)
  rw [hp3] at h3
  have hdd : tx.drop (p + k) = (tx.drop p).drop k := by rw [List.drop_drop]
  have hw := tw_hd (p := cDg) rfl (tx.drop p) k hk
  have out : ¬ k < ((tx.drop p).takeWhile cDg).length → wq_140_84 (cFA m (pkI ((tx.drop p).take (min k 6))) ((p + k : Nat) : Int)) Q := by
    intro hnk
    have hkn : ((tx.drop p).takeWhile cDg).length = k := by omega
    rw [hkn] at hq
    unfold wq_140_84
    rw [h5, h3]
    refine ⟨show -2147483648 ≤ _ ∧ _ < 2147483648 by omega, fun hgt => ?_, fun hle => ?_⟩
    · rw [if_neg (by omega)] at hq
      exact hq
    · rw [if_pos (by omega)] at hq
      exact hq
  unfold wf_140_5
  rw [h5, hT.1]
  refine ⟨fun hle => out (by omega), fun hlt => ⟨by omega, by omega, ?_⟩⟩
  rw [hT.2.2.1 (p + k) (by omega), hdd]
  refine sp_144 (fun hc => ⟨fun q => by omega, fun _ => ?_⟩) (fun hc => ⟨fun _ => out (fun q => by rw [hw.mpr q] at hc; cases hc), fun q => by omega⟩)
  have hkl := hw.mp hc
  have hcc : 48 ≤ hd ((tx.drop p).drop k) ∧ hd ((tx.drop p).drop k) ≤ 57 := by
    unfold cDg at hc
    rw [Bool.and_eq_true, decide_eq_true_eq, decide_eq_true_eq] at hc
    exact hc
  have hb : 0 ≤ pkI ((tx.drop p).take (min k 6)) ∧ pkI ((tx.drop p).take (min k 6)) < 1000000 := by
    have e : (tx.drop p).take (min k 6) = ((tx.drop p).takeWhile cDg).take (min k 6) := take_tw _ _ (by omega)
    rw [e]
    have := pkI_b (l := (tx.drop p).takeWhile cDg) (fun c hc => tw_all _ c hc) (min k 6) (by omega)
    exact ⟨this.1, this.2.1⟩
  rw [h5, h3, h4, hT.2.2.1 (p + k) (by omega), hdd]
  refine ⟨show -2147483648 ≤ _ ∧ _ < 2147483648 by omega, fun hge => ⟨show -2147483648 ≤ _ ∧ _ < 2147483648 by omega, ?_⟩, fun hlt2 => ⟨by omega, by omega, show -2147483648 ≤ _ ∧ _ < 2147483648 by omega, show -9223372036854775808 ≤ _ ∧ _ < 9223372036854775808 by omega, show -2147483648 ≤ _ ∧ _ < 2147483648 by omega, ?_⟩⟩
  · rw [cFA_a]
    refine hP _ ⟨k + 1, by omega, ?_⟩ ?_
    · rw [show min (k + 1) 6 = min k 6 by omega]
      congr 1
    · rw [cFA_5, h5]
      show 200 - _ < 200 - _
      omega
  · rw [cFA_n]
    refine hP _ ⟨k + 1, by omega, ?_⟩ ?_
    · rw [show min (k + 1) 6 = k + 1 by omega, show min k 6 = k by omega, take_hd (by omega), pkI_s]
      congr 1
      omega
    · rw [cFA_5, h5]
      show 200 - _ < 200 - _
      omega
theorem cFr {M : hy_m} {a : Nat} {f v e : Int} (hn : ¬ (a = 2 ∧ (e = 2 ∨ e = 3 ∨ e = 4 ∨ e = 5))) (hf : f = 2 ∨ f = 3 ∨ f = 4 ∨ f = 5) : hy_u M 2 f v a e = M a e := if_neg (fun q => hn ⟨q.1, by rw [q.2]; exact hf⟩)
theorem sp_141 {st : Nat} {c : Int} (h : cTx m tx) (h3 : m 2 3 = st) (hlt : st < tx.length) (hc : hd (tx.drop st) = c) (hs : cSm c = false) (hl : cLg c = false) (hg : cDg c = false) (hq : ∀ m', m' 2 5 = ((st + (tk (tx.drop st)).2 : Nat) : Int) → m' 2 2 = pK (tk (tx.drop st)).1 → (∀ a e, ¬ (a = 2 ∧ (e = 5 ∨ e = 2)) → m' a e = m a e) → Q 0 m') : wq_141 c m Q := by
  have hL := h.2.1
  have hcons := hd_drop hlt
  rw [hc] at hcons
  have htk0 : tk (tx.drop st) = if c = 58 ∧ hd (tx.drop (st + 1)) = 45 then (11, 2) else (sgn c, 1) := by
    rw [hcons]
    unfold tk
    dsimp only
    rw [if_neg (by rw [hs]; decide), if_neg (by rw [hl]; decide), if_neg (by rw [hg]; decide)]
  have fin : ∀ v, ¬ (c = 58 ∧ hd (tx.drop (st + 1)) = 45) → v = pK (sgn c) → Q 0 (hy_u (hy_u m 2 5 ((st : Int) + 1)) 2 2 v) := by
    intro v hno hv
    rw [if_neg hno] at htk0
    rw [htk0] at hq
    refine hq _ ?_ ?_ ?_
    · rw [hy_uk (by decide), hy_us]
      rfl
    · rw [hy_us]
      exact hv
    · intro a e hn
      rw [show hy_u (hy_u m 2 5 ((st : Int) + 1)) 2 2 v a e = hy_u m 2 5 ((st : Int) + 1) a e from if_neg (fun q => hn ⟨q.1, Or.inr q.2⟩)]
      exact if_neg (fun q => hn ⟨q.1, Or.inl q.2⟩)
  have g58 : ∀ d : Int, c = d → d ≠ 58 → ¬ (c = 58 ∧ hd (tx.drop (st + 1)) = 45) := fun d e hd q => hd (by rw [← e]; exact q.1)
  unfold wq_141
  rw [h3, h.1]
  refine ⟨show -2147483648 ≤ _ ∧ _ < 2147483648 by omega, fun e => ?_, fun n1 => ⟨fun e => ?_, fun n2 => ⟨fun e => ?_, fun n3 => ⟨fun e => ?_, fun n4 => ⟨fun e => ?_, fun n5 => ⟨fun e => ?_, fun n6 => ⟨fun e => ?_, fun n7 => ?_⟩⟩⟩⟩⟩⟩⟩
  · exact fin _ (g58 _ e (by decide)) (by rw [e]; rfl)
  · exact fin _ (g58 _ e (by decide)) (by rw [e]; rfl)
  · exact fin _ (g58 _ e (by decide)) (by rw [e]; rfl)
  · exact fin _ (g58 _ e (by decide)) (by rw [e]; rfl)
  · exact fin _ (g58 _ e (by decide)) (by rw [e]; rfl)
  · exact fin _ (g58 _ e (by decide)) (by rw [e]; rfl)
  · exact fin _ (g58 _ e (by decide)) (by rw [e]; rfl)
  have s12 : (5 : Int) = pK (sgn c) := by
    unfold sgn
    rw [if_neg n4, if_neg n3, if_neg n1, if_neg n2, if_neg n5, if_neg n6, if_neg n7]
    rfl
  refine ⟨fun n8 => fin _ (fun q => n8 q.1) s12, fun e8 => ⟨fun hle => fin _ (fun q => ?_) s12, fun hlt2 => ⟨by omega, by omega, fun n9 => fin _ (fun q => n9 ?_) s12, fun e9 => ⟨show -2147483648 ≤ _ ∧ _ < 2147483648 by omega, ?_⟩⟩⟩⟩
  · rw [hd_none (by omega)] at q
    exact absurd q.2 (by decide)
  · have := h.2.2.1 (st + 1) (by omega)
    rw [show ((st + 1 : Nat) : Int) = (st : Int) + 1 by omega] at this
    rw [this]
    exact q.2
  · have h45 : hd (tx.drop (st + 1)) = 45 := by
      have := h.2.2.1 (st + 1) (by omega)
      rw [show ((st + 1 : Nat) : Int) = (st : Int) + 1 by omega] at this
      rw [← this]
      exact e9
    rw [if_pos ⟨e8, h45⟩] at htk0
    rw [htk0] at hq
    refine hq _ ?_ ?_ ?_
    · rw [hy_uk (by decide), hy_us]
      show (st : Int) + 1 + 1 = ((st + 2 : Nat) : Int)
      omega
    · rw [hy_us]
      rfl
    · intro a e hn
      have n5' : ∀ (M : hy_m) (v : Int), hy_u M 2 5 v a e = M a e := fun M v => if_neg (fun q => hn ⟨q.1, Or.inl q.2⟩)
      have n2' : ∀ (M : hy_m) (v : Int), hy_u M 2 2 v a e = M a e := fun M v => if_neg (fun q => hn ⟨q.1, Or.inr q.2⟩)
      rw [n2', n5', n2', n5']
/-- the next part has been read: it begins at st -/
def cNx (m m' : hy_m) (tx : List Int) (st : Nat) : Prop := m' 2 3 = st ∧ m' 2 2 = pK (tk (tx.drop st)).1 ∧ m' 2 5 = ((st + (tk (tx.drop st)).2 : Nat) : Int) ∧ ((tk (tx.drop st)).1 = 1 ∨ (tk (tx.drop st)).1 = 2 → m' 2 4 = pkC ((tx.drop st).take (tk (tx.drop st)).2)) ∧ ((tk (tx.drop st)).1 = 3 → m' 2 4 = pkI ((tx.drop st).take (tk (tx.drop st)).2)) ∧ ∀ a e, ¬ (a = 2 ∧ (e = 2 ∨ e = 3 ∨ e = 4 ∨ e = 5)) → m' a e = m a e
theorem sp_136 {p : Nat} (h : cTx m tx) (hp : m 2 5 = p) (hpl : p ≤ tx.length) (hq : ∀ m', cNx m m' tx (sk tx p) → Q 0 m') : wq_136 m Q := by
  have hL := h.2.1
  have hs := sk_le hpl
  unfold wq_136
  refine sp_138 h hp hpl ?_
  generalize sk tx p = st at hq hs
  rw [h.1]
  have hT2 : cTx (hy_u (hy_u m 2 3 (st : Int)) 2 5 (st : Int)) tx := (h.u (by decide)).u (by decide)
  have h5 : hy_u (hy_u m 2 3 (st : Int)) 2 5 (st : Int) 2 5 = (st : Int) := hy_us _ _ _ _
  have h3 : hy_u (hy_u m 2 3 (st : Int)) 2 5 (st : Int) 2 3 = (st : Int) := by rw [hy_uk (by decide), hy_us]
  have hfr : ∀ a e, ¬ (a = 2 ∧ (e = 2 ∨ e = 3 ∨ e = 4 ∨ e = 5)) → hy_u (hy_u m 2 3 (st : Int)) 2 5 (st : Int) a e = m a e := fun a e hn => by rw [cFr hn (by omega), cFr hn (by omega)]
  generalize hM : hy_u (hy_u m 2 3 (st : Int)) 2 5 (st : Int) = M at hT2 h5 h3 hfr ⊢
  refine ⟨fun hlt => ⟨by omega, by omega, ?_⟩, fun hle => ?_⟩
  · have hlt : st < tx.length := by omega
    rw [h.2.2.1 st hlt]
    have hcons := hd_drop hlt
    generalize hc : hd (tx.drop st) = c at hcons ⊢
    refine sp_142 (fun hsm => ⟨fun q => by omega, fun _ => ?_⟩) (fun hsm => ⟨fun _ => ?_, fun q => by omega⟩)
    · have htk : tk (tx.drop st) = (if ((tx.drop st).takeWhile cWd).length ≤ 6 then 1 else 12, ((tx.drop st).takeWhile cWd).length) := by
        rw [hcons]
        unfold tk
        dsimp only
        rw [if_pos hsm]
      refine sp_139 (mo := 6) hT2 h5 h3 hs.2 (by omega) (hq _ ⟨?_, ?_, ?_, ?_, ?_, ?_⟩)
      · rw [hy_uk (by decide), cFA_3]
        exact h3
      · rw [htk, hy_us]
        dsimp only
        split <;> rfl
      · rw [htk, hy_uk (by decide), cFA_5]
      · rw [htk]
        intro hk
        rw [hy_uk (by decide), cFA_4]
        by_cases h6 : ((tx.drop st).takeWhile cWd).length ≤ 6
        · dsimp only
          rw [show min ((tx.drop st).takeWhile cWd).length 6 = ((tx.drop st).takeWhile cWd).length by omega]
        · dsimp only at hk
          rw [if_neg h6] at hk
          omega
      · rw [htk]
        intro hk
        dsimp only at hk
        split at hk <;> omega
      · intro a e hn
        unfold cFA
        rw [cFr hn (by omega), cFr hn (by omega), cFr hn (by omega)]
        exact hfr a e hn
    refine sp_143 (fun hlg => ⟨fun q => by omega, fun _ => ?_⟩) (fun hlg => ⟨fun _ => ?_, fun q => by omega⟩)
    · have htk : tk (tx.drop st) = (if ((tx.drop st).takeWhile cWd).length ≤ 4 then 2 else 12, ((tx.drop st).takeWhile cWd).length) := by
        rw [hcons]
        unfold tk
        dsimp only
        rw [if_neg (by rw [hsm]; decide), if_pos hlg]
      refine sp_139 (mo := 4) hT2 h5 h3 hs.2 (by omega) (hq _ ⟨?_, ?_, ?_, ?_, ?_, ?_⟩)
      · rw [hy_uk (by decide), cFA_3]
        exact h3
      · rw [htk, hy_us]
        dsimp only
        split <;> rfl
      · rw [htk, hy_uk (by decide), cFA_5]
      · rw [htk]
        intro hk
        rw [hy_uk (by decide), cFA_4]
        by_cases h6 : ((tx.drop st).takeWhile cWd).length ≤ 4
        · dsimp only
          rw [show min ((tx.drop st).takeWhile cWd).length 4 = ((tx.drop st).takeWhile cWd).length by omega]
        · dsimp only at hk
          rw [if_neg h6] at hk
          omega
      · rw [htk]
        intro hk
        dsimp only at hk
        split at hk <;> omega
      · intro a e hn
        unfold cFA
        rw [cFr hn (by omega), cFr hn (by omega), cFr hn (by omega)]
        exact hfr a e hn
    refine sp_144 (fun hdg => ⟨fun q => by omega, fun _ => ?_⟩) (fun hdg => ⟨fun _ => ?_, fun q => by omega⟩)
    · have htk : tk (tx.drop st) = (if ((tx.drop st).takeWhile cDg).length ≤ 6 then 3 else 12, ((tx.drop st).takeWhile cDg).length) := by
        rw [hcons]
        unfold tk
        dsimp only
        rw [if_neg (by rw [hsm]; decide), if_neg (by rw [hlg]; decide), if_pos hdg]
      refine sp_140 hT2 h5 h3 hs.2 (hq _ ⟨?_, ?_, ?_, ?_, ?_, ?_⟩)
      · rw [hy_uk (by decide), cFA_3]
        exact h3
      · rw [htk, hy_us]
        dsimp only
        split <;> rfl
      · rw [htk, hy_uk (by decide), cFA_5]
      · rw [htk]
        intro hk
        dsimp only at hk
        split at hk <;> omega
      · rw [htk]
        intro hk
        rw [hy_uk (by decide), cFA_4]
        by_cases h6 : ((tx.drop st).takeWhile cDg).length ≤ 6
        · dsimp only
          rw [show min ((tx.drop st).takeWhile cDg).length 6 = ((tx.drop st).takeWhile cDg).length by omega]
        · dsimp only at hk
          rw [if_neg h6] at hk
          omega
      · intro a e hn
        unfold cFA
        rw [cFr hn (by omega), cFr hn (by omega), cFr hn (by omega)]
        exact hfr a e hn
    have hkd : (tk (tx.drop st)).1 ≠ 1 ∧ (tk (tx.drop st)).1 ≠ 2 ∧ (tk (tx.drop st)).1 ≠ 3 := by
      rw [hcons]
      unfold tk
      dsimp only
      rw [if_neg (by rw [hsm]; decide), if_neg (by rw [hlg]; decide), if_neg (by rw [hdg]; decide)]
      unfold sgn
      repeat' split
      all_goals (dsimp only; omega)
    refine sp_141 hT2 h3 hlt hc hsm hlg hdg (fun m' g1 g2 g3 => hq _ ⟨?_, g2, g1, ?_, ?_, ?_⟩)
    · rw [g3 2 3 (by omega)]
      exact h3
    · intro hk
      omega
    · intro hk
      omega
    · intro a e hn
      rw [g3 a e (by omega)]
      exact hfr a e hn
  · have htk : tk (tx.drop st) = (0, 0) := by
      rw [List.drop_eq_nil_of_le (by omega)]
      rfl
    refine hq _ ⟨?_, ?_, ?_, ?_, ?_, ?_⟩
    · rw [hy_uk (by decide)]
      exact h3
    · rw [htk, hy_us]
      rfl
    · rw [htk, hy_uk (by decide)]
      exact h5
    · rw [htk]
      intro hk
      dsimp only at hk
      omega
    · rw [htk]
      intro hk
      dsimp only at hk
      omega
    · intro a e hn
      rw [cFr hn (by omega)]
      exact hfr a e hn
theorem sp_135 (h : cTx m tx) (hq : ∀ m', cNx m m' tx (sk tx 0) → Q 0 m') : wq_135 m Q := by
  unfold wq_135
  refine sp_136 (p := 0) (h.u (by decide)) (hy_us _ _ _ _) (Nat.zero_le _) (fun m' hm => hq _ ⟨hm.1, hm.2.1, hm.2.2.1, hm.2.2.2.1, hm.2.2.2.2.1, fun a e hn => ?_⟩)
  rw [hm.2.2.2.2.2 a e hn, cFr hn (by omega)]
theorem sp_137 {p : Nat} (h : cTx m tx) (hp : m 2 5 = p) (hpl : p ≤ tx.length) (hq : Q (if (tk (tx.drop (sk tx p))).1 = 6 then 1 else 0) m) : wq_137 m Q := by
  have hL := h.2.1
  have hs := sk_le hpl
  unfold wq_137
  refine sp_138 h hp hpl ?_
  generalize sk tx p = st at hq hs
  rw [h.1]
  have tk6 : st < tx.length → ((tk (tx.drop st)).1 = 6 ↔ hd (tx.drop st) = 40) := by
    intro hlt
    have hcons := hd_drop hlt
    generalize hc : hd (tx.drop st) = c at hcons
    rw [hcons]
    unfold tk
    dsimp only
    by_cases e : c = 40
    · subst e
      exact ⟨fun _ => rfl, fun _ => rfl⟩
    · refine ⟨fun q => absurd q ?_, fun q => absurd q e⟩
      unfold sgn
      repeat' split
      all_goals (dsimp only; omega)
  refine ⟨fun hle => ?_, fun hlt => ⟨by omega, by omega, ?_⟩⟩
  · rw [List.drop_eq_nil_of_le (by omega)] at hq
    exact hq
  · have hlt : st < tx.length := by omega
    rw [h.2.2.1 st hlt]
    refine ⟨fun hn => ?_, fun hy => ?_⟩
    · rw [if_neg (fun q => hn ((tk6 hlt).mp q))] at hq
      exact hq
    · rw [if_pos ((tk6 hlt).mpr hy)] at hq
      exact hq
end CT
