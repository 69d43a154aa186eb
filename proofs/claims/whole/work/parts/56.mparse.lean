/-! THE MODEL'S PARSER: small steps -/
section MP
variable {m : hy_m} {tx : List Int} {Q : Int → hy_m → Prop}
def mNd (m : hy_m) (sl c : Nat) (k w : Int) : hy_m := hy_u (hy_u (hy_u (hy_u m 80 sl ((c : Int) + 1)) 76 (128 * (sl : Int) + c) k) 77 (128 * (sl : Int) + c) w) 78 (128 * (sl : Int) + c) 0
theorem sp_180 {p : Nat} (h : m 74 16 = p) (hq : Q (-9) (hy_u m 74 18 p)) : wq_180 m Q := by
  unfold wq_180
  rw [h]
  exact hq
theorem sp_181 {sl c : Nat} {k w : Int} (h19 : m 74 19 = sl) (hsl : sl < 28) (h80 : m 80 sl = c) (hc : c < 128) (hq : Q (128 * (sl : Int) + c) (mNd m sl c k w)) : wq_181 k w m Q := by
  unfold wq_181
  rw [h19, h80]
  refine ⟨by omega, by omega, by omega, by omega, by omega, by omega, show -2147483648 ≤ _ ∧ _ < 2147483648 by omega, by omega, by omega, by omega, by omega, by omega, by omega, show -2147483648 ≤ _ ∧ _ < 2147483648 by omega, hq⟩
def mGv (m : hy_m) (n : Int) (a : Nat) (x : Int) : hy_m := hy_u (hy_u (hy_u m 79 (3 * n + a) x) 78 n ((a : Int) + 1)) 76 n 4
theorem sp_182 {n x : Int} {a : Nat} (hn : 0 ≤ n ∧ n < 3584) (h78 : m 78 n = a) (ha : a < 3) (hq : Q 0 (mGv m n a x)) : wq_182 n x m Q := by
  unfold wq_182
  rw [h78]
  exact ⟨by omega, by omega, by omega, by omega, by omega, by omega, by omega, by omega, show -2147483648 ≤ _ ∧ _ < 2147483648 by omega, by omega, by omega, hq⟩
def mPs (m : hy_m) (d : Nat) (h n : Int) : hy_m := hy_u (hy_u (hy_u (hy_u m 88 d h) 89 d n) 90 d (-9)) 74 25 ((d : Int) + 1)
theorem sp_185 {d : Nat} {h n : Int} (h25 : m 74 25 = d) (hd : d < 130) (hq : Q 0 (mPs m d h n)) : wq_185 h n m Q := by
  unfold wq_185
  rw [h25]
  exact ⟨by omega, by omega, by omega, by omega, by omega, by omega, show -2147483648 ≤ _ ∧ _ < 2147483648 by omega, hq⟩
/-- the present part stands at p -/
def mCu (m : hy_m) (tx : List Int) (p : Nat) : Prop := p ≤ tx.length ∧ m 74 16 = p ∧ m 74 15 = pk1 tx p ∧ m 74 14 = ((p + (tk (tx.drop p)).2 : Nat) : Int) ∧ (pk1 tx p = 1 ∨ pk1 tx p = 2 → m 74 17 = pwd tx p) ∧ (pk1 tx p = 3 → m 74 17 = pin tx p)
theorem pnx_le {tx : List Int} {p : Nat} (h : p ≤ tx.length) : p + (tk (tx.drop p)).2 ≤ tx.length := by
  have := tk_le (tx.drop p)
  rw [List.length_drop] at this
  omega
theorem pnx_ok {tx : List Int} {p : Nat} (h : p ≤ tx.length) : pnx tx p ≤ tx.length ∧ p + (tk (tx.drop p)).2 ≤ pnx tx p := by
  have := sk_le (pnx_le h)
  exact ⟨this.2, this.1⟩
/-- going on to the next part -/
theorem sp_next {p : Nat} (hT : mTx m tx) (hc : mCu m tx p) (hq : ∀ m', mCu m' tx (pnx tx p) → mTx m' tx → (∀ a e, ¬ (a = 74 ∧ (e = 14 ∨ e = 15 ∨ e = 16 ∨ e = 17)) → m' a e = m a e) → Q 0 m') : wq_179 m Q := by
  refine sp_179 hT hc.2.2.2.1 (pnx_le hc.1) (fun m' hm => hq m' ?_ ?_ hm.2.2.2.2.2)
  · exact ⟨(pnx_ok hc.1).1, hm.1, hm.2.1, hm.2.2.1, hm.2.2.2.1, hm.2.2.2.2.1⟩
  · have hf := hm.2.2.2.2.2
    refine ⟨by rw [hf 74 1 (by omega)]; exact hT.1, hT.2.1, fun i hi => ?_, hT.2.2.2⟩
    rw [hf 75 _ (by omega)]
    exact hT.2.2.1 i hi
theorem sp_188 {p d : Nat} (hT : mTx m tx) (hc : mCu m tx p) (h25 : m 74 25 = d) (hd : 0 < d ∧ d < 130) (hq : ∀ m', mCu m' tx (pnx tx p) → mTx m' tx → (∀ a e, ¬ (a = 74 ∧ (e = 14 ∨ e = 15 ∨ e = 16 ∨ e = 17 ∨ e = 25)) → m' a e = m a e) → m' 74 25 = ((d - 1 : Nat) : Int) → Q (m 89 ((d - 1 : Nat) : Int)) m') : wq_188 m Q := by
  unfold wq_188
  refine sp_next hT hc (fun m' h1 h2 h3 => ?_)
  have e25 : m' 74 25 = (d : Int) := by rw [h3 74 25 (by omega)]; exact h25
  rw [e25]
  refine ⟨show -2147483648 ≤ _ ∧ _ < 2147483648 by omega, by omega, by omega, ?_⟩
  rw [h3 89 _ (by omega), show (d : Int) - 1 = ((d - 1 : Nat) : Int) by omega]
  refine hq _ ?_ ?_ ?_ (hy_us _ _ _ _)
  · obtain ⟨c1, c2, c3, c4, c5, c6⟩ := h1
    refine ⟨c1, ?_, ?_, ?_, fun hk => ?_, fun hk => ?_⟩
    · rw [hy_uk (by decide)]; exact c2
    · rw [hy_uk (by decide)]; exact c3
    · rw [hy_uk (by decide)]; exact c4
    · rw [hy_uk (by decide)]; exact c5 hk
    · rw [hy_uk (by decide)]; exact c6 hk
  · exact h2.u (by decide)
  · intro a e hn
    rw [show hy_u m' 74 25 ((d - 1 : Nat) : Int) a e = m' a e from if_neg (fun q => hn ⟨q.1, by omega⟩)]
    exact h3 a e (by omega)
/-- the name of a variable among those that were seen -/
def mVs (m : hy_m) (vs : List Int) : Prop := m 74 21 = vs.length ∧ vs.length ≤ 8 ∧ ∀ i (hi : i < vs.length), m 87 (i : Int) = vs[i]
theorem sp_183 {vs : List Int} {w : Int} {sl c p : Nat} (hV : mVs m vs) (h17 : m 74 17 = w) (h16 : m 74 16 = p) (h19 : m 74 19 = sl) (hsl : sl < 28) (h80 : m 80 sl = c) (hc : c < 128) (h1 : ∀ i, lix vs w = some i → Q (128 * (sl : Int) + c) (mNd m sl c 1 (i : Int))) (h2 : lix vs w = none → vs.length < 8 → Q (128 * (sl : Int) + c) (mNd (hy_u (hy_u m 87 (vs.length : Int) w) 74 21 ((vs.length : Int) + 1)) sl c 1 (vs.length : Int))) (h3 : lix vs w = none → ¬ vs.length < 8 → Q (-9) (hy_u m 74 18 p)) : wq_183 m Q := by
  obtain ⟨v1, v2, v3⟩ := hV
  unfold wq_183 wq_183_2
  refine wL1_rule (Nat.lt_wfRel.wf) (fun x m' => ∃ k : Nat, k ≤ vs.length ∧ x = (k : Int) ∧ m' = m ∧ ∀ i (hi : i < vs.length), i < k → vs[i] ≠ w) (fun x _ => 20 - x.toNat) ?_ ⟨0, Nat.zero_le _, rfl, rfl, fun i _ hi => absurd hi (Nat.not_lt_zero _)⟩
  rintro P x m' ⟨k, hk, rfl, rfl, hne⟩ hP
  unfold wf_183_2
  rw [v1, h17]
  refine ⟨fun hle => ?_, fun hlt => ⟨by omega, by omega, fun heq => ?_, fun hn => ⟨show -2147483648 ≤ _ ∧ _ < 2147483648 by omega, hP _ _ ⟨k + 1, by omega, by omega, rfl, fun i hi hik => ?_⟩ ?_⟩⟩⟩
  · have hkl : k = vs.length := by omega
    subst hkl
    have hnone := lix_none vs w (fun i hi => hne i hi hi)
    unfold wq_183_30
    rw [v1, h17]
    refine ⟨fun h8 => ⟨fun q => absurd rfl q, fun _ => ⟨by omega, by omega, show -2147483648 ≤ _ ∧ _ < 2147483648 by omega, sp_181 ?_ hsl ?_ hc (h2 hnone (by omega))⟩⟩, fun h8 => sp_180 h16 (h3 hnone (by omega))⟩
    · rw [hy_uk (by decide), hy_ua (by decide)]
      exact h19
    · rw [hy_ua (by decide), hy_ua (by decide)]
      exact h80
  · have hkl : k < vs.length := by omega
    rw [v3 k hkl] at heq
    have hsome := lix_some vs w k hne hkl heq
    unfold wq_183_30
    rw [v1]
    refine ⟨fun _ => ⟨fun _ => sp_181 h19 hsl h80 hc (h1 k hsome), fun q => by omega⟩, fun q => by omega⟩
  · have hkl : k < vs.length := by omega
    rw [v3 k hkl] at hn
    by_cases e : i = k
    · subst e
      exact hn
    · exact hne i hi (by omega)
  · show 20 - _ < 20 - _
    omega
end MP
