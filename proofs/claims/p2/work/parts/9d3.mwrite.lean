/-! THE MODEL WRITES A TERM: what is taken from the stack -/
/-- the rest of a list -/
def mRs (y : Nat) : Int := ((576460752303423488 + y : Nat) : Int)
theorem jA_rs {y : Nat} (hy : y < 576460752303423488) : jA (mRs y) (-576460752303423489) = y := by
  have en : (jI (-576460752303423489)).toBitVec.toNat = 2 ^ 64 - (2 ^ 59 + 1) := by decide
  unfold jA mRs
  refine jT_n ?_ (by omega)
  rw [Int64.toBitVec_and, BitVec.toNat_and, jI_bn, en, Nat.mod_eq_of_lt (by omega)]
  refine Nat.eq_of_testBit_eq fun i => ?_
  rw [Nat.testBit_and, Nat.testBit_two_pow_sub_succ (by decide), Nat.testBit_two_pow, show 576460752303423488 + y = 2 ^ 59 * 1 + y from rfl, Nat.testBit_two_pow_mul_add 1 (show y < 2 ^ 59 from hy) i]
  by_cases c : i < 59
  · rw [if_pos c, decide_eq_true (show i < 64 by omega), decide_eq_false (show ¬ 59 = i by omega)]
    rw [Bool.not_false, Bool.and_self, Bool.and_true]
  · rw [if_neg c, Nat.testBit_lt_two_pow (x := y) (i := i) (Nat.lt_of_lt_of_le (show y < 2 ^ 59 from hy) (Nat.pow_le_pow_right (by decide) (show 59 ≤ i by omega)))]
    by_cases c2 : 59 = i
    · rw [decide_eq_true c2, Bool.not_true, Bool.and_false, Bool.and_false]
    · rw [Nat.testBit_lt_two_pow (x := 1) (i := i - 59) (Nat.one_lt_two_pow (by omega)), Bool.false_and]
theorem jO_rs {n p : Nat} (hn : n < 3584) (hp : p ≤ 2500) : jO 576460752303423488 (mQ n p) = mRs (4096 * p + n) := by
  have e : mQ n p = ((4096 * p + n : Nat) : Int) := by unfold mQ; omega
  rw [e]
  have := jO_n (a := 576460752303423488) (b := 4096 * p + n) (by omega) (by omega)
  have e2 : jO 576460752303423488 ((4096 * p + n : Nat) : Int) = ((2 ^ 59 * 1 ||| (4096 * p + n) : Nat) : Int) := this
  rw [e2, ← Nat.two_pow_add_eq_or_of_lt (show 4096 * p + n < 2 ^ 59 by omega) 1]
  rfl
def wGo (s : Nat → pE) (m0 : hy_m) (Q : Int → hy_m → Prop) (P : hy_m → Prop) (md : Nat) (t : pE) (x : Int) : Prop := ∀ (many : Nat) (o : List Int) (nm : List Nat) (m : hy_m), wSt m0 m (many + 1) o nm → o.length < 120 → m 112 (many : Int) = x → (∀ m', wSt m0 m' many (tkp o (wM (sb s t) md nm).1) (wM (sb s t) md nm).2 → (∀ i : Int, 0 ≤ i → i < many → m' 112 i = m 112 i) → (tkp o (wM (sb s t) md nm).1).length < 120 → P m') → (∀ m', wFx m0 m' → mOu m' (tkp o (wM (sb s t) md nm).1) → (tkp o (wM (sb s t) md nm).1).length = 120 → Q 0 m') → P m
section MWT
variable {G : Nat → Nat → Prop} {D : Nat → Prop} {B : bM} {s : Nat → pE} {m m' m0 : hy_m} {Q : Int → hy_m → Prop} {P : hy_m → Prop} {o : List Int} {nm : List Nat} {many : Nat} {t : pE} {x : Int}
/-- the text is full: it ends -/
theorem wEx (hP : ∀ m, wf_294_10 Q P m → P m) (ho : mOu m o) (hl : o.length = 120) (hq : Q 0 m) : P m := by
  apply hP
  unfold wf_294_10
  rw [ho.1]
  exact ⟨fun _ => hq, fun _ => ⟨fun _ => hq, fun q => by omega⟩⟩
/-- one thing is taken -/
theorem wHe (hP : ∀ m, wf_294_10 Q P m → P m) (h : wSt m0 m (many + 1) o nm) (hl : o.length < 120) (hx : m 112 (many : Int) = x) (hq : wq_293 x (hy_u m 74 73 (many : Int)) (fun _ m1 => P m1)) : P m := by
  obtain ⟨h1, h2, h3, h4, h5, h6⟩ := h
  apply hP
  unfold wf_294_10
  rw [h2, h3.1, show ((many + 1 : Nat) : Int) - 1 = (many : Int) by omega, hx]
  exact ⟨fun q => by omega, fun _ => ⟨fun q => by omega, fun _ => ⟨show -2147483648 ≤ _ ∧ _ < 2147483648 by omega, by omega, by omega, hq⟩⟩⟩
theorem wSt_pop (h : wSt m0 m (many + 1) o nm) : wSt m0 (hy_u m 74 73 (many : Int)) many o nm ∧ ∀ i, hy_u m 74 73 (many : Int) 112 i = m 112 i := by
  obtain ⟨h1, h2, h3, h4, h5, h6⟩ := h
  refine ⟨⟨fun a e q1 q2 q3 q4 => by rw [hy_uf (by omega)]; exact h1 a e q1 q2 q3 q4, hy_us .., ⟨by rw [hy_uk (by decide)]; exact h3.1, h3.2.1, fun i c hc => by rw [hy_ua (by decide)]; exact h3.2.2 i c hc⟩, ⟨by rw [hy_uk (by decide)]; exact h4.1, h4.2.1, fun i v hv => by rw [hy_ua (by decide)]; exact h4.2.2 i v hv⟩, h5, by omega⟩, fun i => hy_ua (by decide)⟩
/-- signs were added -/
theorem wSt_out {w : List Int} (h : wSt m0 m many o nm) (hf : wFm m m') (ho : mOu m' (tkp o w)) : wSt m0 m' many (tkp o w) nm ∧ ∀ i, m' 112 i = m 112 i := by
  obtain ⟨h1, h2, h3, h4, h5, h6⟩ := h
  have hl : o.length ≤ (tkp o w).length := by
    rw [tkp_len]
    have := h3.2.1
    omega
  exact ⟨⟨h1.tr (wFm_x hf), by rw [hf 74 73 (by decide) (by decide)]; exact h2, ho, mNa_fm hf h4, by omega, by omega⟩, fun i => hf 112 i (by decide) (by omega)⟩
/-- one thing more waits -/
theorem wSt_push {v : Int} (h : wSt m0 m many o nm) (hl : many + 1 ≤ 6 * o.length + 1) : wSt m0 (hy_u (hy_u m 112 (many : Int) v) 74 73 ((many : Int) + 1)) (many + 1) o nm ∧ (∀ i : Int, i ≠ many → hy_u (hy_u m 112 (many : Int) v) 74 73 ((many : Int) + 1) 112 i = m 112 i) ∧ hy_u (hy_u m 112 (many : Int) v) 74 73 ((many : Int) + 1) 112 (many : Int) = v := by
  obtain ⟨h1, h2, h3, h4, h5, h6⟩ := h
  refine ⟨⟨fun a e q1 q2 q3 q4 => by rw [hy_uf (by omega), hy_ua q1]; exact h1 a e q1 q2 q3 q4, ?_, ⟨by rw [hy_uk (by decide), hy_ua (by decide)]; exact h3.1, h3.2.1, fun i c hc => by rw [hy_ua (by decide), hy_ua (by decide)]; exact h3.2.2 i c hc⟩, ⟨by rw [hy_uk (by decide), hy_ua (by decide)]; exact h4.1, h4.2.1, fun i v hv => by rw [hy_ua (by decide), hy_ua (by decide)]; exact h4.2.2 i v hv⟩, h5, hl⟩, fun i hi => ?_, ?_⟩
  · rw [hy_us]
    omega
  · rw [hy_ua (by decide), hy_uk hi]
  · rw [hy_ua (by decide), hy_us]
/-- a sign that waits -/
theorem wLe {c : Nat} (hP : ∀ m, wf_294_10 Q P m → P m) (hc : c < 128) (h : wSt m0 m (many + 1) o nm) (hl : o.length < 120) (hx : m 112 (many : Int) = mA c) (hk : ∀ m', wSt m0 m' many (tkp o [(c : Int)]) nm → (∀ i : Int, 0 ≤ i → i < many → m' 112 i = m 112 i) → (tkp o [(c : Int)]).length < 120 → P m') (hfu : ∀ m', wFx m0 m' → mOu m' (tkp o [(c : Int)]) → (tkp o [(c : Int)]).length = 120 → Q 0 m') : P m := by
  obtain ⟨hp1, hp2⟩ := wSt_pop h
  refine wHe hP h hl hx ?_
  have a1 := and61 (x := 1152921504606846976 + c) (by omega)
  have a2 := and62 (x := 1152921504606846976 + c) (by omega)
  have a3 := and60 (x := 1152921504606846976 + c) (by omega)
  have e3 : jA (mA c) 127 = c := by
    show jA (((1152921504606846976 + c : Nat)) : Int) 127 = c
    have := jA_m (((1152921504606846976 + c : Nat)) : Int) (k := 7) (by omega)
    rw [show ((2 ^ 7 - 1 : Nat) : Int) = 127 from rfl, show ((2 ^ 7 : Nat) : Int) = 128 from rfl] at this
    rw [this]
    omega
  unfold wq_293 wq_230 wq_231
  rw [e3]
  refine ⟨fun _ => ⟨fun q => absurd rfl q, fun _ => ⟨fun _ => ⟨fun q => absurd rfl q, fun _ => ⟨fun q => absurd (a3.mp q) (by omega), fun _ => ⟨show -2147483648 ≤ _ ∧ _ < 2147483648 by omega, sp_286 hp1.2.2.1 (fun m1 f1 o1 => ?_)⟩⟩⟩, fun q => absurd (a2.mpr (by omega)) q⟩⟩, fun q => absurd (a1.mpr (by omega)) q⟩
  obtain ⟨s1, s2⟩ := wSt_out hp1 f1 o1
  by_cases cf : (tkp o [(c : Int)]).length = 120
  · exact wEx hP o1 cf (hfu m1 s1.1 o1 cf)
  · have := tkp_le o [(c : Int)]
    exact hk m1 s1 (fun i _ _ => by rw [s2, hp2]) (by omega)
/-- a term -/
theorem sp_293t (h : mTm G m x t) (hq : wq_293_73 x m Q) : wq_293 x m Q := by
  rcases h with ⟨v, hv, rfl, rfl⟩ | ⟨i, hi, rfl, rfl⟩ | ⟨n, p, nv, u, rfl, hn, hnv, hp, hr, hk', rfl, hG⟩
  · exact sp_230F hv ⟨fun _ => sp_230F hv ⟨fun _ => hq, fun q => absurd q (by decide)⟩, fun q => absurd q (by decide)⟩
  · exact sp_230I ⟨fun q => absurd rfl q, fun _ => sp_231I ⟨fun _ => sp_230I ⟨fun q => absurd rfl q, fun _ => sp_231I ⟨fun _ => hq, fun q => absurd q (by decide)⟩⟩, fun q => absurd q (by decide)⟩⟩
  · have e : mQ n p = ((4096 * p + n : Nat) : Int) := by unfold mQ; omega
    have a1 : jA (mQ n p) 1152921504606846976 = 0 := by
      rw [e]
      exact (and60 (by omega)).mpr (by omega)
    have a2 : jA (mQ n p) 576460752303423488 = 0 := by
      rw [e]
      exact (and59 (by omega)).mpr (by omega)
    exact sp_230Q hn (by omega) ⟨fun q => absurd rfl q, fun _ => sp_231Q hn (by omega) ⟨fun q => absurd rfl q, fun _ => ⟨fun _ => sp_230Q hn (by omega) ⟨fun q => absurd rfl q, fun _ => sp_231Q hn (by omega) ⟨fun q => absurd rfl q, fun _ => ⟨fun _ => hq, fun q => absurd a2 q⟩⟩⟩, fun q => absurd a1 q⟩⟩⟩
/-- the rest of a list -/
theorem sp_293r {y : Nat} (hy : y < 576460752303423488) (hq : wq_292 (y : Int) m (fun _ m3 => Q 0 m3)) : wq_293 (mRs y) m Q := by
  have a1 := and61 (x := 576460752303423488 + y) (by omega)
  have a2 := and62 (x := 576460752303423488 + y) (by omega)
  have a3 := and60 (x := 576460752303423488 + y) (by omega)
  have a4 := and59 (x := 576460752303423488 + y) (by omega)
  unfold wq_293 wq_293_37 wq_230 wq_231
  rw [jA_rs hy]
  refine ⟨fun _ => ⟨fun q => absurd rfl q, fun _ => ⟨fun _ => ⟨fun q => absurd rfl q, fun _ => ⟨fun _ => ⟨fun _ => ⟨fun q => absurd rfl q, fun _ => ⟨fun _ => ⟨fun q => absurd rfl q, fun _ => ⟨fun q => absurd (a4.mp q) (by omega), fun _ => hq⟩⟩, fun q => absurd (a2.mpr (by omega)) q⟩⟩, fun q => absurd (a1.mpr (by omega)) q⟩, fun q => absurd (a3.mpr (by omega)) q⟩⟩, fun q => absurd (a2.mpr (by omega)) q⟩⟩, fun q => absurd (a1.mpr (by omega)) q⟩
end MWT
