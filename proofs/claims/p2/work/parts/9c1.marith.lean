/-! THE MODEL'S ARITHMETIC: marks and operations -/
theorem and60 {x : Nat} (h : x < 9223372036854775808) : (jA (x : Int) 1152921504606846976 = 0 ↔ x / 1152921504606846976 % 2 = 0) := by
  have := jA_n (a := x) (b := 1152921504606846976) (by omega) (by omega)
  have e : jA (x : Int) 1152921504606846976 = ((x &&& 2 ^ 60 : Nat) : Int) := this
  have e2 : x &&& 2 ^ 60 = 1152921504606846976 * (x / 1152921504606846976 % 2) := and_pw 60 x
  rw [e, e2]
  omega
theorem and59 {x : Nat} (h : x < 9223372036854775808) : (jA (x : Int) 576460752303423488 = 0 ↔ x / 576460752303423488 % 2 = 0) := by
  have := jA_n (a := x) (b := 576460752303423488) (by omega) (by omega)
  have e : jA (x : Int) 576460752303423488 = ((x &&& 2 ^ 59 : Nat) : Int) := this
  have e2 : x &&& 2 ^ 59 = 576460752303423488 * (x / 576460752303423488 % 2) := and_pw 59 x
  rw [e, e2]
  omega
theorem and5960 {x : Nat} (h : x < 9223372036854775808) : (jA (x : Int) 1729382256910270464 = 0 ↔ x / 1152921504606846976 % 2 = 0 ∧ x / 576460752303423488 % 2 = 0) := by
  have := jA_n (a := x) (b := 1729382256910270464) (by omega) (by omega)
  have e : jA (x : Int) 1729382256910270464 = ((x &&& (2 ^ 60 ||| 2 ^ 59) : Nat) : Int) := this
  have e2 : x &&& 2 ^ 60 = 1152921504606846976 * (x / 1152921504606846976 % 2) := and_pw 60 x
  have e3 : x &&& 2 ^ 59 = 576460752303423488 * (x / 576460752303423488 % 2) := and_pw 59 x
  rw [e, Nat.and_or_distrib_left]
  constructor
  · intro q
    have q : x &&& 2 ^ 60 ||| x &&& 2 ^ 59 = 0 := by omega
    have := Nat.or_eq_zero_iff.mp q
    omega
  · rintro ⟨q1, q2⟩
    rw [e2, e3, q1, q2]
    rfl
/-- to be applied; to be kept -/
def mA (h : Nat) : Int := ((1152921504606846976 + h : Nat) : Int)
def mKp (w : Nat) : Int := ((576460752303423488 + w : Nat) : Int)
theorem jO_A {h : Nat} (hh : h < 3) : jO 1152921504606846976 (h : Int) = mA h := by
  have := jO_n (a := 1152921504606846976) (b := h) (by omega) (by omega)
  have e : jO 1152921504606846976 (h : Int) = ((2 ^ 60 * 1 ||| h : Nat) : Int) := this
  rw [e, ← Nat.two_pow_add_eq_or_of_lt (show h < 2 ^ 60 by omega) 1]
  rfl
theorem jO_K {w : Nat} (hw : w < 2500) : jO 576460752303423488 (w : Int) = mKp w := by
  have := jO_n (a := 576460752303423488) (b := w) (by omega) (by omega)
  have e : jO 576460752303423488 (w : Int) = ((2 ^ 59 * 1 ||| w : Nat) : Int) := this
  rw [e, ← Nat.two_pow_add_eq_or_of_lt (show w < 2 ^ 59 by omega) 1]
  rfl
section MAR
variable {G : Nat → Nat → Prop} {m m' : hy_m} {Q : Int → hy_m → Prop} {D : Nat → Prop} {B : bM} {s : Nat → pE} {x y : Int} {t : pE}
theorem sp_250n {z : Nat} {k : Int} (hz : z < 2305843009213693952) (h0 : jA (z : Int) k = 0 → Q 0 m) (h1 : jA (z : Int) k ≠ 0 → Q 1 m) : wq_250 (z : Int) k m Q := by
  have a1 := and61 (x := z) (by omega)
  have a2 := and62 (x := z) (by omega)
  unfold wq_250 wq_231 wq_230
  exact ⟨fun _ => ⟨fun q => absurd rfl q, fun _ => ⟨fun _ => ⟨fun q => absurd rfl q, fun _ => ⟨h0, h1⟩⟩, fun q => absurd (a1.mpr (by omega)) q⟩⟩, fun q => absurd (a2.mpr (by omega)) q⟩
/-- a term is no mark -/
theorem sp_250t {k : Int} (h : mTm G m x t) (hk : k = 1729382256910270464 ∨ k = 1152921504606846976 ∨ k = 576460752303423488) (hq : Q 0 m) : wq_250 x k m Q := by
  rcases h with ⟨v, hv, rfl, rfl⟩ | ⟨i, hi, rfl, rfl⟩ | ⟨n, p, nv, u, rfl, hn, hnv, hp, hr, hk', rfl, hG⟩
  · unfold wq_250
    exact sp_231F hv ⟨fun q => absurd rfl q, fun _ => sp_230F hv ⟨fun _ => hq, fun q => absurd q (by decide)⟩⟩
  · unfold wq_250
    exact sp_231I ⟨fun _ => hq, fun q => absurd q (by decide)⟩
  · have e : mQ n p = ((4096 * p + n : Nat) : Int) := by unfold mQ; omega
    rw [e]
    refine sp_250n (by omega) (fun _ => hq) (fun q => absurd ?_ q)
    rcases hk with rfl | rfl | rfl
    · exact (and5960 (by omega)).mpr (by omega)
    · exact (and60 (by omega)).mpr (by omega)
    · exact (and59 (by omega)).mpr (by omega)
theorem oI_c {k : Int} {n : Nat} : oI k n = -9 ∨ (n = 2 ∧ ((k = 1602148 ∧ oI k n = 0) ∨ (k = 1899234 ∧ oI k n = 1) ∨ (k = 1800940 ∧ oI k n = 2))) := by
  unfold oI
  by_cases c : n = 2
  · rw [if_pos c]
    by_cases c1 : k = 1602148
    · rw [if_pos c1]
      exact Or.inr ⟨c, Or.inl ⟨c1, rfl⟩⟩
    · rw [if_neg c1]
      by_cases c2 : k = 1899234
      · rw [if_pos c2]
        exact Or.inr ⟨c, Or.inr (Or.inl ⟨c2, rfl⟩)⟩
      · rw [if_neg c2]
        by_cases c3 : k = 1800940
        · rw [if_pos c3]
          exact Or.inr ⟨c, Or.inr (Or.inr ⟨c3, rfl⟩)⟩
        · rw [if_neg c3]
          exact Or.inl rfl
  · rw [if_neg c]
    exact Or.inl rfl
def oT : pE → Int
  | .mulL k a => oI k (eN a)
  | _ => -9
/-- operation -/
theorem sp_249 (h : mTm G m x t) (hq : Q (oT t) m) : wq_249 x m Q := by
  unfold wq_249
  refine sp_238 h ⟨fun q => ?_, fun q => ?_⟩
  · have e : oT t = -9 := by
      cases t with
      | mulL k a =>
        show oI k (eN a) = -9
        by_cases c : eN a = 0
        · unfold oI
          rw [if_neg (by omega)]
        · exact absurd (if_neg c) q
      | _ => rfl
    rw [e] at hq
    exact hq
  · cases t with
    | mulL k a =>
      obtain ⟨n, p, rfl, hn, h7, h8⟩ := mTm_mul h
      refine sp_232Q hn ⟨by omega, by omega, ?_⟩
      rw [h8]
      have hq : Q (oI k (eN a)) m := hq
      unfold oI at hq
      refine ⟨fun q2 => sp_232Q hn ⟨by omega, by omega, ?_⟩, fun q2 => ?_⟩
      · rw [if_pos (by omega)] at hq
        rw [h7]
        unfold wq_171
        refine ⟨fun _ => ⟨fun q => absurd rfl q, fun _ => ⟨show -9223372036854775808 ≤ _ ∧ _ < 9223372036854775808 by omega, fun q3 => ?_, fun q3 => ?_⟩⟩, fun q => absurd q (by decide)⟩
        · rw [if_neg (by omega)] at hq
          refine ⟨fun _ => ⟨fun q => absurd rfl q, fun _ => ⟨show -9223372036854775808 ≤ _ ∧ _ < 9223372036854775808 by omega, fun q4 => ?_, fun q4 => ?_⟩⟩, fun q => absurd q (by decide)⟩
          · rw [if_neg (by omega)] at hq
            refine ⟨fun _ => ⟨fun q => absurd rfl q, fun _ => ⟨show -9223372036854775808 ≤ _ ∧ _ < 9223372036854775808 by omega, fun q5 => ?_, fun q5 => ?_⟩⟩, fun q => absurd q (by decide)⟩
            · rw [if_neg (by omega)] at hq
              exact hq
            · rw [if_pos (by omega)] at hq
              exact hq
          · rw [if_pos (by omega)] at hq
            exact hq
        · rw [if_pos (by omega)] at hq
          exact hq
      · rw [if_neg (by omega)] at hq
        exact hq
    | var _ => exact absurd (show (1 : Int) = 4 from q) (by decide)
    | num _ => exact absurd (show (2 : Int) = 4 from q) (by decide)
    | add _ _ => exact absurd (show (0 : Int) = 4 from q) (by decide)
    | sub _ _ => exact absurd (show (0 : Int) = 4 from q) (by decide)
    | neg _ => exact absurd (show (0 : Int) = 4 from q) (by decide)
    | mulR _ _ => exact absurd (show (0 : Int) = 4 from q) (by decide)
end MAR
