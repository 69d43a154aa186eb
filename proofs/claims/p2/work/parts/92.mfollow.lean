/-! BINDINGS OF THE MODEL: follow, bind -/
/-- the model's row of bindings shows B, for the variables D -/
def mBd (G : Nat → Nat → Prop) (m : hy_m) (D : Nat → Prop) (B : bM) : Prop := ∀ v : Nat, (D v → v < 2500 ∧ ((B v = none ∧ m 97 (v : Int) = -1) ∨ ∃ t, B v = some t ∧ m 97 (v : Int) ≠ -1 ∧ mTm G m (m 97 (v : Int)) t ∧ ∀ w, vIn w t → D w)) ∧ (¬ D v → B v = none)
def rk (m : hy_m) (x : Int) : Nat := if 2305843009213693952 ≤ x ∧ x < 4611686018427387904 then (x - 2305843009213693952).toNat + 1 else if x < 2305843009213693952 ∧ m 76 (x % 4096) = 1 then (x / 4096 + m 77 (x % 4096)).toNat + 1 else 0
section MW2
variable {G : Nat → Nat → Prop} {m m' : hy_m} {Q : Int → hy_m → Prop} {x : Int} {t : pE} {D : Nat → Prop} {B : bM} {s : Nat → pE}
theorem mTm_fr (h : mTm G m x t) (hf : ∀ (a : Nat) (e : Int), a = 76 ∨ a = 77 ∨ a = 78 ∨ a = 79 → m' a e = m a e) : mTm G m' x t := by
  rcases h with h | h | ⟨n, p, nv, u, h1, h2, h3, h4, h5, h6, h7, h8⟩
  · exact Or.inl h
  · exact Or.inr (Or.inl h)
  · exact Or.inr (Or.inr ⟨n, p, nv, u, h1, h2, h3, h4, rP_eq (fun z _ => ⟨hf _ _ (by omega), hf _ _ (by omega), hf _ _ (by omega), fun j _ _ => hf _ _ (by omega)⟩) _ (-1) _ (fun q => by omega) h5, h6, h7, h8⟩)
theorem mBd_fr (h : mBd G m D B) (hf : ∀ (a : Nat) (e : Int), a = 76 ∨ a = 77 ∨ a = 78 ∨ a = 79 ∨ a = 97 → m' a e = m a e) : mBd G m' D B := by
  intro v
  refine ⟨fun hv => ⟨((h v).1 hv).1, ?_⟩, (h v).2⟩
  rw [hf 97 _ (by omega)]
  rcases ((h v).1 hv).2 with q | ⟨t, q1, q2, q3, q4⟩
  · exact Or.inl q
  · exact Or.inr ⟨t, q1, q2, mTm_fr q3 (fun a e q => hf a e (by omega)), q4⟩
/-- a variable's node -/
theorem mTm_v {w : Nat} (h : mTm G m x (.var w)) : (x = mF w ∧ w < 2500) ∨ ∃ n p : Nat, x = mQ n p ∧ n < 3584 ∧ p < 2500 ∧ m 76 (n : Int) = 1 ∧ (p : Int) + m 77 (n : Int) = w ∧ w < 2500 := by
  rcases h with ⟨v, hv, rfl, e⟩ | ⟨i, hi, rfl, e⟩ | ⟨n, p, nv, u, rfl, hn, hnv, hp, hr, hk, e, hG⟩
  · injection e with e
    exact Or.inl ⟨by rw [e], by rw [e]; exact hv⟩
  · cases e
  · cases u with
    | var v =>
      have e : (.var w : pE) = .var (p + v) := e
      injection e with e
      have hvn : @LT.lt Nat _ v nv := hk.2
      have e : w = p + v := e
      have h77 : m 77 (n : Int) = ((v : Nat) : Int) := hr.2.2.2.1
      refine Or.inr ⟨n, p, rfl, hn, by omega, hr.2.2.1, ?_, by omega⟩
      rw [h77, e]
      omega
    | num i => cases e
    | mulL k a => cases e
    | add a r => cases e
    | sub a r => cases e
    | neg a => cases e
    | mulR a k => cases e
theorem mTm_n (h : mTm G m x t) (hn : ∀ w : Nat, t ≠ .var w) : (∃ i, x = mI i ∧ t = .num i) ∨ ∃ n p : Nat, x = mQ n p ∧ n < 3584 ∧ p ≤ 2500 ∧ m 76 (n : Int) ≠ 1 := by
  rcases h with ⟨v, hv, rfl, e⟩ | ⟨i, hi, rfl, e⟩ | ⟨n, p, nv, u, rfl, hn', hnv, hp, hr, hk, e, hG⟩
  · exact absurd e (hn v)
  · exact Or.inl ⟨i, rfl, e⟩
  · refine Or.inr ⟨n, p, rfl, hn', by omega, ?_⟩
    rw [rP_kd hr]
    cases u with
    | var v => exact absurd e (hn _)
    | num i =>
      show (2 : Int) ≠ 1
      decide
    | mulL k a =>
      show (if eN a = 0 then (3 : Int) else 4) ≠ 1
      split <;> decide
    | add a r => exact absurd hk.1 (by decide)
    | sub a r => exact hk.elim
    | neg a => exact hk.elim
    | mulR a k => exact hk.elim
theorem rk_v {w : Nat} (h : mTm G m x (.var w)) : rk m x = w + 1 := by
  unfold rk
  rcases mTm_v h with ⟨rfl, hw⟩ | ⟨n, p, rfl, hn, hp, h1, h2, h3⟩
  · rw [if_pos (by unfold mF; omega)]
    unfold mF
    omega
  · have e1 : mQ n p % 4096 = (n : Int) := by unfold mQ; omega
    have e2 : mQ n p / 4096 = (p : Int) := by unfold mQ; omega
    rw [if_neg (by unfold mQ; omega), e1, if_pos ⟨by unfold mQ; omega, h1⟩, e2, h2]
    omega
theorem rk_n (h : mTm G m x t) (hn : ∀ w : Nat, t ≠ .var w) : rk m x = 0 := by
  unfold rk
  rcases mTm_n h hn with ⟨i, rfl, -⟩ | ⟨n, p, rfl, hn', hp, h1⟩
  · have hr := Int.emod_nonneg i (b := 4294967296) (by decide)
    rw [if_neg (by unfold mI; omega), if_neg (by unfold mI; omega)]
  · have e1 : mQ n p % 4096 = (n : Int) := by unfold mQ; omega
    rw [if_neg (by unfold mQ; omega), e1, if_neg (fun q => h1 q.2)]
/-- where follow comes to -/
def mFo (G : Nat → Nat → Prop) (m : hy_m) (D : Nat → Prop) (B : bM) (y : Int) (t : pE) : Prop := mTm G m y t ∧ (∀ w, vIn w t → D w) ∧ ((∃ w : Nat, y = mF w ∧ t = .var w ∧ B w = none ∧ w < 2500) ∨ ((∀ w : Nat, t ≠ .var w) ∧ ∀ w : Nat, w < 2500 → y ≠ mF w))
theorem sp_237 (hB : mBd G m D B) (hR : Res B s) (h : mTm G m x t) (hD : ∀ w, vIn w t → D w) (hq : ∀ y t', mFo G m D B y t' → (∀ v, Sol B v → sb v t = sb v t') → Q y m) : wq_237 x m Q := by
  unfold wq_237 wq_237_5
  refine wL2_rule (Nat.lt_wfRel.wf) (fun x y m' => m' = m ∧ ∃ t', mTm G m x t' ∧ (∀ w, vIn w t' → D w) ∧ (∀ v, Sol B v → sb v t = sb v t') ∧ (y = 0 → mFo G m D B x t')) (fun x y m' => if y = 0 then 0 else rk m x + 1) ?_ ⟨rfl, t, h, hD, fun _ _ => rfl, fun q => absurd q (by decide)⟩
  rintro P x y m' ⟨rfl, t', h1, h2, h3, h4⟩ hP
  unfold wf_237_5
  refine ⟨fun h0 => hq x t' (h4 h0) h3, fun hy => ?_⟩
  have stop : ∀ z : Int, mFo G m' D B z t' → P z 0 m' := by
    intro z hz
    refine hP _ _ _ ⟨rfl, t', hz.1, hz.2.1, h3, fun _ => hz⟩ ?_
    show (if (0 : Int) = 0 then 0 else rk m' z + 1) < (if y = 0 then 0 else rk m' x + 1)
    rw [if_pos rfl, if_neg hy]
    omega
  have vr : ∀ w : Nat, t' = .var w → w < 2500 → wq_237_61 P (mF w) 0 m' Q := by
    intro w hw hw5
    subst hw
    have hDw := h2 w rfl
    obtain ⟨hw2, hb⟩ := (hB w).1 hDw
    unfold wq_237_61
    refine sp_230F hw2 ⟨fun q => absurd q (by decide), fun _ => ?_⟩
    rw [jA_F hw2]
    refine ⟨by omega, by omega, fun he => ?_, fun hne => ⟨by omega, by omega, ?_⟩⟩
    · rcases hb with hb | ⟨u, q1, q2, q3, q4⟩
      · exact stop _ ⟨Or.inl ⟨w, hw2, rfl, rfl⟩, h2, Or.inl ⟨w, rfl, rfl, hb.1, hw2⟩⟩
      · exact absurd he q2
    · rcases hb with hb | ⟨u, q1, q2, q3, q4⟩
      · exact absurd hb.2 hne
      · refine hP _ _ _ ⟨rfl, u, q3, q4, fun v hv => (h3 v hv).trans (hv w u q1), fun q => absurd q (by decide)⟩ ?_
        show (if (1 : Int) = 0 then 0 else rk m' (m' 97 (w : Int)) + 1) < (if y = 0 then 0 else rk m' x + 1)
        rw [if_neg (by decide), if_neg hy, rk_v h1]
        by_cases hv : ∃ z : Nat, u = .var z
        · obtain ⟨z, rfl⟩ := hv
          have := ((hR w).2 _ q1).2 z rfl
          rw [rk_v q3]
          omega
        · rw [rk_n q3 (fun z e => hv ⟨z, e⟩)]
          omega
  have nv : (∀ w : Nat, t' ≠ .var w) → wq_237_61 P x 0 m' Q := by
    intro hn
    unfold wq_237_61
    refine sp_230 h1 (fun v hv _ e => absurd e (hn v)) (fun hne => ⟨fun _ => stop x ⟨h1, h2, Or.inr ⟨hn, hne⟩⟩, fun q => absurd rfl q⟩)
  by_cases hv : ∃ w : Nat, t' = .var w
  · obtain ⟨w, hw⟩ := hv
    subst hw
    rcases mTm_v h1 with ⟨rfl, hw5⟩ | ⟨n, p, rfl, hn, hp, g1, g2, g3⟩
    · exact sp_230F hw5 ⟨fun _ => vr w rfl hw5, fun q => absurd q (by decide)⟩
    · refine sp_230Q hn (by omega) ⟨fun q => absurd rfl q, fun _ => sp_231Q hn (by omega) ⟨fun q => absurd rfl q, fun _ => sp_232Q hn ⟨by omega, by omega, fun q => absurd g1 q, fun _ => sp_233Q hn (by omega) (sp_232Q hn ⟨by omega, by omega, ?_⟩)⟩⟩⟩
      rw [g2, jO_F g3]
      exact ⟨show -2147483648 ≤ _ ∧ _ < 2147483648 by omega, vr w rfl g3⟩
  · have hn : ∀ w : Nat, t' ≠ .var w := fun w e => hv ⟨w, e⟩
    rcases mTm_n h1 hn with ⟨i, rfl, -⟩ | ⟨n, p, rfl, hn', hp, g1⟩
    · exact sp_230I ⟨fun q => absurd rfl q, fun _ => sp_231I ⟨fun _ => nv hn, fun q => absurd q (by decide)⟩⟩
    · exact sp_230Q hn' (by omega) ⟨fun q => absurd rfl q, fun _ => sp_231Q hn' (by omega) ⟨fun q => absurd rfl q, fun _ => sp_232Q hn' ⟨by omega, by omega, fun _ => nv hn, fun q => absurd q g1⟩⟩⟩
/-- placeIn -/
theorem sp_241 (h : mTm G m x t) (h1 : ∀ w : Nat, t = .var w → w < 2500 → Q (w : Int) m) (h0 : (∀ w : Nat, t = .var w → x = mF w) → Q (-9) m) : wq_241 x m Q := by
  unfold wq_241
  have no : (∀ w : Nat, t = .var w → x = mF w) → wq_241_31 x m Q := fun q => ⟨fun _ => h0 q, fun q => absurd rfl q⟩
  by_cases hv : ∃ w : Nat, t = .var w
  · obtain ⟨w, hw⟩ := hv
    subst hw
    rcases mTm_v h with ⟨rfl, hw5⟩ | ⟨n, p, rfl, hn, hp, g1, g2, g3⟩
    · refine sp_230F hw5 ⟨fun _ => no (fun w' e => ?_), fun q => absurd q (by decide)⟩
      injection e with e
      rw [e]
    · refine sp_230Q hn (by omega) ⟨fun q => absurd rfl q, fun _ => sp_231Q hn (by omega) ⟨fun q => absurd rfl q, fun _ => sp_232Q hn ⟨by omega, by omega, fun q => absurd g1 q, fun _ => ⟨fun q => absurd q (by decide), fun _ => sp_233Q hn (by omega) (sp_232Q hn ⟨by omega, by omega, ?_⟩)⟩⟩⟩⟩
      rw [g2]
      exact ⟨show -2147483648 ≤ _ ∧ _ < 2147483648 by omega, h1 w rfl g3⟩
  · have hn : ∀ w : Nat, t ≠ .var w := fun w e => hv ⟨w, e⟩
    have no2 := no (fun w e => absurd e (hn w))
    rcases mTm_n h hn with ⟨i, rfl, -⟩ | ⟨n, p, rfl, hn', hp, g1⟩
    · exact sp_230I ⟨fun q => absurd rfl q, fun _ => sp_231I ⟨fun _ => no2, fun q => absurd q (by decide)⟩⟩
    · exact sp_230Q hn' (by omega) ⟨fun q => absurd rfl q, fun _ => sp_231Q hn' (by omega) ⟨fun q => absurd rfl q, fun _ => sp_232Q hn' ⟨by omega, by omega, fun _ => no2, fun q => absurd q g1⟩⟩⟩
/-- the rows behind a binding -/
def mBi (m : hy_m) (w : Nat) (y : Int) : hy_m := if 0 < m 74 59 ∧ (w : Int) < m 109 (m 74 59 - 1) then hy_u (hy_u (hy_u m 97 (w : Int) y) 98 (m 74 44) (w : Int)) 74 44 (m 74 44 + 1) else hy_u m 97 (w : Int) y
theorem sp_240 {w : Nat} {y : Int} (hw : w < 2500) (hc : m 74 59 ≤ 700) (ht : 0 ≤ m 74 44 ∧ m 74 44 < 2500) (hq : Q 0 (mBi m w y)) : wq_240 (mF w) y m Q := by
  unfold wq_240
  rw [jA_F hw]
  unfold mBi at hq
  refine ⟨by omega, by omega, fun hle => ?_, fun hgt => ⟨by omega, by omega, show -2147483648 ≤ _ ∧ _ < 2147483648 by omega, fun hge => ?_, fun hlt => ⟨ht.1, ht.2, show -2147483648 ≤ _ ∧ _ < 2147483648 by omega, show -2147483648 ≤ _ ∧ _ < 2147483648 by omega, ?_⟩⟩⟩
  · rw [if_neg (by omega)] at hq; exact hq
  · rw [if_neg (by omega)] at hq; exact hq
  · rw [if_pos ⟨hgt, hlt⟩] at hq; exact hq
theorem mBi_r (m : hy_m) (w : Nat) (y : Int) (a : Nat) (e : Int) (h1 : ¬ (a = 97 ∧ e = w)) (h2 : ¬ (a = 98 ∧ e = m 74 44)) (h3 : ¬ (a = 74 ∧ e = 44)) : mBi m w y a e = m a e := by
  unfold mBi
  split
  · unfold hy_u
    rw [if_neg h3, if_neg h2, if_neg h1]
  · exact if_neg h1
theorem mBi_v (m : hy_m) (w : Nat) (y : Int) : mBi m w y 97 (w : Int) = y := by
  unfold mBi
  split
  · rw [hy_ua (by decide), hy_ua (by decide), hy_us]
  · rw [hy_us]
theorem mTm_pos (h : mTm G m x t) : 0 ≤ x := by
  rcases h with ⟨v, hv, rfl, -⟩ | ⟨i, hi, rfl, -⟩ | ⟨n, p, nv, u, rfl, -⟩
  · unfold mF; omega
  · have hr := Int.emod_nonneg i (b := 4294967296) (by decide)
    unfold mI; omega
  · unfold mQ; omega
theorem mBd_bi {w : Nat} {y : Int} (hB : mBd G m D B) (hw : D w) (h : mTm G m y t) (hD : ∀ z, vIn z t → D z) : mBd G (mBi m w y) D (bU B w t) := by
  have hr := mBi_r m w y
  intro v
  by_cases e : v = w
  · subst e
    refine ⟨fun hv => ⟨((hB v).1 hv).1, Or.inr ⟨t, bU_s, ?_, ?_, hD⟩⟩, fun hn => absurd hw hn⟩
    · rw [mBi_v]
      have := mTm_pos h
      omega
    · rw [mBi_v]
      exact mTm_fr h (fun a e q => hr _ _ (by omega) (by omega) (by omega))
  · rw [bU_o e, hr 97 _ (by omega) (by omega) (by omega)]
    refine ⟨fun hv => ⟨((hB v).1 hv).1, ?_⟩, (hB v).2⟩
    rcases ((hB v).1 hv).2 with q | ⟨u, q1, q2, q3, q4⟩
    · exact Or.inl q
    · exact Or.inr ⟨u, q1, q2, mTm_fr q3 (fun a e q => hr _ _ (by omega) (by omega) (by omega)), q4⟩
theorem sp_242 {w : Nat} (hw : w < 2500) (h0 : m 113 (w : Int) ≠ m 74 64 → Q 0 (hy_u m 113 (w : Int) (m 74 64))) (h1 : m 113 (w : Int) = m 74 64 → Q 1 (hy_u m 113 (w : Int) (m 74 64))) : wq_242 (w : Int) m Q := by
  unfold wq_242
  exact ⟨fun _ => ⟨by omega, by omega, fun q => ⟨by omega, by omega, h0 q⟩, fun q => ⟨by omega, by omega, h1 q⟩⟩, fun q => by omega⟩
theorem sp_242n (hq : Q 0 m) : wq_242 (-9) m Q := by
  unfold wq_242
  exact ⟨fun q => absurd rfl q, fun _ => hq⟩
end MW2
