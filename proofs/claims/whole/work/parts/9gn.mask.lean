/-! THE MODEL ASKS -/
theorem rP_sh {m m' : hy_m} {c : Nat} (h : ∀ n : Int, nA 27 c [] n → m' 76 (n - 128) = m 76 n ∧ m' 77 (n - 128) = m 77 n ∧ m' 78 (n - 128) = m 78 n ∧ ∀ i : Int, 0 ≤ i → i < 3 → m' 79 (3 * (n - 128) + i) = m 79 (3 * n + i) - 128) (hA : ∀ n : Int, nA 27 c [] n → nA 26 c [] (n - 128)) : ∀ (t : pE) (j n : Int), (0 ≤ j → nA 27 c [] n) → rP m (nA 27 c []) t j n → rP m' (nA 26 c []) t j (n - 128)
  | .var v, j, n, _, hr => by
    have g := h n hr.2.1
    exact ⟨hr.1, hA n hr.2.1, by rw [g.1]; exact hr.2.2.1, by rw [g.2.1]; exact hr.2.2.2.1, by rw [g.2.2.1]; exact hr.2.2.2.2⟩
  | .num i, j, n, _, hr => by
    rcases hr with hr | hr
    · have g := h n hr.2.1
      exact Or.inl ⟨hr.1, hA n hr.2.1, by rw [g.1]; exact hr.2.2.1, by rw [g.2.1]; exact hr.2.2.2.1, by rw [g.2.2.1]; exact hr.2.2.2.2⟩
    · exact Or.inr hr
  | .mulL k a, j, n, _, hr => by
    have g := h n hr.2.1
    exact ⟨hr.1, hA n hr.2.1, by rw [g.2.1]; exact hr.2.2.1, by rw [g.2.2.1]; exact hr.2.2.2.1, by rw [g.1]; exact hr.2.2.2.2.1, hr.2.2.2.2.2.1, rP_sh h hA a 0 n (fun _ => hr.2.1) hr.2.2.2.2.2.2⟩
  | .add a r, j, n, hn, hr => by
    refine ⟨hr.1, hr.2.1, ?_, rP_sh h hA r (j + 1) n (fun _ => hn hr.1) hr.2.2.2⟩
    rw [(h n (hn hr.1)).2.2.2 j hr.1 hr.2.1]
    exact rP_sh h hA a (-1) _ (fun q => absurd q (by decide)) hr.2.2.1
  | .sub a r, _, _, _, hr => hr.elim
  | .neg a, _, _, _, hr => hr.elim
  | .mulR a k, _, _, _, hr => hr.elim
theorem vC_sh {m m' : hy_m} {c : Nat} (h : ∀ n : Int, nA 27 c [] n → m' 76 (n - 128) = m 76 n ∧ m' 77 (n - 128) = m 77 n) (v : Nat) : ∀ d : Nat, d ≤ c → vC m' 26 d v = vC m 27 d v
  | 0, _ => rfl
  | d + 1, hd => by
    have g := h (128 * ((27 : Nat) : Int) + (d : Int)) ⟨by omega, by omega, List.not_mem_nil⟩
    have e : 128 * ((27 : Nat) : Int) + (d : Int) - 128 = 128 * ((26 : Nat) : Int) + (d : Int) := by omega
    rw [e] at g
    show vC m' 26 d v + _ = vC m 27 d v + _
    rw [vC_sh h v d (by omega), g.1, g.2]
/-- slot 27 is being copied to slot 26 -/
def cpF (m m' : hy_m) (d k : Int) : Prop := (∀ (a : Nat) (e : Int), ¬ ((a = 76 ∨ a = 77 ∨ a = 78) ∧ 3328 ≤ e ∧ e < 3328 + d) → ¬ (a = 79 ∧ 9984 ≤ e ∧ e < 9984 + k) → m' a e = m a e) ∧ (∀ (a : Nat) (j : Int), (a = 76 ∨ a = 77 ∨ a = 78) → 0 ≤ j → j < d → m' a (3328 + j) = m a (3456 + j)) ∧ ∀ j : Int, 0 ≤ j → j < k → m' 79 (9984 + j) = m 79 (10368 + j) - 128
def cpG (m m' : hy_m) : Prop := ∀ (a : Nat) (e : Int), ¬ ((a = 76 ∨ a = 77 ∨ a = 78) ∧ 3328 ≤ e ∧ e < 3456) → ¬ (a = 79 ∧ 9984 ≤ e ∧ e < 10368) → ¬ ((a = 80 ∨ a = 81 ∨ a = 82 ∨ a = 84) ∧ e = 26) → ¬ (a = 83 ∧ 130 ≤ e ∧ e < 135) → m' a e = m a e
section NB
variable {m m' : hy_m} {gs : List pE} {nv : Nat} {Q : Int → hy_m → Prop}
theorem cpy_ok (hc : clR m 27 none gs nv) (hP : mPg m 27) (hG : gPg m 27) (hq : ∀ m', cpG m m' → clR m' 26 none gs nv → wq_272 1 m' (fun _ m1 => wq_252 26 0 0 (-9) 0 m1 (fun r2 m2 => 0 ≤ (26 : Int) ∧ (26 : Int) < 28 ∧ (Q (m2 82 26) (hy_u m2 74 52 r2))))) : wq_276_23 128 0 m Q := by
  obtain ⟨c, c1, c2, c3, c4, c5, c6, c7, c8, c9⟩ := hc
  have c2 : m 80 27 = (c : Int) := c2
  have c3 : m 82 27 = (gs.length : Int) := c3
  have c5 : m 84 27 = (nv : Int) := c5
  unfold wq_276_23
  refine wL1_rule (Nat.lt_wfRel.wf) (fun x2 m' => ∃ d : Nat, x2 = d ∧ d ≤ c ∧ cpF m m' (d : Int) (3 * (d : Int))) (fun x2 _ => 200 - x2.toNat) ?_ ⟨0, rfl, Nat.zero_le _, fun _ _ _ _ => rfl, fun a j _ q1 q2 => by omega, fun j q1 q2 => by omega⟩
  rintro P x2 m1 ⟨d, rfl, hd, f1, f2, f3⟩ hPP
  have e80 : m1 80 27 = (c : Int) := by rw [f1 _ _ (by omega) (by omega)]; exact c2
  have e82 : m1 82 27 = (gs.length : Int) := by rw [f1 _ _ (by omega) (by omega)]; exact c3
  have e84 : m1 84 27 = (nv : Int) := by rw [f1 _ _ (by omega) (by omega)]; exact c5
  unfold wf_276_23
  rw [e80, e82, e84]
  refine ⟨by decide, by decide, fun hle => ⟨by decide, by decide, by decide, by decide, by decide, by decide, by decide, by decide, by decide, by decide, by decide, by decide, ?_⟩, fun hlt => ⟨by omega, by omega, by omega, by omega, by omega, by omega, by omega, by omega, by omega, by omega, by omega, by omega, show -2147483648 ≤ _ ∧ _ < 2147483648 by omega, ?_⟩⟩
  · have hdc : d = c := by omega
    subst hdc
    have g1 : ∀ (a : Nat) (e : Int), ¬ ((a = 80 ∨ a = 82 ∨ a = 84) ∧ e = 26) → hy_u (hy_u (hy_u m1 80 26 (d : Int)) 84 26 (nv : Int)) 82 26 (gs.length : Int) a e = m1 a e := fun a e q => by rw [hy_uf (by omega), hy_uf (by omega), hy_uf (by omega)]
    have v80 : hy_u (hy_u (hy_u m1 80 26 (d : Int)) 84 26 (nv : Int)) 82 26 (gs.length : Int) 80 26 = d := by rw [hy_ua (by decide), hy_ua (by decide), hy_us]
    have v84 : hy_u (hy_u (hy_u m1 80 26 (d : Int)) 84 26 (nv : Int)) 82 26 (gs.length : Int) 84 26 = nv := by rw [hy_ua (by decide), hy_us]
    have v82 : hy_u (hy_u (hy_u m1 80 26 (d : Int)) 84 26 (nv : Int)) 82 26 (gs.length : Int) 82 26 = gs.length := hy_us _ _ _ _
    generalize hy_u (hy_u (hy_u m1 80 26 (d : Int)) 84 26 (nv : Int)) 82 26 (gs.length : Int) = m3 at g1 v80 v84 v82
    unfold wq_276_173
    refine wL1_rule (Nat.lt_wfRel.wf) (fun x2 m' => ∃ i : Nat, x2 = i ∧ i ≤ 5 ∧ (∀ (a : Nat) (e : Int), ¬ (a = 83 ∧ 130 ≤ e ∧ e < 130 + (i : Int)) → m' a e = m3 a e) ∧ ∀ j : Int, 0 ≤ j → j < (i : Int) → m' 83 (130 + j) = m3 83 (135 + j) - 128) (fun x2 _ => 20 - x2.toNat) ?_ ⟨0, rfl, Nat.zero_le _, fun _ _ _ => rfl, fun j q1 q2 => by omega⟩
    rintro P2 x4 m4 ⟨i, rfl, hi, k1, k2⟩ hP2
    unfold wf_276_173
    refine ⟨fun h5 => hq m4 ?_ ?_, fun h5 => ?_⟩
    · intro a e q1 q2 q3 q4
      rw [k1 a e (by omega), g1 a e (by omega), f1 a e (by omega) (by omega)]
    · have hi5 : i = 5 := by omega
      subst hi5
      have hm : ∀ (a : Nat) (e : Int), 76 ≤ a → a ≤ 79 → m4 a e = m1 a e := fun a e q1 q2 => by rw [k1 a e (by omega), g1 a e (by omega)]
      have sh : ∀ n : Int, nA 27 d [] n → m4 76 (n - 128) = m 76 n ∧ m4 77 (n - 128) = m 77 n ∧ m4 78 (n - 128) = m 78 n ∧ ∀ i : Int, 0 ≤ i → i < 3 → m4 79 (3 * (n - 128) + i) = m 79 (3 * n + i) - 128 := by
        rintro n ⟨n1, n2, -⟩
        have a1 : n - 128 = 3328 + (n - 3456) := by omega
        have a2 : 3456 + (n - 3456) = n := by omega
        refine ⟨?_, ?_, ?_, fun i q1 q2 => ?_⟩
        · rw [hm _ _ (by decide) (by decide), a1, f2 76 _ (by omega) (by omega) (by omega), a2]
        · rw [hm _ _ (by decide) (by decide), a1, f2 77 _ (by omega) (by omega) (by omega), a2]
        · rw [hm _ _ (by decide) (by decide), a1, f2 78 _ (by omega) (by omega) (by omega), a2]
        · rw [hm _ _ (by decide) (by decide), show 3 * (n - 128) + i = 9984 + (3 * (n - 3456) + i) by omega, f3 _ (by omega) (by omega), show 10368 + (3 * (n - 3456) + i) = 3 * n + i by omega]
      have hA : ∀ n : Int, nA 27 d [] n → nA 26 d [] (n - 128) := fun n hn => ⟨by have := hn.1; omega, by have := hn.2.1; omega, List.not_mem_nil⟩
      refine ⟨d, c1, ?_, ?_, c4, ?_, c6, fun i hi => ?_, (fun h q => by cases q), fun v => ?_⟩
      · show m4 80 26 = _
        rw [k1 _ _ (by omega)]; exact v80
      · show m4 82 26 = _
        rw [k1 _ _ (by omega)]; exact v82
      · show m4 84 26 = _
        rw [k1 _ _ (by omega)]; exact v84
      · have e : m4 83 (5 * ((26 : Nat) : Int) + (i : Int)) = m 83 (5 * ((27 : Nat) : Int) + (i : Int)) - 128 := by
          rw [show 5 * ((26 : Nat) : Int) + (i : Int) = 130 + (i : Int) by omega, k2 _ (by omega) (by omega), g1 _ _ (by omega), f1 _ _ (by omega) (by omega), show 5 * ((27 : Nat) : Int) + (i : Int) = 135 + (i : Int) by omega]
        rw [e]
        exact rP_sh sh hA _ _ _ (fun q => absurd q (by decide)) (c7 i hi)
      · rw [vC_sh (fun n hn => ⟨(sh n hn).1, (sh n hn).2.1⟩) v d (Nat.le_refl _)]
        exact c9 v
    · have g := hG (135 + (i : Int)) (by omega) (by omega)
      have e83 : m4 83 (135 + (i : Int)) = m 83 (135 + (i : Int)) := by rw [k1 _ _ (by omega), g1 _ _ (by omega), f1 _ _ (by omega) (by omega)]
      rw [e83]
      refine ⟨by omega, by omega, by omega, by omega, show -2147483648 ≤ _ ∧ _ < 2147483648 by omega, show -2147483648 ≤ _ ∧ _ < 2147483648 by omega, hP2 _ _ ⟨i + 1, by omega, by omega, fun a e q => ?_, fun j q1 q2 => ?_⟩ (show 20 - ((i : Int) + 1).toNat < 20 - ((i : Nat) : Int).toNat by omega)⟩
      · rw [hy_uf (by omega)]
        exact k1 a e (by omega)
      · by_cases w : j = (i : Int)
        · rw [w, hy_us, ← e83, k1 _ _ (by omega)]
        · rw [hy_uk (by omega)]
          exact k2 j q1 (by omega)
  · have e1 : (3456 : Int) + (d : Int) - 128 = 3328 + (d : Int) := by omega
    rw [e1]
    have g1 : ∀ (a : Nat) (e : Int), ¬ ((a = 76 ∨ a = 77 ∨ a = 78) ∧ e = 3328 + (d : Int)) → hy_u (hy_u (hy_u m1 76 (3328 + (d : Int)) (m1 76 (3456 + (d : Int)))) 77 (3328 + (d : Int)) (m1 77 (3456 + (d : Int)))) 78 (3328 + (d : Int)) (m1 78 (3456 + (d : Int))) a e = m1 a e := fun a e q => by rw [hy_uf (by omega), hy_uf (by omega), hy_uf (by omega)]
    have v1 : ∀ a : Nat, (a = 76 ∨ a = 77 ∨ a = 78) → hy_u (hy_u (hy_u m1 76 (3328 + (d : Int)) (m1 76 (3456 + (d : Int)))) 77 (3328 + (d : Int)) (m1 77 (3456 + (d : Int)))) 78 (3328 + (d : Int)) (m1 78 (3456 + (d : Int))) a (3328 + (d : Int)) = m1 a (3456 + (d : Int)) := by
      rintro a (rfl | rfl | rfl)
      · rw [hy_ua (by decide), hy_ua (by decide), hy_us]
      · rw [hy_ua (by decide), hy_us]
      · rw [hy_us]
    generalize hy_u (hy_u (hy_u m1 76 (3328 + (d : Int)) (m1 76 (3456 + (d : Int)))) 77 (3328 + (d : Int)) (m1 77 (3456 + (d : Int)))) 78 (3328 + (d : Int)) (m1 78 (3456 + (d : Int))) = m3 at g1 v1
    unfold wq_276_85
    refine wL1_rule (Nat.lt_wfRel.wf) (fun x4 m' => ∃ i : Nat, x4 = i ∧ i ≤ 3 ∧ cpF m m' ((d : Int) + 1) (3 * (d : Int) + (i : Int))) (fun x4 _ => 20 - x4.toNat) ?_ ⟨0, rfl, Nat.zero_le _, fun a e q1 q2 => ?_, fun a j q q1 q2 => ?_, fun j q1 q2 => ?_⟩
    · rintro P4 x4 m4 ⟨i, rfl, hi, k1, k2, k3⟩ hP4
      unfold wf_276_85
      refine ⟨fun h3 => ⟨show -2147483648 ≤ _ ∧ _ < 2147483648 by omega, hPP _ _ ⟨d + 1, by omega, by omega, fun a e q1 q2 => k1 a e (by omega) (by omega), fun a j q q1 q2 => k2 a j q q1 (by omega), fun j q1 q2 => k3 j q1 (by omega)⟩ (show 200 - ((d : Int) + 1).toNat < 200 - ((d : Nat) : Int).toNat by omega)⟩, fun h3 => ?_⟩
      have g := hP (3 * (3456 + (d : Int)) + (i : Int)) (by omega) (by omega)
      have e79 : m4 79 (3 * (3456 + (d : Int)) + (i : Int)) = m 79 (3 * (3456 + (d : Int)) + (i : Int)) := k1 _ _ (by omega) (by omega)
      rw [e79]
      refine ⟨by omega, by omega, by omega, by omega, show -2147483648 ≤ _ ∧ _ < 2147483648 by omega, show -2147483648 ≤ _ ∧ _ < 2147483648 by omega, hP4 _ _ ⟨i + 1, by omega, by omega, fun a e q1 q2 => ?_, fun a j q q1 q2 => ?_, fun j q1 q2 => ?_⟩ (show 20 - ((i : Int) + 1).toNat < 20 - ((i : Nat) : Int).toNat by omega)⟩
      · rw [hy_uf (by omega)]
        exact k1 a e (by omega) (by omega)
      · rw [hy_uf (by omega)]
        exact k2 a j q q1 q2
      · by_cases w : j = 3 * (d : Int) + (i : Int)
        · rw [show 9984 + j = 3 * (3456 + (d : Int) - 128) + (i : Int) by omega, hy_us, show 10368 + j = 3 * (3456 + (d : Int)) + (i : Int) by omega]
        · rw [hy_uk (by omega)]
          exact k3 j q1 (by omega)
    · rw [g1 a e (by omega)]
      exact f1 a e (by omega) (by omega)
    · by_cases w : j = (d : Int)
      · rw [w, v1 a q]
        exact f1 a _ (by omega) (by omega)
      · rw [g1 a _ (by omega)]
        exact f2 a j q q1 (by omega)
    · rw [g1 _ _ (by omega)]
      exact f3 j q1 (by omega)
end NB
