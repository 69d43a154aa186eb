/-! THE CLASS'S SEARCH: the rows grow -/
def zGr (Z : cZ) (n k : Nat) : cZ := (zW Z, zF Z, zC Z, n, n + 1, n + 2, k, (n + 4, n + 5, n + 7, n + 6, n + 8, n + 3), (n + 9, n + 10))
section CR
variable {E : qE} {l l' TI TI' TL : List Nat} {F : Nat → Prop} {T T' : hy_T} {m m' : hy_m} {Z Z' : cZ} {N N' n u : Nat} {A : qA} {B B' : bM} {s s' : Nat → pE} {Q : sQ}
/-- copyOf into a longer row -/
theorem sp_305g {x k0 k : Nat} (hx : T.1 x = some (100, k0)) (hW : sWf T n) (hN : 0 < n) (hk : k0 < k) (hn : k ≤ 10000000) (hq : ∀ m' : hy_m, (∀ (b : Nat) (e : Int), b ≠ n → m' b e = m b e) → (∀ e : Int, 0 ≤ e → e < (k0 : Int) → m' n e = m x e) → Q (n : Int) (hy_e T n 100 k, n + 1, u + k, m')) : wq_305 (x : Int) (k : Int) (T, n, u, m) Q := by
  have hxN : x < n := hW x _ hx
  unfold wq_305
  dsimp only
  simp only [Int.toNat_natCast]
  refine ⟨100, k0, hx, by omega, fun hne => ⟨by omega, by omega, 100, k0, by rw [he_o (by omega)]; exact hx, by omega, 100, k0, by rw [he_o (by omega)]; exact hx, by omega, k, he_n _ _ _ _, Or.inl rfl, by omega, by omega, ?_⟩, fun he => by omega⟩
  rw [if_neg (show ¬ ((k : Int) < k0) by omega)]
  refine ⟨by omega, by omega, by omega, by omega, by omega, hq _ (fun b e hb => ?_) (fun e h1 h2 => ?_)⟩
  · unfold hy_cp hy_z
    rw [if_neg (fun q => hb q.1), if_neg hb]
  · unfold hy_cp hy_z
    rw [if_pos ⟨rfl, h1, by omega⟩, if_neg (by omega), show (0 : Int) + (e - 0) = e by omega]
theorem he_x {t k : Nat} (hW : sWf T n) : ∀ b x, T.1 b = some x → (hy_e T n t k).1 b = some x := fun b x h => by
  have := hW b x h
  rw [he_o (by omega)]
  exact h
/-- Store.grow -/
theorem sp_116 {k : Nat} (hR : cRo F T m Z) (hG : cGd F T m Z) (hW : sWf T n) (hn : 74 ≤ n) (hk : zc Z < k) (hk3 : k ≤ 302) (hq : ∀ (T' : hy_T) (m' : hy_m), (∀ b x, T.1 b = some x → T'.1 b = some x) → sWf T' (n + 4) → T'.1 n = some (113, k) → T'.1 (n + 1) = some (100, k) → T'.1 (n + 2) = some (100, 8 * k) → T'.1 (n + 3) = some (100, 8 * k) → (∀ (b : Nat) (e : Int), b < n → ¬ (b = 41 ∧ (e = 1 ∨ e = 2 ∨ e = 4 ∨ e = 5)) → m' b e = m b e) → m' 41 1 = n → m' 41 2 = ((n + 1 : Nat) : Int) → m' 41 4 = ((n + 2 : Nat) : Int) → m' 41 5 = ((n + 3 : Nat) : Int) → (∀ i : Int, 0 ≤ i → i < (zc Z : Int) → m' n i = m (z1 Z) i ∧ m' (n + 1) i = m (z2 Z) i) → (∀ i : Int, 0 ≤ i → i < 8 * (zc Z : Int) → m' (n + 2) i = m (z4 Z) i ∧ m' (n + 3) i = m (yt (zU Z)) i) → (∀ i : Int, 0 ≤ i → i < (k : Int) → ∃ a nv : Nat, m' n i = a ∧ T'.1 a = some (3, nv)) → Q 0 (T', n + 4, u + k + k + 8 * k + 8 * k, m')) : wq_116 (k : Int) (T, n, u, m) Q := by
  obtain ⟨zz1, zz2, zz3, zz4, zz5, zz6, zz7⟩ := cRo_z hR
  have hyt := (hR.1.2 (yt (zU Z)) (by unfold rwL; simp)).1
  obtain ⟨-, -, h3, h4, h5, h6, h7, -⟩ := hR
  have ht5 := h7.2.2.2.2.2
  obtain ⟨gF, g2, nv0, g4⟩ := hG
  have b1 := hW _ _ h4.2
  have b2 := hW _ _ h5.2
  have b4 := hW _ _ h6.2
  have bt := hW _ _ ht5.2
  have b14 := hW _ _ g4
  have W0 : sWf (hy_e T n 113 k) (n + 1) := sWf_e hW
  have T0 := he_x (t := 113) (k := k) hW
  have hzz : ∀ (a : Nat) (e : Int), a ≠ n → hy_z m n a e = m a e := fun a e q => if_neg q
  unfold wq_116
  dsimp only
  rw [Int.toNat_natCast]
  refine ⟨by omega, by omega, ?_⟩
  unfold wq_116_7
  refine wL1_rule (Nat.lt_wfRel.wf) (fun x3 s => ∃ (d : Nat) (m1 : hy_m), x3 = d ∧ d ≤ k ∧ s = (hy_e T n 113 k, n + 1, u + k, m1) ∧ (∀ (b : Nat) (e : Int), b ≠ n → m1 b e = m b e) ∧ ∀ i : Int, 0 ≤ i → i < (d : Int) → m1 n i = if i < (zc Z : Int) then m (z1 Z) i else 14) (fun x3 _ => 1000 - x3.toNat) ?_ ⟨0, _, rfl, Nat.zero_le _, rfl, hzz, fun i q1 q2 => by omega⟩
  rintro P x3 s ⟨d, m1, rfl, hd, rfl, f1, f2⟩ hP
  unfold wf_116_7
  dsimp only
  rw [Int.toNat_natCast]
  refine ⟨113, k, he_n _ _ _ _, by decide, fun q => ?_, fun q => ?_⟩
  · have hdk : d = k := by omega
    subst hdk
    have e2 : m1 41 2 = (z2 Z : Nat) := by rw [f1 _ _ (by omega)]; exact h5.1
    rw [e2]
    refine sp_305g (k0 := zc Z) (T0 _ _ h5.2) W0 (by omega) hk (by omega) (fun m2 w1 w2 => ⟨show -2147483648 ≤ _ ∧ _ < 2147483648 by omega, ?_⟩)
    have W1 : sWf (hy_e (hy_e T n 113 d) (n + 1) 100 d) (n + 1 + 1) := sWf_e W0
    have T1 := he_x (t := 100) (k := d) W0
    dsimp only
    have e4 : m2 41 4 = (z4 Z : Nat) := by rw [w1 _ _ (by omega), hy_uk (by decide), f1 _ _ (by omega)]; exact h6.1
    rw [e4, show (d : Int) * 8 = ((8 * d : Nat) : Int) by omega]
    refine sp_305g (k0 := 8 * zc Z) (T1 _ _ (T0 _ _ h6.2)) W1 (by omega) (by omega) (by omega) (fun m3 w3 w4 => ⟨show -2147483648 ≤ _ ∧ _ < 2147483648 by omega, ?_⟩)
    have W2 : sWf (hy_e (hy_e (hy_e T n 113 d) (n + 1) 100 d) (n + 1 + 1) 100 (8 * d)) (n + 1 + 1 + 1) := sWf_e W1
    have T2 := he_x (t := 100) (k := 8 * d) W1
    dsimp only
    have e5 : m3 41 5 = (yt (zU Z) : Nat) := by rw [w3 _ _ (by omega), hy_uk (by decide), w1 _ _ (by omega), hy_uk (by decide), f1 _ _ (by omega)]; exact ht5.1
    rw [e5]
    refine sp_305g (k0 := 8 * zc Z) (T2 _ _ (T1 _ _ (T0 _ _ ht5.2))) W2 (by omega) (by omega) (by omega) (fun m4 w5 w6 => ?_)
    have W3 : sWf (hy_e (hy_e (hy_e (hy_e T n 113 d) (n + 1) 100 d) (n + 1 + 1) 100 (8 * d)) (n + 1 + 1 + 1) 100 (8 * d)) (n + 4) := sWf_e W2
    have T3 := he_x (t := 100) (k := 8 * d) W2
    dsimp only
    refine hq _ _ (fun b x h => T3 _ _ (T2 _ _ (T1 _ _ (T0 _ _ h)))) W3 (T3 _ _ (T2 _ _ (T1 _ _ (he_n _ _ _ _)))) (T3 _ _ (T2 _ _ (he_n _ _ _ _))) (T3 _ _ (he_n _ _ _ _)) (he_n _ _ _ _) (fun b e q1 q2 => ?_) ?_ ?_ ?_ ?_ (fun i q1 q2 => ⟨?_, ?_⟩) (fun i q1 q2 => ⟨?_, ?_⟩) (fun i q1 q2 => ?_)
    · rw [hy_uf (by omega), w5 _ _ (by omega), hy_uf (by omega), w3 _ _ (by omega), hy_uf (by omega), w1 _ _ (by omega), hy_uf (by omega), f1 _ _ (by omega)]
    · rw [hy_uk (by decide), w5 _ _ (by omega), hy_uk (by decide), w3 _ _ (by omega), hy_uk (by decide), w1 _ _ (by omega), hy_us]
    · rw [hy_uk (by decide), w5 _ _ (by omega), hy_uk (by decide), w3 _ _ (by omega), hy_us]
    · rw [hy_uk (by decide), w5 _ _ (by omega), hy_us]
    · rw [hy_us]
    · rw [hy_ua (by omega), w5 _ _ (by omega), hy_ua (by omega), w3 _ _ (by omega), hy_ua (by omega), w1 _ _ (by omega), hy_ua (by omega), f2 i q1 (by omega), if_pos q2]
    · rw [hy_ua (by omega), w5 _ _ (by omega), hy_ua (by omega), w3 _ _ (by omega), hy_ua (by omega), w2 i q1 q2, hy_ua (by omega), f1 _ _ (by omega)]
    · show hy_u m4 41 5 _ (n + 1 + 1) i = _
      rw [hy_ua (by omega), w5 _ _ (by omega), hy_ua (by omega), w4 i q1 (by omega), hy_ua (by omega), w1 _ _ (by omega), hy_ua (by omega), f1 _ _ (by omega)]
    · show hy_u m4 41 5 _ (n + 1 + 1 + 1) i = _
      rw [hy_ua (by omega), w6 i q1 (by omega), hy_ua (by omega), w3 _ _ (by omega), hy_ua (by omega), w1 _ _ (by omega), hy_ua (by omega), f1 _ _ (by omega)]
    · rw [hy_ua (by omega), w5 _ _ (by omega), hy_ua (by omega), w3 _ _ (by omega), hy_ua (by omega), w1 _ _ (by omega), hy_ua (by omega), f2 i q1 (by omega)]
      by_cases c : i < (zc Z : Int)
      · rw [if_pos c]
        obtain ⟨a, nv, y1, y2⟩ := g2 i q1 c
        exact ⟨a, nv, y1, T3 _ _ (T2 _ _ (T1 _ _ (T0 _ _ y2)))⟩
      · rw [if_neg c]
        exact ⟨14, nv0, rfl, T3 _ _ (T2 _ _ (T1 _ _ (T0 _ _ g4)))⟩
  · have step : ∀ v : Int, v = (if (d : Int) < (zc Z : Int) then m (z1 Z) (d : Int) else 14) → (∃ a nv : Nat, v = a ∧ T.1 a = some (3, nv)) → ∃ t6 n6 : Nat, (hy_e T n 113 k).1 n = some (t6, n6) ∧ 110 ≤ t6 ∧ (0 ≤ (d : Int) ∧ (d : Int) < (n6 : Int) ∧ ((v = 0 ∨ ∃ nv, (hy_e T n 113 k).1 v.toNat = some (t6 - 110, nv) ∧ t6 < 160) ∧ (hy_r 0 ((d : Int) + 1) ∧ (P ((d : Int) + 1) (hy_e T n 113 k, n + 1, u + k, hy_u m1 n (d : Int) v))))) := by
      rintro v hv ⟨a, nv, y1, y2⟩
      refine ⟨113, k, he_n _ _ _ _, by decide, by omega, by omega, Or.inr ⟨nv, by rw [y1, Int.toNat_natCast]; exact T0 _ _ y2, by decide⟩, show -2147483648 ≤ _ ∧ _ < 2147483648 by omega, hP _ _ ⟨d + 1, _, by omega, by omega, rfl, fun b e hb => ?_, fun i q1 q2 => ?_⟩ (show 1000 - ((d : Int) + 1).toNat < 1000 - ((d : Nat) : Int).toNat by omega)⟩
      · rw [hy_ua hb]
        exact f1 b e hb
      · by_cases c : i = (d : Int)
        · rw [c, hy_us]
          exact hv
        · rw [hy_uk c]
          exact f2 i q1 (by omega)
    have e1 : m1 41 1 = (z1 Z : Nat) := by rw [f1 _ _ (by omega)]; exact h4.1
    unfold wq_127
    rw [e1, Int.toNat_natCast]
    refine ⟨fun z => by omega, fun _ => ⟨113, zc Z, T0 _ _ h4.2, by decide, fun z => step 14 (by rw [if_neg (by omega)]) ⟨14, nv0, rfl, g4⟩, fun z => ⟨113, zc Z, T0 _ _ h4.2, by decide, by omega, z, step _ ?_ ?_⟩⟩⟩
    · rw [if_pos z, f1 _ _ (by omega)]
    · rw [f1 _ _ (by omega)]
      exact g2 _ (by omega) z
end CR
