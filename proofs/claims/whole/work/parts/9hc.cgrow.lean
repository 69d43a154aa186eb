/-! THE CLASS'S SEARCH: the rows grow, on states -/
/-- behind grow -/
def gRo (Z : cZ) (n k : Nat) (T T' : hy_T) (m m' : hy_m) : Prop := (∀ b x, T.1 b = some x → T'.1 b = some x) ∧ sWf T' (n + 11) ∧ (T'.1 n = some (113, k) ∧ T'.1 (n + 1) = some (100, k) ∧ T'.1 (n + 2) = some (100, 8 * k) ∧ T'.1 (n + 3) = some (100, 8 * k) ∧ T'.1 (n + 4) = some (100, 128 * k) ∧ T'.1 (n + 5) = some (100, 60 * k) ∧ T'.1 (n + 6) = some (100, 76 * k) ∧ T'.1 (n + 7) = some (100, 8 * k) ∧ T'.1 (n + 8) = some (100, 8 * k) ∧ T'.1 (n + 9) = some (100, 8 * k) ∧ T'.1 (n + 10) = some (100, 8 * k)) ∧ (∀ (b : Nat) (e : Int), b < n → ¬ (b = 41 ∧ (e = 1 ∨ e = 2 ∨ e = 4 ∨ e = 5)) → ¬ (b = 47 ∧ (e = 1 ∨ e = 2 ∨ e = 4 ∨ e = 6 ∨ e = 8)) → ¬ (b = 53 ∧ (e = 1 ∨ e = 3 ∨ e = 5 ∨ e = 6)) → m' b e = m b e) ∧ (m' 41 1 = n ∧ m' 41 2 = ((n + 1 : Nat) : Int) ∧ m' 41 4 = ((n + 2 : Nat) : Int) ∧ m' 41 5 = ((n + 3 : Nat) : Int)) ∧ (m' 47 1 = ((n + 4 : Nat) : Int) ∧ m' 47 2 = ((n + 5 : Nat) : Int) ∧ m' 47 6 = ((n + 6 : Nat) : Int) ∧ m' 47 4 = ((n + 7 : Nat) : Int) ∧ m' 47 8 = ((n + 8 : Nat) : Int)) ∧ (m' 53 1 = ((n + 6 : Nat) : Int) ∧ m' 53 3 = ((n + 5 : Nat) : Int) ∧ m' 53 5 = ((n + 9 : Nat) : Int) ∧ m' 53 6 = ((n + 10 : Nat) : Int)) ∧ (∀ i : Int, 0 ≤ i → i < (zc Z : Int) → m' n i = m (z1 Z) i ∧ m' (n + 1) i = m (z2 Z) i) ∧ (∀ i : Int, 0 ≤ i → i < 8 * (zc Z : Int) → m' (n + 2) i = m (z4 Z) i ∧ m' (n + 3) i = m (yt (zU Z)) i) ∧ (∀ i : Int, 0 ≤ i → i < (k : Int) → ∃ a nv : Nat, m' n i = a ∧ T'.1 a = some (3, nv)) ∧ ∀ e : Int, m' (n + 4) e = 0 ∧ m' (n + 8) e = 0 ∧ m' (n + 10) e = 0
section CR2
variable {E : qE} {l l' TI TI' TL : List Nat} {F : Nat → Prop} {T T' : hy_T} {m m' : hy_m} {Z Z' : cZ} {N N' n u : Nat} {A : qA} {B B' : bM} {s s' : Nat → pE} {Q : sQ}
theorem gr_n {n : Nat} (hn : 74 ≤ n) : 41 < n + 4 ∧ 47 < n + 9 ∧ n < n + 4 ∧ n + 1 < n + 4 ∧ n + 2 < n + 4 ∧ n + 3 < n + 4 ∧ n ≠ 47 ∧ n ≠ 53 ∧ n + 1 ≠ 47 ∧ n + 1 ≠ 53 ∧ n + 2 ≠ 47 ∧ n + 2 ≠ 53 ∧ n + 3 ≠ 47 ∧ n + 3 ≠ 53 ∧ n + 4 ≠ 53 ∧ n + 8 ≠ 53 := by omega
set_option maxHeartbeats 4000000 in
theorem sp_85 {k : Nat} (hR : cRo F T m Z) (hG : cGd F T m Z) (hW : sWf T n) (hn : 74 ≤ n) (h47 : T.1 47 = some (10, 11)) (hk : zc Z < k) (hk3 : k ≤ 302) (hq : ∀ (T' : hy_T) (m' : hy_m), gRo Z n k T T' m m' → Q 0 (T', n + 11, u + 314 * k, m')) : wq_85 (k : Int) (T, n, u, m) Q := by
  unfold wq_85
  refine sp_116 hR hG hW hn hk hk3 (fun T1 m1 x1 W1 t1 t2 t3 t4 f1 v1 v2 v3 v4 r1 r2 r3 => ?_)
  unfold wq_147
  dsimp only
  rw [show (k : Int) * 128 = ((128 * k : Nat) : Int) by omega, show (k : Int) * 60 = ((60 * k : Nat) : Int) by omega, show (k : Int) * 76 = ((76 * k : Nat) : Int) by omega, show (k : Int) * 8 = ((8 * k : Nat) : Int) by omega]
  simp only [Int.toNat_natCast]
  refine ⟨by omega, by omega, by omega, by omega, by omega, by omega, by omega, by omega, by omega, by omega, ?_⟩
  have W2 : sWf (hy_e T1 (n + 4) 100 (128 * k)) (n + 5) := sWf_e W1
  have X1 := he_x (t := 100) (k := 128 * k) W1
  have W3 : sWf (hy_e (hy_e T1 (n + 4) 100 (128 * k)) (n + 5) 100 (60 * k)) (n + 6) := sWf_e W2
  have X2 := he_x (t := 100) (k := 60 * k) W2
  have W4 : sWf (hy_e (hy_e (hy_e T1 (n + 4) 100 (128 * k)) (n + 5) 100 (60 * k)) (n + 6) 100 (76 * k)) (n + 7) := sWf_e W3
  have X3 := he_x (t := 100) (k := 76 * k) W3
  have W5 : sWf (hy_e (hy_e (hy_e (hy_e T1 (n + 4) 100 (128 * k)) (n + 5) 100 (60 * k)) (n + 6) 100 (76 * k)) (n + 7) 100 (8 * k)) (n + 8) := sWf_e W4
  have X4 := he_x (t := 100) (k := 8 * k) W4
  have W6 : sWf (hy_e (hy_e (hy_e (hy_e (hy_e T1 (n + 4) 100 (128 * k)) (n + 5) 100 (60 * k)) (n + 6) 100 (76 * k)) (n + 7) 100 (8 * k)) (n + 8) 100 (8 * k)) (n + 9) := sWf_e W5
  have X5 := he_x (t := 100) (k := 8 * k) W5
  -- the unifier's rows
  have u1 : ∀ (b : Nat) (e : Int), b < n + 4 → ¬ (b = 47 ∧ (e = 1 ∨ e = 2 ∨ e = 4 ∨ e = 6 ∨ e = 8)) → hy_u (hy_z (hy_u (hy_z (hy_u (hy_z (hy_u (hy_z (hy_u (hy_z m1 (n + 4)) 47 1 ((n + 4 : Nat) : Int)) (n + 4 + 1)) 47 2 ((n + 4 + 1 : Nat) : Int)) (n + 4 + 1 + 1)) 47 6 ((n + 4 + 1 + 1 : Nat) : Int)) (n + 4 + 1 + 1 + 1)) 47 4 ((n + 4 + 1 + 1 + 1 : Nat) : Int)) (n + 4 + 1 + 1 + 1 + 1)) 47 8 ((n + 4 + 1 + 1 + 1 + 1 : Nat) : Int) b e = m1 b e := fun b e q1 q2 => by
    have zz : ∀ (M : hy_m) (c : Nat), b ≠ c → hy_z M c b e = M b e := fun M c q => if_neg q
    rw [hy_uf (by omega), zz _ _ (by omega), hy_uf (by omega), zz _ _ (by omega), hy_uf (by omega), zz _ _ (by omega), hy_uf (by omega), zz _ _ (by omega), hy_uf (by omega), zz _ _ (by omega)]
  have z47 : ∀ (M : hy_m) (c : Nat) (e : Int), 74 ≤ c → hy_z M c 47 e = M 47 e := fun M c e q => if_neg (by omega)
  have zS : ∀ (M : hy_m) (c : Nat) (e : Int), hy_z M c c e = 0 := fun M c e => if_pos rfl
  have zN : ∀ (M : hy_m) (c b : Nat) (e : Int), b ≠ c → hy_z M c b e = M b e := fun M c b e q => if_neg q
  have u2 : hy_u (hy_z (hy_u (hy_z (hy_u (hy_z (hy_u (hy_z (hy_u (hy_z m1 (n + 4)) 47 1 ((n + 4 : Nat) : Int)) (n + 4 + 1)) 47 2 ((n + 4 + 1 : Nat) : Int)) (n + 4 + 1 + 1)) 47 6 ((n + 4 + 1 + 1 : Nat) : Int)) (n + 4 + 1 + 1 + 1)) 47 4 ((n + 4 + 1 + 1 + 1 : Nat) : Int)) (n + 4 + 1 + 1 + 1 + 1)) 47 8 ((n + 4 + 1 + 1 + 1 + 1 : Nat) : Int) 47 1 = ((n + 4 : Nat) : Int) := by
    rw [hy_uk (by decide), z47 _ _ _ (by omega), hy_uk (by decide), z47 _ _ _ (by omega), hy_uk (by decide), z47 _ _ _ (by omega), hy_uk (by decide), z47 _ _ _ (by omega), hy_us]
  have u3 : hy_u (hy_z (hy_u (hy_z (hy_u (hy_z (hy_u (hy_z (hy_u (hy_z m1 (n + 4)) 47 1 ((n + 4 : Nat) : Int)) (n + 4 + 1)) 47 2 ((n + 4 + 1 : Nat) : Int)) (n + 4 + 1 + 1)) 47 6 ((n + 4 + 1 + 1 : Nat) : Int)) (n + 4 + 1 + 1 + 1)) 47 4 ((n + 4 + 1 + 1 + 1 : Nat) : Int)) (n + 4 + 1 + 1 + 1 + 1)) 47 8 ((n + 4 + 1 + 1 + 1 + 1 : Nat) : Int) 47 2 = ((n + 5 : Nat) : Int) := by
    rw [hy_uk (by decide), z47 _ _ _ (by omega), hy_uk (by decide), z47 _ _ _ (by omega), hy_uk (by decide), z47 _ _ _ (by omega), hy_us]
  have u4 : hy_u (hy_z (hy_u (hy_z (hy_u (hy_z (hy_u (hy_z (hy_u (hy_z m1 (n + 4)) 47 1 ((n + 4 : Nat) : Int)) (n + 4 + 1)) 47 2 ((n + 4 + 1 : Nat) : Int)) (n + 4 + 1 + 1)) 47 6 ((n + 4 + 1 + 1 : Nat) : Int)) (n + 4 + 1 + 1 + 1)) 47 4 ((n + 4 + 1 + 1 + 1 : Nat) : Int)) (n + 4 + 1 + 1 + 1 + 1)) 47 8 ((n + 4 + 1 + 1 + 1 + 1 : Nat) : Int) 47 6 = ((n + 6 : Nat) : Int) := by
    rw [hy_uk (by decide), z47 _ _ _ (by omega), hy_uk (by decide), z47 _ _ _ (by omega), hy_us]
  have u5 : hy_u (hy_z (hy_u (hy_z (hy_u (hy_z (hy_u (hy_z (hy_u (hy_z m1 (n + 4)) 47 1 ((n + 4 : Nat) : Int)) (n + 4 + 1)) 47 2 ((n + 4 + 1 : Nat) : Int)) (n + 4 + 1 + 1)) 47 6 ((n + 4 + 1 + 1 : Nat) : Int)) (n + 4 + 1 + 1 + 1)) 47 4 ((n + 4 + 1 + 1 + 1 : Nat) : Int)) (n + 4 + 1 + 1 + 1 + 1)) 47 8 ((n + 4 + 1 + 1 + 1 + 1 : Nat) : Int) 47 4 = ((n + 7 : Nat) : Int) := by
    rw [hy_uk (by decide), z47 _ _ _ (by omega), hy_us]
  have u6 : hy_u (hy_z (hy_u (hy_z (hy_u (hy_z (hy_u (hy_z (hy_u (hy_z m1 (n + 4)) 47 1 ((n + 4 : Nat) : Int)) (n + 4 + 1)) 47 2 ((n + 4 + 1 : Nat) : Int)) (n + 4 + 1 + 1)) 47 6 ((n + 4 + 1 + 1 : Nat) : Int)) (n + 4 + 1 + 1 + 1)) 47 4 ((n + 4 + 1 + 1 + 1 : Nat) : Int)) (n + 4 + 1 + 1 + 1 + 1)) 47 8 ((n + 4 + 1 + 1 + 1 + 1 : Nat) : Int) 47 8 = ((n + 8 : Nat) : Int) := hy_us _ _ _ _
  have u7 : ∀ e, hy_u (hy_z (hy_u (hy_z (hy_u (hy_z (hy_u (hy_z (hy_u (hy_z m1 (n + 4)) 47 1 ((n + 4 : Nat) : Int)) (n + 4 + 1)) 47 2 ((n + 4 + 1 : Nat) : Int)) (n + 4 + 1 + 1)) 47 6 ((n + 4 + 1 + 1 : Nat) : Int)) (n + 4 + 1 + 1 + 1)) 47 4 ((n + 4 + 1 + 1 + 1 : Nat) : Int)) (n + 4 + 1 + 1 + 1 + 1)) 47 8 ((n + 4 + 1 + 1 + 1 + 1 : Nat) : Int) (n + 4) e = 0 := fun e => by
    rw [hy_ua (by omega), zN _ _ _ _ (by omega), hy_ua (by omega), zN _ _ _ _ (by omega), hy_ua (by omega), zN _ _ _ _ (by omega), hy_ua (by omega), zN _ _ _ _ (by omega), hy_ua (by omega), zS]
  have u8 : ∀ e, hy_u (hy_z (hy_u (hy_z (hy_u (hy_z (hy_u (hy_z (hy_u (hy_z m1 (n + 4)) 47 1 ((n + 4 : Nat) : Int)) (n + 4 + 1)) 47 2 ((n + 4 + 1 : Nat) : Int)) (n + 4 + 1 + 1)) 47 6 ((n + 4 + 1 + 1 : Nat) : Int)) (n + 4 + 1 + 1 + 1)) 47 4 ((n + 4 + 1 + 1 + 1 : Nat) : Int)) (n + 4 + 1 + 1 + 1 + 1)) 47 8 ((n + 4 + 1 + 1 + 1 + 1 : Nat) : Int) (n + 8) e = 0 := fun e => by
    show hy_u _ 47 8 _ (n + 4 + 1 + 1 + 1 + 1) e = 0
    rw [hy_ua (by omega), zS]
  generalize hy_u (hy_z (hy_u (hy_z (hy_u (hy_z (hy_u (hy_z (hy_u (hy_z m1 (n + 4)) 47 1 ((n + 4 : Nat) : Int)) (n + 4 + 1)) 47 2 ((n + 4 + 1 : Nat) : Int)) (n + 4 + 1 + 1)) 47 6 ((n + 4 + 1 + 1 : Nat) : Int)) (n + 4 + 1 + 1 + 1)) 47 4 ((n + 4 + 1 + 1 + 1 : Nat) : Int)) (n + 4 + 1 + 1 + 1 + 1)) 47 8 ((n + 4 + 1 + 1 + 1 + 1 : Nat) : Int) = m2 at u1 u2 u3 u4 u5 u6 u7 u8
  have t47 : (hy_e (hy_e (hy_e (hy_e (hy_e T1 (n + 4) 100 (128 * k)) (n + 5) 100 (60 * k)) (n + 6) 100 (76 * k)) (n + 7) 100 (8 * k)) (n + 8) 100 (8 * k)).1 47 = some (10, 11) := X5 _ _ (X4 _ _ (X3 _ _ (X2 _ _ (X1 _ _ (x1 _ _ h47)))))
  unfold wq_29
  dsimp only
  have e47 : (47 : Int).toNat = 47 := rfl
  rw [e47, show (k : Int) * 8 = ((8 * k : Nat) : Int) by omega]
  simp only [Int.toNat_natCast]
  refine ⟨t47, t47, by omega, by omega, by omega, by omega, ?_⟩
  have W7 : sWf (hy_e (hy_e (hy_e (hy_e (hy_e (hy_e T1 (n + 4) 100 (128 * k)) (n + 5) 100 (60 * k)) (n + 6) 100 (76 * k)) (n + 7) 100 (8 * k)) (n + 8) 100 (8 * k)) (n + 9) 100 (8 * k)) (n + 10) := sWf_e W6
  have X6 := he_x (t := 100) (k := 8 * k) W6
  have W8 : sWf (hy_e (hy_e (hy_e (hy_e (hy_e (hy_e (hy_e T1 (n + 4) 100 (128 * k)) (n + 5) 100 (60 * k)) (n + 6) 100 (76 * k)) (n + 7) 100 (8 * k)) (n + 8) 100 (8 * k)) (n + 9) 100 (8 * k)) (n + 10) 100 (8 * k)) (n + 11) := sWf_e W7
  have X7 := he_x (t := 100) (k := 8 * k) W7
  have up : ∀ b x, (hy_e T1 (n + 4) 100 (128 * k)).1 b = some x → (hy_e (hy_e (hy_e (hy_e (hy_e (hy_e (hy_e T1 (n + 4) 100 (128 * k)) (n + 5) 100 (60 * k)) (n + 6) 100 (76 * k)) (n + 7) 100 (8 * k)) (n + 8) 100 (8 * k)) (n + 9) 100 (8 * k)) (n + 10) 100 (8 * k)).1 b = some x := fun b x h => X7 _ _ (X6 _ _ (X5 _ _ (X4 _ _ (X3 _ _ (X2 _ _ h)))))
  have w3 : hy_u m2 53 1 (m2 47 6) 47 2 = m2 47 2 := hy_ua (by decide)
  have a1 : ∀ (b : Nat) (e : Int), b < n + 9 → ¬ (b = 53 ∧ (e = 1 ∨ e = 3 ∨ e = 5 ∨ e = 6)) → hy_u (hy_z (hy_u (hy_z (hy_u (hy_u m2 53 1 (m2 47 6)) 53 3 (hy_u m2 53 1 (m2 47 6) 47 2)) (n + 9)) 53 5 ((n + 9 : Nat) : Int)) (n + 10)) 53 6 ((n + 10 : Nat) : Int) b e = m2 b e := fun b e q1 q2 => by
    rw [hy_uf (by omega), zN _ _ _ _ (by omega), hy_uf (by omega), zN _ _ _ _ (by omega), hy_uf (by omega), hy_uf (by omega)]
  have b1 : hy_u (hy_z (hy_u (hy_z (hy_u (hy_u m2 53 1 (m2 47 6)) 53 3 (hy_u m2 53 1 (m2 47 6) 47 2)) (n + 9)) 53 5 ((n + 9 : Nat) : Int)) (n + 10)) 53 6 ((n + 10 : Nat) : Int) 53 1 = ((n + 6 : Nat) : Int) := by
    rw [hy_uk (by decide), zN _ _ _ _ (by omega), hy_uk (by decide), zN _ _ _ _ (by omega), hy_uk (by decide), hy_us, u4]
  have b3 : hy_u (hy_z (hy_u (hy_z (hy_u (hy_u m2 53 1 (m2 47 6)) 53 3 (hy_u m2 53 1 (m2 47 6) 47 2)) (n + 9)) 53 5 ((n + 9 : Nat) : Int)) (n + 10)) 53 6 ((n + 10 : Nat) : Int) 53 3 = ((n + 5 : Nat) : Int) := by
    rw [hy_uk (by decide), zN _ _ _ _ (by omega), hy_uk (by decide), zN _ _ _ _ (by omega), hy_us, w3, u3]
  have b5 : hy_u (hy_z (hy_u (hy_z (hy_u (hy_u m2 53 1 (m2 47 6)) 53 3 (hy_u m2 53 1 (m2 47 6) 47 2)) (n + 9)) 53 5 ((n + 9 : Nat) : Int)) (n + 10)) 53 6 ((n + 10 : Nat) : Int) 53 5 = ((n + 9 : Nat) : Int) := by
    rw [hy_uk (by decide), zN _ _ _ _ (by omega), hy_us]
  have b6 : hy_u (hy_z (hy_u (hy_z (hy_u (hy_u m2 53 1 (m2 47 6)) 53 3 (hy_u m2 53 1 (m2 47 6) 47 2)) (n + 9)) 53 5 ((n + 9 : Nat) : Int)) (n + 10)) 53 6 ((n + 10 : Nat) : Int) 53 6 = ((n + 10 : Nat) : Int) := hy_us _ _ _ _
  have b10 : ∀ e, hy_u (hy_z (hy_u (hy_z (hy_u (hy_u m2 53 1 (m2 47 6)) 53 3 (hy_u m2 53 1 (m2 47 6) 47 2)) (n + 9)) 53 5 ((n + 9 : Nat) : Int)) (n + 10)) 53 6 ((n + 10 : Nat) : Int) (n + 10) e = 0 := fun e => by
    rw [hy_ua (by omega), zS]
  have hfin := hq (hy_e (hy_e (hy_e (hy_e (hy_e (hy_e (hy_e T1 (n + 4) 100 (128 * k)) (n + 5) 100 (60 * k)) (n + 6) 100 (76 * k)) (n + 7) 100 (8 * k)) (n + 8) 100 (8 * k)) (n + 9) 100 (8 * k)) (n + 10) 100 (8 * k)) (hy_u (hy_z (hy_u (hy_z (hy_u (hy_u m2 53 1 (m2 47 6)) 53 3 (hy_u m2 53 1 (m2 47 6) 47 2)) (n + 9)) 53 5 ((n + 9 : Nat) : Int)) (n + 10)) 53 6 ((n + 10 : Nat) : Int)) ?_
  · have eu : u + k + k + 8 * k + 8 * k + 128 * k + 60 * k + 76 * k + 8 * k + 8 * k + 8 * k + 8 * k = u + 314 * k := by omega
    rw [eu]
    exact hfin
  generalize hy_u (hy_z (hy_u (hy_z (hy_u (hy_u m2 53 1 (m2 47 6)) 53 3 (hy_u m2 53 1 (m2 47 6) 47 2)) (n + 9)) 53 5 ((n + 9 : Nat) : Int)) (n + 10)) 53 6 ((n + 10 : Nat) : Int) = m3 at a1 b1 b3 b5 b6 b10
  have lo : ∀ (b : Nat) (e : Int), b < n + 4 → b ≠ 47 → b ≠ 53 → m3 b e = m1 b e := fun b e q1 q2 q3 => (a1 b e (Nat.lt_of_lt_of_le q1 (Nat.add_le_add_left (by decide) n)) (fun q => q3 q.1)).trans (u1 b e q1 (fun q => q2 q.1))
  have hi : ∀ (b : Nat) (e : Int), b < n + 9 → b ≠ 53 → m3 b e = m2 b e := fun b e q1 q2 => a1 b e q1 (fun q => q2 q.1)
  obtain ⟨n41, n47, n4, n14, n24, n34, k47⟩ := gr_n hn
  refine ⟨fun b x h => up _ _ (X1 _ _ (x1 _ _ h)), W8, ⟨up _ _ (X1 _ _ t1), up _ _ (X1 _ _ t2), up _ _ (X1 _ _ t3), up _ _ (X1 _ _ t4), up _ _ (he_n _ _ _ _), X7 _ _ (X6 _ _ (X5 _ _ (X4 _ _ (X3 _ _ (he_n _ _ _ _))))), X7 _ _ (X6 _ _ (X5 _ _ (X4 _ _ (he_n _ _ _ _)))), X7 _ _ (X6 _ _ (X5 _ _ (he_n _ _ _ _))), X7 _ _ (X6 _ _ (he_n _ _ _ _)), X7 _ _ (he_n _ _ _ _), he_n _ _ _ _⟩, fun b e q1 q2 q3 q4 => ?_, ⟨?_, ?_, ?_, ?_⟩, ⟨?_, ?_, ?_, ?_, ?_⟩, ⟨b1, b3, b5, b6⟩, fun i q1 q2 => ?_, fun i q1 q2 => ?_, fun i q1 q2 => ?_, fun e => ⟨?_, ?_, b10 e⟩⟩
  · rw [a1 b e (Nat.lt_of_lt_of_le q1 (Nat.le_add_right _ _)) q4, u1 b e (Nat.lt_of_lt_of_le q1 (Nat.le_add_right _ _)) q3, f1 b e q1 q2]
  · exact (lo _ _ n41 (by decide) (by decide)).trans v1
  · exact (lo _ _ n41 (by decide) (by decide)).trans v2
  · exact (lo _ _ n41 (by decide) (by decide)).trans v3
  · exact (lo _ _ n41 (by decide) (by decide)).trans v4
  · exact (hi _ _ n47 (by decide)).trans u2
  · exact (hi _ _ n47 (by decide)).trans u3
  · exact (hi _ _ n47 (by decide)).trans u4
  · exact (hi _ _ n47 (by decide)).trans u5
  · exact (hi _ _ n47 (by decide)).trans u6
  · exact ⟨(lo _ _ n4 k47.1 k47.2.1).trans (r1 i q1 q2).1, (lo _ _ n14 k47.2.2.1 k47.2.2.2.1).trans (r1 i q1 q2).2⟩
  · exact ⟨(lo _ _ n24 k47.2.2.2.2.1 k47.2.2.2.2.2.1).trans (r2 i q1 q2).1, (lo _ _ n34 k47.2.2.2.2.2.2.1 k47.2.2.2.2.2.2.2.1).trans (r2 i q1 q2).2⟩
  · obtain ⟨a, nv, y1, y2⟩ := r3 i q1 q2
    exact ⟨a, nv, (lo _ _ n4 k47.1 k47.2.1).trans y1, up _ _ (X1 _ _ y2)⟩
  · exact (hi _ _ (Nat.add_lt_add_left (by decide) n) k47.2.2.2.2.2.2.2.2.1).trans (u7 e)
  · exact (hi _ _ (Nat.add_lt_add_left (by decide) n) k47.2.2.2.2.2.2.2.2.2).trans (u8 e)
end CR2
