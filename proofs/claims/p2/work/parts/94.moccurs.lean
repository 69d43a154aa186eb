/-! OCCURS -/
/-- loops with a measure that isn't read off the state -/
theorem wL1_g {σ : Type} {F : (Int → σ → Prop) → Int → σ → Prop} (Iv : Nat → Int → σ → Prop) (hs : ∀ P n x s, Iv n x s → (∀ n' y t, Iv n' y t → n' < n → P y t) → F P x s) {n : Nat} {x : Int} {s : σ} (h : Iv n x s) : wL1 σ F x s := by
  intro P hP
  have : ∀ n x s, Iv n x s → P x s := by
    intro n
    induction n using Nat.strongRecOn with
    | ind n ih => exact fun x s hI => hP x s (hs P n x s hI (fun n' y t hI' hlt => ih n' hlt y t hI'))
  exact this n x s h
theorem wL2_g {σ : Type} {F : (Int → Int → σ → Prop) → Int → Int → σ → Prop} (Iv : Nat → Int → Int → σ → Prop) (hs : ∀ P n x y s, Iv n x y s → (∀ n' x' y' t, Iv n' x' y' t → n' < n → P x' y' t) → F P x y s) {n : Nat} {x y : Int} {s : σ} (h : Iv n x y s) : wL2 σ F x y s := by
  intro P hP
  have : ∀ n x y s, Iv n x y s → P x y s := by
    intro n
    induction n using Nat.strongRecOn with
    | ind n ih => exact fun x y s hI => hP x y s (hs P n x y s hI (fun n' x' y' t hI' hlt => ih n' hlt x' y' t hI'))
  exact this n x y s h
theorem iW_n (j : Nat) : iW (j : Int) = if (j : Int) % 4294967296 < 2147483648 then (j : Int) % 4294967296 else (j : Int) % 4294967296 - 4294967296 := by
  unfold iW iI
  rw [Int32.toInt_ofInt]
  unfold Int.bmod
  rfl
theorem iW_inj {j k : Nat} (hj : j < 4294967296) (hk : k < 4294967296) (e : iW (j : Int) = iW (k : Int)) : j = k := by
  rw [iW_n, iW_n] at e
  split at e <;> split at e <;> omega
theorem iW_s (k : Nat) : iW (iW (k : Int) + 1) = iW ((k + 1 : Nat) : Int) := by
  have e : ∀ x : Int, iW x = if x % 4294967296 < 2147483648 then x % 4294967296 else x % 4294967296 - 4294967296 := by
    intro x
    unfold iW iI
    rw [Int32.toInt_ofInt]
    unfold Int.bmod
    rfl
  rw [e (iW (k : Int) + 1), e (((k + 1 : Nat) : Int)), iW_n]
  split <;> split <;> split <;> omega
/-- lists of arguments -/
def isL : pE → Prop
  | .num i => i = 0
  | .add _ r => isL r
  | _ => False
theorem isL_sb (s : Nat → pE) : ∀ (a : pE) (nv : Nat), eK nv a true → isL (sb s a)
  | .num _, _, h => h
  | .add a r, nv, h => isL_sb s r nv h.2.2
  | .var _, _, h => absurd h.1 (by decide)
  | .mulL _ _, _, h => absurd h.1 (by decide)
  | .sub _ _, _, h => h.elim
  | .neg _, _, h => h.elim
  | .mulR _ _, _, h => h.elim
theorem mTm_L {G : Nat → Nat → Prop} {m : hy_m} {x : Int} {k : Int} {b : pE} (h : mTm G m x (.mulL k b)) : isL b ∧ eN b ≤ 3 := by
  rcases h with ⟨v, hv, rfl, e⟩ | ⟨i, hi, rfl, e⟩ | ⟨n, p, nv, u, rfl, hn, hnv, hp, hr, hk, e, hG⟩
  · cases e
  · cases e
  · cases u with
    | mulL k' a =>
      have e : (.mulL k b : pE) = .mulL k' (sb (fun v => .var (p + v)) a) := e
      injection e with e1 e2
      rw [e2]
      refine ⟨isL_sb _ a nv hk.2.2.2.2.2, ?_⟩
      rw [eN_sb _ a nv hk.2.2.2.2.2]
      exact hk.2.2.1
    | var v => cases e
    | num i => cases e
    | add a r => cases e
    | sub a r => cases e
    | neg a => cases e
    | mulR a k => cases e
/-- the first j arguments, the last of them first -/
def eRa (b : pE) : Nat → List pE
  | 0 => []
  | j + 1 => eAr b j :: eRa b j
theorem eRa_len (b : pE) : ∀ j, (eRa b j).length = j
  | 0 => rfl
  | j + 1 => by
    show (eRa b j).length + 1 = j + 1
    rw [eRa_len b j]
theorem eRa_mem (b : pE) : ∀ (j : Nat) (e : pE), e ∈ eRa b j → ∃ i, i < j ∧ e = eAr b i
  | 0, _, h => by cases h
  | j + 1, e, h => by
    rcases List.mem_cons.mp h with rfl | h
    · exact ⟨j, by omega, rfl⟩
    · obtain ⟨i, h1, h2⟩ := eRa_mem b j e h
      exact ⟨i, by omega, h2⟩
theorem eRa_in (b : pE) : ∀ (j i : Nat), i < j → eAr b i ∈ eRa b j
  | 0, _, h => absurd h (Nat.not_lt_zero _)
  | j + 1, i, h => by
    by_cases e : i = j
    · subst e
      exact List.mem_cons_self ..
    · exact List.mem_cons_of_mem _ (eRa_in b j i (by omega))
def szs (s : Nat → pE) : List pE → Nat
  | [] => 0
  | t :: l => sz (sb s t) + szs s l
theorem szs_app (s : Nat → pE) : ∀ l r : List pE, szs s (l ++ r) = szs s l + szs s r
  | [], r => by
    show szs s r = 0 + szs s r
    omega
  | t :: l, r => by
    show sz (sb s t) + szs s (l ++ r) = sz (sb s t) + szs s l + szs s r
    rw [szs_app s l r]
    omega
theorem ar_sz (s : Nat → pE) : ∀ (b : pE) (i : Nat), isL b → i < eN b → sz (sb s (eAr b i)) < sz (sb s b)
  | .num _, _, _, h => absurd h (Nat.not_lt_zero _)
  | .add a r, 0, _, _ => by
    show sz (sb s a) < 1 + sz (sb s a) + sz (sb s r)
    omega
  | .add a r, i + 1, hl, h => by
    have := ar_sz s r i hl (Nat.lt_of_succ_lt_succ h)
    show sz (sb s (eAr r i)) < 1 + sz (sb s a) + sz (sb s r)
    omega
  | .var _, _, hl, _ => hl.elim
  | .mulL _ _, _, hl, _ => hl.elim
  | .sub _ _, _, hl, _ => hl.elim
  | .neg _, _, hl, _ => hl.elim
  | .mulR _ _, _, hl, _ => hl.elim
theorem eRa_cons (a r : pE) : ∀ j, eRa (.add a r) (j + 1) = eRa r j ++ [a]
  | 0 => rfl
  | j + 1 => by
    show eAr r j :: eRa (.add a r) (j + 1) = _
    rw [eRa_cons a r j]
    rfl
theorem ar_sum (s : Nat → pE) : ∀ (b : pE), isL b → szs s (eRa b (eN b)) < sz (sb s b)
  | .num _, _ => by
    show 0 < 1
    decide
  | .add a r, hl => by
    have := ar_sum s r hl
    show szs s (eRa (.add a r) (eN r + 1)) < 1 + sz (sb s a) + sz (sb s r)
    rw [eRa_cons, szs_app]
    show szs s (eRa r (eN r)) + (sz (sb s a) + 0) < _
    omega
  | .var _, hl => hl.elim
  | .mulL _ _, hl => hl.elim
  | .sub _ _, hl => hl.elim
  | .neg _, hl => hl.elim
  | .mulR _ _, hl => hl.elim
theorem ar_in (s : Nat → pE) (w : Nat) : ∀ (b : pE), isL b → (vIn w (sb s b) ↔ ∃ i, i < eN b ∧ vIn w (sb s (eAr b i)))
  | .num _, _ => ⟨fun h => h.elim, fun ⟨i, h, _⟩ => absurd h (Nat.not_lt_zero _)⟩
  | .add a r, hl => by
    have ih := ar_in s w r hl
    constructor
    · intro h
      have h : vIn w (sb s a) ∨ vIn w (sb s r) := h
      rcases h with h | h
      · exact ⟨0, Nat.succ_pos _, h⟩
      · obtain ⟨i, h1, h2⟩ := ih.mp h
        exact ⟨i + 1, Nat.succ_lt_succ h1, h2⟩
    · rintro ⟨i, h1, h2⟩
      show vIn w (sb s a) ∨ vIn w (sb s r)
      cases i with
      | zero => exact Or.inl h2
      | succ i => exact Or.inr (ih.mpr ⟨i, Nat.lt_of_succ_lt_succ h1, h2⟩)
  | .var _, hl => hl.elim
  | .mulL _ _, hl => hl.elim
  | .sub _ _, hl => hl.elim
  | .neg _, hl => hl.elim
  | .mulR _ _, hl => hl.elim
/-- what waits -/
def wS (G : Nat → Nat → Prop) (m : hy_m) : List pE → Prop
  | [] => True
  | t :: L => mTm G m (m 112 (L.length : Int)) t ∧ wS G m L
theorem wS_fr {G : Nat → Nat → Prop} {m m' : hy_m} : ∀ (L : List pE), wS G m L → (∀ (a : Nat) (e : Int), a = 76 ∨ a = 77 ∨ a = 78 ∨ a = 79 → m' a e = m a e) → (∀ i : Nat, i < L.length → m' 112 (i : Int) = m 112 (i : Int)) → wS G m' L
  | [], _, _, _ => trivial
  | t :: L, h, hf, hw => by
    refine ⟨?_, wS_fr L h.2 hf (fun i hi => hw i (by simp only [List.length_cons]; omega))⟩
    rw [hw L.length (by simp)]
    exact mTm_fr h.1 hf
section OCC
variable {G : Nat → Nat → Prop} {m : hy_m} {Q : Int → hy_m → Prop} {D : Nat → Prop} {B : bM} {s : Nat → pE} {W k : Nat}
/-- the arguments of a compound go onto the stack -/
theorem sp_243_84 {P20 : Int → hy_m → Prop} {x1 x6 : Int} {kk : Int} {b : pE} {L : List pE} (hg : gC G m) (h : mTm G m x6 (.mulL kk b)) (hL : wS G m L) (hb : L.length + 3 ≤ 30000) (hq : ∀ m' : hy_m, (∀ (a : Nat) (e : Int), a ≠ 112 → m' a e = m a e) → wS G m' (eRa b (eN b) ++ L) → P20 ((eRa b (eN b) ++ L).length : Int) m') : wq_243_84 P20 x1 (L.length : Int) x6 0 m Q := by
  obtain ⟨n, p, e1, e2, e3, e4⟩ := mTm_fun h
  have h3 := (mTm_L h).2
  unfold wq_243_84
  refine wL2_rule (Nat.lt_wfRel.wf) (fun x y m' => ∃ j : Nat, j ≤ eN b ∧ x = ((L.length + j : Nat) : Int) ∧ y = j ∧ (∀ (a : Nat) (e : Int), a ≠ 112 → m' a e = m a e) ∧ wS G m' (eRa b j ++ L)) (fun _ y _ => 10 - y.toNat) ?_ ⟨0, Nat.zero_le _, rfl, rfl, fun _ _ _ => rfl, hL⟩
  rintro P x y m' ⟨j, hj, rfl, rfl, hf, hS⟩ hP
  unfold wf_243_84
  have h' : mTm G m' x6 (.mulL kk b) := mTm_fr h (fun a e q => hf a e (by omega))
  have hlen : ∀ i, (eRa b i ++ L).length = L.length + i := fun i => by rw [List.length_append, eRa_len]; omega
  have e78 : m' 78 (n : Int) = eN b := by rw [hf _ _ (by decide)]; exact e4
  rw [e1]
  refine sp_232Q e2 ⟨by omega, by omega, ?_⟩
  rw [e78]
  refine ⟨fun hge => ?_, fun hlt => ?_⟩
  · have : j = eN b := by omega
    subst this
    have := hq m' hf hS
    rw [hlen] at this
    exact this
  · rw [← e1]
    refine sp_236 (fun n p j hG hj => ?_) h' (by omega) (fun y hy _ => ⟨by omega, by omega, show -2147483648 ≤ _ ∧ _ < 2147483648 by omega, show -2147483648 ≤ _ ∧ _ < 2147483648 by omega, hP _ _ _ ⟨j + 1, by omega, by omega, by omega, fun a e q => (hy_ua q).trans (hf a e q), ?_⟩ ?_⟩)
    · rw [hf 78 _ (by decide)] at hj
      rw [hf 79 _ (by decide)]
      exact hg n p j hG hj
    · show wS G _ (eAr b j :: (eRa b j ++ L))
      refine ⟨?_, wS_fr _ hS (fun a e q => hy_ua (by omega)) (fun i hi => hy_uk (by rw [hlen] at hi; omega))⟩
      rw [hlen, hy_us]
      exact mTm_fr hy (fun a e q => hy_ua (by omega))
    · show 10 - _ < 10 - _
      omega
theorem vIn_ar (z : Nat) : ∀ (b : pE) (i : Nat), isL b → i < eN b → vIn z (eAr b i) → vIn z b
  | .num _, _, _, h, _ => absurd h (Nat.not_lt_zero _)
  | .add a r, 0, _, _, h => Or.inl h
  | .add a r, i + 1, hl, hi, h => Or.inr (vIn_ar z r i hl (Nat.lt_of_succ_lt_succ hi) h)
  | .var _, _, hl, _, _ => hl.elim
  | .mulL _ _, _, hl, _, _ => hl.elim
  | .sub _ _, _, hl, _, _ => hl.elim
  | .neg _, _, hl, _, _ => hl.elim
  | .mulR _ _, _, hl, _, _ => hl.elim
/-- the newest is taken -/
theorem ch_pop {v : Nat → pE} : ∀ (ps : List sgq), chOK G m v ps → (∀ q ∈ ps, q.2.2.length ≤ eNa q.2.1) → (∀ q ∈ ps.tail, q.2.2.length + 1 ≤ eNa q.2.1) → (∀ q ∈ ps, 1 ≤ eNa q.2.1) → ∀ (e : pE) (L : List pE), sgs ps = e :: L → ∃ ps' : List sgq, L = sgs ps' ∧ chOK G m v ps' ∧ (∀ q ∈ ps', q.2.2.length + 1 ≤ eNa q.2.1) ∧ (∀ q ∈ ps', sz (sb v e) < sz (sb v q.2.1)) ∧ (∀ q ∈ ps', 1 ≤ eNa q.2.1)
  | [], _, _, _, _, _, _, h => by cases h
  | q :: ps, hc, h1, h2, h3, e, L, h => by
    obtain ⟨c, T, es⟩ := q
    have h : es ++ sgs ps = e :: L := h
    have h2 : ∀ q ∈ ps, q.2.2.length + 1 ≤ eNa q.2.1 := h2
    cases es with
    | nil =>
      refine ch_pop ps hc.2.2.2.2 (fun q hq => by have := h2 q hq; omega) (fun q hq => h2 q (List.mem_of_mem_tail hq)) (fun q hq => h3 q (List.mem_cons_of_mem _ hq)) e L h
    | cons e' es =>
      have h : e' :: (es ++ sgs ps) = e :: L := h
      injection h with e1 e2
      subst e1
      subst e2
      have hb := h1 (c, T, e' :: es) (List.mem_cons_self ..)
      have hse := hc.2.2.1 e' (List.mem_cons_self ..)
      refine ⟨(c, T, es) :: ps, rfl, ⟨hc.1, hc.2.1, fun x hx => hc.2.2.1 x (List.mem_cons_of_mem _ hx), hc.2.2.2.1, hc.2.2.2.2⟩, fun q hq => ?_, fun q hq => ?_, fun q hq => ?_⟩
      · rcases List.mem_cons.mp hq with rfl | hq
        · exact hb
        · exact h2 q hq
      · rcases List.mem_cons.mp hq with rfl | hq
        · exact hse
        · exact Nat.lt_trans hse (hc.2.2.2.1 q hq)
      · rcases List.mem_cons.mp hq with rfl | hq
        · exact h3 (c, T, e' :: es) (List.mem_cons_self ..)
        · exact h3 q (List.mem_cons_of_mem _ hq)
/-- rounds of looking -/
def rOK (m : hy_m) (k : Nat) : Prop := m 74 64 = iW (k : Int) ∧ k < 4294967295 ∧ ∀ v : Nat, v < 2500 → ∃ j : Nat, j ≤ k ∧ m 113 (v : Int) = iW (j : Int)
theorem sp_243 {w : Nat} {y : Int} {t : pE} (hg : gC G m) (hW : mGW G m W) (hW3 : W ≤ 20000) (hB : mBd G m D B) (hR : Res B s) (h : mTm G m y t) (hD : ∀ z, vIn z t → D z) (hw : B w = none) (hw5 : w < 2500) (hr : rOK m k) (hk : k + 1 < 4294967295) (hq : ∀ m' : hy_m, (∀ (a : Nat) (e : Int), a ≠ 112 → a ≠ 113 → ¬ (a = 74 ∧ e = 64) → m' a e = m a e) → rOK m' (k + 1) → (vIn w (sb s t) → Q 1 m') ∧ (¬ vIn w (sb s t) → Q 0 m')) : wq_243 (mF w) y m Q := by
  obtain ⟨r1, r2, r3⟩ := hr
  unfold wq_243
  rw [r1, iW_s]
  refine ⟨by decide, by decide, ?_⟩
  have f0 : ∀ (a : Nat) (e : Int), a ≠ 112 → a ≠ 113 → ¬ (a = 74 ∧ e = 64) → hy_u (hy_u m 112 0 y) 74 64 (iW ((k + 1 : Nat) : Int)) a e = m a e := fun a e q1 q2 q3 => by rw [hy_uf q3, hy_ua q1]
  have f64 : hy_u (hy_u m 112 0 y) 74 64 (iW ((k + 1 : Nat) : Int)) 74 64 = iW ((k + 1 : Nat) : Int) := hy_us _ _ _ _
  have f113 : ∀ e : Int, hy_u (hy_u m 112 0 y) 74 64 (iW ((k + 1 : Nat) : Int)) 113 e = m 113 e := fun e => by rw [hy_ua (by decide), hy_ua (by decide)]
  have f112 : hy_u (hy_u m 112 0 y) 74 64 (iW ((k + 1 : Nat) : Int)) 112 0 = y := by rw [hy_ua (by decide), hy_us]
  generalize hy_u (hy_u m 112 0 y) 74 64 (iW ((k + 1 : Nat) : Int)) = m0 at f0 f64 f113 f112
  unfold wq_243_20
  refine wL1_g (fun N x m' => ∃ (L : List pE) (ps : List sgq) (R : List pE), x = L.length ∧ N = szs s L ∧ wS G m' L ∧ (∀ (a : Nat) (e : Int), a ≠ 112 → a ≠ 113 → ¬ (a = 74 ∧ e = 64) → m' a e = m a e) ∧ m' 74 64 = iW ((k + 1 : Nat) : Int) ∧ (∀ v : Nat, v < 2500 → ∃ j : Nat, j ≤ k + 1 ∧ m' 113 (v : Int) = iW (j : Int)) ∧ L = sgs ps ++ R ∧ (ps = [] ∧ R.length ≤ 1 ∨ R = []) ∧ chOK G m s ps ∧ (∀ q ∈ ps, q.2.2.length ≤ eNa q.2.1) ∧ (∀ q ∈ ps.tail, q.2.2.length + 1 ≤ eNa q.2.1) ∧ (∀ q ∈ ps, 1 ≤ eNa q.2.1) ∧ (∀ e ∈ L, ∀ z, vIn z e → D z) ∧ (∀ u : Nat, u < 2500 → m' 113 (u : Int) = iW ((k + 1 : Nat) : Int) → vIn w (s u) → ∃ e ∈ L, vIn w (sb s e) ∧ sz (sb s e) < sz (s u)) ∧ (vIn w (sb s t) → ∃ e ∈ L, vIn w (sb s e)) ∧ (∀ e ∈ L, ∀ z, vIn z (sb s e) → vIn z (sb s t))) ?_ (n := szs s [t]) ⟨[t], [], [t], rfl, rfl, ⟨by show mTm G m0 (m0 112 0) t; rw [f112]; exact mTm_fr h (fun a e q => f0 a e (by omega) (by omega) (by omega)), trivial⟩, f0, f64, fun v hv => ?_, rfl, Or.inl ⟨rfl, Nat.le_refl _⟩, trivial, (fun q hq => by cases hq), (fun q hq => by cases hq), (fun q hq => by cases hq), ?_, fun u hu e => ?_, fun hv => ⟨t, List.mem_cons_self .., hv⟩, ?_⟩
  · rintro P N x m' ⟨L, ps, R, rfl, rfl, hS, hf, h64, h113, hL, hR1, hch, hle, hlt, hge, hLD, hJ, hK, hLr⟩ hP
    have hB' : mBd G m' D B := mBd_fr hB (fun a e q => hf a e (by omega) (by omega) (by omega))
    have hg' : gC G m' := fun n p j hG hj => by
      rw [hf 78 _ (by omega) (by omega) (by omega)] at hj
      rw [hf 79 _ (by omega) (by omega) (by omega)]
      exact hg n p j hG hj
    unfold wf_243_20
    refine ⟨fun h0 => ?_, fun h0 => ?_⟩
    · have hnil : L = [] := List.length_eq_zero_iff.mp (by omega)
      refine (hq m' hf ⟨h64, hk, h113⟩).2 (fun hv => ?_)
      obtain ⟨e, he, -⟩ := hK hv
      rw [hnil] at he
      cases he
    · cases L with
      | nil => simp at h0
      | cons e L =>
        have hlen : (((e :: L).length : Nat) : Int) + (-1) = (L.length : Int) := by simp only [List.length_cons]; omega
        rw [hlen]
        -- the path behind the pop
        obtain ⟨ps', hps1, hps2, hps3, hps4, hps5⟩ : ∃ ps' : List sgq, L = sgs ps' ∧ chOK G m s ps' ∧ (∀ q ∈ ps', q.2.2.length + 1 ≤ eNa q.2.1) ∧ (∀ q ∈ ps', sz (sb s e) < sz (sb s q.2.1)) ∧ (∀ q ∈ ps', 1 ≤ eNa q.2.1) := by
          rcases hR1 with ⟨hp0, hR1⟩ | hR0
          · subst hp0
            have hL : e :: L = R := hL
            have : L = [] := by
              rw [← hL] at hR1
              simp only [List.length_cons] at hR1
              exact List.length_eq_zero_iff.mp (by omega)
            exact ⟨[], this, trivial, (fun q hq => by cases hq), (fun q hq => by cases hq), (fun q hq => by cases hq)⟩
          · subst hR0
            rw [List.append_nil] at hL
            exact ch_pop ps hch hle hlt hge e L hL.symm
        have hlenW : L.length ≤ W := by
          rw [hps1]
          exact Nat.le_trans (sgs_le ps' hps3) (ch_w hW ps' hps2)
        have hlc : (((e :: L).length : Nat) : Int) = (L.length : Int) + 1 := by simp only [List.length_cons]; omega
        have hDe : ∀ z, vIn z e → D z := hLD e (List.mem_cons_self ..)
        have hDL : ∀ e' ∈ L, ∀ z, vIn z e' → D z := fun e' he => hLD e' (List.mem_cons_of_mem _ he)
        have hLr' : ∀ e' ∈ L, ∀ z, vIn z (sb s e') → vIn z (sb s t) := fun e' he => hLr e' (List.mem_cons_of_mem _ he)
        have hK' : vIn w (sb s t) → (∃ e' ∈ L, vIn w (sb s e')) ∨ vIn w (sb s e) := fun hv => by
          obtain ⟨e', he, hv'⟩ := hK hv
          rcases List.mem_cons.mp he with rfl | he
          · exact Or.inr hv'
          · exact Or.inl ⟨e', he, hv'⟩
        have hNL : szs s (e :: L) = sz (sb s e) + szs s L := rfl
        have hpe := sz_pos (sb s e)
        -- what is taken is looked into
        have fin : ∀ m2 : hy_m, (∀ (a : Nat) (e : Int), a ≠ 113 → m2 a e = m' a e) → (∀ v : Nat, v < 2500 → ∃ j : Nat, j ≤ k + 1 ∧ m2 113 (v : Int) = iW (j : Int)) → (∀ u : Nat, u < 2500 → m2 113 (u : Int) = iW ((k + 1 : Nat) : Int) → vIn w (s u) → (∃ e' ∈ L, vIn w (sb s e') ∧ sz (sb s e') < sz (s u)) ∨ (vIn w (sb s e) ∧ sz (sb s e) ≤ sz (s u))) → wq_237 (m2 112 (L.length : Int)) m2 (fun r3 m3 => (r3 ≠ mF w → (wq_238 r3 m3 (fun r4 m4 => (r4 ≠ 4 → (hy_r 0 (L.length : Int) ∧ (P (L.length : Int) m4))) ∧ (r4 = 4 → (hy_r 0 (L.length : Int) ∧ (wq_243_84 P (mF w) (L.length : Int) r3 0 m4 Q)))))) ∧ (r3 = mF w → (Q 1 m3))) := by
          intro m2 hf2 h113' hJ2
          have hf2m : ∀ (a : Nat) (e : Int), a ≠ 112 → a ≠ 113 → ¬ (a = 74 ∧ e = 64) → m2 a e = m a e := fun a e q1 q2 q3 => (hf2 a e q2).trans (hf a e q1 q2 q3)
          have hB2 : mBd G m2 D B := mBd_fr hB' (fun a e q => hf2 a e (by omega))
          have hg2 : gC G m2 := fun n p j hG hj => by
            rw [hf2 78 _ (by decide)] at hj
            rw [hf2 79 _ (by decide)]
            exact hg' n p j hG hj
          have hS2 : wS G m2 L := wS_fr L hS.2 (fun a e q => hf2 a e (by omega)) (fun i _ => hf2 _ _ (by decide))
          have he2 : mTm G m2 (m2 112 (L.length : Int)) e := by
            rw [hf2 _ _ (by decide)]
            exact mTm_fr hS.1 (fun a e q => hf2 a e (by omega))
          have h642 : m2 74 64 = iW ((k + 1 : Nat) : Int) := by rw [hf2 _ _ (by decide)]; exact h64
          refine sp_237 hB2 hR he2 hDe (fun y' t' hfo hsol => ?_)
          have hst : sb s e = sb s t' := hsol s hR.sol
          -- nothing of it is wanted
          have plain : ¬ vIn w (sb s t') → P (L.length : Int) m2 := by
            intro hno
            rw [← hst] at hno
            refine hP (szs s L) _ _ ⟨L, ps', [], rfl, rfl, hS2, hf2m, h642, h113', by rw [List.append_nil]; exact hps1, Or.inr rfl, hps2, fun q hq => by have := hps3 q hq; omega, fun q hq => hps3 q (List.mem_of_mem_tail hq), hps5, hDL, fun u hu hm hv => ?_, fun hv => ?_, hLr'⟩ (by omega)
            · rcases hJ2 u hu hm hv with g | g
              · exact g
              · exact absurd g.1 hno
            · rcases hK' hv with g | g
              · exact g
              · exact absurd g hno
          obtain ⟨f1, f2, f3⟩ := hfo
          refine ⟨fun hne => sp_238 f1 ⟨fun n4 => ⟨show -2147483648 ≤ _ ∧ _ < 2147483648 by omega, plain ?_⟩, fun k4 => ⟨show -2147483648 ≤ _ ∧ _ < 2147483648 by omega, ?_⟩⟩, fun heq => ?_⟩
          · rcases f3 with ⟨w', g1, g2, g3, g4⟩ | ⟨g1, g2⟩
            · subst g2
              intro hv
              have hv : vIn w (s w') := hv
              rw [(hR w').1 g3] at hv
              have hv : w' = w := hv
              rw [hv] at g1
              exact hne g1
            · cases t' with
              | var w' => exact absurd rfl (g1 w')
              | num i => exact fun hv => hv
              | mulL kk b =>
                intro hv
                have hl := (mTm_L f1).1
                have h0 : eN b = 0 := by
                  by_cases q : eN b = 0
                  · exact q
                  · exact absurd (show eKd (.mulL kk b) = 4 from if_neg q) n4
                obtain ⟨i, hi, -⟩ := (ar_in s w b hl).mp hv
                omega
              | add a r =>
                rcases f1 with ⟨v, hv, -, e⟩ | ⟨i, hi, -, e⟩ | ⟨n, p, nv, u, -, hn, hnv, hp, hr, hk, e, hG⟩
                · cases e
                · cases e
                · cases u with
                  | add a' r' => exact absurd hk.1 (by decide)
                  | var v => cases e
                  | num i => cases e
                  | mulL k' a' => cases e
                  | sub a' r' => cases e
                  | neg a' => cases e
                  | mulR a' k' => cases e
              | sub a r => exact fun hv => hv
              | neg a => exact fun hv => hv
              | mulR a k' => exact fun hv => hv
          · cases t' with
            | mulL kk b =>
              obtain ⟨hl, hb3⟩ := mTm_L f1
              have hb0 : eN b ≠ 0 := by
                intro q
                have : eKd (.mulL kk b) = 3 := if_pos q
                rw [this] at k4
                exact absurd k4 (by decide)
              have hin : ∀ z, vIn z (sb s (.mulL kk b)) ↔ ∃ i, i < eN b ∧ vIn z (sb s (eAr b i)) := fun z => ar_in s z b hl
              have harz : ∀ i, i < eN b → sz (sb s (eAr b i)) < sz (sb s (.mulL kk b)) := fun i hi => by
                have := ar_sz s b i hl hi
                show _ < 1 + sz (sb s b)
                omega
              have hsum : szs s (eRa b (eN b)) < sz (sb s e) := by
                rw [hst]
                have := ar_sum s b hl
                show _ < 1 + sz (sb s b)
                omega
              refine sp_243_84 hg2 f1 hS2 (by omega) (fun m3 hf3 hS3 => ?_)
              have hf3m : ∀ (a : Nat) (e : Int), a ≠ 112 → a ≠ 113 → ¬ (a = 74 ∧ e = 64) → m3 a e = m a e := fun a e q1 q2 q3 => (hf3 a e q1).trans (hf2m a e q1 q2 q3)
              refine hP (szs s (eRa b (eN b) ++ L)) _ _ ⟨eRa b (eN b) ++ L, (y', .mulL kk b, eRa b (eN b)) :: ps', [], rfl, rfl, hS3, hf3m, by rw [hf3 _ _ (by decide)]; exact h642, fun v hv => by rw [hf3 _ _ (by decide)]; exact h113' v hv, ?_, Or.inr rfl, ⟨⟨kk, b, rfl⟩, mTm_fr f1 (fun a e q => (hf2m a e (by omega) (by omega) (by omega)).symm), fun x hx => ?_, fun q hq => ?_, hps2⟩, fun q hq => ?_, hps3, fun q hq => ?_, fun x hx => ?_, fun u hu hm hv => ?_, fun hv => ?_, fun x hx => ?_⟩ ?_
              · rw [List.append_nil, hps1]
                rfl
              · obtain ⟨i, hi, rfl⟩ := eRa_mem b _ x hx
                exact harz i hi
              · have := hps4 q hq
                rw [hst] at this
                exact this
              · rcases List.mem_cons.mp hq with rfl | hq
                · show (eRa b (eN b)).length ≤ eN b
                  rw [eRa_len]
                  exact Nat.le_refl _
                · have := hps3 q hq
                  omega
              · rcases List.mem_cons.mp hq with rfl | hq
                · show 1 ≤ eN b
                  omega
                · exact hps5 q hq
              · rcases List.mem_append.mp hx with hx | hx
                · obtain ⟨i, hi, rfl⟩ := eRa_mem b _ x hx
                  exact fun z hz => f2 z (vIn_ar z b i hl hi hz)
                · exact hDL x hx
              · rw [hf3 _ _ (by decide)] at hm
                rcases hJ2 u hu hm hv with ⟨e', g1, g2, g3⟩ | ⟨g1, g2⟩
                · exact ⟨e', List.mem_append_right _ g1, g2, g3⟩
                · rw [hst] at g1 g2
                  obtain ⟨i, hi, hvi⟩ := (hin w).mp g1
                  exact ⟨eAr b i, List.mem_append_left _ (eRa_in b _ i hi), hvi, Nat.lt_of_lt_of_le (harz i hi) g2⟩
              · rcases hK' hv with ⟨e', g1, g2⟩ | g
                · exact ⟨e', List.mem_append_right _ g1, g2⟩
                · rw [hst] at g
                  obtain ⟨i, hi, hvi⟩ := (hin w).mp g
                  exact ⟨eAr b i, List.mem_append_left _ (eRa_in b _ i hi), hvi⟩
              · rcases List.mem_append.mp hx with hx | hx
                · obtain ⟨i, hi, rfl⟩ := eRa_mem b _ x hx
                  intro z hz
                  refine hLr e (List.mem_cons_self ..) z ?_
                  rw [hst]
                  exact (hin z).mpr ⟨i, hi, hz⟩
                · exact hLr' x hx
              · rw [szs_app, hNL]
                omega
            | var w' => exact absurd (show (1 : Int) = 4 from k4) (by decide)
            | num i => exact absurd (show (2 : Int) = 4 from k4) (by decide)
            | add a r => exact absurd (show (0 : Int) = 4 from k4) (by decide)
            | sub a r => exact absurd (show (0 : Int) = 4 from k4) (by decide)
            | neg a => exact absurd (show (0 : Int) = 4 from k4) (by decide)
            | mulR a k' => exact absurd (show (0 : Int) = 4 from k4) (by decide)
          · refine (hq m2 hf2m ⟨h642, hk, h113'⟩).1 (hLr e (List.mem_cons_self ..) w ?_)
            rcases f3 with ⟨w', g1, g2, g3, g4⟩ | ⟨g1, g2⟩
            · have : w' = w := by rw [heq] at g1; unfold mF at g1; omega
              subst this
              rw [hst, g2]
              show vIn w' (s w')
              rw [(hR w').1 g3]
              rfl
            · exact absurd heq (g2 w hw5)
        refine ⟨by omega, by omega, sp_241 hS.1 (fun u hu hu5 => sp_242 hu5 (fun hnl => ⟨fun _ => ⟨by omega, by omega, fin _ (fun a e q => hy_ua q) (fun v hv => ?_) (fun u' hu' hm hv => ?_)⟩, fun q => absurd rfl q⟩) (fun hl => ⟨fun q => absurd q (by decide), fun _ => ⟨show -2147483648 ≤ _ ∧ _ < 2147483648 by omega, ?_⟩⟩)) (fun _ => sp_242n ⟨fun _ => ⟨by omega, by omega, fin m' (fun a e q => rfl) h113 (fun u' hu' hm hv => ?_)⟩, fun q => absurd rfl q⟩)⟩
        · rw [h64]
          by_cases q : v = u
          · subst q
            exact ⟨k + 1, Nat.le_refl _, hy_us _ _ _ _⟩
          · rw [hy_uk (by omega)]
            exact h113 v hv
        · by_cases q : u' = u
          · subst q
            right
            rw [hu]
            exact ⟨hv, Nat.le_refl _⟩
          · rw [hy_uk (by omega)] at hm
            obtain ⟨e', g1, g2, g3⟩ := hJ u' hu' hm hv
            rcases List.mem_cons.mp g1 with rfl | g1
            · exact Or.inr ⟨g2, Nat.le_of_lt g3⟩
            · exact Or.inl ⟨e', g1, g2, g3⟩
        · rw [hy_ui hl]
          have hu' : m' 113 (u : Int) = iW ((k + 1 : Nat) : Int) := hl.trans h64
          -- it was looked into before
          have sk : vIn w (sb s e) → ∃ e' ∈ L, vIn w (sb s e') ∧ sz (sb s e') < sz (sb s e) := by
            intro hv
            rw [hu] at hv
            obtain ⟨e', g1, g2, g3⟩ := hJ u hu5 hu' hv
            rcases List.mem_cons.mp g1 with rfl | g1
            · exfalso
              rw [hu] at g3
              exact Nat.lt_irrefl _ g3
            · refine ⟨e', g1, g2, ?_⟩
              rw [hu]
              exact g3
          refine hP (szs s L) _ _ ⟨L, ps', [], rfl, rfl, hS.2, hf, h64, h113, by rw [List.append_nil]; exact hps1, Or.inr rfl, hps2, fun q hq => by have := hps3 q hq; omega, fun q hq => hps3 q (List.mem_of_mem_tail hq), hps5, hDL, fun u2 hu2 hm hv => ?_, fun hv => ?_, hLr'⟩ (by omega)
          · obtain ⟨e', g1, g2, g3⟩ := hJ u2 hu2 hm hv
            rcases List.mem_cons.mp g1 with rfl | g1
            · obtain ⟨e2, g4, g5, g6⟩ := sk g2
              exact ⟨e2, g4, g5, Nat.lt_trans g6 g3⟩
            · exact ⟨e', g1, g2, g3⟩
          · rcases hK' hv with g | g
            · exact g
            · obtain ⟨e2, g4, g5, -⟩ := sk g
              exact ⟨e2, g4, g5⟩
        · obtain ⟨e', g1, g2, g3⟩ := hJ u' hu' hm hv
          rcases List.mem_cons.mp g1 with rfl | g1
          · exact Or.inr ⟨g2, Nat.le_of_lt g3⟩
          · exact Or.inl ⟨e', g1, g2, g3⟩
  · rw [f113]
    obtain ⟨j, hj, e⟩ := r3 v hv
    exact ⟨j, by omega, e⟩
  · intro e he
    have : e = t := by simpa using he
    rw [this]
    exact hD
  · exfalso
    rw [f113] at e
    obtain ⟨j, hj, e'⟩ := r3 u hu
    rw [e'] at e
    have := iW_inj (by omega) (by omega) e
    omega
  · intro e he
    have : e = t := by simpa using he
    rw [this]
    exact fun z hz => hz
end OCC
