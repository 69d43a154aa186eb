/-! UNIFIES (the model) -/
theorem wL1_h {σ : Type} {F : (Int → σ → Prop) → Int → σ → Prop} (Iv : Nat → Nat → Int → σ → Prop) (hs : ∀ P n k x s, Iv n k x s → (∀ n' k' y t, Iv n' k' y t → (n' < n ∨ n' = n ∧ k' < k) → P y t) → F P x s) {n k : Nat} {x : Int} {s : σ} (h : Iv n k x s) : wL1 σ F x s := by
  intro P hP
  have : ∀ n k x s, Iv n k x s → P x s := by
    intro n
    induction n using Nat.strongRecOn with
    | ind n ihn =>
      intro k
      induction k using Nat.strongRecOn with
      | ind k ihk =>
        exact fun x s hI => hP x s (hs P n k x s hI (fun n' k' y t hI' hlt => by
          rcases hlt with hlt | ⟨rfl, hlt⟩
          · exact ihn n' hlt k' y t hI'
          · exact ihk k' hlt y t hI'))
  exact this n k x s h
/-- free variables below n -/
def fc (B : bM) : Nat → Nat
  | 0 => 0
  | n + 1 => fc B n + (if (B n).isNone = true then 1 else 0)
theorem fc_le (B : bM) : ∀ n, fc B n ≤ n
  | 0 => Nat.le_refl _
  | n + 1 => by
    have := fc_le B n
    show fc B n + (if (B n).isNone = true then 1 else 0) ≤ n + 1
    split <;> omega
theorem fc_o {B : bM} {w : Nat} {t : pE} : ∀ n, n ≤ w → fc (bU B w t) n = fc B n
  | 0, _ => rfl
  | n + 1, h => by
    show fc (bU B w t) n + (if (bU B w t n).isNone = true then 1 else 0) = fc B n + (if (B n).isNone = true then 1 else 0)
    rw [fc_o n (by omega), bU_o (by omega)]
theorem fc_u {B : bM} {w : Nat} {t : pE} (hw : B w = none) : ∀ n, w < n → fc (bU B w t) n + 1 = fc B n
  | 0, h => absurd h (Nat.not_lt_zero _)
  | n + 1, h => by
    show fc (bU B w t) n + (if (bU B w t n).isNone = true then 1 else 0) + 1 = fc B n + (if (B n).isNone = true then 1 else 0)
    by_cases e : w = n
    · subst e
      rw [fc_o w (Nat.le_refl _), bU_s, hw]
      rfl
    · rw [bU_o (Ne.symm e)]
      have := fc_u (t := t) hw n (by omega)
      omega
theorem isL_N (s : Nat → pE) : ∀ (a : pE), isL a → eN (sb s a) = eN a
  | .num _, _ => rfl
  | .add a r, h => by
    show eN (sb s r) + 1 = eN r + 1
    rw [isL_N s r h]
  | .var _, h => h.elim
  | .mulL _ _, h => h.elim
  | .sub _ _, h => h.elim
  | .neg _, h => h.elim
  | .mulR _ _, h => h.elim
theorem ar_eq (v : Nat → pE) : ∀ (a b : pE), isL a → isL b → eN a = eN b → ((∀ i, i < eN a → sb v (eAr a i) = sb v (eAr b i)) ↔ sb v a = sb v b)
  | .num i, .num j, h, h', _ => by
    have h : i = 0 := h
    have h' : j = 0 := h'
    subst h
    subst h'
    exact ⟨fun _ => rfl, fun _ i hi => absurd hi (Nat.not_lt_zero _)⟩
  | .add a r, .add b q, h, h', e => by
    have e : eN r + 1 = eN q + 1 := e
    have ih := ar_eq v r q h h' (by omega)
    constructor
    · intro g
      have g0 : sb v a = sb v b := g 0 (Nat.succ_pos _)
      have g1 := ih.mp (fun i hi => g (i + 1) (Nat.succ_lt_succ hi))
      show (.add (sb v a) (sb v r) : pE) = .add (sb v b) (sb v q)
      rw [g0, g1]
    · intro g i hi
      have g : (.add (sb v a) (sb v r) : pE) = .add (sb v b) (sb v q) := g
      injection g with g0 g1
      cases i with
      | zero => exact g0
      | succ i => exact ih.mpr g1 i (Nat.lt_of_succ_lt_succ hi)
  | .num _, .add _ r, _, _, e => by
    have e : 0 = eN r + 1 := e
    omega
  | .add _ r, .num _, _, _, e => by
    have e : eN r + 1 = 0 := e
    omega
  | .var _, _, h, _, _ => h.elim
  | .mulL _ _, _, h, _, _ => h.elim
  | .sub _ _, _, h, _, _ => h.elim
  | .neg _, _, h, _, _ => h.elim
  | .mulR _ _, _, h, _, _ => h.elim
  | _, .var _, _, h, _ => h.elim
  | _, .mulL _ _, _, h, _ => h.elim
  | _, .sub _ _, _, h, _ => h.elim
  | _, .neg _, _, h, _ => h.elim
  | _, .mulR _ _, _, h, _ => h.elim
/-- pairs of arguments: the last d of n -/
def ePs (a b : pE) (n : Nat) : Nat → List (pE × pE)
  | 0 => []
  | d + 1 => (eAr a (n - 1 - d), eAr b (n - 1 - d)) :: ePs a b n d
theorem ePs_len (a b : pE) (n : Nat) : ∀ d, (ePs a b n d).length = d
  | 0 => rfl
  | d + 1 => by
    show (ePs a b n d).length + 1 = d + 1
    rw [ePs_len a b n d]
theorem ePs_mem (a b : pE) (n : Nat) : ∀ (d : Nat) (q : pE × pE), d ≤ n → q ∈ ePs a b n d → ∃ i, i < n ∧ q = (eAr a i, eAr b i)
  | 0, _, _, h => by cases h
  | d + 1, q, hd, h => by
    rcases List.mem_cons.mp h with rfl | h
    · exact ⟨n - 1 - d, by omega, rfl⟩
    · exact ePs_mem a b n d q (by omega) h
theorem ePs_in (a b : pE) (n : Nat) : ∀ (d i : Nat), d ≤ n → n - d ≤ i → i < n → (eAr a i, eAr b i) ∈ ePs a b n d
  | 0, i, _, h1, h2 => by omega
  | d + 1, i, hd, h1, h2 => by
    by_cases e : i = n - 1 - d
    · subst e
      exact List.mem_cons_self ..
    · exact List.mem_cons_of_mem _ (ePs_in a b n d i (by omega) (by omega) h2)
theorem ePs_sum (s : Nat → pE) (a b : pE) (n : Nat) (ha : isL a) (hn : n = eN a) : ∀ d, d ≤ n → szs s ((ePs a b n d).map Prod.fst) + szs s (eRa a (n - d)) = szs s (eRa a n)
  | 0, _ => by
    show 0 + szs s (eRa a (n - 0)) = _
    rw [Nat.sub_zero]
    omega
  | d + 1, h => by
    have ih := ePs_sum s a b n ha hn d (by omega)
    show sz (sb s (eAr a (n - 1 - d))) + szs s ((ePs a b n d).map Prod.fst) + szs s (eRa a (n - (d + 1))) = _
    have e : eRa a (n - d) = eAr a (n - 1 - d) :: eRa a (n - (d + 1)) := by
      rw [show n - d = (n - 1 - d) + 1 by omega, show n - (d + 1) = n - 1 - d by omega]
      rfl
    rw [e] at ih
    have ih : szs s ((ePs a b n d).map Prod.fst) + (sz (sb s (eAr a (n - 1 - d))) + szs s (eRa a (n - (d + 1)))) = _ := ih
    omega
/-- pairs that wait -/
def pW (G : Nat → Nat → Prop) (m : hy_m) : List (pE × pE) → Prop
  | [] => True
  | q :: L => mTm G m (m 111 (2 * (L.length : Int))) q.1 ∧ mTm G m (m 111 (2 * (L.length : Int) + 1)) q.2 ∧ pW G m L
theorem pW_fr {G : Nat → Nat → Prop} {m m' : hy_m} : ∀ (L : List (pE × pE)), pW G m L → (∀ (a : Nat) (e : Int), a = 76 ∨ a = 77 ∨ a = 78 ∨ a = 79 → m' a e = m a e) → (∀ e : Int, 0 ≤ e → e < 2 * (L.length : Int) → m' 111 e = m 111 e) → pW G m' L
  | [], _, _, _ => trivial
  | q :: L, h, hf, hw => by
    have hl : (((q :: L).length : Nat) : Int) = (L.length : Int) + 1 := by simp only [List.length_cons]; omega
    refine ⟨?_, ?_, pW_fr L h.2.2 hf (fun e h1 h2 => hw e h1 (by omega))⟩
    · rw [hw _ (by omega) (by omega)]
      exact mTm_fr h.1 hf
    · rw [hw _ (by omega) (by omega)]
      exact mTm_fr h.2.1 hf
section UU
variable {G : Nat → Nat → Prop} {m : hy_m} {Q : Int → hy_m → Prop} {D : Nat → Prop} {B : bM} {s : Nat → pE} {W k : Nat}
/-- pairs of arguments go onto the stack -/
theorem sp_247_179 {P27 : Int → hy_m → Prop} {x6 x8 : Int} {kk kk' : Int} {a b : pE} {L : List (pE × pE)} (hg : gC G m) (h1 : mTm G m x6 (.mulL kk a)) (h2 : mTm G m x8 (.mulL kk' b)) (hab : eN a = eN b) (hL : pW G m L) (hb : L.length + 3 ≤ 24990) (hq : ∀ m' : hy_m, (∀ (a : Nat) (e : Int), a ≠ 111 → m' a e = m a e) → pW G m' (ePs a b (eN a) (eN a) ++ L) → P27 ((ePs a b (eN a) (eN a) ++ L).length : Int) m') : wq_247_179 P27 (L.length : Int) x6 x8 ((eN a : Int) - 1) m Q := by
  have h3 := (mTm_L h1).2
  have hlen : ∀ d, (ePs a b (eN a) d ++ L).length = L.length + d := fun d => by rw [List.length_append, ePs_len]; omega
  unfold wq_247_179
  refine wL2_rule (Nat.lt_wfRel.wf) (fun x y m' => ∃ d : Nat, d ≤ eN a ∧ x = ((L.length + d : Nat) : Int) ∧ y = (eN a : Int) - 1 - d ∧ (∀ (a : Nat) (e : Int), a ≠ 111 → m' a e = m a e) ∧ pW G m' (ePs a b (eN a) d ++ L)) (fun _ y _ => (y + 1).toNat) ?_ ⟨0, Nat.zero_le _, rfl, by omega, fun _ _ _ => rfl, hL⟩
  rintro P x y m' ⟨d, hd, rfl, rfl, hf, hS⟩ hP
  unfold wf_247_179
  have hg' : ∀ M : hy_m, (∀ (a : Nat) (e : Int), a ≠ 111 → M a e = m a e) → gC G M := fun M hM n p j hG hj => by
    rw [hM 78 _ (by decide)] at hj
    rw [hM 79 _ (by decide)]
    exact hg n p j hG hj
  refine ⟨fun hlt => ?_, fun hge => ?_⟩
  · have : d = eN a := by omega
    subst this
    have := hq m' hf hS
    rw [hlen] at this
    exact this
  · obtain ⟨j, hj⟩ : ∃ j : Nat, (eN a : Int) - 1 - d = (j : Int) := ⟨eN a - 1 - d, by omega⟩
    have hjd : j = eN a - 1 - d := by omega
    rw [hj]
    have h1' : mTm G m' x6 (.mulL kk a) := mTm_fr h1 (fun a e q => hf a e (by omega))
    refine sp_236 (hg' m' hf) h1' (by omega) (fun y1 hy1 _ => ⟨by omega, by omega, ?_⟩)
    have hf2 : ∀ (a : Nat) (e : Int), a ≠ 111 → hy_u m' 111 (2 * ((L.length + d : Nat) : Int)) y1 a e = m a e := fun a e q => (hy_ua q).trans (hf a e q)
    have h2' : mTm G (hy_u m' 111 (2 * ((L.length + d : Nat) : Int)) y1) x8 (.mulL kk' b) := mTm_fr h2 (fun a e q => hf2 a e (by omega))
    refine sp_236 (hg' _ hf2) h2' (by omega) (fun y2 hy2 _ => ⟨by omega, by omega, show -2147483648 ≤ _ ∧ _ < 2147483648 by omega, show -2147483648 ≤ _ ∧ _ < 2147483648 by omega, hP _ _ _ ⟨d + 1, by omega, by omega, by omega, fun a e q => (hy_ua q).trans (hf2 a e q), ?_⟩ ?_⟩)
    · show pW G _ ((eAr a (eN a - 1 - d), eAr b (eN a - 1 - d)) :: (ePs a b (eN a) d ++ L))
      rw [← hjd]
      have e1 : (2 * ((L.length + d : Nat) : Int)) ≠ 2 * ((L.length + d : Nat) : Int) + 1 := by omega
      refine ⟨?_, ?_, pW_fr _ hS (fun a e q => (hy_ua (by omega)).trans (hy_ua (by omega))) (fun e q1 q2 => ?_)⟩
      · rw [hlen, hy_uk e1, hy_us]
        exact mTm_fr hy1 (fun a e q => (hy_ua (by omega)).trans (hy_ua (by omega)))
      · rw [hlen, hy_us]
        exact mTm_fr hy2 (fun a e q => hy_ua (by omega))
      · rw [hlen] at q2
        rw [hy_uk (by omega), hy_uk (by omega)]
    · show ((j : Int) + (-1) + 1).toNat < ((eN a : Int) - 1 - d + 1).toNat
      omega
/-- the table of pairs -/
def hsh (u1 u2 : Nat) : Int := (31 * (u1 : Int) + (u2 : Int)) % 4096
def kyy (r : Int) (u1 u2 : Nat) : Int := (r * 2500 + (u1 : Int)) * 2500 + (u2 : Int)
theorem sp_246 {u1 u2 : Nat} (h1 : u1 < 2500) (h2 : u2 < 2500) (hr : 0 ≤ m 74 66 ∧ m 74 66 < 1000000000) (h0 : Q 0 m) (hk : m 115 (hsh u1 u2) = kyy (m 74 66) u1 u2 → Q 1 m) (hn : m 97 (u1 : Int) ≠ -1 → m 97 (u2 : Int) ≠ -1 → m 115 (hsh u1 u2) ≠ kyy (m 74 66) u1 u2 → Q 0 (hy_u m 115 (hsh u1 u2) (kyy (m 74 66) u1 u2))) : wq_246 (u1 : Int) (u2 : Int) m Q := by
  have e : iA (31 * (u1 : Int) + (u2 : Int)) 4095 = hsh u1 u2 := iA_m (31 * (u1 : Int) + (u2 : Int)) (k := 12) (by decide)
  have hh : 0 ≤ hsh u1 u2 ∧ hsh u1 u2 < 4096 := by unfold hsh; omega
  have ek : (((m 74 66) * 2500 + (u1 : Int)) * 2500) + (u2 : Int) = kyy (m 74 66) u1 u2 := rfl
  have hkr : hy_r 1 (kyy (m 74 66) u1 u2) := by
    show -9223372036854775808 ≤ _ ∧ _ < 9223372036854775808
    unfold kyy
    omega
  unfold wq_246
  rw [e, ek]
  refine ⟨fun q => by omega, fun _ => ⟨fun q => by omega, fun _ => ⟨by omega, by omega, fun _ => h0, fun b1 => ⟨by omega, by omega, fun b2 => ⟨hh.1, hh.2, hkr, fun hne => ⟨hh.1, hh.2, hkr, hn b1 b2 hne⟩, fun he => ⟨hh.1, hh.2, hkr, ?_⟩⟩, fun _ => h0⟩⟩⟩⟩
  rw [hy_ui he]
  exact hk he
theorem sp_246n {x y : Int} (h : x = -9 ∨ y = -9) (h0 : Q 0 m) : wq_246 x y m Q := by
  unfold wq_246
  refine ⟨fun _ => h0, fun q => ⟨fun _ => h0, fun q2 => ?_⟩⟩
  rcases h with h | h
  · exact absurd h q
  · exact absurd h q2
/-- a pair that isn't known in this round when the round begins -/
def tOK (m : hy_m) (r : Nat) : Prop := m 74 66 = r ∧ r < 999999999 ∧ ∀ e : Int, 0 ≤ e → e < 4096 → m 115 e < ((r : Int) + 1) * 6250000
theorem kyy_inj {r : Int} {u1 u2 v1 v2 : Nat} (h1 : u1 < 2500) (h2 : u2 < 2500) (h3 : v1 < 2500) (h4 : v2 < 2500) (e : kyy r u1 u2 = kyy r v1 v2) : u1 = v1 ∧ u2 = v2 := by
  unfold kyy at e
  omega
theorem kyy_r {r : Int} {u1 u2 : Nat} (h1 : u1 < 2500) (h2 : u2 < 2500) : r * 6250000 ≤ kyy r u1 u2 ∧ kyy r u1 u2 < (r + 1) * 6250000 := by
  unfold kyy
  omega
end UU
