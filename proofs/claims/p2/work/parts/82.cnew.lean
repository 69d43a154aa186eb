/-! CLAUSES OF THE CLASS: a new one -/
def sWf (T : hy_T) (N : Nat) : Prop := ∀ b x, T.1 b = some x → b < N
theorem he_o {T : hy_T} {a t n b : Nat} (h : b ≠ a) : (hy_e T a t n).1 b = T.1 b := if_neg h
theorem he_n (T : hy_T) (a t n : Nat) : (hy_e T a t n).1 a = some (t, n) := if_pos rfl
theorem sWf_e {T : hy_T} {N t n : Nat} (h : sWf T N) : sWf (hy_e T N t n) (N + 1) := by
  intro b x hb
  by_cases e : b = N
  · omega
  · rw [he_o e] at hb
    have := h b x hb
    omega
def rRef (T : hy_T) (m : hy_m) : Prop := T.1 4 = some (6, 18) ∧ m 4 1 = 5 ∧ m 4 2 = 6 ∧ m 4 3 = 7 ∧ m 4 6 = 8 ∧ m 4 9 = 10 ∧ m 4 11 = 11 ∧ T.1 5 = some (100, 128) ∧ T.1 6 = some (101, 128) ∧ T.1 7 = some (100, 384) ∧ T.1 8 = some (100, 5) ∧ T.1 10 = some (100, 8) ∧ T.1 11 = some (100, 5)
/-- cell a is this clause; F holds of its cells -/
def cCl (T : hy_T) (m : hy_m) (F : Nat → Prop) (a : Nat) (hd : Option pE) (gs : List pE) (nv : Nat) : Prop := ∃ c k0 k1 k2 k4 k7 k8 : Nat, cK T m a c k0 k1 k2 ∧ 8 ≤ c ∧ m a 4 = k4 ∧ T.1 k4 = some (100, gs.length) ∧ m a 7 = k7 ∧ T.1 k7 = some (101, gs.length) ∧ m a 8 = k8 ∧ T.1 k8 = some (100, gs.length) ∧ (∀ i : Int, 0 ≤ i → i < 8 → m k0 i = 1) ∧ (∀ h, hd = some h → cQ m c k0 k1 k2 h (m a 3)) ∧ (hd = none → m a 3 = -9) ∧ (∀ i (hi : i < gs.length), cQ m c k0 k1 k2 gs[i] (m k4 (i : Int))) ∧ m a 5 = nv ∧ m a 6 = cnt1 (fun v => oH hd v + oL gs v) nv ∧ (∀ i (hi : i < gs.length), m k7 (i : Int) = cal gs[i] false) ∧ (∀ i, i < gs.length → m k8 (i : Int) = cntP (oL (gs.drop i)) 8) ∧ (F a ∧ F k0 ∧ F k1 ∧ F k2 ∧ F k4 ∧ F k7 ∧ F k8)
theorem cCl_fr {T T' : hy_T} {m m' : hy_m} {F F' : Nat → Prop} {a nv : Nat} {hd : Option pE} {gs : List pE} (h : cCl T m F a hd gs nv) (hF : ∀ b, F b → F' b) (hT : ∀ b x, F b → T.1 b = some x → T'.1 b = some x) (hm : ∀ b e, F b → m' b e = m b e) : cCl T' m' F' a hd gs nv := by
  obtain ⟨c, k0, k1, k2, k4, k7, k8, ⟨h1, h2, h3, h4, h5, h6, h7, h8⟩, a1, a2, a3, a4, a5, a6, a7, a8, a9, a10, a11, a12, a13, a14, a15, f0, f1, f2, f3, f4, f5, f6⟩ := h
  have hE : cEq (m k0) (m k1) (m k2) (m' k0) (m' k1) (m' k2) (fun z => 0 ≤ z ∧ z < c) := fun n _ => ⟨hm _ _ f1, hm _ _ f2, fun j _ _ => hm _ _ f3⟩
  have up : ∀ {t : pE} {n : Int}, cQ m c k0 k1 k2 t n → cQ m' c k0 k1 k2 t n := fun ht => cP_eq hE _ (-1) _ (fun q => by omega) ht
  refine ⟨c, k0, k1, k2, k4, k7, k8, ⟨hT _ _ f0 h1, by rw [hm _ _ f0]; exact h2, hT _ _ f1 h3, by rw [hm _ _ f0]; exact h4, hT _ _ f2 h5, by rw [hm _ _ f0]; exact h6, hT _ _ f3 h7, h8⟩, a1, by rw [hm _ _ f0]; exact a2, hT _ _ f4 a3, by rw [hm _ _ f0]; exact a4, hT _ _ f5 a5, by rw [hm _ _ f0]; exact a6, hT _ _ f6 a7, fun i q1 q2 => by rw [hm _ _ f1]; exact a8 i q1 q2, fun t e => by rw [hm _ _ f0]; exact up (a9 t e), fun e => by rw [hm _ _ f0]; exact a10 e, fun i hi => by rw [hm _ _ f4]; exact up (a11 i hi), by rw [hm _ _ f0]; exact a12, by rw [hm _ _ f0]; exact a13, fun i hi => by rw [hm _ _ f5]; exact a14 i hi, fun i hi => by rw [hm _ _ f6]; exact a15 i hi, hF _ f0, hF _ f1, hF _ f2, hF _ f3, hF _ f4, hF _ f5, hF _ f6⟩
section CN
variable {T : hy_T} {N U : Nat} {m : hy_m} {Q : sQ} {x n k : Nat}
theorem sp_305 (hx : T.1 x = some (100, n)) (hW : sWf T N) (hN : 0 < N) (hk : k ≤ n) (hn : n ≤ 10000000) (hq : ∀ m', (∀ b e, b ≠ N → m' b e = m b e) → (∀ e : Int, 0 ≤ e → e < k → m' N e = m x e) → Q (N : Int) (hy_e T N 100 k, N + 1, U + k, m')) : wq_305 (x : Int) (k : Int) (T, N, U, m) Q := by
  have hxN : x < N := hW x _ hx
  unfold wq_305
  dsimp only
  simp only [Int.toNat_natCast]
  refine ⟨100, n, hx, by omega, fun hne => ⟨by omega, by omega, 100, n, by rw [he_o (by omega)]; exact hx, by omega, 100, n, by rw [he_o (by omega)]; exact hx, by omega, k, he_n _ _ _ _, Or.inl rfl, by omega, by omega, ?_⟩, fun he => ⟨n, hx, Or.inl trivial, n, he_n _ _ _ _, by omega, ?_⟩⟩
  · rw [if_pos (show (k : Int) < n by omega)]
    refine ⟨by omega, by omega, by omega, by omega, by omega, hq _ (fun b e hb => ?_) (fun e h1 h2 => ?_)⟩
    · unfold hy_cp hy_z
      rw [if_neg (fun q => hb q.1), if_neg hb]
    · unfold hy_cp hy_z
      rw [if_pos ⟨rfl, h1, by omega⟩, if_neg (by omega), show (0 : Int) + (e - 0) = e by omega]
  · have he : n = k := by omega
    subst he
    refine hq _ (fun b e hb => ?_) (fun e h1 h2 => ?_)
    · unfold hy_cq
      rw [if_neg hb]
    · unfold hy_cq
      rw [if_pos rfl]
theorem sp_306 (hx : T.1 x = some (101, n)) (hW : sWf T N) (hN : 0 < N) (hk : k ≤ n) (hn : n ≤ 10000000) (hq : ∀ m', (∀ b e, b ≠ N → m' b e = m b e) → (∀ e : Int, 0 ≤ e → e < k → m' N e = m x e) → Q (N : Int) (hy_e T N 101 k, N + 1, U + k, m')) : wq_306 (x : Int) (k : Int) (T, N, U, m) Q := by
  have hxN : x < N := hW x _ hx
  unfold wq_306
  dsimp only
  simp only [Int.toNat_natCast]
  refine ⟨101, n, hx, by omega, fun hne => ⟨by omega, by omega, 101, n, by rw [he_o (by omega)]; exact hx, by omega, 101, n, by rw [he_o (by omega)]; exact hx, by omega, k, he_n _ _ _ _, Or.inr rfl, by omega, by omega, ?_⟩, fun he => ⟨n, hx, Or.inr trivial, n, he_n _ _ _ _, by omega, ?_⟩⟩
  · rw [if_pos (show (k : Int) < n by omega)]
    refine ⟨by omega, by omega, by omega, by omega, by omega, hq _ (fun b e hb => ?_) (fun e h1 h2 => ?_)⟩
    · unfold hy_cp hy_z
      rw [if_neg (fun q => hb q.1), if_neg hb]
    · unfold hy_cp hy_z
      rw [if_pos ⟨rfl, h1, by omega⟩, if_neg (by omega), show (0 : Int) + (e - 0) = e by omega]
  · have he : n = k := by omega
    subst he
    refine hq _ (fun b e hb => ?_) (fun e h1 h2 => ?_)
    · unfold hy_cq
      rw [if_neg hb]
    · unfold hy_cq
      rw [if_pos rfl]
/-- the loops of the constructor -/
theorem sp_39_156 {T : hy_T} {N U : Nat} {m0 : hy_m} {a c k0 k1 k2 k4 k7 k8 : Nat} {gs : List pE} {nv : Nat} (hW : sWf T N) (ha14 : 14 ≤ a) (hr : T.1 4 = some (6, 18)) (hr11 : T.1 11 = some (100, 5)) (hg5 : gs.length ≤ 5) (hK : ∀ m : hy_m, (∀ b e, b ≠ k7 → b ≠ k8 → m b e = m0 b e) → cK T m a c k0 k1 k2 ∧ m 4 11 = 11 ∧ (∀ e, m 11 e = m0 11 e) ∧ m a 4 = k4 ∧ m a 7 = k7 ∧ m a 8 = k8 ∧ (∀ i (hi : i < gs.length), cQ m c k0 k1 k2 gs[i] (m k4 (i : Int)) ∧ m k4 (i : Int) = m0 k4 (i : Int))) (h4 : T.1 k4 = some (100, gs.length)) (h7 : T.1 k7 = some (101, gs.length)) (h8 : T.1 k8 = some (100, gs.length)) (h78 : k7 ≠ k8) (hmk : ∀ i (hi : i < gs.length), mK (m0 11 (i : Int)) (oE gs[i])) (hgk : ∀ g ∈ gs, eK nv g false ∧ eCa g = true ∧ eM g ≤ 100) (hq : ∀ m : hy_m, (∀ b e, b ≠ k7 → b ≠ k8 → m b e = m0 b e) → (∀ i (hi : i < gs.length), m k7 (i : Int) = cal gs[i] false) → (∀ i, i < gs.length → m k8 (i : Int) = cntP (oL (gs.drop i)) 8) → Q 0 (T, N, U, m)) : wq_39_156 (a : Int) 4 0 ((gs.length : Int) - 1) (T, N, U, m0) Q := by
  have e4 : (4 : Int).toNat = 4 := rfl
  unfold wq_39_156
  refine wL2_rule (Nat.lt_wfRel.wf) (fun x y s => ∃ (j : Nat) (m : hy_m), s = (T, N, U, m) ∧ y = (j : Int) - 1 ∧ j ≤ gs.length ∧ mK x (oL (gs.drop j)) ∧ (∀ b e, b ≠ k7 → b ≠ k8 → m b e = m0 b e) ∧ (∀ i (hi : i < gs.length), j ≤ i → m k7 (i : Int) = cal gs[i] false) ∧ (∀ i, i < gs.length → j ≤ i → m k8 (i : Int) = cntP (oL (gs.drop i)) 8)) (fun _ y _ => (y + 1).toNat) ?_ ⟨gs.length, m0, rfl, rfl, Nat.le_refl _, ⟨0, rfl, by decide, fun v hv => ⟨fun q => by simp at q, fun q => by rw [List.drop_length] at q; exact absurd q (Nat.lt_irrefl 0)⟩⟩, fun _ _ _ _ => rfl, fun i hi hj => by omega, fun i hi hj => by omega⟩
  rintro P x y s ⟨j, m, rfl, rfl, hj, hmx, hfr, f7, f8⟩ hP
  obtain ⟨k1', k2', k3', k4', k5', k6', k7'⟩ := hK m hfr
  unfold wf_39_156
  dsimp only
  rw [e4, Int.toNat_natCast, k2', show (11 : Int).toNat = 11 from rfl]
  refine ⟨fun hlt => ?_, fun hge => ⟨hr, 5, hr11, hge, by omega, k1'.1, ?_⟩⟩
  · have : j = 0 := by omega
    subst this
    exact hq m hfr (fun i hi => f7 i hi (by omega)) (fun i hi => f8 i hi (by omega))
  · obtain ⟨g, rfl⟩ : ∃ g, j = g + 1 := ⟨j - 1, by omega⟩
    have hg : g < gs.length := by omega
    rw [show ((g + 1 : Nat) : Int) - 1 = (g : Int) by omega, k3']
    have hdr : gs.drop g = gs[g] :: gs.drop (g + 1) := List.drop_eq_getElem_cons hg
    have hmx2 : mK (iO x (m0 11 (g : Int))) (oL (gs.drop g)) := mK_c (mK_or2 hmx (hmk g hg)) (fun v => by rw [hdr]; rfl)
    have hmx3 := hmx2
    obtain ⟨kk, ek, ek2, ek3⟩ := hmx2
    rw [ek]
    rw [ek] at hmx3
    refine sp_307 (by omega) ?_
    rw [mK_pcn hmx3, k6', Int.toNat_natCast]
    have hu : ∀ b e, b ≠ k7 → b ≠ k8 → hy_u m k8 (g : Int) ((cntP (oL (gs.drop g)) 8 : Nat) : Int) b e = m0 b e := fun b e q1 q2 => by rw [hy_ua q2]; exact hfr b e q1 q2
    obtain ⟨l1, l2, l3, l4, l5, l6, l7⟩ := hK _ hu
    refine ⟨gs.length, h8, by omega, by omega, k1'.1, k1'.1, ?_⟩
    rw [l4, Int.toNat_natCast]
    refine ⟨gs.length, h4, by omega, by omega, k1'.1, ?_⟩
    obtain ⟨c1, c2, c3⟩ := hgk gs[g] (List.getElem_mem hg)
    refine sp_49 l1 (l7 g hg).1 c1 c2 c3 ?_
    rw [l5, Int.toNat_natCast]
    refine ⟨gs.length, h7, by omega, by omega, show -2147483648 ≤ _ ∧ _ < 2147483648 by omega, hP _ _ _ ⟨g, _, rfl, by omega, by omega, hmx3, fun b e q1 q2 => by rw [hy_ua q1]; exact hu b e q1 q2, fun i hi hij => ?_, fun i hi hij => ?_⟩ ?_⟩
    · by_cases e : i = g
      · subst e
        rw [hy_us]
      · rw [hy_uk (by omega), hy_ua h78]
        exact f7 i hi (by omega)
    · rw [hy_ua (Ne.symm h78)]
      by_cases e : i = g
      · subst e
        rw [hy_us]
      · rw [hy_uk (by omega)]
        exact f8 i hi (by omega)
    · show ((g : Int) + (-1) + 1).toNat < (((g + 1 : Nat) : Int) - 1 + 1).toNat
      omega
theorem gOK_c {nv : Nat} {g : pE} (h : gOK nv g) (hM : eM g ≤ 100) : eK nv g false ∧ eCa g = true ∧ eM g ≤ 100 := by
  obtain ⟨h1, k, a, rfl, hw⟩ := h
  refine ⟨h1, ?_, hM⟩
  have := wOK_ne hw
  show (decide (k ≠ 1) && decide (k ≠ 2)) = true
  simp [this.1, this.2]
theorem eMs_mem : ∀ (l : List pE) (g : pE), g ∈ l → 2 * eM g + 1 ≤ eMs l
  | [], _, h => by cases h
  | a :: r, g, h => by
    show _ ≤ 2 * eM a + 1 + eMs r
    rcases List.mem_cons.mp h with rfl | h
    · omega
    · have := eMs_mem r g h
      omega
theorem cnt1_le (o : Nat → Nat) : ∀ v, cnt1 o v ≤ v
  | 0 => Nat.le_refl _
  | v + 1 => by
    have := cnt1_le o v
    show cnt1 o v + (if o v = 1 then 1 else 0) ≤ v + 1
    split <;> omega
/-- behind the copies -/
theorem sp_39_86 {a c k0 k1 k2 k4 : Nat} {o : Nat → Nat} {gs : List pE} {nv : Nat} (hW : sWf T N) (ha14 : 14 ≤ a) (haN : a < N) (hnv : nv ≤ 8) (hr : T.1 4 = some (6, 18)) (hr10 : T.1 10 = some (100, 8)) (hr11 : T.1 11 = some (100, 5)) (hg5 : gs.length ≤ 5) (hC : cK T m a c k0 k1 k2) (hk0 : k0 < N ∧ k0 ≠ a) (hk1 : k1 < N ∧ k1 ≠ a) (hk2 : k2 < N ∧ k2 ≠ a) (hk4 : k4 < N ∧ k4 ≠ a) (h4 : m a 4 = k4) (ht4 : T.1 k4 = some (100, gs.length)) (h5 : m a 5 = nv) (h9 : m 4 9 = 10) (h11 : m 4 11 = 11) (hu : ∀ v : Nat, v < nv → m 10 (v : Int) = ((o v : Nat) : Int)) (hmk : ∀ i (hi : i < gs.length), mK (m 11 (i : Int)) (oE gs[i])) (htr : ∀ i (hi : i < gs.length), cQ m c k0 k1 k2 gs[i] (m k4 (i : Int))) (hgk : ∀ g ∈ gs, eK nv g false ∧ eCa g = true ∧ eM g ≤ 100) (hq : ∀ (T' : hy_T) (m' : hy_m), (∀ b, b < N → T'.1 b = T.1 b) → T'.2 = T.2 → sWf T' (N + 1 + 1) → (∀ b e, b < N → ¬ (b = a ∧ (e = 6 ∨ e = 7 ∨ e = 8)) → m' b e = m b e) → m' a 6 = cnt1 o nv → m' a 7 = N → m' a 8 = ((N + 1 : Nat) : Int) → T'.1 N = some (101, gs.length) → T'.1 (N + 1) = some (100, gs.length) → (∀ i (hi : i < gs.length), m' N (i : Int) = cal gs[i] false) → (∀ i, i < gs.length → m' (N + 1) (i : Int) = cntP (oL (gs.drop i)) 8) → Q 0 (T', N + 1 + 1, U + gs.length + gs.length, m')) : wq_39_86 (a : Int) 4 0 0 (T, N, U, m) Q := by
  have e4 : (4 : Int).toNat = 4 := rfl
  have Ta := hC.1
  have h4N : 4 < N := by omega
  unfold wq_39_86
  refine wL2_rule (Nat.lt_wfRel.wf) (fun x y s => s = (T, N, U, m) ∧ ∃ v : Nat, v ≤ nv ∧ y = v ∧ x = cnt1 o v) (fun _ y _ => 20 - y.toNat) ?_ ⟨rfl, 0, Nat.zero_le _, rfl, rfl⟩
  rintro P x y s ⟨rfl, v, hv, rfl, rfl⟩ hP
  have hcle := cnt1_le o v
  unfold wf_39_86
  dsimp only
  rw [Int.toNat_natCast, e4, h5, h9, show (10 : Int).toNat = 10 from rfl]
  refine ⟨Ta, fun hle => ?_, fun hlt => ⟨hr, 8, hr10, by omega, by omega, fun hne => ?_, fun heq => ?_⟩⟩
  · have hvn : v = nv := by omega
    subst hvn
    clear hP hle hcle
    have q4 : hy_u m a 6 ((cnt1 o v : Nat) : Int) a 4 = (k4 : Int) := by rw [hy_uk (by decide)]; exact h4
    rw [q4]
    simp only [Int.toNat_natCast]
    have W5 := sWf_e (t := 101) (n := gs.length) hW
    have W6 := sWf_e (t := 100) (n := gs.length) W5
    refine ⟨Ta, Ta, 100, gs.length, ht4, by omega, by omega, by omega, by rw [he_o (by omega)]; exact Ta, by rw [he_o (by omega)]; exact Ta, ?_⟩
    have z_r : ∀ b e, b ≠ N → ¬ (b = a ∧ (e = 6 ∨ e = 7)) → hy_u (hy_z (hy_u m a 6 ((cnt1 o v : Nat) : Int)) N) a 7 (N : Int) b e = m b e := fun b e q1 q2 => by
      rw [hy_uf (by omega)]
      unfold hy_z
      rw [if_neg q1, hy_uf (by omega)]
    have z_6 : hy_u (hy_z (hy_u m a 6 ((cnt1 o v : Nat) : Int)) N) a 7 (N : Int) a 6 = ((cnt1 o v : Nat) : Int) := by
      rw [hy_uk (by decide)]
      unfold hy_z
      rw [if_neg (by omega), hy_us]
    have z_7 : hy_u (hy_z (hy_u m a 6 ((cnt1 o v : Nat) : Int)) N) a 7 (N : Int) a 7 = (N : Int) := hy_us _ _ _ _
    generalize hy_u (hy_z (hy_u m a 6 ((cnt1 o v : Nat) : Int)) N) a 7 (N : Int) = M5 at z_r z_6 z_7
    have q4' : M5 a 4 = (k4 : Int) := by rw [z_r _ _ (by omega) (by omega)]; exact h4
    rw [q4']
    simp only [Int.toNat_natCast]
    refine ⟨100, gs.length, by rw [he_o (by omega)]; exact ht4, by omega, by omega, by omega, by rw [he_o (by omega), he_o (by omega)]; exact Ta, by rw [he_o (by omega), he_o (by omega)]; exact Ta, ?_⟩
    have zz_r : ∀ b e, b ≠ N + 1 → ¬ (b = a ∧ e = 8) → hy_u (hy_z M5 (N + 1)) a 8 ((N + 1 : Nat) : Int) b e = M5 b e := fun b e q1 q2 => by
      rw [hy_uf (by omega)]
      unfold hy_z
      rw [if_neg q1]
    have zz_8 : hy_u (hy_z M5 (N + 1)) a 8 ((N + 1 : Nat) : Int) a 8 = ((N + 1 : Nat) : Int) := hy_us _ _ _ _
    generalize hy_u (hy_z M5 (N + 1)) a 8 ((N + 1 : Nat) : Int) = M6 at zz_r zz_8
    have q4'' : M6 a 4 = (k4 : Int) := by rw [zz_r _ _ (by omega) (by omega)]; exact q4'
    rw [q4'']
    simp only [Int.toNat_natCast]
    refine ⟨100, gs.length, by rw [he_o (by omega), he_o (by omega)]; exact ht4, by omega, show -2147483648 ≤ _ ∧ _ < 2147483648 by omega, ?_⟩
    have T6p : ∀ b, b < N → (hy_e (hy_e T N 101 gs.length) (N + 1) 100 gs.length).1 b = T.1 b := fun b hb => by rw [he_o (by omega), he_o (by omega)]
    have T67 : (hy_e (hy_e T N 101 gs.length) (N + 1) 100 gs.length).1 N = some (101, gs.length) := by rw [he_o (by omega)]; exact he_n _ _ _ _
    have T68 : (hy_e (hy_e T N 101 gs.length) (N + 1) 100 gs.length).1 (N + 1) = some (100, gs.length) := he_n _ _ _ _
    have T62 : (hy_e (hy_e T N 101 gs.length) (N + 1) 100 gs.length).2 = T.2 := rfl
    generalize hy_e (hy_e T N 101 gs.length) (N + 1) 100 gs.length = T6 at W6 T6p T67 T68 T62
    have N6 : ∀ b e, b < N → ¬ (b = a ∧ (e = 6 ∨ e = 7 ∨ e = 8)) → M6 b e = m b e := fun b e q1 q2 => by rw [zz_r _ _ (by omega) (by omega), z_r _ _ (by omega) (by omega)]
    obtain ⟨c1, c2, c3, c4, c5, c6, c7, c8⟩ := hC
    refine sp_39_156 (c := c) (k0 := k0) (k1 := k1) (k2 := k2) (k4 := k4) (k7 := N) (k8 := N + 1) (nv := v) (gs := gs) W6 ha14 (by rw [T6p 4 h4N]; exact hr) (by rw [T6p 11 (by omega)]; exact hr11) hg5 (fun M hM => ?_) (by rw [T6p _ hk4.1]; exact ht4) T67 T68 (by omega) (fun i hi => ?_) hgk (fun M hM hc7 hc8 => ?_)
    · have hMm : ∀ b e, b < N → ¬ (b = a ∧ (e = 6 ∨ e = 7 ∨ e = 8)) → M b e = m b e := fun b e q1 q2 => (hM b e (by omega) (by omega)).trans (N6 b e q1 q2)
      have hEq : cEq (m k0) (m k1) (m k2) (M k0) (M k1) (M k2) (fun z => 0 ≤ z ∧ z < c) := fun z _ => ⟨hMm _ _ hk0.1 (fun q => hk0.2 q.1), hMm _ _ hk1.1 (fun q => hk1.2 q.1), fun j _ _ => hMm _ _ hk2.1 (fun q => hk2.2 q.1)⟩
      refine ⟨⟨by rw [T6p _ haN]; exact c1, by rw [hMm _ _ haN (by omega)]; exact c2, by rw [T6p _ hk0.1]; exact c3, by rw [hMm _ _ haN (by omega)]; exact c4, by rw [T6p _ hk1.1]; exact c5, by rw [hMm _ _ haN (by omega)]; exact c6, by rw [T6p _ hk2.1]; exact c7, c8⟩, by rw [hMm _ _ h4N (by omega)]; exact h11, fun e => hM _ _ (by omega) (by omega), by rw [hMm _ _ haN (by omega)]; exact h4, ?_, ?_, fun i hi => ⟨?_, hM _ _ (by omega) (by omega)⟩⟩
      · rw [hM _ _ (by omega) (by omega), zz_r _ _ (by omega) (by omega)]; exact z_7
      · rw [hM _ _ (by omega) (by omega)]; exact zz_8
      · rw [hMm _ _ hk4.1 (fun q => hk4.2 q.1)]
        exact cP_eq hEq _ (-1) _ (fun q => by omega) (htr i hi)
    · rw [N6 _ _ (by omega) (by omega)]
      exact hmk i hi
    · refine hq T6 M T6p T62 W6 (fun b e q1 q2 => (hM b e (by omega) (by omega)).trans (N6 b e q1 q2)) ?_ ?_ ?_ T67 T68 hc7 hc8
      · rw [hM _ _ (by omega) (by omega), zz_r _ _ (by omega) (by omega)]; exact z_6
      · rw [hM _ _ (by omega) (by omega), zz_r _ _ (by omega) (by omega)]; exact z_7
      · rw [hM _ _ (by omega) (by omega)]; exact zz_8
  · refine ⟨show -2147483648 ≤ _ ∧ _ < 2147483648 by omega, show -2147483648 ≤ _ ∧ _ < 2147483648 by omega, hP _ _ _ ⟨rfl, v + 1, by omega, by omega, ?_⟩ ?_⟩
    · show _ = ((cnt1 o v + (if o v = 1 then 1 else 0) : Nat) : Int)
      rw [hu v (by omega)] at hne
      rw [if_neg (by omega)]
      omega
    · show 20 - _ < 20 - _
      omega
  · refine ⟨show -2147483648 ≤ _ ∧ _ < 2147483648 by omega, show -2147483648 ≤ _ ∧ _ < 2147483648 by omega, hP _ _ _ ⟨rfl, v + 1, by omega, by omega, ?_⟩ ?_⟩
    · show _ = ((cnt1 o v + (if o v = 1 then 1 else 0) : Nat) : Int)
      rw [hu v (by omega)] at heq
      rw [if_pos (by omega)]
      omega
    · show 20 - _ < 20 - _
      omega
set_option maxHeartbeats 4000000 in
theorem sp_39 {a c : Nat} {K : List (pE × Int)} {hd : Option pE} {gs : List pE} {nv : Nat} (hW : sWf T N) (hN : 14 ≤ N) (ha : T.1 a = some (3, 9)) (ha14 : 14 ≤ a) (hr : rRef T m) (hD : cDn m c K hd gs nv) (hc : c ≤ 127) (hk : kOK hd gs nv) (hq : ∀ (T' : hy_T) (m' : hy_m), (∀ b, b < N → T'.1 b = T.1 b) → T'.2 = T.2 → sWf T' (N + 6) → (∀ b e, b < N → b ≠ a → m' b e = m b e) → cCl T' m' (fun b => b = a ∨ (N ≤ b ∧ b < N + 6)) a hd gs nv → Q 0 (T', N + 6, U + c + c + 3 * c + gs.length + gs.length + gs.length, m')) : wq_39 (a : Int) 4 (T, N, U, m) Q := by
  obtain ⟨r1, r2, r3, r4, r5, r6, r7, t5, t6, t7, t8, t10, t11⟩ := hr
  obtain ⟨d1, d2, d3, d4, d5, d6, d7, d8, d9, d10, d11, d12, d13, d14⟩ := hD
  have haN : a < N := hW a _ ha
  have e4 : (4 : Int).toNat = 4 := rfl
  unfold wq_39
  dsimp only
  rw [e4, Int.toNat_natCast, r2, d2]
  refine ⟨by omega, r1, r1, ?_⟩
  -- kinds
  refine sp_305 (x := 5) (k := c) t5 hW (by omega) (by omega) (by decide) (fun m1 u1 v1 => ?_)
  have T1 : ∀ b, b ≠ N → (hy_e T N 100 c).1 b = T.1 b := fun b hb => he_o hb
  have W1 := sWf_e (t := 100) (n := c) hW
  dsimp only
  have g1 : ∀ b e, b ≠ N → ¬ (b = a ∧ e = 0) → hy_u m1 a 0 (N : Int) b e = m b e := fun b e q1 q2 => by rw [hy_uf q2]; exact u1 b e q1
  rw [g1 4 2 (by omega) (by omega), g1 4 4 (by omega) (by omega), r3, d2]
  refine ⟨by rw [T1 a (by omega)]; exact ha, by rw [T1 4 (by omega)]; exact r1, by rw [T1 4 (by omega)]; exact r1, ?_⟩
  have w1 : ∀ e : Int, 0 ≤ e → e < c → hy_u m1 a 0 (N : Int) N e = m 5 e := fun e q1 q2 => by rw [hy_ua (by omega)]; exact v1 e q1 q2
  have z0 : hy_u m1 a 0 (N : Int) a 0 = (N : Int) := hy_us _ _ _ _
  generalize hy_u m1 a 0 (N : Int) = M1 at g1 w1 z0
  -- keys
  refine sp_306 (x := 6) (k := c) (by rw [T1 6 (by omega)]; exact t6) W1 (by omega) (by omega) (by decide) (fun m2 u2 v2 => ?_)
  have T2 : ∀ b, b ≠ N → b ≠ N + 1 → (hy_e (hy_e T N 100 c) (N + 1) 101 c).1 b = T.1 b := fun b h1 h2 => (he_o h2).trans (T1 b h1)
  have W2 := sWf_e (t := 101) (n := c) W1
  dsimp only
  have g2 : ∀ b e, b ≠ N + 1 → ¬ (b = a ∧ e = 1) → hy_u m2 a 1 ((N + 1 : Nat) : Int) b e = M1 b e := fun b e q1 q2 => by rw [hy_uf q2]; exact u2 b e q1
  have w2 : ∀ e : Int, 0 ≤ e → e < c → hy_u m2 a 1 ((N + 1 : Nat) : Int) (N + 1) e = m 6 e := fun e q1 q2 => by rw [hy_ua (by omega), v2 e q1 q2]; exact g1 6 e (by omega) (by omega)
  have z1 : hy_u m2 a 1 ((N + 1 : Nat) : Int) a 1 = ((N + 1 : Nat) : Int) := hy_us _ _ _ _
  generalize hy_u m2 a 1 ((N + 1 : Nat) : Int) = M2 at g2 w2 z1
  rw [g2 4 3 (by omega) (by omega), g1 4 3 (by omega) (by omega), g2 4 4 (by omega) (by omega), g1 4 4 (by omega) (by omega), r4, d2, show (c : Int) * 3 = ((3 * c : Nat) : Int) by omega]
  refine ⟨by rw [T2 a (by omega) (by omega)]; exact ha, by rw [T2 4 (by omega) (by omega)]; exact r1, by rw [T2 4 (by omega) (by omega)]; exact r1, show -2147483648 ≤ _ ∧ _ < 2147483648 by omega, ?_⟩
  -- arguments
  refine sp_305 (x := 7) (k := 3 * c) (by rw [T2 7 (by omega) (by omega)]; exact t7) W2 (by omega) (by omega) (by decide) (fun m3 u3 v3 => ?_)
  have T3 : ∀ b, b < N → (hy_e (hy_e (hy_e T N 100 c) (N + 1) 101 c) (N + 1 + 1) 100 (3 * c)).1 b = T.1 b := fun b h1 => (he_o (by omega)).trans (T2 b (by omega) (by omega))
  have W3 := sWf_e (t := 100) (n := 3 * c) W2
  dsimp only
  have hd3 : hy_u m3 a 2 ((N + 1 + 1 : Nat) : Int) 4 5 = m 4 5 := by rw [hy_ua (by omega), u3 _ _ (by omega), g2 4 5 (by omega) (by omega), g1 4 5 (by omega) (by omega)]
  rw [hd3]
  have g3 : ∀ b e, b ≠ N + 1 + 1 → ¬ (b = a ∧ (e = 2 ∨ e = 3)) → hy_u (hy_u m3 a 2 ((N + 1 + 1 : Nat) : Int)) a 3 (m 4 5) b e = M2 b e := fun b e q1 q2 => by rw [hy_uf (by omega), hy_uf (by omega)]; exact u3 b e q1
  have w3 : ∀ e : Int, 0 ≤ e → e < ((3 * c : Nat) : Int) → hy_u (hy_u m3 a 2 ((N + 1 + 1 : Nat) : Int)) a 3 (m 4 5) (N + 1 + 1) e = m 7 e := fun e q1 q2 => by rw [hy_ua (by omega), hy_ua (by omega), v3 e q1 q2, g2 7 e (by omega) (by omega)]; exact g1 7 e (by omega) (by omega)
  have z2 : hy_u (hy_u m3 a 2 ((N + 1 + 1 : Nat) : Int)) a 3 (m 4 5) a 2 = ((N + 1 + 1 : Nat) : Int) := by rw [hy_uk (by decide), hy_us]
  have z3 : hy_u (hy_u m3 a 2 ((N + 1 + 1 : Nat) : Int)) a 3 (m 4 5) a 3 = m 4 5 := hy_us _ _ _ _
  generalize hy_u (hy_u m3 a 2 ((N + 1 + 1 : Nat) : Int)) a 3 (m 4 5) = M3 at g3 w3 z2 z3
  have M3o : ∀ b e, b < N → b ≠ a → M3 b e = m b e := fun b e q1 q2 => by rw [g3 b e (by omega) (by omega), g2 b e (by omega) (by omega), g1 b e (by omega) (by omega)]
  rw [M3o 4 6 (by omega) (by omega), M3o 4 7 (by omega) (by omega), r5, d5]
  refine ⟨by rw [T3 a (by omega)]; exact ha, by rw [T3 4 (by omega)]; exact r1, by rw [T3 a (by omega)]; exact ha, by rw [T3 4 (by omega)]; exact r1, by rw [T3 4 (by omega)]; exact r1, ?_⟩
  -- goals
  refine sp_305 (x := 8) (k := gs.length) (by rw [T3 8 (by omega)]; exact t8) W3 (by omega) d6 (by decide) (fun m4 u4 v4 => ?_)
  have T4 : ∀ b, b < N → (hy_e (hy_e (hy_e (hy_e T N 100 c) (N + 1) 101 c) (N + 1 + 1) 100 (3 * c)) (N + 1 + 1 + 1) 100 gs.length).1 b = T.1 b := fun b h1 => (he_o (by omega)).trans (T3 b h1)
  have W4 := sWf_e (t := 100) (n := gs.length) W3
  dsimp only
  have hv4 : hy_u m4 a 4 ((N + 1 + 1 + 1 : Nat) : Int) 4 10 = nv := by rw [hy_ua (by omega), u4 _ _ (by omega), M3o 4 10 (by omega) (by omega)]; exact d7
  rw [hv4]
  have g4 : ∀ b e, b ≠ N + 1 + 1 + 1 → ¬ (b = a ∧ (e = 4 ∨ e = 5)) → hy_u (hy_u m4 a 4 ((N + 1 + 1 + 1 : Nat) : Int)) a 5 (nv : Int) b e = M3 b e := fun b e q1 q2 => by rw [hy_uf (by omega), hy_uf (by omega)]; exact u4 b e q1
  have w4 : ∀ e : Int, 0 ≤ e → e < gs.length → hy_u (hy_u m4 a 4 ((N + 1 + 1 + 1 : Nat) : Int)) a 5 (nv : Int) (N + 1 + 1 + 1) e = m 8 e := fun e q1 q2 => by rw [hy_ua (by omega), hy_ua (by omega), v4 e q1 q2]; exact M3o 8 e (by omega) (by omega)
  have z4 : hy_u (hy_u m4 a 4 ((N + 1 + 1 + 1 : Nat) : Int)) a 5 (nv : Int) a 4 = ((N + 1 + 1 + 1 : Nat) : Int) := by rw [hy_uk (by decide), hy_us]
  have z5 : hy_u (hy_u m4 a 4 ((N + 1 + 1 + 1 : Nat) : Int)) a 5 (nv : Int) a 5 = nv := hy_us _ _ _ _
  generalize hy_u (hy_u m4 a 4 ((N + 1 + 1 + 1 : Nat) : Int)) a 5 (nv : Int) = M4 at g4 w4 z4 z5
  have M4o : ∀ b e, b < N → b ≠ a → M4 b e = m b e := fun b e q1 q2 => by rw [g4 b e (by omega) (by omega)]; exact M3o b e q1 q2
  refine ⟨by rw [T4 a (by omega)]; exact ha, by rw [T4 4 (by omega)]; exact r1, by rw [T4 a (by omega)]; exact ha, ?_⟩
  have TN0 : (hy_e (hy_e (hy_e (hy_e T N 100 c) (N + 1) 101 c) (N + 1 + 1) 100 (3 * c)) (N + 1 + 1 + 1) 100 gs.length).1 N = some (100, c) := by rw [he_o (by omega), he_o (by omega), he_o (by omega)]; exact he_n _ _ _ _
  have TN1 : (hy_e (hy_e (hy_e (hy_e T N 100 c) (N + 1) 101 c) (N + 1 + 1) 100 (3 * c)) (N + 1 + 1 + 1) 100 gs.length).1 (N + 1) = some (101, c) := by rw [he_o (by omega), he_o (by omega)]; exact he_n _ _ _ _
  have TN2 : (hy_e (hy_e (hy_e (hy_e T N 100 c) (N + 1) 101 c) (N + 1 + 1) 100 (3 * c)) (N + 1 + 1 + 1) 100 gs.length).1 (N + 1 + 1) = some (100, 3 * c) := by rw [he_o (by omega)]; exact he_n _ _ _ _
  have TN3 : (hy_e (hy_e (hy_e (hy_e T N 100 c) (N + 1) 101 c) (N + 1 + 1) 100 (3 * c)) (N + 1 + 1 + 1) 100 gs.length).1 (N + 1 + 1 + 1) = some (100, gs.length) := he_n _ _ _ _
  have T2' : (hy_e (hy_e (hy_e (hy_e T N 100 c) (N + 1) 101 c) (N + 1 + 1) 100 (3 * c)) (N + 1 + 1 + 1) 100 gs.length).2 = T.2 := rfl
  generalize hy_e (hy_e (hy_e (hy_e T N 100 c) (N + 1) 101 c) (N + 1 + 1) 100 (3 * c)) (N + 1 + 1 + 1) 100 gs.length = T' at T4 W4 TN0 TN1 TN2 TN3 T2'
  have row0 : ∀ e : Int, 0 ≤ e → e < c → M4 N e = m 5 e := fun e q1 q2 => by rw [g4 _ _ (by omega) (by omega), g3 _ _ (by omega) (by omega), g2 _ _ (by omega) (by omega)]; exact w1 e q1 q2
  have row1 : ∀ e : Int, 0 ≤ e → e < c → M4 (N + 1) e = m 6 e := fun e q1 q2 => by rw [g4 _ _ (by omega) (by omega), g3 _ _ (by omega) (by omega)]; exact w2 e q1 q2
  have row2 : ∀ e : Int, 0 ≤ e → e < ((3 * c : Nat) : Int) → M4 (N + 1 + 1) e = m 7 e := fun e q1 q2 => by rw [g4 _ _ (by omega) (by omega)]; exact w3 e q1 q2
  have y0 : M4 a 0 = N := by rw [g4 _ _ (by omega) (by omega), g3 _ _ (by omega) (by omega), g2 _ _ (by omega) (by omega)]; exact z0
  have y1 : M4 a 1 = ((N + 1 : Nat) : Int) := by rw [g4 _ _ (by omega) (by omega), g3 _ _ (by omega) (by omega)]; exact z1
  have y2 : M4 a 2 = ((N + 1 + 1 : Nat) : Int) := by rw [g4 _ _ (by omega) (by omega)]; exact z2
  have y3 : M4 a 3 = m 4 5 := by rw [g4 _ _ (by omega) (by omega)]; exact z3
  -- trees in the copies
  have hEq : cEq (m 5) (m 6) (m 7) (M4 N) (M4 (N + 1)) (M4 (N + 1 + 1)) (fun z => 0 ≤ z ∧ z < c) := fun z hz => ⟨row0 z hz.1 hz.2, row1 z hz.1 hz.2, fun j q1 q2 => row2 (3 * z + j) (by omega) (by omega)⟩
  have up : ∀ (t : pE) (n : Int), cT m (cA c []) t n → cQ M4 c N (N + 1) (N + 1 + 1) t n := fun t n ht => cP_eq hEq _ (-1) _ (fun q => by omega) (cP_mono (fun z hz => by rcases hz with hz | hz <;> omega) _ _ _ ht)
  have y4 : ∀ i, i < gs.length → M4 (N + 1 + 1 + 1) (i : Int) = m 8 (i : Int) := fun i hi => w4 _ (by omega) (by omega)
  have Ta : T'.1 a = some (3, 9) := by rw [T4 a haN]; exact ha
  have o4 := M4o 4
  have o10 := M4o 10
  have o11 := M4o 11
  have t4' := T4 4 (by omega)
  have t10' := T4 10 (by omega)
  have t11' := T4 11 (by omega)
  have ms := fun g hg => eMs_mem gs g hg
  have hk5 := hk.2.2.2.2
  clear row0 row1 row2 w1 w2 w3 w4 g1 g2 g3 g4 u1 u2 u3 u4 v1 v2 v3 v4 T1 T2 T3 W1 W2 W3 z0 z1 z2 M3o hv4 hd3
  refine sp_39_86 (k0 := N) (k1 := N + 1) (k2 := N + 1 + 1) (k4 := N + 1 + 1 + 1) (o := fun v => oH hd v + oL gs v) (nv := nv) (c := c) W4 ha14 (by omega) d8 (by rw [t4']; exact r1) (by rw [t10']; exact t10) (by rw [t11']; exact t11) d6 ⟨Ta, y0, TN0, y1, TN1, y2, TN2, hc⟩ (by omega) (by omega) (by omega) (by omega) z4 TN3 z5 (by rw [o4 9 (by omega) (by omega)]; exact r6) (by rw [o4 11 (by omega) (by omega)]; exact r7) (fun v hv => by rw [o10 v (by omega) (by omega)]; exact d12 v hv) (fun i hi => by rw [o11 i (by omega) (by omega)]; exact d14 i hi) (fun i hi => by rw [y4 i hi]; exact up _ _ (d4 _ (d11 i hi))) (fun g hg => gOK_c (hk.2.2.1 g hg) (by have := ms g hg; omega)) (fun T6 M6 s1 s2 s3 s4 s5 s6 s7 s8 s9 s10 s11 => ?_)
  have M6a : ∀ e : Int, e ≠ 6 → e ≠ 7 → e ≠ 8 → M6 a e = M4 a e := fun e q1 q2 q3 => s4 a e (by omega) (by omega)
  have M6o : ∀ b e, b < N + 4 → b ≠ a → M6 b e = M4 b e := fun b e q1 q2 => s4 b e (by omega) (fun q => q2 q.1)
  have hE6 : cEq (M4 N) (M4 (N + 1)) (M4 (N + 1 + 1)) (M6 N) (M6 (N + 1)) (M6 (N + 1 + 1)) (fun z => 0 ≤ z ∧ z < c) := fun z _ => ⟨M6o _ _ (by omega) (by omega), M6o _ _ (by omega) (by omega), fun j _ _ => M6o _ _ (by omega) (by omega)⟩
  have up6 : ∀ (t : pE) (n : Int), cT m (cA c []) t n → cQ M6 c N (N + 1) (N + 1 + 1) t n := fun t n ht => cP_eq hE6 _ (-1) _ (fun q => by omega) (up t n ht)
  refine hq T6 M6 (fun b hb => (s1 b (by omega)).trans (T4 b hb)) (s2.trans T2') s3 (fun b e q1 q2 => by rw [M6o b e (by omega) q2]; exact M4o b e q1 q2) ⟨c, N, N + 1, N + 1 + 1, N + 1 + 1 + 1, N + 1 + 1 + 1 + 1, N + 1 + 1 + 1 + 1 + 1, ⟨by rw [s1 a (by omega)]; exact Ta, by rw [M6a 0 (by decide) (by decide) (by decide)]; exact y0, by rw [s1 _ (by omega)]; exact TN0, by rw [M6a 1 (by decide) (by decide) (by decide)]; exact y1, by rw [s1 _ (by omega)]; exact TN1, by rw [M6a 2 (by decide) (by decide) (by decide)]; exact y2, by rw [s1 _ (by omega)]; exact TN2, hc⟩, d3, by rw [M6a 4 (by decide) (by decide) (by decide)]; exact z4, by rw [s1 _ (by omega)]; exact TN3, s6, s8, s7, s9, fun i q1 q2 => ?_, fun t e => ?_, fun e => ?_, fun i hi => ?_, ?_, s5, s10, s11, Or.inl rfl, Or.inr (by omega), Or.inr (by omega), Or.inr (by omega), Or.inr (by omega), Or.inr (by omega), Or.inr (by omega)⟩
  · rw [M6o _ _ (by omega) (by omega), (hEq i ⟨q1, by omega⟩).1]; exact d1 i q1 q2
  · rw [M6a 3 (by decide) (by decide) (by decide), y3]; exact up6 _ _ (d4 _ (d9 t e))
  · rw [M6a 3 (by decide) (by decide) (by decide), y3]; exact d10 e
  · rw [M6o _ _ (by omega) (by omega), y4 i hi]; exact up6 _ _ (d4 _ (d11 i hi))
  · rw [M6a 5 (by decide) (by decide) (by decide)]; exact z5
end CN
