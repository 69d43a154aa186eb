/-! THE MODEL'S ARITHMETIC: evaluates, the whole -/
section MEW
variable {G : Nat → Nat → Prop} {m m0 m' : hy_m} {Q : Int → hy_m → Prop} {P : Int → Int → hy_m → Prop} {D : Nat → Prop} {B : bM} {s : Nat → pE} {x y : Int} {t : pE} {K : Nat}
/-- a term that was followed -/
theorem evA (hP : ∀ x3 x4 m, wf_251_22 Q P x3 x4 m → P x3 x4 m) (hg : gC G m0) (hW : mAW G m0) (hB : mBd G m0 D B) (hR : Res B s) (hF : mFo G m0 D B y t) (IH : ∀ t' y', mTm G m0 y' t' → (∀ w, vIn w t' → D w) → sz (sb s t') < sz (sb s t) → eGo G s m0 K Q P 1 t' y') : eGo G s m0 K Q P 0 t y := by
  intro many n m pc pv hS h112 h1 h2 n1 n2 hp hv hk h0
  obtain ⟨b1, b2⟩ := eBd hW h1 h2 n1 n2 hp hv
  have ht := hF.1
  have ht' := eFm_T hS.1 ht
  apply hP
  unfold wf_251_22
  rw [show (many : Int) + 1 + -1 = many by omega, h112]
  refine ⟨fun q => by omega, fun _ => ⟨by omega, by omega, ?_⟩⟩
  have go : hy_r 0 (many : Int) ∧ wq_251_205 P (many : Int) (n : Int) y (-9) m Q := ⟨show -2147483648 ≤ _ ∧ _ < 2147483648 by omega, ev205 hP hg hW hB hR ht hF.2.1 IH hS h1 h2 n1 n2 hp hv hk h0⟩
  refine sp_250t ht' (Or.inl rfl) ⟨fun _ => ?_, fun q => absurd rfl q⟩
  rcases hF.2.2 with ⟨w, rfl, rfl, -, hw⟩ | ⟨hnv, -⟩
  · exact sp_241F hw (sp_250t ht' (Or.inr (Or.inl rfl)) ⟨fun _ => sp_250t ht' (Or.inr (Or.inr rfl)) ⟨fun _ => ⟨fun _ => go, fun q => absurd rfl q⟩, fun q => absurd rfl q⟩, fun q => absurd rfl q⟩)
  · exact sp_241 ht' (fun w e => absurd e (hnv w)) (fun _ => sp_250t ht' (Or.inr (Or.inl rfl)) ⟨fun _ => sp_250t ht' (Or.inr (Or.inr rfl)) ⟨fun _ => ⟨fun _ => go, fun q => absurd rfl q⟩, fun q => absurd rfl q⟩, fun q => absurd rfl q⟩)
theorem mFo_fr (h : eFm m0 m) (hF : mFo G m D B y t) : mFo G m0 D B y t := ⟨eFm_T' h hF.1, hF.2⟩
/-- any term -/
theorem evM (hP : ∀ x3 x4 m, wf_251_22 Q P x3 x4 m → P x3 x4 m) (hg : gC G m0) (hW : mAW G m0) (hB : mBd G m0 D B) (hR : Res B s) (h64 : m0 74 64 = iW (K : Nat)) : ∀ (z : Nat) (t : pE) (y : Int), sz (sb s t) ≤ z → mTm G m0 y t → (∀ w, vIn w t → D w) → eGo G s m0 K Q P 1 t y := by
  intro z
  induction z with
  | zero =>
    intro t y hz
    have := sz_pos (sb s t)
    omega
  | succ z ih =>
    intro t y hz ht hD many n m pc pv hS h112 h1 h2 n1 n2 hp hv hk h0
    have IH : ∀ (u : pE), sz (sb s u) = sz (sb s t) → ∀ t' y', mTm G m0 y' t' → (∀ w, vIn w t' → D w) → sz (sb s t') < sz (sb s u) → eGo G s m0 K Q P 1 t' y' := fun u hu t' y' a1 a2 a3 => ih t' y' (by omega) a1 a2
    obtain ⟨b1, b2⟩ := eBd hW h1 h2 n1 n2 hp hv
    have ht' := eFm_T hS.1 ht
    have hv0 : ∀ w ∈ pv, w < 2500 ∧ sz (sb s t) + 0 ≤ sz (s w) := fun w hw => ⟨(hv w hw).1, by have := (hv w hw).2; omega⟩
    have e64 : m 74 64 = iW (K : Nat) := by
      rw [hS.1 74 64 (by decide) (by decide) (by decide) (by decide)]
      exact h64
    apply hP
    unfold wf_251_22
    rw [show (many : Int) + 1 + -1 = many by omega, h112]
    refine ⟨fun q => by omega, fun _ => ⟨by omega, by omega, ?_⟩⟩
    refine sp_250t ht' (Or.inl rfl) ⟨fun _ => sp_241 ht' (fun w e hw => ?_) (fun _ => ?_), fun q => absurd rfl q⟩
    · subst e
      refine sp_250t ht' (Or.inr (Or.inl rfl)) ⟨fun _ => sp_250t ht' (Or.inr (Or.inr rfl)) ⟨fun _ => ⟨fun q => by omega, fun _ => ⟨by omega, by omega, fun q => ⟨show -2147483648 ≤ _ ∧ _ < 2147483648 by omega, ?_⟩, fun q => ⟨by omega, by omega, by omega, by omega, show -2147483648 ≤ _ ∧ _ < 2147483648 by omega, show -2147483648 ≤ _ ∧ _ < 2147483648 by omega, ?_⟩⟩⟩, fun q => absurd rfl q⟩, fun q => absurd rfl q⟩
      · unfold wq_251_205
        rw [jO_K hw]
        refine ⟨fun q => by omega, fun _ => ⟨by omega, by omega, ?_⟩⟩
        have hS1 : eSt s m0 K (hy_u m 112 (many : Int) (mKp w)) := eSt_112 hS
        refine sp_237 (eFm_B hS1.1 hB) hR (eFm_T hS1.1 ht) hD (fun y2 t2 hF hsb => ⟨by omega, by omega, show -2147483648 ≤ _ ∧ _ < 2147483648 by omega, ?_⟩)
        have hst : sb s (.var w) = sb s t2 := hsb s hR.sol
        have hsw : s w = sb s t2 := hst
        have hS2 : eSt s m0 K (hy_u (hy_u m 112 (many : Int) (mKp w)) 112 ((many : Int) + 1) y2) := eSt_112 hS1
        have hnin : w ∉ pv := fun hin => by
          have := (hv w hin).2
          have : sz (s w) + 1 ≤ sz (s w) := this
          omega
        have hlc : (w :: pv).length = pv.length + 1 := List.length_cons
        rw [show (many : Int) + 2 = ((many + 1 : Nat) : Int) + 1 by omega]
        refine evA hP hg hW hB hR (mFo_fr hS1.1 hF) (IH t2 (by rw [hst])) (many + 1) n _ pc (w :: pv) hS2 ?_ (by omega) h2 n1 (List.nodup_cons.mpr ⟨hnin, n2⟩) (fun c hc => ?_) (fun w' hw' => ?_) (fun x1 m5 ex hS5 f5 g5 e5 => ?_) (fun en m5 hS5 => h0 (by rw [hst]; exact en) m5 hS5)
        · rw [show ((many + 1 : Nat) : Int) = (many : Int) + 1 by omega, hy_us]
        · obtain ⟨k, b, c1, c2, c3⟩ := hp c hc
          exact ⟨k, b, c1, c2, by rw [← hst]; exact c3⟩
        · rcases List.mem_cons.mp hw' with rfl | hw'
          · exact ⟨hw, by rw [hsw]; exact Nat.le_refl _⟩
          · refine ⟨(hv w' hw').1, ?_⟩
            rw [← hst]
            exact (hv0 w' hw').2
        · rw [show ((many + 1 : Nat) : Int) = (many : Int) + 1 by omega] at *
          refine eKe hP (by omega) (by omega) hw ?_ ?_
          · rw [f5 _ (by omega) (by omega), hy_uk (by omega), hy_us]
          · have e645 : m5 74 64 = iW (K : Nat) := by
              rw [hS5.1 74 64 (by decide) (by decide) (by decide) (by decide)]
              exact h64
            rw [e645, e5]
            have exw : ev0 (s w) = some x1 := by
              rw [hsw]
              exact ex
            refine hk x1 _ exw ⟨fun a e q1 q2 q3 q4 => ?_, fun w' hw' => ?_, fun w' hw' hl => ?_⟩ (fun i i1 i2 => ?_) (fun i i1 i2 => ?_) ?_
            · rw [hy_ua q2, hy_ua q3]
              exact hS5.1 a e q1 q2 q3 q4
            · by_cases c : (w' : Int) = (w : Int)
              · rw [c, hy_us]
                exact ⟨K, Nat.le_refl _, rfl⟩
              · rw [hy_uk c, hy_ua (by decide)]
                exact hS5.2.1 w' hw'
            · by_cases c : (w' : Int) = (w : Int)
              · have c' : w' = w := by omega
                subst c'
                refine ⟨x1, exw, ?_⟩
                rw [hy_ua (by decide), hy_us]
              · rw [hy_uk c, hy_ua (by decide)] at hl
                rw [hy_ua (by decide), hy_uk c]
                exact hS5.2.2 w' hw' hl
            · rw [hy_ua (by decide), hy_ua (by decide), f5 i i1 (by omega), hy_uk (by omega), hy_uk (by omega)]
            · rw [hy_ua (by decide), hy_ua (by decide), g5 i i1 i2, hy_ua (by decide), hy_ua (by decide)]
            · rw [hy_ua (by decide), hy_ua (by decide)]
              exact e5
      · rw [e64] at q
        obtain ⟨x1, ex, ev⟩ := hS.2.2 w hw q
        rw [ev]
        exact hk x1 _ ex (eSt_116 hS) (fun i i1 i2 => hy_ua (by decide)) (fun i i1 i2 => hy_uk (by omega)) (hy_us ..)
    · exact sp_250t ht' (Or.inr (Or.inl rfl)) ⟨fun _ => sp_250t ht' (Or.inr (Or.inr rfl)) ⟨fun _ => ⟨fun _ => ⟨show -2147483648 ≤ _ ∧ _ < 2147483648 by omega, ev205 hP hg hW hB hR ht hD (IH t rfl) hS h1 h2 n1 n2 hp hv0 hk h0⟩, fun q => absurd rfl q⟩, fun q => absurd rfl q⟩, fun q => absurd rfl q⟩
/-- evaluates -/
theorem sp_251 {k : Nat} (hg : gC G m) (hW : mAW G m) (hB : mBd G m D B) (hR : Res B s) (ht : mTm G m y t) (hD : ∀ w, vIn w t → D w) (hr : rOK m k) (hk : k + 1 < 4294967295) (h1 : ∀ x m', ev0 (sb s t) = some x → (∀ (a : Nat) (e : Int), a ≠ 112 → a ≠ 113 → a ≠ 114 → a ≠ 116 → ¬ (a = 74 ∧ (e = 64 ∨ e = 68)) → m' a e = m a e) → rOK m' (k + 1) → m' 74 68 = x → Q 1 m') (h0 : ∀ m', ev0 (sb s t) = none → (∀ (a : Nat) (e : Int), a ≠ 112 → a ≠ 113 → a ≠ 114 → a ≠ 116 → ¬ (a = 74 ∧ (e = 64 ∨ e = 68)) → m' a e = m a e) → rOK m' (k + 1) → Q 0 m') : wq_251 y m Q := by
  obtain ⟨r1, r2, r3⟩ := hr
  unfold wq_251
  rw [r1, iW_s]
  refine ⟨by decide, by decide, ?_⟩
  generalize hmm : hy_u (hy_u m 112 0 y) 74 64 (iW ((k + 1 : Nat) : Int)) = m0
  have f0 : ∀ (a : Nat) (e : Int), a ≠ 112 → ¬ (a = 74 ∧ e = 64) → m0 a e = m a e := fun a e q1 q2 => by
    rw [← hmm, hy_uf q2, hy_ua q1]
  have f64 : m0 74 64 = iW ((k + 1 : Nat) : Int) := by
    rw [← hmm, hy_us]
  have f112 : m0 112 0 = y := by
    rw [← hmm, hy_ua (by decide), hy_us]
  clear hmm
  intro P hP
  have hg0 : gC G m0 := fun n p j hG hj => by
    rw [f0 78 _ (by decide) (by omega)] at hj
    rw [f0 79 _ (by decide) (by omega)]
    exact hg n p j hG hj
  have tT : ∀ {x t}, mTm G m0 x t → mTm G m x t := fun h => mTm_fr h (fun a e q => (f0 a e (by omega) (by omega)).symm)
  have hW0 : mAW G m0 := fun L n1 h => hW L n1 (fun c hc => by
    obtain ⟨k', b, q1, q2⟩ := h c hc
    exact ⟨k', b, tT q1, q2⟩)
  have hB0 : mBd G m0 D B := mBd_fr hB (fun a e q => f0 a e (by omega) (by omega))
  have ht0 : mTm G m0 y t := mTm_fr ht (fun a e q => f0 a e (by omega) (by omega))
  have hS : eSt s m0 (k + 1) m0 := by
    refine ⟨fun _ _ _ _ _ _ => rfl, fun w hw => ?_, fun w hw hl => ?_⟩
    · obtain ⟨j, j1, j2⟩ := r3 w hw
      exact ⟨j, by omega, by rw [f0 113 _ (by decide) (by omega)]; exact j2⟩
    · obtain ⟨j, j1, j2⟩ := r3 w hw
      rw [f0 113 _ (by decide) (by omega), j2] at hl
      have := iW_inj (by omega) (by omega) hl
      omega
  have fin : ∀ m', eSt s m0 (k + 1) m' → ∀ (a : Nat) (e : Int), a ≠ 112 → a ≠ 113 → a ≠ 114 → a ≠ 116 → ¬ (a = 74 ∧ (e = 64 ∨ e = 68)) → m' a e = m a e := fun m' hS' a e q1 q2 q3 q4 q5 => by
    rw [hS'.1 a e q1 q2 q3 q4, f0 a e q1 (by omega)]
  have e64 : ∀ m', eSt s m0 (k + 1) m' → m' 74 64 = iW ((k + 1 : Nat) : Int) := fun m' hS' => by
    rw [hS'.1 74 64 (by decide) (by decide) (by decide) (by decide)]
    exact f64
  have go := evM (K := k + 1) hP hg0 hW0 hB0 hR f64 (sz (sb s t)) t y (Nat.le_refl _) ht0 hD 0 0 m0 [] [] hS f112 (Nat.zero_le _) (Nat.zero_le _) List.nodup_nil List.nodup_nil (fun c hc => absurd hc (List.not_mem_nil)) (fun c hc => absurd hc (List.not_mem_nil)) (fun x1 m5 ex hS5 f5 g5 e5 => ?_) (fun en m5 hS5 => h0 m5 en (fin m5 hS5) ⟨e64 m5 hS5, by omega, hS5.2.1⟩)
  · exact go
  · apply hP
    unfold wf_251_22
    refine ⟨fun _ => ⟨by decide, by decide, ?_⟩, fun q => absurd q (by decide)⟩
    have e5 : m5 116 0 = x1 := e5
    rw [e5]
    refine h1 x1 _ ex (fun a e q1 q2 q3 q4 q5 => ?_) ⟨?_, by omega, fun v hv => ?_⟩ (hy_us ..)
    · rw [hy_uf (by omega)]
      exact fin m5 hS5 a e q1 q2 q3 q4 q5
    · rw [hy_uk (by decide)]
      exact e64 m5 hS5
    · rw [hy_ua (by decide)]
      exact hS5.2.1 v hv
end MEW
