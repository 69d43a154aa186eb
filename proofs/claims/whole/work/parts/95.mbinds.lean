/-! BINDSBOTH, ISSIMILAR, ISPAIRKNOWN -/
section BB
variable {G : Nat → Nat → Prop} {m : hy_m} {Q : Int → hy_m → Prop} {D : Nat → Prop} {B : bM} {s : Nat → pE} {W k : Nat}
/-- what looking changes -/
def oFr (m m' : hy_m) : Prop := ∀ (a : Nat) (e : Int), a ≠ 112 → a ≠ 113 → ¬ (a = 74 ∧ e = 64) → m' a e = m a e
theorem rOK_le {j : Nat} (h : rOK m k) (hj : k ≤ j) (hj2 : j < 4294967295) (e : m 74 64 = iW (j : Int)) : rOK m j := by
  refine ⟨e, hj2, fun v hv => ?_⟩
  obtain ⟨i, h1, h2⟩ := h.2.2 v hv
  exact ⟨i, by omega, h2⟩
theorem mTm_nadd {x : Int} {a r : pE} (h : mTm G m x (.add a r)) : False := by
  rcases h with ⟨v, hv, -, e⟩ | ⟨i, hi, -, e⟩ | ⟨n, p, nv, u, -, hn, hnv, hp, hr, hk, e, hG⟩
  · cases e
  · cases e
  · cases u with
    | add a' r' => exact absurd hk.1 (by decide)
    | var v => cases e
    | num i => cases e
    | mulL k' a' => cases e
    | sub a' r' => cases e
    | neg a' => cases e
    | mulR a' k' => cases e
def eBad : pE → Prop
  | .sub _ _ => True
  | .neg _ => True
  | .mulR _ _ => True
  | _ => False
theorem mTm_nsub {x : Int} {t : pE} (h : mTm G m x t) (hb : eBad t) : False := by
  rcases h with ⟨v, hv, -, rfl⟩ | ⟨i, hi, -, rfl⟩ | ⟨n, p, nv, u, -, hn, hnv, hp, hr, hk, rfl, hG⟩
  · exact hb
  · exact hb
  · cases u with
    | add a' r' => exact absurd hk.1 (by decide)
    | var v => exact hb
    | num i => exact hb
    | mulL k' a' => exact hb
    | sub a' r' => exact hk.elim
    | neg a' => exact hk.elim
    | mulR a' k' => exact hk.elim
/-- a term that is no compound and no variable holds no variable -/
theorem plain_no {x : Int} {t : pE} (h : mTm G m x t) (hn : ∀ w : Nat, t ≠ .var w) (h4 : eKd t ≠ 4) (w : Nat) : ¬ vIn w (sb s t) := by
  cases t with
  | var w' => exact absurd rfl (hn w')
  | num i => exact fun hv => hv
  | mulL kk b =>
    intro hv
    have hl := (mTm_L h).1
    have h0 : eN b = 0 := by
      by_cases q : eN b = 0
      · exact q
      · exact absurd (show eKd (.mulL kk b) = 4 from if_neg q) h4
    obtain ⟨i, hi, -⟩ := (ar_in s w b hl).mp hv
    omega
  | add a r => exact (mTm_nadd h).elim
  | sub a r => exact fun hv => hv
  | neg a => exact fun hv => hv
  | mulR a k' => exact fun hv => hv
theorem sp_244 {x1 x3 : Int} {t1 t2 : pE} (hg : gC G m) (hW : mGW G m W) (hW3 : W ≤ 20000) (hB : mBd G m D B) (hR : Res B s) (hr : rOK m k) (hk : k + 1 < 4294967295) (hc : m 74 59 ≤ 700) (ht : 0 ≤ m 74 44 ∧ m 74 44 < 2500) (h1 : mFo G m D B x1 t1) (h2 : mFo G m D B x3 t2) (hfree : (∃ w : Nat, t1 = .var w) ∨ ∃ w : Nat, t2 = .var w) (hq1 : t1 = t2 → Q 1 m) (hq2 : ∀ (w : Nat) (y : Int) (t : pE) (m2 : hy_m), B w = none → D w → w < 2500 → mTm G m2 y t → (∀ z, vIn z t → D z) → ¬ vIn w (sb s t) → (∀ z : Nat, t = .var z → z < w) → ((t1 = .var w ∧ t2 = t) ∨ (t2 = .var w ∧ t1 = t)) → oFr m m2 → (rOK m2 k ∨ rOK m2 (k + 1)) → Q 1 (mBi m2 w y)) (hq0 : ∀ m2 : hy_m, oFr m m2 → rOK m2 (k + 1) → (∀ v, Sol B v → sb v t1 ≠ sb v t2) → Q 0 m2) : wq_244 x1 x3 m Q := by
  have oref : oFr m m := fun _ _ _ _ _ => rfl
  -- a free variable and a term that isn't free
  have one : ∀ (w : Nat) (y : Int) (t : pE), B w = none → D w → w < 2500 → mFo G m D B y t → (∀ z : Nat, t ≠ .var z) → ((t1 = .var w ∧ t2 = t) ∨ (t2 = .var w ∧ t1 = t)) → wq_238 y m (fun r m3 => (r ≠ 4 → wq_240 (mF w) y m3 (fun _ m4 => Q 1 m4)) ∧ (r = 4 → wq_243 (mF w) y m3 (fun r5 m5 => (r5 = 0 → wq_240 (mF w) y m5 (fun _ m6 => Q 1 m6)) ∧ (r5 ≠ 0 → Q 0 m5)))) := by
    intro w y t hw hDw hw5 hy hn hcase
    refine sp_238 hy.1 ⟨fun n4 => sp_240 hw5 hc ht (hq2 w y t m hw hDw hw5 hy.1 hy.2.1 (plain_no hy.1 hn n4 w) (fun z e => absurd e (hn z)) hcase oref (Or.inl hr)), fun k4 => sp_243 hg hW hW3 hB hR hy.1 hy.2.1 hw hw5 hr hk (fun m5 hf hr5 => ⟨fun hv => ⟨fun q => absurd q (by decide), fun _ => hq0 m5 hf hr5 (fun v hv2 e => ?_)⟩, fun hv => ⟨fun _ => sp_240 hw5 (by rw [hf _ _ (by decide) (by decide) (by decide)]; exact hc) (by rw [hf _ _ (by decide) (by decide) (by decide)]; exact ht) (hq2 w y t m5 hw hDw hw5 (mTm_fr hy.1 (fun a e q => hf a e (by omega) (by omega) (by omega))) hy.2.1 hv (fun z e => absurd e (hn z)) hcase hf (Or.inr hr5)), fun q => absurd rfl q⟩⟩)⟩
    -- a solution would have to contain itself
    have e2 : v w = sb v t := by
      rcases hcase with ⟨c1, c2⟩ | ⟨c1, c2⟩
      · rw [c1, c2] at e
        exact e
      · rw [c1, c2] at e
        exact e.symm
    have e3 : v w = sb v (sb s t) := by rw [hR.thruT hv2]; exact e2
    refine no_loop (v := v) hv (fun z e => ?_) e3
    cases t with
    | var z' => exact hn z' rfl
    | num i => cases e
    | mulL kk b => cases e
    | add a r => cases e
    | sub a r => cases e
    | neg a => cases e
    | mulR a k' => cases e
  obtain ⟨a1, a2, a3⟩ := h1
  obtain ⟨b1, b2, b3⟩ := h2
  unfold wq_244
  refine ⟨fun hne => ?_, fun he => ?_⟩
  · rcases a3 with ⟨w1, rfl, rfl, w1f, w15⟩ | ⟨n1, f1⟩
    · rcases b3 with ⟨w2, rfl, rfl, w2f, w25⟩ | ⟨n2, f2⟩
      · have D1 := a2 w1 rfl
        have D2 := b2 w2 rfl
        have hw12 : w1 ≠ w2 := fun e => hne (by rw [e])
        have vin : ∀ z z' : Nat, z ≠ z' → B z' = none → ¬ vIn z (sb s (.var z')) := by
          intro z z' hz hb hv
          have hv : vIn z (s z') := hv
          rw [(hR z').1 hb] at hv
          have hv : z' = z := hv
          exact hz hv.symm
        refine sp_230F w15 ⟨fun q => absurd q (by decide), fun _ => sp_230F w25 ⟨fun q => absurd q (by decide), fun _ => ?_⟩⟩
        rw [jA_F w15, jA_F w25]
        refine ⟨fun hle => ⟨fun _ => ⟨fun _ => sp_240 w25 hc ht (hq2 w2 (mF w1) (.var w1) m w2f D2 w25 a1 a2 (vin w2 w1 (Ne.symm hw12) w1f) (fun z e => ?_) (Or.inr ⟨rfl, rfl⟩) oref (Or.inl hr)), fun q => absurd rfl q⟩, fun q => absurd rfl q⟩, fun hlt => ⟨fun q => absurd q (by decide), fun _ => ⟨fun q => absurd q (by decide), fun _ => sp_240 w15 hc ht (hq2 w1 (mF w2) (.var w2) m w1f D1 w15 b1 b2 (vin w1 w2 hw12 w2f) (fun z e => ?_) (Or.inl ⟨rfl, rfl⟩) oref (Or.inl hr))⟩⟩⟩
        · injection e with e
          have e : w1 = z := e
          omega
        · injection e with e
          have e : w2 = z := e
          omega
      · refine sp_230F w15 ⟨fun q => absurd q (by decide), fun _ => sp_230 b1 (fun v hv e _ => absurd e (f2 v hv)) (fun _ => ⟨fun _ => ?_, fun q => absurd rfl q⟩)⟩
        unfold wq_244_69
        exact sp_230F w15 ⟨fun q => absurd q (by decide), fun _ => sp_230F w15 ⟨fun q => absurd q (by decide), fun _ => one w1 x3 t2 w1f (a2 w1 rfl) w15 ⟨b1, b2, Or.inr ⟨n2, f2⟩⟩ n2 (Or.inl ⟨rfl, rfl⟩)⟩⟩
    · rcases b3 with ⟨w2, rfl, rfl, w2f, w25⟩ | ⟨n2, f2⟩
      · refine sp_230 a1 (fun v hv e _ => absurd e (f1 v hv)) (fun _ => ⟨fun _ => ?_, fun q => absurd rfl q⟩)
        unfold wq_244_69
        exact sp_230 a1 (fun v hv e _ => absurd e (f1 v hv)) (fun _ => ⟨fun _ => sp_230 a1 (fun v hv e _ => absurd e (f1 v hv)) (fun _ => ⟨fun _ => one w2 x1 t1 w2f (b2 w2 rfl) w25 ⟨a1, a2, Or.inr ⟨n1, f1⟩⟩ n1 (Or.inr ⟨rfl, rfl⟩), fun q => absurd rfl q⟩), fun q => absurd rfl q⟩)
      · rcases hfree with ⟨w, e⟩ | ⟨w, e⟩
        · exact absurd e (n1 w)
        · exact absurd e (n2 w)
  · subst he
    exact hq1 (mTm_one a1 b1)
/-- two terms that are no variables: the same kind, name and number of arguments, or the same integer -/
def eSim : pE → pE → Prop
  | .num i, .num j => i = j
  | .mulL k a, .mulL k' a' => k = k' ∧ eN a = eN a'
  | _, _ => False
theorem mTm_mul {x : Int} {kk : Int} {b : pE} (h : mTm G m x (.mulL kk b)) : ∃ n p : Nat, x = mQ n p ∧ n < 3584 ∧ m 77 (n : Int) = kk ∧ m 78 (n : Int) = eN b := by
  rcases h with ⟨v, hv, rfl, e⟩ | ⟨i, hi, rfl, e⟩ | ⟨n, p, nv, u, rfl, hn, hnv, hp, hr, hk, e, hG⟩
  · cases e
  · cases e
  · cases u with
    | mulL k' a =>
      have e : (.mulL kk b : pE) = .mulL k' (sb (fun v => .var (p + v)) a) := e
      injection e with e1 e2
      refine ⟨n, p, rfl, hn, ?_, ?_⟩
      · rw [hr.2.2.1, e1]
      · rw [hr.2.2.2.1, e2, eN_sb _ a nv hk.2.2.2.2.2]
    | var v => cases e
    | num i => cases e
    | add a r => cases e
    | sub a r => cases e
    | neg a => cases e
    | mulR a k => cases e
theorem mTm_num {x : Int} {i : Int} (h : mTm G m x (.num i)) : hy_r 0 i := by
  rcases h with ⟨v, hv, rfl, e⟩ | ⟨j, hj, rfl, e⟩ | ⟨n, p, nv, u, rfl, hn, hnv, hp, hr, hk, e, hG⟩
  · cases e
  · cases e
    exact hj
  · cases u with
    | num j =>
      cases e
      have hk : 0 ≤ i ∧ i < 1000000 := hk
      show -2147483648 ≤ _ ∧ _ < 2147483648
      omega
    | var v => cases e
    | mulL k' a => cases e
    | add a r => cases e
    | sub a r => cases e
    | neg a => cases e
    | mulR a k => cases e
theorem sp_245 {x1 x3 : Int} {t1 t2 : pE} (h1 : mTm G m x1 t1) (h2 : mTm G m x3 t2) (n1 : ∀ w : Nat, t1 ≠ .var w) (n2 : ∀ w : Nat, t2 ≠ .var w) (hy : eSim t1 t2 → Q 1 m) (hn : ¬ eSim t1 t2 → Q 0 m) : wq_245 x1 x3 m Q := by
  unfold wq_245
  refine sp_238 h1 (sp_238 h2 ?_)
  cases t1 with
  | num i =>
    cases t2 with
    | num j =>
      refine ⟨fun _ => ⟨fun q => absurd rfl q, fun _ => sp_239 h1 (mTm_num h1) (sp_239 h2 (mTm_num h2) ⟨fun hne => hn hne, fun he => hy he⟩)⟩, fun q => absurd rfl q⟩
    | mulL k a =>
      refine ⟨fun q => ?_, fun _ => hn (fun q => q)⟩
      have q : (2 : Int) = if eN a = 0 then 3 else 4 := q
      split at q <;> omega
    | var w => exact absurd rfl (n2 w)
    | add a r => exact (mTm_nadd h2).elim
    | sub a r => exact ⟨fun q => absurd (show (2 : Int) = 0 from q) (by decide), fun _ => hn (fun q => q)⟩
    | neg a => exact ⟨fun q => absurd (show (2 : Int) = 0 from q) (by decide), fun _ => hn (fun q => q)⟩
    | mulR a k => exact ⟨fun q => absurd (show (2 : Int) = 0 from q) (by decide), fun _ => hn (fun q => q)⟩
  | mulL k a =>
    cases t2 with
    | mulL k' a' =>
      obtain ⟨n, p, rfl, e1, e2, e3⟩ := mTm_mul h1
      obtain ⟨n', p', rfl, e1', e2', e3'⟩ := mTm_mul h2
      refine ⟨fun hkd => ⟨fun _ => ?_, fun q => ?_⟩, fun hkd => hn (fun q => hkd ?_)⟩
      · refine sp_232Q e1 ⟨by omega, by omega, sp_232Q e1' ⟨by omega, by omega, ?_⟩⟩
        rw [e2, e2']
        refine ⟨fun hne => hn (fun q => hne q.1), fun he => sp_232Q e1 ⟨by omega, by omega, sp_232Q e1' ⟨by omega, by omega, ?_⟩⟩⟩
        rw [e3, e3']
        exact ⟨fun hne => hn (fun q => hne (by rw [q.2])), fun hee => hy ⟨he, by omega⟩⟩
      · have q : (if eN a = 0 then (3 : Int) else 4) = 2 := q
        split at q <;> omega
      · show (if eN a = 0 then (3 : Int) else 4) = if eN a' = 0 then 3 else 4
        rw [q.2]
    | num j =>
      refine ⟨fun q => ?_, fun _ => hn (fun q => q)⟩
      have q : (if eN a = 0 then (3 : Int) else 4) = 2 := q
      split at q <;> omega
    | var w => exact absurd rfl (n2 w)
    | add a r => exact (mTm_nadd h2).elim
    | sub a r =>
      refine ⟨fun q => ?_, fun _ => hn (fun q => q)⟩
      have q : (if eN _ = 0 then (3 : Int) else 4) = 0 := q
      split at q <;> omega
    | neg a =>
      refine ⟨fun q => ?_, fun _ => hn (fun q => q)⟩
      have q : (if eN _ = 0 then (3 : Int) else 4) = 0 := q
      split at q <;> omega
    | mulR a k =>
      refine ⟨fun q => ?_, fun _ => hn (fun q => q)⟩
      have q : (if eN _ = 0 then (3 : Int) else 4) = 0 := q
      split at q <;> omega
  | var w => exact absurd rfl (n1 w)
  | add a r => exact (mTm_nadd h1).elim
  | sub a r => exact (mTm_nsub h1 trivial).elim
  | neg a => exact (mTm_nsub h1 trivial).elim
  | mulR a k => exact (mTm_nsub h1 trivial).elim
end BB
