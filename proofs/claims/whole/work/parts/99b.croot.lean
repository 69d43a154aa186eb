/-! THE UNIFIER OF THE CLASS: rows, what they leave alone, roots -/
/-- one node, one tree -/
theorem cP_uq {kd ks ar : Int → Int} {A : Int → Prop} : ∀ (t t' : pE) (j n : Int) (nv nv' : Nat) (b : Bool), cP kd ks ar A t j n → cP kd ks ar A t' j n → eK nv t b → eK nv' t' b → (b = true → eN t = eN t' ∧ 0 ≤ j) → (b = false → j = -1) → t = t'
  | .var v, t', j, n, nv, nv', b, h, h', k, k', he, hj => by
    have hb : b = false := k.1
    subst hb
    have hj := hj rfl
    subst hj
    cases t' with
    | var w =>
      have e1 : n = ((v : Nat) : Int) := h.2.2.1
      have e2 : n = ((w : Nat) : Int) := h'.2.2.1
      have e3 : @Eq Nat v w := by omega
      rw [e3]
    | num i =>
      rcases h' with h' | h'
      · have a1 := h.2.2.2.2
        rw [h'.2.2.2.1] at a1
        exact absurd a1 (by decide)
      · exact absurd h'.1 (by decide)
    | mulL q a =>
      have a1 := h.2.2.2.2
      have a2 := h'.2.2.2.2.1
      rw [a1] at a2
      split at a2 <;> exact absurd a2 (by decide)
    | add a r => exact absurd k'.1 (by decide)
    | sub a r => exact k'.elim
    | neg a => exact k'.elim
    | mulR a q => exact k'.elim
  | .num i, t', j, n, nv, nv', b, h, h', k, k', he, hj => by
    cases b with
    | false =>
      have hj := hj rfl
      subst hj
      rcases h with h | h
      · cases t' with
        | var w =>
          have a1 := h'.2.2.2.2
          rw [h.2.2.2.1] at a1
          exact absurd a1 (by decide)
        | num z =>
          rcases h' with h' | h'
          · rw [← h.2.2.2.2, ← h'.2.2.2.2]
          · exact absurd h'.1 (by decide)
        | mulL q a =>
          have a2 := h'.2.2.2.2.1
          rw [h.2.2.2.1] at a2
          split at a2 <;> exact absurd a2 (by decide)
        | add a r => exact absurd k'.1 (by decide)
        | sub a r => exact k'.elim
        | neg a => exact k'.elim
        | mulR a q => exact k'.elim
      · exact absurd h.1 (by decide)
    | true =>
      have hi : i = 0 := k
      subst hi
      cases t' with
      | num z =>
        have hz : z = 0 := k'
        rw [hz]
      | add a r =>
        have := (he rfl).1
        exact absurd this (by show ¬ 0 = eN r + 1; omega)
      | var w => exact absurd k'.1 (by decide)
      | mulL q a => exact absurd k'.1 (by decide)
      | sub a r => exact k'.elim
      | neg a => exact k'.elim
      | mulR a q => exact k'.elim
  | .mulL q a, t', j, n, nv, nv', b, h, h', k, k', he, hj => by
    have hb : b = false := k.1
    subst hb
    have hj := hj rfl
    subst hj
    cases t' with
    | var w =>
      have a1 := h'.2.2.2.2
      have a2 := h.2.2.2.2.1
      rw [a1] at a2
      split at a2 <;> exact absurd a2 (by decide)
    | num i =>
      rcases h' with h' | h'
      · have a2 := h.2.2.2.2.1
        rw [h'.2.2.2.1] at a2
        split at a2 <;> exact absurd a2 (by decide)
      · exact absurd h'.1 (by decide)
    | mulL q' a' =>
      have a1 := h.2.2.2.1
      rw [h'.2.2.2.1] at a1
      obtain ⟨e1, e2⟩ := kC_inj h'.2.2.2.2.2.2.1 h.2.2.2.2.2.2.1 h'.2.2.2.2.2.1 h.2.2.2.2.2.1 a1
      rw [e1, cP_uq a a' 0 n nv nv' true h.2.2.2.2.2.2.2 h'.2.2.2.2.2.2.2 k.2.2.2.2.2 k'.2.2.2.2.2 (fun _ => ⟨e2.symm, Int.le_refl _⟩) (fun q => by cases q)]
    | add a r => exact absurd k'.1 (by decide)
    | sub a r => exact k'.elim
    | neg a => exact k'.elim
    | mulR a q => exact k'.elim
  | .add a r, t', j, n, nv, nv', b, h, h', k, k', he, hj => by
    have hb : b = true := k.1
    subst hb
    cases t' with
    | add a' r' =>
      have e := (he rfl).1
      have e : eN r + 1 = eN r' + 1 := e
      rw [cP_uq a a' (-1) _ nv nv' false h.2.2.1 h'.2.2.1 k.2.1 k'.2.1 (fun q => by cases q) (fun _ => rfl)]
      rw [cP_uq r r' (j + 1) n nv nv' true h.2.2.2 h'.2.2.2 k.2.2 k'.2.2 (fun _ => ⟨by omega, by have := h.1; omega⟩) (fun q => by cases q)]
    | num z =>
      have := (he rfl).1
      exact absurd this (by show ¬ eN r + 1 = 0; omega)
    | var w => exact absurd k'.1 (by decide)
    | mulL q a => exact absurd k'.1 (by decide)
    | sub a r => exact k'.elim
    | neg a => exact k'.elim
    | mulR a q => exact k'.elim
  | .sub _ _, _, _, _, _, _, _, _, _, k, _, _, _ => k.elim
  | .neg _, _, _, _, _, _, _, _, _, k, _, _, _ => k.elim
  | .mulR _ _, _, _, _, _, _, _, _, _, k, _, _, _ => k.elim
theorem cTm_uq {X : cX} {m : hy_m} {x : Int} {t t' : pE} (h : cTm X m x t) (h' : cTm X m x t') : t = t' := by
  rcases h with ⟨j, hj, e, rfl, hr⟩ | ⟨i, n, u, hi, e, hn, hu, hk, rfl⟩
  · rcases h' with ⟨j', hj', e', rfl, hr'⟩ | ⟨i', n', u', hi', e', hn', hu', hk', rfl⟩
    · have : j = j' := by omega
      rw [this]
    · omega
  · rcases h' with ⟨j', hj', e', rfl, hr'⟩ | ⟨i', n', u', hi', e', hn', hu', hk', rfl⟩
    · omega
    · have c1 : i = i' := by omega
      have c2 : n = n' := by omega
      subst c1
      subst c2
      rw [cP_uq u u' (-1) _ _ _ false hu hu' hk hk' (fun q => by cases q) (fun _ => rfl)]
/-- rows of the unifier: joined, queue, suspects, pending, marks; trail -/
abbrev uX : Type := Nat × Nat × Nat × Nat × Nat × Nat
def yj (U : uX) : Nat := U.1
def yq (U : uX) : Nat := U.2.1
def ys (U : uX) : Nat := U.2.2.1
def yp (U : uX) : Nat := U.2.2.2.1
def ym (U : uX) : Nat := U.2.2.2.2.1
def yt (U : uX) : Nat := U.2.2.2.2.2
def uRw (X : cX) (U : uX) (a : Nat) : Prop := a = yj U ∨ a = yq U ∨ a = ys U ∨ a = yp U ∨ a = ym U ∨ a = yt U ∨ a = xb4 X
def uFx (X : cX) (U : uX) (m m' : hy_m) : Prop := ∀ (a : Nat) (e : Int), ¬ uRw X U a → ¬ (a = 41 ∧ e = 6) → ¬ (a = 47 ∧ (e = 3 ∨ e = 5 ∨ e = 7 ∨ e = 9 ∨ e = 10)) → m' a e = m a e
def uSd (X : cX) (U : uX) (a : Nat) : Prop := a ≠ 41 ∧ a ≠ 47 ∧ ¬ uRw X U a
/-- no row lies on another -/
def uSep (X : cX) (U : uX) : Prop := (¬ uRw X U 41 ∧ ¬ uRw X U 47 ∧ ¬ uRw X U 46) ∧ uSd X U (xc1 X) ∧ (∀ i, xL X i → uSd X U (xA X i) ∧ uSd X U (xK0 X i) ∧ uSd X U (xK1 X i) ∧ uSd X U (xK2 X i)) ∧ [yj U, yq U, ys U, yp U, ym U, yt U, xb4 X].Nodup
def uW (X : cX) (U : uX) (T : hy_T) (m : hy_m) : Prop := (m 47 1 = yj U ∧ T.1 (yj U) = some (100, 128 * xcap X)) ∧ (m 47 2 = yq U ∧ T.1 (yq U) = some (100, 60 * xcap X)) ∧ (m 47 4 = ys U ∧ T.1 (ys U) = some (100, 8 * xcap X)) ∧ (m 47 6 = yp U ∧ T.1 (yp U) = some (100, 76 * xcap X)) ∧ (m 47 8 = ym U ∧ T.1 (ym U) = some (100, 8 * xcap X)) ∧ (m 41 5 = yt U ∧ T.1 (yt U) = some (100, 8 * xcap X))
section UFX
variable {X : cX} {U : uX} {T : hy_T} {m m' m'' : hy_m} {x : Int} {t : pE} {B : bM}
theorem uFx.rfl' : uFx X U m m := fun _ _ _ _ _ => rfl
theorem uFx.tr (h : uFx X U m m') (h' : uFx X U m' m'') : uFx X U m m'' := fun a e q1 q2 q3 => (h' a e q1 q2 q3).trans (h a e q1 q2 q3)
theorem uFx.row {a : Nat} {e v : Int} (ha : uRw X U a) : uFx X U m (hy_u m a e v) := fun a' e' q1 _ _ => hy_ua (fun q => q1 (q ▸ ha))
theorem uFx.f41 {v : Int} : uFx X U m (hy_u m 41 6 v) := fun a' e' _ q2 _ => hy_uf q2
theorem uFx.f47 {e v : Int} (he : e = 3 ∨ e = 5 ∨ e = 7 ∨ e = 9 ∨ e = 10) : uFx X U m (hy_u m 47 e v) := fun a' e' _ _ q3 => hy_uf (fun q => q3 ⟨q.1, q.2 ▸ he⟩)
theorem uFx.sd {a : Nat} (h : uFx X U m m') (ha : uSd X U a) : m' a = m a := funext fun e => h a e ha.2.2 (fun q => ha.1 q.1) (fun q => ha.2.1 q.1)
theorem cTm_fx (hs : uSep X U) (h : uFx X U m m') (hx : cTm X m x t) : cTm X m' x t := by
  rcases hx with ⟨j, hj, e, rfl, hr⟩ | ⟨i, n, u, hi, e, hn, hu, hk, rfl⟩
  · have e6 : m' 46 (j : Int) = m 46 (j : Int) := h 46 _ hs.1.2.2 (fun q => absurd q.1 (by decide)) (fun q => absurd q.1 (by decide))
    exact Or.inl ⟨j, hj, e, by rw [e6], by rw [e6]; exact hr⟩
  · obtain ⟨g1, g2, g3, g4⟩ := hs.2.2.1 i hi
    refine Or.inr ⟨i, n, u, hi, e, hn, ?_, hk, rfl⟩
    show cP (m' (xK0 X i)) (m' (xK1 X i)) (m' (xK2 X i)) _ _ _ _
    rw [h.sd g2, h.sd g3, h.sd g4]
    exact hu
theorem cW_fx (hs : uSep X U) (h : uFx X U m m') (hw : cW X T m) : cW X T m' := by
  obtain ⟨h1, h2, h3, h4, h5, h6⟩ := hw
  refine ⟨?_, h2, h3, ?_, h5, fun i hi => ?_⟩
  · rw [h 41 1 hs.1.1 (fun q => absurd q.2 (by decide)) (fun q => absurd q.1 (by decide))]
    exact h1
  · rw [h 41 4 hs.1.1 (fun q => absurd q.2 (by decide)) (fun q => absurd q.1 (by decide))]
    exact h4
  · obtain ⟨g1, g2, g3, g4⟩ := h6 i hi
    obtain ⟨c1, c2, c3, c4⟩ := hs.2.2.1 i hi
    refine ⟨g1, ?_, ?_, g4.1, g4.2.1, fun n z j => by rw [h.sd c2, h.sd c3, h.sd c4]; exact g4.2.2 n z j⟩
    · rw [h.sd hs.2.1]
      exact g2
    · obtain ⟨d1, d2, d3, d4, d5, d6, d7, d8⟩ := g3
      have e := h.sd c1
      exact ⟨d1, by rw [e]; exact d2, d3, by rw [e]; exact d4, d5, by rw [e]; exact d6, d7, d8⟩
theorem uW_fx (hs : uSep X U) (h : uFx X U m m') (hw : uW X U T m) : uW X U T m' := by
  obtain ⟨h1, h2, h3, h4, h5, h6⟩ := hw
  have e : ∀ z : Int, z = 1 ∨ z = 2 ∨ z = 4 ∨ z = 6 ∨ z = 8 → m' 47 z = m 47 z := fun z hz => h 47 z hs.1.2.1 (fun q => absurd q.1 (by decide)) (fun q => by have := q.2; omega)
  refine ⟨⟨?_, h1.2⟩, ⟨?_, h2.2⟩, ⟨?_, h3.2⟩, ⟨?_, h4.2⟩, ⟨?_, h5.2⟩, ⟨?_, h6.2⟩⟩
  · rw [e 1 (by decide)]; exact h1.1
  · rw [e 2 (by decide)]; exact h2.1
  · rw [e 4 (by decide)]; exact h3.1
  · rw [e 6 (by decide)]; exact h4.1
  · rw [e 8 (by decide)]; exact h5.1
  · rw [h 41 5 hs.1.1 (fun q => absurd q.2 (by decide)) (fun q => absurd q.1 (by decide))]; exact h6.1
/-- bindings stay as long as their row does -/
theorem cBd_fx (hs : uSep X U) (h : uFx X U m m') (hb : m' (xb4 X) = m (xb4 X)) (hB : cBd X m B) : cBd X m' B := by
  refine ⟨fun i n hi hn => ?_, hB.2⟩
  rw [hb]
  rcases hB.1 i n hi hn with q | ⟨t, q1, q2, q3, q4⟩
  · exact Or.inl q
  · exact Or.inr ⟨t, q1, q2, cTm_fx hs h q3, q4⟩
end UFX
/-- a step along a binding; what was joined -/
def cBs (X : cX) (b : Int → Int) (x y : Int) : Prop := ∃ i n : Nat, xL X i ∧ n < xV X i ∧ x = 128 * (i : Int) + (n : Int) ∧ y = b (8 * (i : Int) + (n : Int)) ∧ y ≠ -1
def jLs (JL : List (Int × Int)) (x y : Int) : Prop := (x, y) ∈ JL
/-- the row of joined compounds, and their order -/
def jOK (X : cX) (m : hy_m) (j : Int → Int) (JL : List (Int × Int)) : Prop := (∀ x : Int, 0 ≤ x → x < ((128 * xcap X : Nat) : Int) → (j x = 0 ∧ ∀ y, (x, y) ∉ JL) ∨ (j x ≠ 0 ∧ (x, j x) ∈ JL)) ∧ (∀ (k : Nat) (x y : Int), JL[k]? = some (x, y) → (0 ≤ x ∧ x < ((128 * xcap X : Nat) : Int)) ∧ (∀ (k' : Nat) (y' : Int), JL[k']? = some (x, y') → k' = k) ∧ (∀ (k' : Nat) (y' : Int), JL[k']? = some (y, y') → k < k') ∧ (∃ t, cTm X m x t ∧ (∀ w : Nat, t ≠ .var w) ∧ ∀ w, vIn w t → cDm X w) ∧ ∃ t, cTm X m y t ∧ (∀ w : Nat, t ≠ .var w) ∧ ∀ w, vIn w t → cDm X w)
def cRt (X : cX) (m : hy_m) (B : bM) (JL : List (Int × Int)) (x y : Int) (t : pE) : Prop := cFo X m B y t ∧ (∀ z, (y, z) ∉ JL) ∧ ∃ k, stp (cBs X (m (xb4 X))) (jLs JL) k x y
section CRO
variable {X : cX} {U : uX} {T : hy_T} {m m' : hy_m} {Q : Int → hy_m → Prop} {x : Int} {t : pE} {B : bM} {J : Int → Int → Prop}
theorem sp_124p (h : cW X T m) (hO : cOr X) (hB : cBd X m B) (ho : ∀ (w : Nat) (y : Nat), B w = some (.var y) → y < w) (hx : cTm X m x t) (hD : ∀ w, vIn w t → cDm X w) (hq : ∀ y t', cFo X m B y t' → (∃ k, stp (cBs X (m (xb4 X))) J k x y) → Q y m) : wq_124 x T m Q := by
  have hcap := h.2.2.1
  unfold wq_124 wq_124_4
  refine wL2_rule (Nat.lt_wfRel.wf) (fun x' y m' => m' = m ∧ ∃ (k : Nat) (t' : pE), y = k ∧ cTm X m x' t' ∧ (∀ w, vIn w t' → cDm X w) ∧ (∃ k, stp (cBs X (m (xb4 X))) J k x x') ∧ k ≤ 8 * xcap X ∧ ∀ i n : Nat, n < 8 → x' = 128 * (i : Int) + (n : Int) → 8 * i + n + k < 8 * xcap X) (fun _ y _ => 3000 - y.toNat) ?_ ⟨rfl, 0, t, rfl, hx, hD, ⟨0, rfl⟩, Nat.zero_le _, fun i n hn e => ?_⟩
  · rintro P x' y m' ⟨rfl, k, t', rfl, h1, h2, ⟨kk, h3⟩, h4, h5⟩ hP
    unfold wf_124_4
    rw [h.2.2.2.1, Int.toNat_natCast]
    have T4 := h.2.2.2.2.1
    by_cases hv : ∃ w : Nat, t' = .var w
    · obtain ⟨w, rfl⟩ := hv
      obtain ⟨i, n, hi, rfl, hn8, hnv, rfl⟩ := cTm_v h1
      obtain ⟨g1, g2, g3, g4, g5⟩ := h.2.2.2.2.2 i hi
      obtain ⟨e1, e2, -⟩ := r128 (i := i) (n := n) (by omega) (by omega)
      have hk := h5 i n hn8 rfl
      rw [e1, e2, show (i : Int) * 8 + (n : Int) = 8 * (i : Int) + (n : Int) by omega]
      refine ⟨100, _, T4, by omega, fun q => by omega, fun _ => ⟨fun q => by omega, fun _ => ⟨fun q => by omega, fun _ => ⟨100, _, T4, by omega, show -2147483648 ≤ _ ∧ _ < 2147483648 by omega, fun q => by omega, fun _ => ⟨_, T4, by omega, by omega, fun hne => ⟨_, T4, by omega, by omega, show -2147483648 ≤ _ ∧ _ < 2147483648 by omega, ?_⟩, fun he => ?_⟩⟩⟩⟩⟩
      · rcases hB.1 i n hi hnv with q | ⟨u, q1, q2, q3, q4⟩
        · exact absurd q.2 hne
        · refine hP _ _ _ ⟨rfl, k + 1, u, by omega, q3, q4, ⟨kk + 1, stp_tr kk 1 _ _ _ h3 ⟨_, Or.inl ⟨i, n, hi, hnv, rfl, rfl, q2⟩, rfl⟩⟩, by omega, fun i' n' hn' e' => ?_⟩ ?_
          · have hu : ∃ w' : Nat, u = .var w' := by
              by_cases hq' : ∃ w' : Nat, u = .var w'
              · exact hq'
              · rcases cTm_n q3 (fun w' e => hq' ⟨w', e⟩) with hneg | ⟨i2, n2, -, e2', h8, h128⟩
                · omega
                · omega
            obtain ⟨w', rfl⟩ := hu
            obtain ⟨i2, n2, hi2, e2', hn28, hn2v, rfl⟩ := cTm_v q3
            have hii : i2 = i' ∧ n2 = n' := by omega
            obtain ⟨rfl, rfl⟩ := hii
            have hlt := ho _ _ q1
            have : i2 < i ∨ i2 = i ∧ n2 < n := by
              by_cases c1 : i2 < i
              · exact Or.inl c1
              · by_cases c2 : i2 = i
                · subst c2
                  exact Or.inr ⟨rfl, by omega⟩
                · have := hO i i2 hi hi2 (by omega)
                  omega
            omega
          · show 3000 - _ < 3000 - _
            omega
      · rcases hB.1 i n hi hnv with q | ⟨u, q1, q2, q3, q4⟩
        · exact hq _ _ ⟨h1, h2, Or.inl ⟨_, rfl, q.1⟩⟩ ⟨kk, h3⟩
        · exact absurd he q2
    · have hn : ∀ w : Nat, t' ≠ .var w := fun w e => hv ⟨w, e⟩
      have fin := hq x' t' ⟨h1, h2, Or.inr hn⟩ ⟨kk, h3⟩
      rcases cTm_n h1 hn with hneg | ⟨i, n, hi, rfl, h8, h128⟩
      · exact ⟨100, _, T4, by omega, fun _ => fin, fun _ => ⟨fun _ => fin, fun q => by omega⟩⟩
      · obtain ⟨g1, -⟩ := h.2.2.2.2.2 i hi
        obtain ⟨e1, e2, -⟩ := r128 (i := i) (n := n) (by omega) h128
        rw [e1]
        exact ⟨100, _, T4, by omega, fun _ => fin, fun _ => ⟨fun q => by omega, fun _ => ⟨fun _ => fin, fun q => by omega⟩⟩⟩
  · rcases hx with ⟨j, hj, e', -⟩ | ⟨i', n', u, hi, e', hn', -⟩
    · omega
    · obtain ⟨g1, -⟩ := h.2.2.2.2.2 i' hi
      omega
/-- rootOf -/
theorem sp_150 {JL : List (Int × Int)} (h : cW X T m) (hU : uW X U T m) (hO : cOr X) (hB : cBd X m B) (ho : ∀ (w : Nat) (y : Nat), B w = some (.var y) → y < w) (hJ : jOK X m (m (yj U)) JL) (hl : JL.length < 128 * xcap X) (hx : cTm X m x t) (hD : ∀ w, vIn w t → cDm X w) (hq : ∀ y t', cRt X m B JL x y t' → Q y m) : wq_150 x T m Q := by
  have hcap := h.2.2.1
  unfold wq_150 wq_150_11
  refine sp_124p (J := jLs JL) h hO hB ho hx hD (fun y0 t0 f0 ⟨k0, p0⟩ => ?_)
  refine wL2_rule (Nat.lt_wfRel.wf) (fun y s m' => m' = m ∧ ∃ (k : Nat) (t' : pE), s = k ∧ cFo X m B y t' ∧ (∃ k, stp (cBs X (m (xb4 X))) (jLs JL) k x y) ∧ k ≤ JL.length ∧ ∀ (k' : Nat) (z : Int), JL[k']? = some (y, z) → k ≤ k') (fun _ s _ => 128 * xcap X - s.toNat) ?_ ⟨rfl, 0, t0, rfl, f0, ⟨k0, p0⟩, Nat.zero_le _, fun _ _ _ => Nat.zero_le _⟩
  rintro P y s m' ⟨rfl, k, t', rfl, h1, ⟨kk, h2⟩, h3, h4⟩ hP
  unfold wf_150_11
  rw [hU.1.1, Int.toNat_natCast]
  have T1 := hU.1.2
  have fin : (∀ z, (y, z) ∉ JL) → Q y m' := fun hz => hq y t' ⟨h1, hz, kk, h2⟩
  have no : ¬ (0 ≤ y ∧ y < ((128 * xcap X : Nat) : Int)) → Q y m' := fun hn => fin (fun z hz => by
    obtain ⟨k', hk'⟩ := List.getElem?_of_mem hz
    exact hn (hJ.2 k' y z hk').1)
  refine ⟨100, _, T1, by omega, fun q => by omega, fun _ => ⟨fun q => no (by omega), fun hy0 => ⟨100, _, T1, by omega, fun q => no (by omega), fun hy1 => ⟨_, T1, hy0, hy1, fun hne => ⟨_, T1, hy0, hy1, show -2147483648 ≤ _ ∧ _ < 2147483648 by omega, ?_⟩, fun he => ?_⟩⟩⟩⟩
  · rcases hJ.1 y hy0 hy1 with q | q
    · exact absurd q.1 hne
    · obtain ⟨k', hk'⟩ := List.getElem?_of_mem q.2
      obtain ⟨d1, d2, d3, d4, t2, d5, d6, d7⟩ := hJ.2 k' _ _ hk'
      have hkl : k' < JL.length := (List.getElem?_eq_some_iff.mp hk').1
      have hkk := h4 k' _ hk'
      refine hP _ _ _ ⟨rfl, k + 1, t2, by omega, ⟨d5, d7, Or.inr d6⟩, ⟨kk + 1, stp_tr kk 1 _ _ _ h2 ⟨_, Or.inr q.2, rfl⟩⟩, by omega, fun k2 z hz => ?_⟩ ?_
      · have := d3 k2 z hz
        omega
      · show 128 * xcap X - _ < 128 * xcap X - _
        omega
  · rcases hJ.1 y hy0 hy1 with q | q
    · exact fin q.2
    · exact absurd he q.1
end CRO
