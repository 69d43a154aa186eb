/-! THE CLASS'S WORLD, built of instances -/
theorem nd_tn {nv : Nat} : ∀ (t : pE) (b : Bool), eK nv t b → nd t ≤ (if b = true then 1 else 0) + 2 * tn t b
  | .num i, b, h => by
    cases b
    · exact Nat.le_succ 1
    · exact Nat.le_refl 1
  | .var v, b, h => by
    rw [h.1]
    exact Nat.le_succ 1
  | .mulL k a, b, h => by
    have ih := nd_tn a true h.2.2.2.2.2
    rw [if_pos rfl] at ih
    rw [h.1, if_neg (by decide)]
    show 1 + nd a ≤ 0 + 2 * (1 + tn a true)
    omega
  | .add a r, b, h => by
    have i1 := nd_tn a false h.2.1
    have i2 := nd_tn r true h.2.2
    rw [if_neg (by decide)] at i1
    rw [if_pos rfl] at i2
    rw [h.1, if_pos rfl]
    show nd a + nd r ≤ 1 + 2 * (tn a false + tn r true)
    omega
  | .sub a r, b, h => h.elim
  | .neg a, b, h => h.elim
  | .mulR a k, b, h => h.elim
/-- a node of a tree is a tree -/
theorem nds_sub {kd ks ar : Int → Int} {A : Int → Prop} {nv : Nat} : ∀ (t : pE) (j n : Int) (b : Bool), cP kd ks ar A t j n → eK nv t b → ∀ x ∈ nds ar t j n, ∃ u, cP kd ks ar A u (-1) x ∧ eK nv u false ∧ eM u ≤ eM t ∧ aM u ≤ aM t
  | .var v, j, n, b, h, hk, x, hx => by
    rw [List.mem_singleton.mp hx]
    have e := h.1
    have e2 := hk.1
    subst e
    subst e2
    exact ⟨_, h, hk, Nat.le_refl _, Nat.le_refl _⟩
  | .num i, j, n, b, h, hk, x, hx => by
    have hx : x ∈ (if j = -1 then [n] else []) := hx
    by_cases c : j = -1
    · rw [if_pos c] at hx
      rw [List.mem_singleton.mp hx]
      subst c
      have hi : 0 ≤ i ∧ i < 1000000 := by
        cases b with
        | false => exact hk
        | true =>
          have hk : i = 0 := hk
          omega
      exact ⟨_, h, hi, Nat.le_refl _, Nat.le_refl _⟩
    · rw [if_neg c] at hx
      cases hx
  | .mulL k a, j, n, b, h, hk, x, hx => by
    have e := h.1
    have e2 := hk.1
    subst e
    subst e2
    rcases List.mem_cons.mp hx with rfl | hx
    · exact ⟨_, h, hk, Nat.le_refl _, Nat.le_refl _⟩
    · obtain ⟨u, u1, u2, u3, u4⟩ := nds_sub a 0 n true h.2.2.2.2.2.2.2 hk.2.2.2.2.2 x hx
      refine ⟨u, u1, u2, Nat.le_trans u3 ?_, Nat.le_trans u4 ?_⟩
      · show eM a ≤ _ + eM a
        omega
      · show aM a ≤ _ + aM a
        omega
  | .add a r, j, n, b, h, hk, x, hx => by
    rcases List.mem_append.mp hx with hx | hx
    · obtain ⟨u, u1, u2, u3, u4⟩ := nds_sub a _ _ false h.2.2.1 hk.2.1 x hx
      refine ⟨u, u1, u2, Nat.le_trans u3 ?_, Nat.le_trans u4 ?_⟩
      · show eM a ≤ eM a + eM r
        omega
      · show aM a ≤ aM a + aM r
        omega
    · obtain ⟨u, u1, u2, u3, u4⟩ := nds_sub r _ _ true h.2.2.2 hk.2.2 x hx
      refine ⟨u, u1, u2, Nat.le_trans u3 ?_, Nat.le_trans u4 ?_⟩
      · show eM r ≤ eM a + eM r
        omega
      · show aM r ≤ aM a + aM r
        omega
  | .sub _ _, _, _, _, h, _, _, _ => h.elim
  | .neg _, _, _, _, h, _, _, _ => h.elim
  | .mulR _ _, _, _, _, h, _, _, _ => h.elim
theorem eMs_mm : ∀ (gs : List pE) (g : pE), g ∈ gs → 2 * eM g + 1 ≤ eMs gs ∧ aM g ≤ aMs gs
  | [], g, h => by cases h
  | a :: r, g, h => by
    show _ ≤ 2 * eM a + 1 + eMs r ∧ _ ≤ aM a + aMs r
    rcases List.mem_cons.mp h with rfl | h
    · omega
    · have := eMs_mm r g h
      omega
/-- an instance: number, cells (clause, nodes, kinds, keys, arguments), variables, place, nodes -/
abbrev cEn : Type := Nat × (Nat × Nat × Nat × Nat × Nat) × Nat × Nat × List Int
def wXg (WI : List cEn) (i : Nat) : Option cEn := WI.find? (fun e => e.1 == i)
def wX (WI : List cEn) (c1 b4 cap N : Nat) : cX := ((fun i => match wXg WI i with
  | some e => e.2.1
  | none => (0, 0, 0, 0, 0)), (fun i => match wXg WI i with
  | some e => e.2.2.1
  | none => 0), (fun i => match wXg WI i with
  | some e => e.2.2.2.1
  | none => 0), (fun i => (∃ e ∈ WI, e.1 = i, fun n => n < 8 ∨ match wXg WI i with
  | some e => (n : Int) ∈ e.2.2.2.2
  | none => False)), c1, b4, cap, N)
/-- an instance shows a clause or the query -/
def wOn (T : hy_T) (m : hy_m) (F : Nat → Prop) (c1 cap : Nat) (hd : Option pE) (gs : List pE) (e : cEn) : Prop := m c1 (e.1 : Int) = e.2.1.1 ∧ (∃ k4, cRw T m F e.2.1.1 e.2.1.2.1 e.2.1.2.2.1 e.2.1.2.2.2.1 e.2.1.2.2.2.2 k4 hd gs ∧ e.2.2.2.2 = kNd (m e.2.1.2.2.2.2) (m k4) (m e.2.1.1 3) hd gs) ∧ m e.2.1.1 5 = (e.2.2.1 : Nat) ∧ kOK hd gs e.2.2.1 ∧ aH hd + aMs gs ≤ 30 ∧ e.2.2.2.1 + e.2.2.1 ≤ 2500 ∧ e.1 < cap
def wOl (T : hy_T) (m : hy_m) (F : Nat → Prop) (c1 cap : Nat) (WI : List cEn) : Prop := (WI.map (fun e => e.1)).Nodup ∧ ∀ e ∈ WI, ∃ hd gs, wOn T m F c1 cap hd gs e
section CW
variable {WI : List cEn} {c1 b4 cap N : Nat} {T : hy_T} {m m' : hy_m} {F : Nat → Prop} {e : cEn} {hd : Option pE} {gs : List pE}
theorem wXg_in (h : (WI.map (fun e => e.1)).Nodup) (he : e ∈ WI) : wXg WI e.1 = some e := by
  unfold wXg
  induction WI with
  | nil => cases he
  | cons a r ih =>
    rw [List.map_cons, List.nodup_cons] at h
    rcases List.mem_cons.mp he with q | q
    · rw [← q, List.find?_cons_of_pos (by simp)]
    · have hne : a.1 ≠ e.1 := fun z => h.1 (z ▸ List.mem_map.mpr ⟨e, q, rfl⟩)
      rw [List.find?_cons_of_neg (by simpa using hne)]
      exact ih h.2 q
theorem wX_at (h : (WI.map (fun e => e.1)).Nodup) (he : e ∈ WI) : xA (wX WI c1 b4 cap N) e.1 = e.2.1.1 ∧ xC (wX WI c1 b4 cap N) e.1 = e.2.1.2.1 ∧ xK0 (wX WI c1 b4 cap N) e.1 = e.2.1.2.2.1 ∧ xK1 (wX WI c1 b4 cap N) e.1 = e.2.1.2.2.2.1 ∧ xK2 (wX WI c1 b4 cap N) e.1 = e.2.1.2.2.2.2 ∧ xV (wX WI c1 b4 cap N) e.1 = e.2.2.1 ∧ xP (wX WI c1 b4 cap N) e.1 = e.2.2.2.1 ∧ (∀ n, xG (wX WI c1 b4 cap N) e.1 n ↔ (n < 8 ∨ (n : Int) ∈ e.2.2.2.2)) := by
  have g := wXg_in h he
  unfold xA xC xK0 xK1 xK2 xV xP xG wX
  dsimp only
  rw [g]
  exact ⟨rfl, rfl, rfl, rfl, rfl, rfl, rfl, fun n => Iff.rfl⟩
/-- a term of an instance -/
theorem wTm {x : Int} {t : pE} (hA : wOl T m F c1 cap WI) : cTm (wX WI c1 b4 cap N) m x t ↔ (∃ j : Nat, (j < 301 ∧ j < N) ∧ x = -2 - (j : Int) ∧ t = .num (m 46 (j : Int)) ∧ hy_r 0 (m 46 (j : Int))) ∨ ∃ (e : cEn) (n : Nat) (u : pE), e ∈ WI ∧ x = 128 * (e.1 : Int) + (n : Int) ∧ (n < 128 ∧ (n < 8 ∨ (n : Int) ∈ e.2.2.2.2)) ∧ cQ m e.2.1.2.1 e.2.1.2.2.1 e.2.1.2.2.2.1 e.2.1.2.2.2.2 u (n : Int) ∧ eK e.2.2.1 u false ∧ t = rn e.2.2.2.1 u := by
  constructor
  · rintro (h | ⟨i, n, u, ⟨e, he, rfl⟩, h2, h3, h4, h5, h6⟩)
    · exact Or.inl h
    · obtain ⟨a1, a2, a3, a4, a5, a6, a7, a8⟩ := wX_at (c1 := c1) (b4 := b4) (cap := cap) (N := N) hA.1 he
      rw [a2, a3, a4, a5] at h4
      rw [a6] at h5
      rw [a7] at h6
      exact Or.inr ⟨e, n, u, he, h2, ⟨h3.1, (a8 n).mp h3.2⟩, h4, h5, h6⟩
  · rintro (h | ⟨e, n, u, he, h2, h3, h4, h5, h6⟩)
    · exact Or.inl h
    · obtain ⟨a1, a2, a3, a4, a5, a6, a7, a8⟩ := wX_at (c1 := c1) (b4 := b4) (cap := cap) (N := N) hA.1 he
      refine Or.inr ⟨e.1, n, u, ⟨e, he, rfl⟩, h2, ⟨h3.1, (a8 n).mpr h3.2⟩, ?_, ?_, ?_⟩
      · rw [a2, a3, a4, a5]; exact h4
      · rw [a6]; exact h5
      · rw [a7]; exact h6
theorem wX_cW (hA : wOl T m F c1 cap WI) (h1 : m 41 1 = c1) (h2 : T.1 c1 = some (113, cap)) (h3 : cap ≤ 302) (h4 : m 41 4 = b4) (h5 : T.1 b4 = some (100, 8 * cap)) : cW (wX WI c1 b4 cap N) T m := by
  refine ⟨h1, h2, h3, h4, h5, ?_⟩
  rintro i ⟨e, he, rfl⟩
  obtain ⟨a1, a2, a3, a4, a5, a6, a7, a8⟩ := wX_at (c1 := c1) (b4 := b4) (cap := cap) (N := N) hA.1 he
  obtain ⟨hd, gs, b1, ⟨k4, b2, b3⟩, b5, b6, b7, b8, b9⟩ := hA.2 e he
  have hc := kNd_all b2 b6 b7
  rw [← b3] at hc
  refine ⟨b9, ?_, ?_, ?_, ?_, fun n z j hn h4' hj hz => ?_⟩
  · rw [a1]; exact b1
  · rw [a1, a2, a3, a4, a5]; exact b2.1
  · rw [a6]; exact b6.1
  · rw [a6, a7]; exact b8
  · rw [a3] at h4'
    rw [a4] at hj
    rw [a5] at hz
    rcases (a8 n).mp hn with q | q
    · have := b2.2.2.2.2.1 (n : Int) (by omega) (by omega)
      rw [this] at h4'
      exact absurd h4' (by decide)
    · have := (hc.1 _ q).2 h4' (j : Int) (by omega) hj
      rw [hz] at this
      exact (a8 z).mpr (Or.inr this)
theorem wX_Or (hA : wOl T m F c1 cap WI) (ho : ∀ e ∈ WI, ∀ e' ∈ WI, e.1 < e'.1 → e.2.2.2.1 + e.2.2.1 ≤ e'.2.2.2.1) : cOr (wX WI c1 b4 cap N) := by
  rintro i j ⟨e, he, rfl⟩ ⟨e', he', rfl⟩ hij
  obtain ⟨-, -, -, -, -, a6, a7, -⟩ := wX_at (c1 := c1) (b4 := b4) (cap := cap) (N := N) hA.1 he
  obtain ⟨-, -, -, -, -, -, a7', -⟩ := wX_at (c1 := c1) (b4 := b4) (cap := cap) (N := N) hA.1 he'
  rw [a6, a7, a7']
  exact ho e he e' he' hij
theorem wX_Vr (hA : wOl T m F c1 cap WI) : cVr (wX WI c1 b4 cap N) m := by
  rintro i n ⟨e, he, rfl⟩ hn
  obtain ⟨-, -, -, -, -, a6, a7, -⟩ := wX_at (c1 := c1) (b4 := b4) (cap := cap) (N := N) hA.1 he
  obtain ⟨hd, gs, b1, ⟨k4, b2, b3⟩, b5, b6, b7, b8, b9⟩ := hA.2 e he
  rw [a6] at hn
  have h8 := b6.1
  have hc8 := b2.2.1
  rw [a7]
  refine (wTm hA).mpr (Or.inr ⟨e, n, .var n, he, rfl, ⟨by omega, Or.inl (by omega)⟩, ⟨rfl, ⟨by omega, by omega⟩, rfl, Nat.lt_of_lt_of_le hn h8, b2.2.2.2.2.1 _ (by omega) (by omega)⟩, ⟨rfl, hn⟩, rfl⟩)
/-- trees at nodes are small -/
theorem wX_small (hA : wOl T m F c1 cap WI) {x : Int} {t : pE} (h : cTm (wX WI c1 b4 cap N) m x t) : nd t ≤ 360 ∧ aM t ≤ 30 := by
  have nd_rn : ∀ (p : Nat) (u : pE), nd (rn p u) = nd u ∧ aM (rn p u) = aM u := by
    intro p u
    unfold rn
    have key : ∀ u : pE, nd (sb (fun v => .var (p + v)) u) = nd u ∧ aM (sb (fun v => .var (p + v)) u) = aM u ∧ eN (sb (fun v => .var (p + v)) u) = eN u := by
      intro u
      induction u with
      | var v => exact ⟨rfl, rfl, rfl⟩
      | num i => exact ⟨rfl, rfl, rfl⟩
      | mulL k a ih =>
        refine ⟨?_, ?_, rfl⟩
        · show 1 + nd _ = 1 + nd a
          rw [ih.1]
        · show (if ari k = true ∧ eN _ = 2 then 1 else 0) + aM _ = (if ari k = true ∧ eN a = 2 then 1 else 0) + aM a
          rw [ih.2.1, ih.2.2]
      | add a r i1 i2 =>
        refine ⟨?_, ?_, ?_⟩
        · show nd _ + nd _ = nd a + nd r
          rw [i1.1, i2.1]
        · show aM _ + aM _ = aM a + aM r
          rw [i1.2.1, i2.2.1]
        · show eN _ + 1 = eN r + 1
          rw [i2.2.2]
      | sub a r => exact ⟨rfl, rfl, rfl⟩
      | neg a => exact ⟨rfl, rfl, rfl⟩
      | mulR a k => exact ⟨rfl, rfl, rfl⟩
    exact ⟨(key u).1, (key u).2.1⟩
  rcases (wTm hA).mp h with ⟨j, -, -, rfl, -⟩ | ⟨e, n, u, he, rfl, ⟨h1, h2⟩, h3, h4, rfl⟩
  · exact ⟨show 1 ≤ 360 by decide, Nat.zero_le _⟩
  · rw [(nd_rn _ u).1, (nd_rn _ u).2]
    obtain ⟨hd, gs, b1, ⟨k4, b2, b3⟩, b5, b6, b7, b8, b9⟩ := hA.2 e he
    have fin : ∀ t0 : pE, cP (m e.2.1.2.2.1) (m e.2.1.2.2.2.1) (m e.2.1.2.2.2.2) (fun z => 0 ≤ z ∧ z < e.2.1.2.1) t0 (-1) (n : Int) → eK e.2.2.1 t0 false → eM t0 ≤ 59 → aM t0 ≤ 30 → nd u ≤ 360 ∧ aM u ≤ 30 := by
      intro t0 q1 q2 q3 q4
      have : u = t0 := cP_uq u t0 (-1) (n : Int) e.2.2.1 e.2.2.1 false h3 q1 h4 q2 (fun q => by cases q) (fun _ => rfl)
      rw [this]
      have i1 := nd_tn t0 false q2
      have i2 := tn_eM t0 false q2
      rw [if_neg (by decide)] at i1 i2
      exact ⟨by omega, q4⟩
    rcases h2 with h2 | h2
    · refine fin (.var n) ⟨rfl, ⟨by omega, by have := b2.2.1; omega⟩, rfl, h2, b2.2.2.2.2.1 _ (by omega) (by omega)⟩ ?_ (Nat.zero_le _) (Nat.zero_le _)
      cases u with
      | var v =>
        have e1 : (n : Int) = ((v : Nat) : Int) := h3.2.2.1
        have e2 : n = v := by omega
        rw [e2]
        exact h4
      | num i =>
        rcases h3 with h3 | h3
        · have := h3.2.2.1
          omega
        · exact absurd h3.1 (by decide)
      | mulL k a =>
        have := h3.2.2.1
        omega
      | add a r => exact absurd h4.1 (by decide)
      | sub a r => exact h4.elim
      | neg a => exact h4.elim
      | mulR a k => exact h4.elim
    · rw [b3] at h2
      have hM := b6.2.2.2.2
      rcases List.mem_append.mp h2 with h2 | h2
      · cases hd with
        | none => cases h2
        | some t0 =>
          have hM : 2 * eM t0 + 1 + eMs gs ≤ 119 := hM
          have b7 : aM t0 + aMs gs ≤ 30 := b7
          obtain ⟨u', u1, u2, u3, u4⟩ := nds_sub (nv := e.2.2.1) t0 (-1) _ false (b2.2.2.2.2.2.1 t0 rfl) (b6.2.1 t0 rfl).1 _ h2
          exact fin u' u1 u2 (by omega) (by omega)
      · have gsub : ∀ (l : List pE) (i : Int), (∀ k (hk : k < l.length), cP (m e.2.1.2.2.1) (m e.2.1.2.2.2.1) (m e.2.1.2.2.2.2) (fun z => 0 ≤ z ∧ z < e.2.1.2.1) l[k] (-1) (m k4 (i + (k : Int))) ∧ eK e.2.2.1 l[k] false) → ∀ x ∈ ndG (m e.2.1.2.2.2.2) (m k4) l i, ∃ u, ∃ g ∈ l, cP (m e.2.1.2.2.1) (m e.2.1.2.2.2.1) (m e.2.1.2.2.2.2) (fun z => 0 ≤ z ∧ z < e.2.1.2.1) u (-1) x ∧ eK e.2.2.1 u false ∧ eM u ≤ eM g ∧ aM u ≤ aM g := by
          intro l
          induction l with
          | nil => exact fun i _ x hx => by cases hx
          | cons g r ih =>
            intro i hl x hx
            rcases List.mem_append.mp hx with hx | hx
            · have h0 := hl 0 (Nat.succ_pos _)
              rw [show i + ((0 : Nat) : Int) = i by omega] at h0
              obtain ⟨u, u1, u2, u3, u4⟩ := nds_sub g (-1) _ false h0.1 h0.2 x hx
              exact ⟨u, g, List.mem_cons_self .., u1, u2, u3, u4⟩
            · obtain ⟨u, g', q1, q2⟩ := ih (i + 1) (fun k hk => by
                have := hl (k + 1) (by simp only [List.length_cons]; omega)
                rw [show i + ((k + 1 : Nat) : Int) = i + 1 + (k : Int) by omega] at this
                exact this) x hx
              exact ⟨u, g', List.mem_cons_of_mem _ q1, q2⟩
        obtain ⟨u', g, g1, u1, u2, u3, u4⟩ := gsub gs 0 (fun k hk => by
          rw [show (0 : Int) + (k : Int) = (k : Int) by omega]
          exact ⟨b2.2.2.2.2.2.2.1 k hk, (b6.2.2.1 _ (List.getElem_mem hk)).1⟩) _ h2
        obtain ⟨q1, q2⟩ := eMs_mm gs g g1
        exact fin u' u1 u2 (by omega) (by omega)
end CW
