/-! THE SCRIPT'S CELL is looked at by the law alone: what runs over a heap whose cell 0 can't be used runs so over every other cell 0 -/
def im_rp (c0 : im_C) (h : im_H) : im_H := (h.1, h.2.1, va_up h.2.2 0 (some c0))
def im_ok0 (h : im_H) : Prop := 1 ≤ h.1 ∧ ∃ n f, h.2.2 0 = some (98, n, f)
theorem im_rp_at {c0 : im_C} {h : im_H} {a : Nat} {c : im_C} (h0 : im_ok0 h) (ha : h.2.2 a = some c) (hc : c.1 ≠ 98) : (im_rp c0 h).2.2 a = some c ∧ a ≠ 0 := by
  have hne : a ≠ 0 := by
    rintro rfl
    obtain ⟨-, n, f, h1⟩ := h0
    rw [h1] at ha
    cases ha
    exact hc rfl
  refine ⟨?_, hne⟩
  show va_up h.2.2 0 (some c0) a = some c
  unfold va_up
  rw [if_neg hne]
  exact ha
theorem im_rp_wr {c0 : im_C} {h : im_H} {a : Nat} {c : im_C} (ha : a ≠ 0) : im_rp c0 (im_wr h a c) = im_wr (im_rp c0 h) a c := by
  unfold im_rp im_wr
  dsimp only
  congr 2
  funext j
  unfold va_up
  by_cases h1 : j = 0
  · subst h1; rw [if_pos rfl, if_neg (Ne.symm ha), if_pos rfl]
  · rw [if_neg h1, if_neg h1]
theorem im_ok0_wr {h : im_H} {a : Nat} {c : im_C} (h0 : im_ok0 h) (ha : a ≠ 0) : im_ok0 (im_wr h a c) := by
  obtain ⟨h1, n, f, h2⟩ := h0
  refine ⟨h1, n, f, ?_⟩
  show va_up h.2.2 a (some c) 0 = _
  unfold va_up
  rw [if_neg (Ne.symm ha)]
  exact h2
theorem im_rp_mk {c0 : im_C} {h : im_H} {c : im_C} (h0 : im_ok0 h) : im_rp c0 (im_mk h c) = im_mk (im_rp c0 h) c ∧ im_ok0 (im_mk h c) := by
  obtain ⟨h1, n, f, h2⟩ := h0
  have hn : (0 : Nat) ≠ h.1 := by omega
  refine ⟨?_, by show 1 ≤ h.1 + 1; omega, n, f, ?_⟩
  · unfold im_rp im_mk
    dsimp only
    congr 2
    funext j
    unfold va_up
    by_cases h1 : j = 0
    · subst h1; rw [if_pos rfl, if_neg hn, if_pos rfl]
    · rw [if_neg h1, if_neg h1]
  · show va_up h.2.2 h.1 (some c) 0 = _
    unfold va_up
    rw [if_neg hn]
    exact h2
theorem im_h_rp {kd : Nat → Nat → Nat} {nf : Nat → Nat} {c0 : im_C} {e : im_E} {st st' : List Value} {h h' : im_H} (he : e.2.2.2.1 ≠ 98) (h0 : im_ok0 h) (hp : im_h kd nf e st h = some (st', h')) : im_h kd nf e st (im_rp c0 h) = some (st', im_rp c0 h') ∧ im_ok0 h' := by
  obtain ⟨pc, i, len, ea, eb, ec, ev⟩ := e
  dsimp only at he
  cases i
  case getfield ix =>
    dsimp only [im_h] at hp ⊢
    split at hp
    · split at hp
      · rename_i t n f ha
        split at hp
        · rename_i hc
          cases hp
          rw [(im_rp_at (c0 := c0) h0 ha (by dsimp only; omega)).1]
          dsimp only
          rw [if_pos hc]
          exact ⟨rfl, h0⟩
        · cases hp
      · cases hp
    · cases hp
  case putfield ix =>
    dsimp only [im_h] at hp ⊢
    split at hp
    · split at hp
      · rename_i t n f ha
        split at hp
        · rename_i hc
          cases hp
          obtain ⟨g1, g2⟩ := im_rp_at (c0 := c0) h0 ha (by dsimp only; omega)
          rw [g1]
          dsimp only
          rw [if_pos hc, im_rp_wr g2]
          exact ⟨rfl, im_ok0_wr h0 g2⟩
        · cases hp
      · cases hp
    · cases hp
  case arraylength =>
    dsimp only [im_h] at hp ⊢
    split at hp
    · split at hp
      · rename_i t n f ha
        split at hp
        · rename_i hc
          cases hp
          rw [(im_rp_at (c0 := c0) h0 ha (by dsimp only; omega)).1]
          dsimp only
          rw [if_pos hc]
          exact ⟨rfl, h0⟩
        · cases hp
      · cases hp
    · cases hp
  case checkcast ix =>
    dsimp only [im_h] at hp ⊢
    split at hp
    · split at hp
      · rename_i t n f ha
        split at hp
        · rename_i hc
          cases hp
          rw [(im_rp_at (c0 := c0) h0 ha (by dsimp only; omega)).1]
          dsimp only
          rw [if_pos hc]
          exact ⟨rfl, h0⟩
        · cases hp
      · cases hp
    · cases hp
  case iaload =>
    dsimp only [im_h] at hp ⊢
    split at hp
    · split at hp
      · rename_i t n f ha
        split at hp
        · rename_i hc
          split at hp
          · rename_i j hj
            cases hp
            rw [(im_rp_at (c0 := c0) h0 ha (by dsimp only; omega)).1]
            dsimp only
            rw [if_pos hc, hj]
            exact ⟨rfl, h0⟩
          · cases hp
        · cases hp
      · cases hp
    · cases hp
  case laload =>
    dsimp only [im_h] at hp ⊢
    split at hp
    · split at hp
      · rename_i t n f ha
        split at hp
        · rename_i hc
          split at hp
          · rename_i j hj
            cases hp
            rw [(im_rp_at (c0 := c0) h0 ha (by dsimp only; omega)).1]
            dsimp only
            rw [if_pos hc, hj]
            exact ⟨rfl, h0⟩
          · cases hp
        · cases hp
      · cases hp
    · cases hp
  case caload =>
    dsimp only [im_h] at hp ⊢
    split at hp
    · split at hp
      · rename_i t n f ha
        split at hp
        · rename_i hc
          split at hp
          · rename_i j hj
            cases hp
            rw [(im_rp_at (c0 := c0) h0 ha (by dsimp only; omega)).1]
            dsimp only
            rw [if_pos hc, hj]
            exact ⟨rfl, h0⟩
          · cases hp
        · cases hp
      · cases hp
    · cases hp
  case aaload =>
    dsimp only [im_h] at hp ⊢
    split at hp
    · split at hp
      · rename_i t n f ha
        split at hp
        · rename_i hc
          split at hp
          · rename_i j hj
            cases hp
            rw [(im_rp_at (c0 := c0) h0 ha (by dsimp only; omega)).1]
            dsimp only
            rw [if_pos hc, hj]
            exact ⟨rfl, h0⟩
          · cases hp
        · cases hp
      · cases hp
    · cases hp
  case iastore =>
    dsimp only [im_h] at hp ⊢
    split at hp
    · split at hp
      · rename_i t n f ha
        split at hp
        · rename_i hc
          split at hp
          · rename_i j hj
            cases hp
            obtain ⟨g1, g2⟩ := im_rp_at (c0 := c0) h0 ha (by dsimp only; omega)
            rw [g1]
            dsimp only
            rw [if_pos hc, hj]
            dsimp only
            rw [im_rp_wr g2]
            exact ⟨rfl, im_ok0_wr h0 g2⟩
          · cases hp
        · cases hp
      · cases hp
    · cases hp
  case lastore =>
    dsimp only [im_h] at hp ⊢
    split at hp
    · split at hp
      · rename_i t n f ha
        split at hp
        · rename_i hc
          split at hp
          · rename_i j hj
            cases hp
            obtain ⟨g1, g2⟩ := im_rp_at (c0 := c0) h0 ha (by dsimp only; omega)
            rw [g1]
            dsimp only
            rw [if_pos hc, hj]
            dsimp only
            rw [im_rp_wr g2]
            exact ⟨rfl, im_ok0_wr h0 g2⟩
          · cases hp
        · cases hp
      · cases hp
    · cases hp
  case castore =>
    dsimp only [im_h] at hp ⊢
    split at hp
    · split at hp
      · rename_i t n f ha
        split at hp
        · rename_i hc
          split at hp
          · rename_i j hj
            cases hp
            obtain ⟨g1, g2⟩ := im_rp_at (c0 := c0) h0 ha (by dsimp only; omega)
            rw [g1]
            dsimp only
            rw [if_pos hc, hj]
            dsimp only
            rw [im_rp_wr g2]
            exact ⟨rfl, im_ok0_wr h0 g2⟩
          · cases hp
        · cases hp
      · cases hp
    · cases hp
  case aastore =>
    dsimp only [im_h] at hp ⊢
    split at hp
    · split at hp
      · rename_i t n f ha
        split at hp
        · rename_i hc
          split at hp
          · rename_i j hj
            cases hp
            obtain ⟨g1, g2⟩ := im_rp_at (c0 := c0) h0 ha (by dsimp only; omega)
            rw [g1]
            dsimp only
            rw [if_pos hc, hj]
            dsimp only
            rw [im_rp_wr g2]
            exact ⟨rfl, im_ok0_wr h0 g2⟩
          · cases hp
        · cases hp
      · cases hp
    · split at hp
      · rename_i t n f ha
        split at hp
        · rename_i tv nv fv hv
          split at hp
          · rename_i hc
            split at hp
            · rename_i j hj
              cases hp
              obtain ⟨g1, g2⟩ := im_rp_at (c0 := c0) h0 ha (by dsimp only; omega)
              obtain ⟨g3, -⟩ := im_rp_at (c0 := c0) h0 hv (by dsimp only; omega)
              rw [g1]
              dsimp only
              rw [g3]
              dsimp only
              rw [if_pos hc, hj]
              dsimp only
              rw [im_rp_wr g2]
              exact ⟨rfl, im_ok0_wr h0 g2⟩
            · cases hp
          · cases hp
        · cases hp
      · cases hp
    · cases hp
  case new ix =>
    dsimp only [im_h] at hp ⊢
    cases hp
    obtain ⟨g1, g2⟩ := im_rp_mk (c0 := c0) (c := (ea, nf ea, fun k => im_dv (kd ea k))) h0
    rw [g1]
    exact ⟨rfl, g2⟩
  case newarray at0 =>
    cases at0 <;> first | (cases hp; done) | skip
    all_goals
      dsimp only [im_h] at hp ⊢
      split at hp
      · split at hp
        · cases hp
        · rename_i q1
          split at hp
          · cases hp
          · rename_i q2
            cases hp
            rw [if_neg q1, if_neg q2, (im_rp_mk (c0 := c0) h0).1]
            exact ⟨rfl, (im_rp_mk (c0 := c0) h0).2⟩
      · cases hp
  case anewarray ix =>
    dsimp only [im_h] at hp ⊢
    split at hp
    · split at hp
      · cases hp
      · rename_i q1
        split at hp
        · cases hp
        · rename_i q2
          cases hp
          rw [if_neg q1, if_neg q2, (im_rp_mk (c0 := c0) h0).1]
          exact ⟨rfl, (im_rp_mk (c0 := c0) h0).2⟩
    · cases hp
  case ldc ix => cases hp; exact ⟨rfl, h0⟩
  case ldc_w ix => cases hp; exact ⟨rfl, h0⟩
  case ldc2_w ix => cases hp; exact ⟨rfl, h0⟩
  all_goals exact nomatch (show (none : Option (List Value × im_H)) = some (st', h') from hp)
theorem im_c_rp {tb : List im_M} {cal : Nat → List Value → im_H → Option im_R} {c0 : im_C} (htb : ∀ (M : Nat) (mi : im_M), tb[M]? = some mi → mi.2.2.2.2.1 ≠ 98) (IH : ∀ (M : Nat) (as : List Value) (h : im_H) (r : im_R), im_ok0 h → cal M as h = some r → cal M as (im_rp c0 h) = some (im_rp c0 r.1, r.2) ∧ im_ok0 r.1) {e : im_E} {st st' : List Value} {h h' : im_H} (h0 : im_ok0 h) (hp : im_c tb cal e st h = some (st', h')) : im_c tb cal e st (im_rp c0 h) = some (st', im_rp c0 h') ∧ im_ok0 h' := by
  have bk : ∀ (rest : List Value) (M : Nat) (as : List Value), im_bk rest (cal M as h) = some (st', h') → im_bk rest (cal M as (im_rp c0 h)) = some (st', im_rp c0 h') ∧ im_ok0 h' := by
    intro rest M as hq
    cases hc : cal M as h with
    | none => rw [hc] at hq; cases hq
    | some r =>
      rw [hc] at hq
      cases hq
      obtain ⟨g1, g2⟩ := IH _ _ _ _ h0 hc
      rw [g1]
      exact ⟨rfl, g2⟩
  unfold im_c at hp ⊢
  split at hp
  · rename_i k0
    rw [if_pos k0]
    unfold im_c0 at hp ⊢
    split at hp
    · split at hp
      · rename_i hr; cases hp; rw [if_pos hr]; exact ⟨rfl, h0⟩
      · cases hp
    · cases hp
  · rename_i k0
    rw [if_neg k0]
    split at hp
    · rename_i k1
      rw [if_pos k1]
      unfold im_c8 at hp ⊢
      split at hp
      · split at hp
        · rename_i t0 n0 f ha0
          split at hp
          · rename_i t1 n1 g ha1
            split at hp
            · rename_i hc
              cases hp
              obtain ⟨g1, -⟩ := im_rp_at (c0 := c0) h0 ha0 (by dsimp only; omega)
              obtain ⟨g3, g4⟩ := im_rp_at (c0 := c0) h0 ha1 (by dsimp only; omega)
              (try dsimp only)
              rw [g1]
              dsimp only
              rw [g3]
              dsimp only
              rw [if_pos hc, im_rp_wr g4]
              exact ⟨rfl, im_ok0_wr h0 g4⟩
            · cases hp
          · cases hp
        · cases hp
      · cases hp
    · rename_i k1
      rw [if_neg k1]
      split at hp
      · rename_i k2
        rw [if_pos k2]
        unfold im_c9 at hp ⊢
        split at hp
        · split at hp
          · rename_i t n f ha
            split at hp
            · rename_i hc
              cases hp
              obtain ⟨g1, -⟩ := im_rp_at (c0 := c0) h0 ha (by dsimp only; omega)
              (try dsimp only)
              rw [g1]
              dsimp only
              rw [if_pos hc, (im_rp_mk (c0 := c0) h0).1]
              exact ⟨rfl, (im_rp_mk (c0 := c0) h0).2⟩
            · cases hp
          · cases hp
        · cases hp
      · rename_i k2
        rw [if_neg k2]
        split at hp
        · rename_i q10
          rw [if_pos q10]
          unfold im_c10 at hp ⊢
          split at hp
          · split at hp
            · rename_i hr; cases hp; rw [if_pos hr]; exact ⟨rfl, h0⟩
            · cases hp
          · cases hp
        rename_i q10
        rw [if_neg q10]
        split at hp
        · rename_i q11
          rw [if_pos q11]
          unfold im_c11 at hp ⊢
          split at hp
          · split at hp
            · rename_i hr; cases hp; rw [if_pos hr]; exact ⟨rfl, h0⟩
            · cases hp
          · cases hp
        rename_i q11
        rw [if_neg q11]
        split at hp
        · rename_i q12
          rw [if_pos q12]
          unfold im_c12 at hp ⊢
          split at hp
          · split at hp
            · rename_i hr; cases hp; rw [if_pos hr]; exact ⟨rfl, h0⟩
            · cases hp
          · cases hp
        rename_i q12
        rw [if_neg q12]
        split at hp
        · rename_i y hy
          split at hp
          · rename_i k3
            rw [if_pos k3]
            unfold im_cS at hp ⊢
            split at hp
            · rename_i w hw
              split at hp
              · rename_i h4
                rw [if_pos h4]
                exact bk _ _ _ hp
              · cases hp
            · cases hp
          · rename_i k3
            rw [if_neg k3]
            unfold im_cI at hp ⊢
            split at hp
            · rename_i w hw
              split at hp
              · rename_i rb rest hr
                split at hp
                · rename_i h4
                  rw [if_pos h4]
                  split at hp
                  · rename_i c1 hb
                    split at hp
                    · rename_i h5
                      obtain ⟨g1, -⟩ := im_rp_at (c0 := c0) h0 hb (by rw [h5]; exact htb _ _ hy)
                      rw [g1]
                      dsimp only
                      rw [if_pos h5]
                      exact bk _ _ _ hp
                    · cases hp
                  · cases hp
                · cases hp
              · cases hp
            · cases hp
        · cases hp
theorem im_st_rp {tb : List im_M} {kd : Nat → Nat → Nat} {nf : Nat → Nat} {cal : Nat → List Value → im_H → Option im_R} {c0 : im_C} {mi : im_M} (htb : ∀ (M : Nat) (mi : im_M), tb[M]? = some mi → mi.2.2.2.2.1 ≠ 98) (IH : ∀ (M : Nat) (as : List Value) (h : im_H) (r : im_R), im_ok0 h → cal M as h = some r → cal M as (im_rp c0 h) = some (im_rp c0 r.1, r.2) ∧ im_ok0 r.1) {e : im_E} {lv : im_L} {st : List Value} {h : im_H} (he : e.2.2.2.1 ≠ 98) (h0 : im_ok0 h) :
    (∀ q : im_S, im_st tb kd nf cal mi e lv st h = some (.inl q) → im_st tb kd nf cal mi e lv st (im_rp c0 h) = some (.inl (q.1, q.2.1, q.2.2.1, im_rp c0 q.2.2.2)) ∧ im_ok0 q.2.2.2) ∧ ∀ r : im_R, im_st tb kd nf cal mi e lv st h = some (.inr r) → im_st tb kd nf cal mi e lv st (im_rp c0 h) = some (.inr (im_rp c0 r.1, r.2)) ∧ im_ok0 r.1 := by
  unfold im_st
  split
  · refine ⟨fun q hq => ?_, fun r hq => ?_⟩
    · split at hq <;> cases hq
      exact ⟨rfl, h0⟩
    · split at hq <;> cases hq
  · refine ⟨fun q hq => ?_, fun r hq => ?_⟩
    · split at hq <;> cases hq
      exact ⟨rfl, h0⟩
    · split at hq <;> cases hq
  · refine ⟨fun q hq => ?_, fun r hq => ?_⟩
    · split at hq
      · cases hq
        exact ⟨rfl, h0⟩
      · split at hq <;> cases hq
        exact ⟨rfl, h0⟩
      · cases hq
    · split at hq
      · cases hq
      · split at hq <;> cases hq
      · cases hq
  · refine ⟨fun q hq => ?_, fun r hq => ?_⟩
    · split at hq
      · rename_i w hw
        cases hq
        obtain ⟨g1, g2⟩ := im_h_rp (c0 := c0) he h0 hw
        rw [g1]
        exact ⟨rfl, g2⟩
      · cases hq
    · split at hq <;> cases hq
  · refine ⟨fun q hq => ?_, fun r hq => ?_⟩
    · split at hq
      · rename_i w hw
        cases hq
        obtain ⟨g1, g2⟩ := im_c_rp htb IH h0 hw
        rw [g1]
        exact ⟨rfl, g2⟩
      · cases hq
    · split at hq <;> cases hq
  · refine ⟨fun q hq => ?_, fun r hq => ?_⟩
    · split at hq <;> cases hq
    · split at hq <;> cases hq
      exact ⟨rfl, h0⟩
theorem im_ex_rp {tb : List im_M} {kd : Nat → Nat → Nat} {nf : Nat → Nat} {cal : Nat → List Value → im_H → Option im_R} {c0 : im_C} {mi : im_M} (htb : ∀ (M : Nat) (mi : im_M), tb[M]? = some mi → mi.2.2.2.2.1 ≠ 98) (IH : ∀ (M : Nat) (as : List Value) (h : im_H) (r : im_R), im_ok0 h → cal M as h = some r → cal M as (im_rp c0 h) = some (im_rp c0 r.1, r.2) ∧ im_ok0 r.1) (hme : ∀ e ∈ mi.2.2.2.2.2, e.2.2.2.1 ≠ 98) {r : im_R} : ∀ (n pc : Nat) (lv : im_L) (st : List Value) (h : im_H), im_ok0 h → im_ex tb kd nf cal mi n pc lv st h = some r → im_ex tb kd nf cal mi n pc lv st (im_rp c0 h) = some (im_rp c0 r.1, r.2) ∧ im_ok0 r.1 := by
  intro n
  induction n with
  | zero => intro pc lv st h _ hp; cases hp
  | succ n ih =>
    intro pc lv st h h0 hp
    unfold im_ex at hp ⊢
    split at hp
    · cases hp
    · rename_i e he
      have hq := im_st_rp (kd := kd) (nf := nf) (mi := mi) (lv := lv) (st := st) (c0 := c0) htb IH (hme e (im_at_mem he).1) h0
      split at hp
      · cases hp
      · rename_i q hs
        obtain ⟨g1, g2⟩ := hq.1 q hs
        rw [g1]
        exact ih _ _ _ _ g2 hp
      · rename_i q hs
        obtain ⟨g1, g2⟩ := hq.2 q hs
        cases hp
        rw [g1]
        exact ⟨rfl, g2⟩
theorem im_rn_rp {tb : List im_M} {kd : Nat → Nat → Nat} {nf : Nat → Nat} {F : Nat} {c0 : im_C} (htb : ∀ (M : Nat) (mi : im_M), tb[M]? = some mi → mi.2.2.2.2.1 ≠ 98 ∧ ∀ e ∈ mi.2.2.2.2.2, e.2.2.2.1 ≠ 98) : ∀ (d M : Nat) (as : List Value) (h : im_H) (r : im_R), im_ok0 h → im_rn tb kd nf F d M as h = some r → im_rn tb kd nf F d M as (im_rp c0 h) = some (im_rp c0 r.1, r.2) ∧ im_ok0 r.1 := by
  intro d
  induction d with
  | zero => intro M as h r _ hp; cases hp
  | succ d ih =>
    intro M as h r h0 hp
    unfold im_rn at hp ⊢
    split at hp
    · cases hp
    · rename_i mi hm
      split at hp
      · rename_i hl
        rw [if_pos hl]
        exact im_ex_rp (fun M mi hm => (htb M mi hm).1) ih (htb M mi hm).2 _ _ _ _ _ h0 hp
      · cases hp
