/-! CELLS THAT ARE NOT LOOKED AT: what runs over a heap where cells of G can't be used runs so over every other such cells -/
def im_rq (G : Nat → Option im_C) (h : im_H) : im_H := (h.1, h.2.1, fun a => match G a with
  | some c => some c
  | none => h.2.2 a)
def im_okq (G : Nat → Option im_C) (h : im_H) : Prop := ∀ a c, G a = some c → a < h.1 ∧ ∃ n f, h.2.2 a = some (98, n, f)
theorem im_rq_o {G : Nat → Option im_C} {h : im_H} {a : Nat} (ha : G a = none) : (im_rq G h).2.2 a = h.2.2 a := by
  show (match G a with
  | some c => some c
  | none => h.2.2 a) = _
  rw [ha]
theorem im_rq_i {G : Nat → Option im_C} {h : im_H} {a : Nat} {c : im_C} (ha : G a = some c) : (im_rq G h).2.2 a = some c := by
  show (match G a with
  | some c => some c
  | none => h.2.2 a) = _
  rw [ha]
theorem im_rq_at {G : Nat → Option im_C} {h : im_H} {a : Nat} {c : im_C} (h0 : im_okq G h) (ha : h.2.2 a = some c) (hc : c.1 ≠ 98) : (im_rq G h).2.2 a = some c ∧ G a = none := by
  cases e : G a with
  | none => exact ⟨by rw [im_rq_o e]; exact ha, rfl⟩
  | some d =>
    obtain ⟨-, n, f, h1⟩ := h0 a d e
    rw [h1] at ha
    cases ha
    exact absurd rfl hc
theorem im_rq_wr {G : Nat → Option im_C} {h : im_H} {a : Nat} {c : im_C} (ha : G a = none) : im_rq G (im_wr h a c) = im_wr (im_rq G h) a c := by
  unfold im_rq im_wr
  dsimp only
  congr 2
  funext j
  unfold va_up
  by_cases h1 : j = a
  · subst h1; rw [ha, if_pos rfl]; show some c = _; rw [if_pos rfl]
  · rw [if_neg h1, if_neg h1]
theorem im_okq_wr {G : Nat → Option im_C} {h : im_H} {a : Nat} {c : im_C} (h0 : im_okq G h) (ha : G a = none) : im_okq G (im_wr h a c) := by
  intro b d hb
  obtain ⟨h1, n, f, h2⟩ := h0 b d hb
  refine ⟨h1, n, f, ?_⟩
  show va_up h.2.2 a (some c) b = _
  unfold va_up
  rw [if_neg (fun q => by rw [q, ha] at hb; cases hb)]
  exact h2
theorem im_rq_mk {G : Nat → Option im_C} {h : im_H} {c : im_C} (h0 : im_okq G h) : im_rq G (im_mk h c) = im_mk (im_rq G h) c ∧ im_okq G (im_mk h c) := by
  have hn : G h.1 = none := by
    cases e : G h.1 with
    | none => rfl
    | some d => exact absurd (h0 _ d e).1 (Nat.lt_irrefl _)
  refine ⟨?_, fun b d hb => ?_⟩
  · unfold im_rq im_mk
    dsimp only
    congr 2
    funext j
    unfold va_up
    by_cases h1 : j = h.1
    · subst h1; rw [hn, if_pos rfl]; show some c = _; rw [if_pos rfl]
    · rw [if_neg h1, if_neg h1]
  · obtain ⟨h1, n, f, h2⟩ := h0 b d hb
    refine ⟨Nat.lt_succ_of_lt h1, n, f, ?_⟩
    show va_up h.2.2 h.1 (some c) b = _
    unfold va_up
    rw [if_neg (by omega)]
    exact h2
theorem im_h_rq_q {kd : Nat → Nat → Nat} {nf : Nat → Nat} {G : Nat → Option im_C} {e : im_E} {st st' : List Value} {h h' : im_H} (he : e.2.2.2.1 ≠ 98) (h0 : im_okq G h) (hp : im_h kd nf e st h = some (st', h')) : im_h kd nf e st (im_rq G h) = some (st', im_rq G h') ∧ im_okq G h' := by
  obtain ⟨pc, i, len, ea, eb, ec, ev⟩ := e
  dsimp only at he
  cases i
  case getfield ix =>
    dsimp only [im_h] at hp ⊢
    split at hp
    · split at hp
      · rename_i t n f ha
        split at hp
        · rename_i hc
          cases hp
          rw [(im_rq_at (G := G) h0 ha (by dsimp only; omega)).1]
          dsimp only
          rw [if_pos hc]
          exact ⟨rfl, h0⟩
        · cases hp
      · cases hp
    · cases hp
  case putfield ix =>
    dsimp only [im_h] at hp ⊢
    split at hp
    · split at hp
      · rename_i t n f ha
        split at hp
        · rename_i hc
          cases hp
          obtain ⟨g1, g2⟩ := im_rq_at (G := G) h0 ha (by dsimp only; omega)
          rw [g1]
          dsimp only
          rw [if_pos hc, im_rq_wr g2]
          exact ⟨rfl, im_okq_wr h0 g2⟩
        · cases hp
      · cases hp
    · cases hp
  case arraylength =>
    dsimp only [im_h] at hp ⊢
    split at hp
    · split at hp
      · rename_i t n f ha
        split at hp
        · rename_i hc
          cases hp
          rw [(im_rq_at (G := G) h0 ha (by dsimp only; omega)).1]
          dsimp only
          rw [if_pos hc]
          exact ⟨rfl, h0⟩
        · cases hp
      · cases hp
    · cases hp
  case checkcast ix =>
    dsimp only [im_h] at hp ⊢
    split at hp
    · split at hp
      · rename_i t n f ha
        split at hp
        · rename_i hc
          cases hp
          rw [(im_rq_at (G := G) h0 ha (by dsimp only; omega)).1]
          dsimp only
          rw [if_pos hc]
          exact ⟨rfl, h0⟩
        · cases hp
      · cases hp
    · cases hp
  case iaload =>
    dsimp only [im_h] at hp ⊢
    split at hp
    · split at hp
      · rename_i t n f ha
        split at hp
        · rename_i hc
          split at hp
          · rename_i j hj
            cases hp
            rw [(im_rq_at (G := G) h0 ha (by dsimp only; omega)).1]
            dsimp only
            rw [if_pos hc, hj]
            exact ⟨rfl, h0⟩
          · cases hp
        · cases hp
      · cases hp
    · cases hp
  case laload =>
    dsimp only [im_h] at hp ⊢
    split at hp
    · split at hp
      · rename_i t n f ha
        split at hp
        · rename_i hc
          split at hp
          · rename_i j hj
            cases hp
            rw [(im_rq_at (G := G) h0 ha (by dsimp only; omega)).1]
            dsimp only
            rw [if_pos hc, hj]
            exact ⟨rfl, h0⟩
          · cases hp
        · cases hp
      · cases hp
    · cases hp
  case caload =>
    dsimp only [im_h] at hp ⊢
    split at hp
    · split at hp
      · rename_i t n f ha
        split at hp
        · rename_i hc
          split at hp
          · rename_i j hj
            cases hp
            rw [(im_rq_at (G := G) h0 ha (by dsimp only; omega)).1]
            dsimp only
            rw [if_pos hc, hj]
            exact ⟨rfl, h0⟩
          · cases hp
        · cases hp
      · cases hp
    · cases hp
  case aaload =>
    dsimp only [im_h] at hp ⊢
    split at hp
    · split at hp
      · rename_i t n f ha
        split at hp
        · rename_i hc
          split at hp
          · rename_i j hj
            cases hp
            rw [(im_rq_at (G := G) h0 ha (by dsimp only; omega)).1]
            dsimp only
            rw [if_pos hc, hj]
            exact ⟨rfl, h0⟩
          · cases hp
        · cases hp
      · cases hp
    · cases hp
  case iastore =>
    dsimp only [im_h] at hp ⊢
    split at hp
    · split at hp
      · rename_i t n f ha
        split at hp
        · rename_i hc
          split at hp
          · rename_i j hj
            cases hp
            obtain ⟨g1, g2⟩ := im_rq_at (G := G) h0 ha (by dsimp only; omega)
            rw [g1]
            dsimp only
            rw [if_pos hc, hj]
            dsimp only
            rw [im_rq_wr g2]
            exact ⟨rfl, im_okq_wr h0 g2⟩
          · cases hp
        · cases hp
      · cases hp
    · cases hp
  case lastore =>
    dsimp only [im_h] at hp ⊢
    split at hp
    · split at hp
      · rename_i t n f ha
        split at hp
        · rename_i hc
          split at hp
          · rename_i j hj
            cases hp
            obtain ⟨g1, g2⟩ := im_rq_at (G := G) h0 ha (by dsimp only; omega)
            rw [g1]
            dsimp only
            rw [if_pos hc, hj]
            dsimp only
            rw [im_rq_wr g2]
            exact ⟨rfl, im_okq_wr h0 g2⟩
          · cases hp
        · cases hp
      · cases hp
    · cases hp
  case castore =>
    dsimp only [im_h] at hp ⊢
    split at hp
    · split at hp
      · rename_i t n f ha
        split at hp
        · rename_i hc
          split at hp
          · rename_i j hj
            cases hp
            obtain ⟨g1, g2⟩ := im_rq_at (G := G) h0 ha (by dsimp only; omega)
            rw [g1]
            dsimp only
            rw [if_pos hc, hj]
            dsimp only
            rw [im_rq_wr g2]
            exact ⟨rfl, im_okq_wr h0 g2⟩
          · cases hp
        · cases hp
      · cases hp
    · cases hp
  case aastore =>
    dsimp only [im_h] at hp ⊢
    split at hp
    · split at hp
      · rename_i t n f ha
        split at hp
        · rename_i hc
          split at hp
          · rename_i j hj
            cases hp
            obtain ⟨g1, g2⟩ := im_rq_at (G := G) h0 ha (by dsimp only; omega)
            rw [g1]
            dsimp only
            rw [if_pos hc, hj]
            dsimp only
            rw [im_rq_wr g2]
            exact ⟨rfl, im_okq_wr h0 g2⟩
          · cases hp
        · cases hp
      · cases hp
    · split at hp
      · rename_i t n f ha
        split at hp
        · rename_i tv nv fv hv
          split at hp
          · rename_i hc
            split at hp
            · rename_i j hj
              cases hp
              obtain ⟨g1, g2⟩ := im_rq_at (G := G) h0 ha (by dsimp only; omega)
              obtain ⟨g3, -⟩ := im_rq_at (G := G) h0 hv (by dsimp only; omega)
              rw [g1]
              dsimp only
              rw [g3]
              dsimp only
              rw [if_pos hc, hj]
              dsimp only
              rw [im_rq_wr g2]
              exact ⟨rfl, im_okq_wr h0 g2⟩
            · cases hp
          · cases hp
        · cases hp
      · cases hp
    · cases hp
  case new ix =>
    dsimp only [im_h] at hp ⊢
    cases hp
    obtain ⟨g1, g2⟩ := im_rq_mk (G := G) (c := (ea, nf ea, fun k => im_dv (kd ea k))) h0
    rw [g1]
    exact ⟨rfl, g2⟩
  case newarray at0 =>
    cases at0 <;> first | (cases hp; done) | skip
    all_goals
      dsimp only [im_h] at hp ⊢
      split at hp
      · split at hp
        · cases hp
        · rename_i q1
          split at hp
          · cases hp
          · rename_i q2
            cases hp
            rw [if_neg q1, if_neg q2, (im_rq_mk (G := G) h0).1]
            exact ⟨rfl, (im_rq_mk (G := G) h0).2⟩
      · cases hp
  case anewarray ix =>
    dsimp only [im_h] at hp ⊢
    split at hp
    · split at hp
      · cases hp
      · rename_i q1
        split at hp
        · cases hp
        · rename_i q2
          cases hp
          rw [if_neg q1, if_neg q2, (im_rq_mk (G := G) h0).1]
          exact ⟨rfl, (im_rq_mk (G := G) h0).2⟩
    · cases hp
  case ldc ix => cases hp; exact ⟨rfl, h0⟩
  case ldc_w ix => cases hp; exact ⟨rfl, h0⟩
  case ldc2_w ix => cases hp; exact ⟨rfl, h0⟩
  all_goals exact nomatch (show (none : Option (List Value × im_H)) = some (st', h') from hp)
theorem im_c_rp_q {tb : List im_M} {cal : Nat → List Value → im_H → Option im_R} {G : Nat → Option im_C} (htb : ∀ (M : Nat) (mi : im_M), tb[M]? = some mi → mi.2.2.2.2.1 ≠ 98) (IH : ∀ (M : Nat) (as : List Value) (h : im_H) (r : im_R), im_okq G h → cal M as h = some r → cal M as (im_rq G h) = some (im_rq G r.1, r.2) ∧ im_okq G r.1) {e : im_E} {st st' : List Value} {h h' : im_H} (h0 : im_okq G h) (hp : im_c tb cal e st h = some (st', h')) : im_c tb cal e st (im_rq G h) = some (st', im_rq G h') ∧ im_okq G h' := by
  have bk : ∀ (rest : List Value) (M : Nat) (as : List Value), im_bk rest (cal M as h) = some (st', h') → im_bk rest (cal M as (im_rq G h)) = some (st', im_rq G h') ∧ im_okq G h' := by
    intro rest M as hq
    cases hc : cal M as h with
    | none => rw [hc] at hq; cases hq
    | some r =>
      rw [hc] at hq
      cases hq
      obtain ⟨g1, g2⟩ := IH _ _ _ _ h0 hc
      rw [g1]
      exact ⟨rfl, g2⟩
  unfold im_c at hp ⊢
  split at hp
  · rename_i k0
    rw [if_pos k0]
    unfold im_c0 at hp ⊢
    split at hp
    · split at hp
      · rename_i hr; cases hp; rw [if_pos hr]; exact ⟨rfl, h0⟩
      · cases hp
    · cases hp
  · rename_i k0
    rw [if_neg k0]
    split at hp
    · rename_i k1
      rw [if_pos k1]
      unfold im_c8 at hp ⊢
      split at hp
      · split at hp
        · rename_i t0 n0 f ha0
          split at hp
          · rename_i t1 n1 g ha1
            split at hp
            · rename_i hc
              cases hp
              obtain ⟨g1, -⟩ := im_rq_at (G := G) h0 ha0 (by dsimp only; omega)
              obtain ⟨g3, g4⟩ := im_rq_at (G := G) h0 ha1 (by dsimp only; omega)
              (try dsimp only)
              rw [g1]
              dsimp only
              rw [g3]
              dsimp only
              rw [if_pos hc, im_rq_wr g4]
              exact ⟨rfl, im_okq_wr h0 g4⟩
            · cases hp
          · cases hp
        · cases hp
      · cases hp
    · rename_i k1
      rw [if_neg k1]
      split at hp
      · rename_i k2
        rw [if_pos k2]
        unfold im_c9 at hp ⊢
        split at hp
        · split at hp
          · rename_i t n f ha
            split at hp
            · rename_i hc
              cases hp
              obtain ⟨g1, -⟩ := im_rq_at (G := G) h0 ha (by dsimp only; omega)
              (try dsimp only)
              rw [g1]
              dsimp only
              rw [if_pos hc, (im_rq_mk (G := G) h0).1]
              exact ⟨rfl, (im_rq_mk (G := G) h0).2⟩
            · cases hp
          · cases hp
        · cases hp
      · rename_i k2
        rw [if_neg k2]
        split at hp
        · rename_i q10
          rw [if_pos q10]
          unfold im_c10 at hp ⊢
          split at hp
          · split at hp
            · rename_i hr; cases hp; rw [if_pos hr]; exact ⟨rfl, h0⟩
            · cases hp
          · cases hp
        rename_i q10
        rw [if_neg q10]
        split at hp
        · rename_i q11
          rw [if_pos q11]
          unfold im_c11 at hp ⊢
          split at hp
          · split at hp
            · rename_i hr; cases hp; rw [if_pos hr]; exact ⟨rfl, h0⟩
            · cases hp
          · cases hp
        rename_i q11
        rw [if_neg q11]
        split at hp
        · rename_i q12
          rw [if_pos q12]
          unfold im_c12 at hp ⊢
          split at hp
          · split at hp
            · rename_i hr; cases hp; rw [if_pos hr]; exact ⟨rfl, h0⟩
            · cases hp
          · cases hp
        rename_i q12
        rw [if_neg q12]
        split at hp
        · rename_i y hy
          split at hp
          · rename_i k3
            rw [if_pos k3]
            unfold im_cS at hp ⊢
            split at hp
            · rename_i w hw
              split at hp
              · rename_i h4
                rw [if_pos h4]
                exact bk _ _ _ hp
              · cases hp
            · cases hp
          · rename_i k3
            rw [if_neg k3]
            unfold im_cI at hp ⊢
            split at hp
            · rename_i w hw
              split at hp
              · rename_i rb rest hr
                split at hp
                · rename_i h4
                  rw [if_pos h4]
                  split at hp
                  · rename_i c1 hb
                    split at hp
                    · rename_i h5
                      obtain ⟨g1, -⟩ := im_rq_at (G := G) h0 hb (by rw [h5]; exact htb _ _ hy)
                      rw [g1]
                      dsimp only
                      rw [if_pos h5]
                      exact bk _ _ _ hp
                    · cases hp
                  · cases hp
                · cases hp
              · cases hp
            · cases hp
        · cases hp
theorem im_st_rp_q {tb : List im_M} {kd : Nat → Nat → Nat} {nf : Nat → Nat} {cal : Nat → List Value → im_H → Option im_R} {G : Nat → Option im_C} {mi : im_M} (htb : ∀ (M : Nat) (mi : im_M), tb[M]? = some mi → mi.2.2.2.2.1 ≠ 98) (IH : ∀ (M : Nat) (as : List Value) (h : im_H) (r : im_R), im_okq G h → cal M as h = some r → cal M as (im_rq G h) = some (im_rq G r.1, r.2) ∧ im_okq G r.1) {e : im_E} {lv : im_L} {st : List Value} {h : im_H} (he : e.2.2.2.1 ≠ 98) (h0 : im_okq G h) :
    (∀ q : im_S, im_st tb kd nf cal mi e lv st h = some (.inl q) → im_st tb kd nf cal mi e lv st (im_rq G h) = some (.inl (q.1, q.2.1, q.2.2.1, im_rq G q.2.2.2)) ∧ im_okq G q.2.2.2) ∧ ∀ r : im_R, im_st tb kd nf cal mi e lv st h = some (.inr r) → im_st tb kd nf cal mi e lv st (im_rq G h) = some (.inr (im_rq G r.1, r.2)) ∧ im_okq G r.1 := by
  unfold im_st
  split
  · refine ⟨fun q hq => ?_, fun r hq => ?_⟩
    · split at hq <;> cases hq
      exact ⟨rfl, h0⟩
    · split at hq <;> cases hq
  · refine ⟨fun q hq => ?_, fun r hq => ?_⟩
    · split at hq <;> cases hq
      exact ⟨rfl, h0⟩
    · split at hq <;> cases hq
  · refine ⟨fun q hq => ?_, fun r hq => ?_⟩
    · split at hq
      · cases hq
        exact ⟨rfl, h0⟩
      · split at hq <;> cases hq
        exact ⟨rfl, h0⟩
      · cases hq
    · split at hq
      · cases hq
      · split at hq <;> cases hq
      · cases hq
  · refine ⟨fun q hq => ?_, fun r hq => ?_⟩
    · split at hq
      · rename_i w hw
        cases hq
        obtain ⟨g1, g2⟩ := im_h_rq_q (G := G) he h0 hw
        rw [g1]
        exact ⟨rfl, g2⟩
      · cases hq
    · split at hq <;> cases hq
  · refine ⟨fun q hq => ?_, fun r hq => ?_⟩
    · split at hq
      · rename_i w hw
        cases hq
        obtain ⟨g1, g2⟩ := im_c_rp_q htb IH h0 hw
        rw [g1]
        exact ⟨rfl, g2⟩
      · cases hq
    · split at hq <;> cases hq
  · refine ⟨fun q hq => ?_, fun r hq => ?_⟩
    · split at hq <;> cases hq
    · split at hq <;> cases hq
      exact ⟨rfl, h0⟩
theorem im_ex_rp_q {tb : List im_M} {kd : Nat → Nat → Nat} {nf : Nat → Nat} {cal : Nat → List Value → im_H → Option im_R} {G : Nat → Option im_C} {mi : im_M} (htb : ∀ (M : Nat) (mi : im_M), tb[M]? = some mi → mi.2.2.2.2.1 ≠ 98) (IH : ∀ (M : Nat) (as : List Value) (h : im_H) (r : im_R), im_okq G h → cal M as h = some r → cal M as (im_rq G h) = some (im_rq G r.1, r.2) ∧ im_okq G r.1) (hme : ∀ e ∈ mi.2.2.2.2.2, e.2.2.2.1 ≠ 98) {r : im_R} : ∀ (n pc : Nat) (lv : im_L) (st : List Value) (h : im_H), im_okq G h → im_ex tb kd nf cal mi n pc lv st h = some r → im_ex tb kd nf cal mi n pc lv st (im_rq G h) = some (im_rq G r.1, r.2) ∧ im_okq G r.1 := by
  intro n
  induction n with
  | zero => intro pc lv st h _ hp; cases hp
  | succ n ih =>
    intro pc lv st h h0 hp
    unfold im_ex at hp ⊢
    split at hp
    · cases hp
    · rename_i e he
      have hq := im_st_rp_q (kd := kd) (nf := nf) (mi := mi) (lv := lv) (st := st) (G := G) htb IH (hme e (im_at_mem he).1) h0
      split at hp
      · cases hp
      · rename_i q hs
        obtain ⟨g1, g2⟩ := hq.1 q hs
        rw [g1]
        exact ih _ _ _ _ g2 hp
      · rename_i q hs
        obtain ⟨g1, g2⟩ := hq.2 q hs
        cases hp
        rw [g1]
        exact ⟨rfl, g2⟩
theorem im_rn_rp_q {tb : List im_M} {kd : Nat → Nat → Nat} {nf : Nat → Nat} {F : Nat} {G : Nat → Option im_C} (htb : ∀ (M : Nat) (mi : im_M), tb[M]? = some mi → mi.2.2.2.2.1 ≠ 98 ∧ ∀ e ∈ mi.2.2.2.2.2, e.2.2.2.1 ≠ 98) : ∀ (d M : Nat) (as : List Value) (h : im_H) (r : im_R), im_okq G h → im_rn tb kd nf F d M as h = some r → im_rn tb kd nf F d M as (im_rq G h) = some (im_rq G r.1, r.2) ∧ im_okq G r.1 := by
  intro d
  induction d with
  | zero => intro M as h r _ hp; cases hp
  | succ d ih =>
    intro M as h r h0 hp
    unfold im_rn at hp ⊢
    split at hp
    · cases hp
    · rename_i mi hm
      split at hp
      · rename_i hl
        rw [if_pos hl]
        exact im_ex_rp_q (fun M mi hm => (htb M mi hm).1) ih (htb M mi hm).2 _ _ _ _ _ h0 hp
      · cases hp
