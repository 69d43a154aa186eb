/-! A CALCULUS over the interpreter: rules, goal first -/
/-- a method, called so, ends, and Q holds of its end -/
def wp_M (d M : Nat) (as : List Value) (h : im_H) (Q : im_R → Prop) : Prop := ∃ F r, im_rn mm_tb mx_kd mx_nf F d M as h = some r ∧ Q r
/-- from this row of a body on it ends, and Q holds -/
def wp_X (d : Nat) (mi : im_M) (pc : Nat) (lv : im_L) (st : List Value) (h : im_H) (Q : im_R → Prop) : Prop := ∃ F n r, im_ex mm_tb mx_kd mx_nf (im_rn mm_tb mx_kd mx_nf F d) mi n pc lv st h = some r ∧ Q r
theorem wp_M.imp {d M : Nat} {as : List Value} {h : im_H} {Q Q' : im_R → Prop} (hw : wp_M d M as h Q) (hq : ∀ r, Q r → Q' r) : wp_M d M as h Q' := by
  obtain ⟨F, r, h1, h2⟩ := hw
  exact ⟨F, r, h1, hq r h2⟩
theorem wp_M.deep {d d' M : Nat} {as : List Value} {h : im_H} {Q : im_R → Prop} (hw : wp_M d M as h Q) (hd : d ≤ d') : wp_M d' M as h Q := by
  obtain ⟨F, r, h1, h2⟩ := hw
  exact ⟨F, r, im_rn_le (Nat.le_refl _) _ _ _ _ _ _ hd h1, h2⟩
theorem wp_X.imp {d pc : Nat} {mi : im_M} {lv : im_L} {st : List Value} {h : im_H} {Q Q' : im_R → Prop} (hw : wp_X d mi pc lv st h Q) (hq : ∀ r, Q r → Q' r) : wp_X d mi pc lv st h Q' := by
  obtain ⟨F, n, r, h1, h2⟩ := hw
  exact ⟨F, n, r, h1, hq r h2⟩
/-- a body gives its method -/
theorem wp_of {d M : Nat} {mi : im_M} {as : List Value} {h : im_H} {Q : im_R → Prop} (hm : mm_tb[M]? = some mi) (hl : (lg_sl as).length ≤ mi.2.2.1) (hw : wp_X d mi 0 (lv_args 0 as) [] h Q) : wp_M (d + 1) M as h Q := by
  obtain ⟨F, n, r, h1, h2⟩ := hw
  refine ⟨max F n, r, ?_, h2⟩
  unfold im_rn
  rw [hm]
  dsimp only
  rw [if_pos hl]
  exact im_ex_le (fun M as h r => im_rn_le (Nat.le_max_left _ _) _ _ _ _ _ _ (Nat.le_refl _)) _ _ _ _ _ _ (Nat.le_max_right _ _) h1
section WP1
variable {d : Nat} {mi : im_M} {pc : Nat} {lv : im_L} {st : List Value} {h : im_H} {Q : im_R → Prop}
/-- a step that calls nothing -/
theorem wp_s {e : im_E} {pc' : Nat} {lv' : im_L} {st' : List Value} {h' : im_H} (ha : im_at mi.2.2.2.2.2 pc = some e) (hs : ∀ cal, im_st mm_tb mx_kd mx_nf cal mi e lv st h = some (.inl (pc', lv', st', h'))) (k : wp_X d mi pc' lv' st' h' Q) : wp_X d mi pc lv st h Q := by
  obtain ⟨F, n, r, h1, h2⟩ := k
  refine ⟨F, n + 1, r, ?_, h2⟩
  unfold im_ex
  rw [ha]
  dsimp only
  rw [hs]
  exact h1
/-- a return -/
theorem wp_r {e : im_E} {r : im_R} (ha : im_at mi.2.2.2.2.2 pc = some e) (hs : ∀ cal, im_st mm_tb mx_kd mx_nf cal mi e lv st h = some (.inr r)) (hq : Q r) : wp_X d mi pc lv st h Q := by
  refine ⟨0, 1, r, ?_, hq⟩
  unfold im_ex
  rw [ha]
  dsimp only
  rw [hs]
/-- a call: by what holds of the callee -/
theorem wp_call {e : im_E} {M : Nat} {as rest : List Value} {P : im_R → Prop} (ha : im_at mi.2.2.2.2.2 pc = some e) (hs : ∀ cal, im_st mm_tb mx_kd mx_nf cal mi e lv st h = match im_bk rest (cal M as h) with
      | some (st', h') => some (.inl (e.1 + e.2.2.1, lv, st', h'))
      | none => none) (hm : wp_M d M as h P) (k : ∀ (h' : im_H) (v : Option Value), P (h', v) → wp_X d mi (e.1 + e.2.2.1) lv (v.toList ++ rest) h' Q) : wp_X d mi pc lv st h Q := by
  obtain ⟨F1, r1, g1, g2⟩ := hm
  obtain ⟨F2, n, r, h1, h2⟩ := k r1.1 r1.2 g2
  refine ⟨max F1 F2, n + 1, r, ?_, h2⟩
  unfold im_ex
  rw [ha]
  dsimp only
  rw [hs, im_rn_le (Nat.le_max_left F1 F2) _ _ _ _ _ _ (Nat.le_refl _) g1]
  exact im_ex_le (fun M as h r => im_rn_le (Nat.le_max_right _ _) _ _ _ _ _ _ (Nat.le_refl _)) _ _ _ _ _ _ (Nat.le_refl _) h1
end WP1
section WP2
variable {d : Nat} {mi : im_M} {pc : Nat} {lv : im_L} {st : List Value} {h : im_H} {Q : im_R → Prop}
/-- a call with a receiver -/
theorem wp_vi {e : im_E} {y : im_M} {as rest : List Value} {rb : Nat} {cb : im_C} {P : im_R → Prop} (ha : im_at mi.2.2.2.2.2 pc = some e) (hg : im_g e.2.1 = 4) (he : e.2.2.2.1 = 1 ∨ e.2.2.2.1 = 3 ∨ e.2.2.2.1 = 4) (hy : mm_tb[e.2.2.2.2.1]? = some y) (har : im_ar e.2.2.2.2.2.1 st = some (as, .ref rb :: rest)) (h8 : (rest.map fun v => v.category).sum ≤ 8) (hb : h.2.2 rb = some cb) (hc : cb.1 = y.2.2.2.2.1)
    (hm : wp_M d e.2.2.2.2.1 (.ref rb :: as) h P) {t : Nat} (ht : e.1 + e.2.2.1 = t) (k : ∀ (h' : im_H) (v : Option Value), P (h', v) → wp_X d mi t lv (v.toList ++ rest) h' Q) : wp_X d mi pc lv st h Q := by
  subst ht
  refine wp_call ha (fun cal => ?_) hm k
  unfold im_st
  rw [hg]
  (try dsimp only)
  unfold im_c
  rw [if_neg (by omega), if_neg (by omega), if_neg (by omega), if_neg (by omega), if_neg (by omega), if_neg (by omega), hy]
  dsimp only
  rw [if_neg (by omega)]
  unfold im_cI
  rw [har]
  dsimp only
  rw [if_pos h8, hb]
  dsimp only
  rw [if_pos hc]
  rfl
/-- a static call -/
theorem wp_vs {e : im_E} {y : im_M} {as rest : List Value} {P : im_R → Prop} (ha : im_at mi.2.2.2.2.2 pc = some e) (hg : im_g e.2.1 = 4) (he : e.2.2.2.1 = 5 ∨ e.2.2.2.1 = 7) (hy : mm_tb[e.2.2.2.2.1]? = some y) (har : im_ar e.2.2.2.2.2.1 st = some (as, rest)) (h8 : (rest.map fun v => v.category).sum ≤ 8)
    (hm : wp_M d e.2.2.2.2.1 as h P) {t : Nat} (ht : e.1 + e.2.2.1 = t) (k : ∀ (h' : im_H) (v : Option Value), P (h', v) → wp_X d mi t lv (v.toList ++ rest) h' Q) : wp_X d mi pc lv st h Q := by
  subst ht
  refine wp_call ha (fun cal => ?_) hm k
  unfold im_st
  rw [hg]
  (try dsimp only)
  unfold im_c
  rw [if_neg (by omega), if_neg (by omega), if_neg (by omega), if_neg (by omega), if_neg (by omega), if_neg (by omega), hy]
  dsimp only
  rw [if_pos he]
  unfold im_cS
  rw [har]
  dsimp only
  rw [if_pos h8]
  rfl
/-- a branch -/
theorem wp_b {e : im_E} {o : Option Int} {st' : List Value} {t : Nat} (ha : im_at mi.2.2.2.2.2 pc = some e) (hg : im_g e.2.1 = 2) (hb : im_b e.2.1 st = some (o, st')) (ht : (match o with
      | none => some (e.1 + e.2.2.1)
      | some f => im_tg e.1 f) = some t) (k : wp_X d mi t lv st' h Q) : wp_X d mi pc lv st h Q := by
  refine wp_s ha (fun cal => ?_) k
  unfold im_st
  rw [hg]
  (try dsimp only)
  rw [hb]
  cases o with
  | none => cases ht; rfl
  | some f =>
    have ht : im_tg e.1 f = some t := ht
    show (match im_tg e.1 f with
      | some t => some (Sum.inl (t, lv, st', h))
      | none => none) = _
    rw [ht]
/-- a heap instruction -/
theorem wp_h {e : im_E} {st' : List Value} {h' : im_H} (ha : im_at mi.2.2.2.2.2 pc = some e) (hg : im_g e.2.1 = 3) (hh : im_h mx_kd mx_nf e st h = some (st', h')) {t : Nat} (ht : e.1 + e.2.2.1 = t) (k : wp_X d mi t lv st' h' Q) : wp_X d mi pc lv st h Q := by
  subst ht
  refine wp_s ha (fun cal => ?_) k
  unfold im_st
  rw [hg]
  (try dsimp only)
  rw [hh]
  rfl
theorem wh_gf {pc ix len ea eb ec : Nat} {ev : Value} {a n : Nat} {f : Nat → Value} {r : List Value} {v : Value} (hc : h.2.2 a = some (ea, n, f)) (hk : eb < n) (hv : f eb = v) : im_h mx_kd mx_nf (pc, .getfield ix, len, ea, eb, ec, ev) (.ref a :: r) h = some (v :: r, h) := by
  dsimp only [im_h]
  rw [hc]
  dsimp only
  rw [if_pos ⟨rfl, hk⟩, hv]
theorem wh_pf {pc ix len ea eb ec : Nat} {ev : Value} {a n : Nat} {f : Nat → Value} {r : List Value} {v : Value} (hc : h.2.2 a = some (ea, n, f)) (hk : eb < n) (hv : im_kf (mx_kd ea eb) v = true) : im_h mx_kd mx_nf (pc, .putfield ix, len, ea, eb, ec, ev) (v :: .ref a :: r) h = some (r, im_wr h a (ea, n, updV f eb v)) := by
  dsimp only [im_h]
  rw [hc]
  dsimp only
  rw [if_pos ⟨rfl, hk, hv⟩]
theorem wh_al {pc len ea eb ec : Nat} {ev : Value} {a t n : Nat} {f : Nat → Value} {r : List Value} (hc : h.2.2 a = some (t, n, f)) (ht : 99 ≤ t) : im_h mx_kd mx_nf (pc, .arraylength, len, ea, eb, ec, ev) (.ref a :: r) h = some (.int (Int32.ofNat n) :: r, h) := by
  dsimp only [im_h]
  rw [hc]
  dsimp only
  rw [if_pos ht]
theorem wh_ia {pc len ea eb ec : Nat} {ev : Value} {a t n j : Nat} {f : Nat → Value} {r : List Value} {i : Int32} {v : Value} (hc : h.2.2 a = some (t, n, f)) (ht : t = 99 ∨ t = 100) (hi : im_ix i n = some j) (hv : f j = v) : im_h mx_kd mx_nf (pc, .iaload, len, ea, eb, ec, ev) (.int i :: .ref a :: r) h = some (v :: r, h) := by
  dsimp only [im_h]
  rw [hc]
  dsimp only
  rw [if_pos ht, hi]
  dsimp only
  rw [hv]
theorem wh_aa {pc len ea eb ec : Nat} {ev : Value} {a t n j : Nat} {f : Nat → Value} {r : List Value} {i : Int32} {v : Value} (hc : h.2.2 a = some (t, n, f)) (ht : 110 ≤ t) (hi : im_ix i n = some j) (hv : f j = v) : im_h mx_kd mx_nf (pc, .aaload, len, ea, eb, ec, ev) (.int i :: .ref a :: r) h = some (v :: r, h) := by
  dsimp only [im_h]
  rw [hc]
  dsimp only
  rw [if_pos ht, hi]
  dsimp only
  rw [hv]
theorem wh_is {pc len ea eb ec : Nat} {ev : Value} {a n j : Nat} {f : Nat → Value} {r : List Value} {i x : Int32} (hc : h.2.2 a = some (100, n, f)) (hi : im_ix i n = some j) : im_h mx_kd mx_nf (pc, .iastore, len, ea, eb, ec, ev) (.int x :: .int i :: .ref a :: r) h = some (r, im_wr h a (100, n, updV f j (.int x))) := by
  dsimp only [im_h]
  rw [hc]
  dsimp only
  rw [if_pos rfl, hi]
theorem wh_cs {pc len ea eb ec : Nat} {ev : Value} {a n j : Nat} {f : Nat → Value} {r : List Value} {i x : Int32} (hc : h.2.2 a = some (102, n, f)) (hi : im_ix i n = some j) : im_h mx_kd mx_nf (pc, .castore, len, ea, eb, ec, ev) (.int x :: .int i :: .ref a :: r) h = some (r, im_wr h a (102, n, updV f j (.int (vp_nar .char x)))) := by
  dsimp only [im_h]
  rw [hc]
  dsimp only
  rw [if_pos rfl, hi]
end WP2
theorem im_wr_eq (h : im_H) (a : Nat) (c : im_C) : (im_wr h a c).2.2 a = some c := by
  show va_up h.2.2 a (some c) a = _
  unfold va_up
  rw [if_pos rfl]
theorem im_wr_ne (h : im_H) {a b : Nat} (c : im_C) (hn : b ≠ a) : (im_wr h a c).2.2 b = h.2.2 b := by
  show va_up h.2.2 a (some c) b = _
  unfold va_up
  rw [if_neg hn]
/-- what is left, out of the calculus -/
theorem wp_goal {L : Nat} {xs : Nat → Int32} (hw : wp_X 12 im_m104 0 (lv_args 0 [.ref 0]) [] (im_h0 L xs) (fun r => r.2 = some (.int 1) ∧ r.1.1 ≤ 600000 + 1 ∧ r.1.2.1 ≤ 7302250)) : im_Goal L xs := by
  obtain ⟨F, n, ⟨h1, v⟩, g1, g2, g3, g4⟩ := hw
  dsimp only at g2
  subst g2
  exact ⟨max F n, h1, im_ex_le (fun M as h r => im_rn_le (Nat.le_max_left _ _) _ _ _ _ _ _ (Nat.le_refl _)) _ _ _ _ _ _ (Nat.le_max_right _ _) g1, g3, g4⟩
