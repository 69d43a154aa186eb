/-! A MEMORY OF INTS over the heap, and a calculus over it for code that makes no cell -/
abbrev hy_m : Type := Nat → Int → Int
/-- tags and lengths of the cells that are looked at; the references that stay -/
abbrev hy_T : Type := (Nat → Option (Nat × Nat)) × (Nat → Nat → Option Nat)
abbrev iI (x : Int) : Int32 := Int32.ofInt x
abbrev jI (x : Int) : Int64 := Int64.ofInt x
/-- the kind of a place: 0 int, 1 long, 2 boolean, 3 reference, 4 char -/
def hy_k (t k : Nat) : Nat := if t < 50 then mx_kd t k else if t = 101 then 1 else if t = 102 then 4 else if 110 ≤ t then 3 else 0
def hy_v (q : Nat) (x : Int) : Value := match q with
  | 1 => .long (jI x)
  | 3 => if x = 0 then .null else .ref x.toNat
  | _ => .int (iI x)
def hy_r (q : Nat) (x : Int) : Prop := match q with
  | 1 => -9223372036854775808 ≤ x ∧ x < 9223372036854775808
  | 2 => x = 0 ∨ x = 1
  | 3 => 0 ≤ x
  | 4 => 0 ≤ x ∧ x < 65536
  | _ => -2147483648 ≤ x ∧ x < 2147483648
def hy_o (q : Nat) (x : Int) : Option Value := if q = 9 then none else some (hy_v q x)
/-- the final reference fields: they stay -/
def hy_fl : List (List Nat) := [[0, 1, 2, 3, 5, 6], [0], [], [], [], [0, 1], [0, 1, 2, 3, 6, 8, 9, 11, 12, 13], [0, 1, 2, 3, 4, 7, 17, 18], [0, 8], [0], [0], [0, 1, 3, 5, 6], [0, 2, 3, 4, 5, 6, 7, 8, 9, 10, 11, 12, 20, 22, 23, 24, 26, 28, 30, 31, 39, 40, 41, 43, 45, 46, 47, 48, 49, 50, 53, 54, 55, 56, 57, 58, 60, 61, 62, 63, 65, 67, 69, 71]]
def hy_fin (t k : Nat) : Bool := match hy_fl[t]? with
  | some l => l.any (fun j => Nat.beq j k)
  | none => false
def hy_W (T : hy_T) : Prop := ∀ a k b, T.2 a k = some b → ∃ t n, T.1 a = some (t, n) ∧ hy_fin t k = true
/-- the heap shows the memory -/
def hy_R (T : hy_T) (h : im_H) (m : hy_m) : Prop := hy_W T ∧ ∀ a t n, T.1 a = some (t, n) → a < h.1 ∧ ∃ f, h.2.2 a = some (t, n, f) ∧ (∀ k : Nat, k < n → f k = hy_v (hy_k t k) (m a k) ∧ hy_r (hy_k t k) (m a k)) ∧ ∀ k b, T.2 a k = some b → f k = .ref b
def hy_u (m : hy_m) (a : Nat) (e v : Int) : hy_m := fun b j => if b = a ∧ j = e then v else m b j
theorem hy_us (m : hy_m) (a : Nat) (e v : Int) : hy_u m a e v a e = v := if_pos ⟨rfl, rfl⟩
theorem hy_ua {m : hy_m} {a b : Nat} {e v j : Int} (h : b ≠ a) : hy_u m a e v b j = m b j := if_neg (fun q => h q.1)
theorem hy_uk {m : hy_m} {a b : Nat} {e v j : Int} (h : j ≠ e) : hy_u m a e v b j = m b j := if_neg (fun q => h q.2)
theorem hy_c {x : Int} (h : (decide (-2147483648 ≤ x) && decide (x < 2147483648)) = true) : hy_r 0 x := by
  rw [Bool.and_eq_true, decide_eq_true_eq, decide_eq_true_eq] at h
  exact h
theorem hy_cl {x : Int} (h : (decide (-9223372036854775808 ≤ x) && decide (x < 9223372036854775808)) = true) : hy_r 1 x := by
  rw [Bool.and_eq_true, decide_eq_true_eq, decide_eq_true_eq] at h
  exact h
theorem hy_20 {x : Int} (h : hy_r 2 x) : hy_r 0 x := by
  have h : x = 0 ∨ x = 1 := h
  show -2147483648 ≤ x ∧ x < 2147483648
  omega
theorem hy_40 {x : Int} (h : hy_r 4 x) : hy_r 0 x := by
  have h : 0 ≤ x ∧ x < 65536 := h
  show -2147483648 ≤ x ∧ x < 2147483648
  omega
theorem hy_01 {x : Int} (h : hy_r 0 x) : hy_r 1 x := by
  have h : -2147483648 ≤ x ∧ x < 2147483648 := h
  show -9223372036854775808 ≤ x ∧ x < 9223372036854775808
  omega
def bi (p : Prop) [Decidable p] : Int := if p then 1 else 0
theorem hy_bi (p : Prop) [Decidable p] : hy_r 2 (bi p) := by
  show bi p = 0 ∨ bi p = 1
  unfold bi
  split
  · exact Or.inr rfl
  · exact Or.inl rfl
theorem bi_1 {p : Prop} [Decidable p] (h : p) : bi p = 1 := if_pos h
theorem bi_0 {p : Prop} [Decidable p] (h : ¬ p) : bi p = 0 := if_neg h
theorem iI_t {x : Int} (h : hy_r 0 x) : (iI x).toInt = x := by
  have h : -2147483648 ≤ x ∧ x < 2147483648 := h
  exact Int32.toInt_ofInt_of_le (by omega) (by omega)
theorem jI_t {x : Int} (h : hy_r 1 x) : (jI x).toInt = x := by
  have h : -9223372036854775808 ≤ x ∧ x < 9223372036854775808 := h
  exact Int64.toInt_ofInt_of_le (by omega) (by omega)
theorem iI_r (w : Int32) : hy_r 0 w.toInt := by
  have h1 := Int32.toInt_lt w
  have h2 := Int32.le_toInt w
  show -2147483648 ≤ w.toInt ∧ w.toInt < 2147483648
  omega
theorem jI_r (w : Int64) : hy_r 1 w.toInt := by
  have h1 := Int64.toInt_lt w
  have h2 := Int64.le_toInt w
  show -9223372036854775808 ≤ w.toInt ∧ w.toInt < 9223372036854775808
  omega
theorem iI_lt {x y : Int} (hx : hy_r 0 x) (hy : hy_r 0 y) : iI x < iI y ↔ x < y := by rw [Int32.lt_iff_toInt_lt, iI_t hx, iI_t hy]
theorem iI_le {x y : Int} (hx : hy_r 0 x) (hy : hy_r 0 y) : iI x ≤ iI y ↔ x ≤ y := by rw [Int32.le_iff_toInt_le, iI_t hx, iI_t hy]
theorem iI_eq {x y : Int} (hx : hy_r 0 x) (hy : hy_r 0 y) : iI x = iI y ↔ x = y := by rw [← Int32.toInt_inj, iI_t hx, iI_t hy]
theorem jI_lt {x y : Int} (hx : hy_r 1 x) (hy : hy_r 1 y) : jI x < jI y ↔ x < y := by rw [Int64.lt_iff_toInt_lt, jI_t hx, jI_t hy]
theorem jI_eq {x y : Int} (hx : hy_r 1 x) (hy : hy_r 1 y) : jI x = jI y ↔ x = y := by rw [← Int64.toInt_inj, jI_t hx, jI_t hy]
theorem hy_ix {e : Int} {n : Nat} (he : hy_r 0 e) (h0 : 0 ≤ e) (h1 : e < n) : im_ix (iI e) n = some e.toNat := by
  have he' : -2147483648 ≤ e ∧ e < 2147483648 := he
  unfold im_ix
  rw [if_neg ?_, Int32.toNatClampNeg_ofInt_of_le (by omega) (by omega), if_neg (by omega)]
  intro q
  have q : iI e < iI 0 := q
  rw [iI_lt he (hy_c rfl)] at q
  omega
theorem hy_R.wr {T : hy_T} {h : im_H} {m : hy_m} {a t n k : Nat} {f : Nat → Value} {x : Int} (hR : hy_R T h m) (hT : T.1 a = some (t, n)) (ha : h.2.2 a = some (t, n, f)) (hr : hy_r (hy_k t k) x) (hf : hy_fin t k = false) : hy_R T (im_wr h a (t, n, updV f k (hy_v (hy_k t k) x))) (hy_u m a k x) := by
  refine ⟨hR.1, fun b t' n' hb => ?_⟩
  obtain ⟨g1, f', g2, g3, g4⟩ := hR.2 b t' n' hb
  refine ⟨g1, ?_⟩
  by_cases e : b = a
  · subst e
    rw [hT] at hb
    cases hb
    rw [ha] at g2
    cases g2
    refine ⟨_, im_wr_eq _ _ _, fun j hj => ?_, fun j c hc => ?_⟩
    · unfold updV
      by_cases e2 : j = k
      · subst e2
        rw [if_pos rfl, hy_us]
        exact ⟨rfl, hr⟩
      · rw [if_neg e2, hy_uk (by omega)]
        exact g3 j hj
    · unfold updV
      by_cases e2 : j = k
      · subst e2
        obtain ⟨t2, n2, q1, q2⟩ := hR.1 _ _ _ hc
        rw [hT] at q1
        cases q1
        rw [hf] at q2
        cases q2
      · rw [if_neg e2]
        exact g4 j c hc
  · refine ⟨f', by rw [im_wr_ne _ _ e]; exact g2, fun j hj => ?_, g4⟩
    rw [hy_ua e]
    exact g3 j hj
/-- the end of code that makes no cell -/
def ky_P (T : hy_T) (h : im_H) (kd : Nat) (Q : hy_m → Int → Prop) (r : im_R) : Prop := ∃ m' x, hy_R T r.1 m' ∧ r.1.1 = h.1 ∧ r.1.2.1 = h.2.1 ∧ (∀ a, T.1 a = none → r.1.2.2 a = h.2.2 a) ∧ r.2 = hy_o kd x ∧ hy_r kd x ∧ Q m' x
def ky_X (d : Nat) (mi : im_M) (pc : Nat) (lv : im_L) (st : List Value) (T : hy_T) (m : hy_m) (kd : Nat) (Q : hy_m → Int → Prop) : Prop := ∀ h, hy_R T h m → wp_X d mi pc lv st h (ky_P T h kd Q)
def ky_M (d M : Nat) (as : List Value) (T : hy_T) (m : hy_m) (kd : Nat) (Q : hy_m → Int → Prop) : Prop := ∀ h, hy_R T h m → wp_M d M as h (ky_P T h kd Q)
theorem ky_P.of {T : hy_T} {h h1 : im_H} {kd : Nat} {Q : hy_m → Int → Prop} {r : im_R} (e1 : h1.1 = h.1) (e2 : h1.2.1 = h.2.1) (e3 : ∀ a, T.1 a = none → h1.2.2 a = h.2.2 a) (hp : ky_P T h1 kd Q r) : ky_P T h kd Q r := by
  obtain ⟨m', x, g1, g2, g3, g4, g5⟩ := hp
  exact ⟨m', x, g1, g2.trans e1, g3.trans e2, fun a ha => (g4 a ha).trans (e3 a ha), g5⟩
theorem ky_M.imp {d M : Nat} {as : List Value} {T : hy_T} {m : hy_m} {kd : Nat} {Q Q' : hy_m → Int → Prop} (hw : ky_M d M as T m kd Q) (hq : ∀ m' x, hy_r kd x → Q m' x → Q' m' x) : ky_M d M as T m kd Q' := fun h hR => (hw h hR).imp (fun r hp => by
  obtain ⟨m', x, g1, g2, g3, g4, g5, g6, g7⟩ := hp
  exact ⟨m', x, g1, g2, g3, g4, g5, g6, hq m' x g6 g7⟩)
theorem ky_X.imp {d pc : Nat} {mi : im_M} {lv : im_L} {st : List Value} {T : hy_T} {m : hy_m} {kd : Nat} {Q Q' : hy_m → Int → Prop} (hw : ky_X d mi pc lv st T m kd Q) (hq : ∀ m' x, hy_r kd x → Q m' x → Q' m' x) : ky_X d mi pc lv st T m kd Q' := fun h hR => (hw h hR).imp (fun r hp => by
  obtain ⟨m', x, g1, g2, g3, g4, g5, g6, g7⟩ := hp
  exact ⟨m', x, g1, g2, g3, g4, g5, g6, hq m' x g6 g7⟩)
theorem ky_M.deep {d d' M : Nat} {as : List Value} {T : hy_T} {m : hy_m} {kd : Nat} {Q : hy_m → Int → Prop} (hw : ky_M d M as T m kd Q) (hd : d ≤ d') : ky_M d' M as T m kd Q := fun h hR => (hw h hR).deep hd
/-- steps on locals and operands alone -/
def ky_1 (nL : Nat) (e : im_E) (lv : im_L) (st : List Value) : Option (Nat × im_L × List Value) := match im_g e.2.1 with
  | 0 => match im_p e.2.1 st with
    | some st' => some (e.1 + e.2.2.1, lv, st')
    | none => none
  | 1 => match im_l nL e.2.1 lv st with
    | some (lv', st') => some (e.1 + e.2.2.1, lv', st')
    | none => none
  | 2 => match im_b e.2.1 st with
    | some (none, st') => some (e.1 + e.2.2.1, lv, st')
    | some (some o, st') => match im_tg e.1 o with
      | some t => some (t, lv, st')
      | none => none
    | none => none
  | 3 => match e.2.1 with
    | .ldc _ => some (e.1 + e.2.2.1, lv, e.2.2.2.2.2.2 :: st)
    | .ldc_w _ => some (e.1 + e.2.2.1, lv, e.2.2.2.2.2.2 :: st)
    | .ldc2_w _ => some (e.1 + e.2.2.1, lv, e.2.2.2.2.2.2 :: st)
    | _ => none
  | _ => none
def ky_run (code : List im_E) (nL : Nat) : Nat → Nat → im_L → List Value → Option (Nat × im_L × List Value)
  | 0, pc, lv, st => some (pc, lv, st)
  | n + 1, pc, lv, st => match im_at code pc with
    | none => none
    | some e => match ky_1 nL e lv st with
      | none => none
      | some q => ky_run code nL n q.1 q.2.1 q.2.2
theorem ky_1_ok {tb : List im_M} {kd : Nat → Nat → Nat} {nf : Nat → Nat} {cal : Nat → List Value → im_H → Option im_R} {mi : im_M} {e : im_E} {lv : im_L} {st : List Value} {h : im_H} {q : Nat × im_L × List Value} (hq : ky_1 mi.2.2.1 e lv st = some q) : im_st tb kd nf cal mi e lv st h = some (.inl (q.1, q.2.1, q.2.2, h)) := by
  unfold ky_1 at hq
  unfold im_st
  split at hq
  · rename_i hg
    rw [hg]
    (try dsimp only)
    split at hq
    · rename_i hp
      rw [hp]
      cases hq
      rfl
    · cases hq
  · rename_i hg
    rw [hg]
    (try dsimp only)
    split at hq
    · rename_i hp
      rw [hp]
      cases hq
      rfl
    · cases hq
  · rename_i hg
    rw [hg]
    (try dsimp only)
    split at hq
    · rename_i hp
      rw [hp]
      cases hq
      rfl
    · rename_i hp
      rw [hp]
      dsimp only
      split at hq
      · rename_i ht
        rw [ht]
        cases hq
        rfl
      · cases hq
    · cases hq
  · rename_i hg
    rw [hg]
    (try dsimp only)
    unfold im_h
    split at hq
    all_goals first
      | (rename_i hi; rw [hi]; cases hq; rfl)
      | cases hq
  · cases hq
section KY
variable {d : Nat} {mi : im_M} {pc : Nat} {lv : im_L} {st : List Value} {T : hy_T} {m : hy_m} {kd : Nat} {Q : hy_m → Int → Prop}
theorem ky_ps (n : Nat) {pc' : Nat} {lv' : im_L} {st' : List Value} (hr : ky_run mi.2.2.2.2.2 mi.2.2.1 n pc lv st = some (pc', lv', st')) (K : ky_X d mi pc' lv' st' T m kd Q) : ky_X d mi pc lv st T m kd Q := by
  induction n generalizing pc lv st with
  | zero => cases hr; exact K
  | succ n ih =>
    unfold ky_run at hr
    split at hr
    · cases hr
    · rename_i e he
      split at hr
      · cases hr
      · rename_i q hq
        have k2 := ih hr
        exact fun h hR => wp_s he (fun cal => ky_1_ok hq) (k2 h hR)
/-- an instruction on the operands -/
theorem ky_p {e : im_E} {st' : List Value} {t : Nat} (ha : im_at mi.2.2.2.2.2 pc = some e) (hg : im_g e.2.1 = 0) (hp : im_p e.2.1 st = some st') (ht : e.1 + e.2.2.1 = t) (K : ky_X d mi t lv st' T m kd Q) : ky_X d mi pc lv st T m kd Q := by
  subst ht
  refine fun h hR => wp_s ha (fun cal => ?_) (K h hR)
  unfold im_st
  rw [hg]
  (try dsimp only)
  rw [hp]
  rfl
theorem ky_inc {e : im_E} {k : Nat} {n x : Int} {lv' : im_L} {t : Nat} (ha : im_at mi.2.2.2.2.2 pc = some e) (hi : e.2.1 = .iinc k n) (hl : im_lg lv k = some (.int (iI x))) (hk : k < mi.2.2.1) (hv : im_s1 lv k (.int (iI (x + n))) = lv') (ht : e.1 + e.2.2.1 = t) (K : ky_X d mi t lv' st T m kd Q) : ky_X d mi pc lv st T m kd Q := by
  subst ht
  refine fun h hR => wp_s ha (fun cal => ?_) (K h hR)
  unfold im_st
  rw [hi]
  show (match im_l mi.2.2.1 (.iinc k n) lv st with
    | some (lv', st') => some (Sum.inl (e.1 + e.2.2.1, lv', st', h))
    | none => none) = _
  have : im_l mi.2.2.1 (.iinc k n) lv st = some (lv', st) := by
    unfold im_l
    (try dsimp only)
    rw [hl]
    (try dsimp only)
    rw [if_pos hk, ← hv]
    show some (im_s1 lv k (.int (Int32.ofInt x + Int32.ofInt n)), st) = some (im_s1 lv k (.int (Int32.ofInt (x + n))), st)
    rw [Int32.ofInt_add]
  rw [this]
def kb_B (i : Instr) (st : List Value) (o : Int) (st' : List Value) (p q : Prop) : Prop := (p → im_b i st = some (some o, st')) ∧ (q → im_b i st = some (none, st')) ∧ (p ∨ q)
/-- a branch, both ways -/
theorem ky_br {e : im_E} {o : Int} {st' : List Value} {p q : Prop} {t t' : Nat} (ha : im_at mi.2.2.2.2.2 pc = some e) (hg : im_g e.2.1 = 2) (hb : kb_B e.2.1 st o st' p q) (ht : im_tg e.1 o = some t) (hn : e.1 + e.2.2.1 = t') (K1 : p → ky_X d mi t lv st' T m kd Q) (K2 : q → ky_X d mi t' lv st' T m kd Q) : ky_X d mi pc lv st T m kd Q := by
  rcases hb.2.2 with h | h
  · exact fun h' hR => wp_b ha hg (hb.1 h) ht (K1 h h' hR)
  · exact fun h' hR => wp_b ha hg (hb.2.1 h) (by rw [hn]) (K2 h h' hR)
/-- a branch that is decided -/
theorem ky_b {e : im_E} {o : Int} {st' : List Value} {t : Nat} (ha : im_at mi.2.2.2.2.2 pc = some e) (hg : im_g e.2.1 = 2) (hb : im_b e.2.1 st = some (some o, st')) (ht : im_tg e.1 o = some t) (K : ky_X d mi t lv st' T m kd Q) : ky_X d mi pc lv st T m kd Q := fun h' hR => wp_b ha hg hb ht (K h' hR)
/-- a return -/
theorem ky_ret {e : im_E} {x : Int} (ha : im_at mi.2.2.2.2.2 pc = some e) (hg : im_g e.2.1 = 5) (hr : im_r mi.2.2.2.1 e.2.1 st = some (hy_o kd x)) (hx : hy_r kd x) (hq : Q m x) : ky_X d mi pc lv st T m kd Q := by
  refine fun h hR => wp_r (r := (h, hy_o kd x)) ha (fun cal => ?_) ⟨m, x, hR, rfl, rfl, fun _ _ => rfl, rfl, hx, hq⟩
  unfold im_st
  rw [hg]
  (try dsimp only)
  rw [hr]
  rfl
theorem ky_of {M : Nat} {as : List Value} (hm : mm_tb[M]? = some mi) (hl : (lg_sl as).length ≤ mi.2.2.1) (hw : ky_X d mi 0 (lv_args 0 as) [] T m kd Q) : ky_M (d + 1) M as T m kd Q := fun h hR => wp_of hm hl (hw h hR)
theorem ky_vi {e : im_E} {y : im_M} {as rest : List Value} {rb c n kd' : Nat} {P : hy_m → Int → Prop} (ha : im_at mi.2.2.2.2.2 pc = some e) (hg : im_g e.2.1 = 4) (he : e.2.2.2.1 = 1 ∨ e.2.2.2.1 = 3 ∨ e.2.2.2.1 = 4) (hy : mm_tb[e.2.2.2.2.1]? = some y) (har : im_ar e.2.2.2.2.2.1 st = some (as, .ref rb :: rest)) (h8 : (rest.map fun v => v.category).sum ≤ 8) (hT : T.1 rb = some (c, n)) (hc : c = y.2.2.2.2.1) {t : Nat} (ht : e.1 + e.2.2.1 = t) (hm : ky_M d e.2.2.2.2.1 (.ref rb :: as) T m kd' P)
    (K : ∀ m' x, hy_r kd' x → P m' x → ky_X d mi t lv ((hy_o kd' x).toList ++ rest) T m' kd Q) : ky_X d mi pc lv st T m kd Q := by
  intro h hR
  obtain ⟨-, f, g1, -⟩ := hR.2 rb c n hT
  refine wp_vi ha hg he hy har h8 g1 hc (hm h hR) ht (fun h' v hP => ?_)
  obtain ⟨m', x, g1, g2, g3, g4, g5, g6, g7⟩ := hP
  have g5 : v = hy_o kd' x := g5
  subst g5
  exact (K m' x g6 g7 h' g1).imp (fun r => ky_P.of g2 g3 g4)
theorem ky_vs {e : im_E} {y : im_M} {as rest : List Value} {kd' : Nat} {P : hy_m → Int → Prop} (ha : im_at mi.2.2.2.2.2 pc = some e) (hg : im_g e.2.1 = 4) (he : e.2.2.2.1 = 5 ∨ e.2.2.2.1 = 7) (hy : mm_tb[e.2.2.2.2.1]? = some y) (har : im_ar e.2.2.2.2.2.1 st = some (as, rest)) (h8 : (rest.map fun v => v.category).sum ≤ 8) {t : Nat} (ht : e.1 + e.2.2.1 = t) (hm : ky_M d e.2.2.2.2.1 as T m kd' P)
    (K : ∀ m' x, hy_r kd' x → P m' x → ky_X d mi t lv ((hy_o kd' x).toList ++ rest) T m' kd Q) : ky_X d mi pc lv st T m kd Q := by
  intro h hR
  refine wp_vs ha hg he hy har h8 (hm h hR) ht (fun h' v hP => ?_)
  obtain ⟨m', x, g1, g2, g3, g4, g5, g6, g7⟩ := hP
  have g5 : v = hy_o kd' x := g5
  subst g5
  exact (K m' x g6 g7 h' g1).imp (fun r => ky_P.of g2 g3 g4)
/-- a heap instruction that only reads -/
theorem ky_h0 {e : im_E} {st' : List Value} {t : Nat} (ha : im_at mi.2.2.2.2.2 pc = some e) (hg : im_g e.2.1 = 3) (hh : ∀ h, hy_R T h m → im_h mx_kd mx_nf e st h = some (st', h)) (ht : e.1 + e.2.2.1 = t) (K : ky_X d mi t lv st' T m kd Q) : ky_X d mi pc lv st T m kd Q := fun h hR => wp_h ha hg (hh h hR) ht (K h hR)
end KY
