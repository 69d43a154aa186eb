section
variable {D : Nat → Bool}
/-! the heap: cells that are known, others by what is known of them -/
def sT0 (a : Nat) : Option (Nat × Nat) := match a with
  | 0 => none
  | i + 1 => match fr_cells[i]? with
    | some q => some (q.2.1, q.2.2.1)
    | none => none
def sFx : List (Nat × List (Nat × Nat)) := [(1, [(0, 2), (1, 4), (2, 21), (3, 23), (5, 36), (6, 69)]), (2, [(0, 3)]), (4, [(0, 2), (1, 5), (2, 6), (3, 7), (6, 8), (8, 9), (9, 10), (11, 11), (12, 12), (13, 13)]), (21, [(0, 14), (1, 22)]), (24, [(0, 14), (1, 25)]), (26, [(0, 14), (1, 27)]), (28, [(0, 14), (1, 29)]), (30, [(0, 14), (1, 31)]), (32, [(0, 14), (1, 33)]), (34, [(0, 14), (1, 35)]), (36, [(0, 21), (1, 41), (2, 47), (3, 53), (4, 37), (7, 38), (17, 39), (18, 40)]), (41, [(0, 14), (8, 46)]), (47, [(0, 41)]), (53, [(0, 41)]), (69, [(0, 41), (1, 70), (3, 71), (5, 72), (6, 73)]), (74, [(0, 75), (2, 76), (3, 77), (4, 78), (5, 79), (6, 80), (7, 81), (8, 82), (9, 83), (10, 84), (11, 85), (12, 86), (20, 87), (22, 88), (23, 89), (24, 90), (26, 91), (28, 92), (30, 93), (31, 94), (39, 95), (40, 96), (41, 97), (43, 98), (45, 99), (46, 100), (47, 101), (48, 102), (49, 103), (50, 104), (53, 105), (54, 106), (55, 107), (56, 108), (57, 109), (58, 110), (60, 111), (61, 112), (62, 113), (63, 114), (65, 115), (67, 116), (69, 117), (71, 118)])]
def sF1 : List (Nat × Nat) → Nat → Option Nat
  | [], _ => none
  | p :: r, k => match Nat.beq p.1 k with
    | true => some p.2
    | false => sF1 r k
def sF2 : List (Nat × List (Nat × Nat)) → Nat → Nat → Option Nat
  | [], _, _ => none
  | p :: r, a, k => match Nat.beq p.1 a with
    | true => sF1 p.2 k
    | false => sF2 r a k
def sF0 (a k : Nat) : Option Nat := sF2 sFx a k
/-- the cells of one side -/
def sT (D : Nat → Bool) (a : Nat) : Option (Nat × Nat) := match D a with
  | true => sT0 a
  | false => none
def sFix (D : Nat → Bool) (T : hy_T) : Prop := (∀ a q, sT D a = some q → T.1 a = some q) ∧ ∀ a k b, D a = true → sF0 a k = some b → T.2 a k = some b
/-- the heap shows the state; the cells that the state doesn't speak of are c0's -/
def kR (D : Nat → Bool) (c0 : Nat → Option im_C) (h : im_H) (s : sS) : Prop := h.1 = s.2.1 ∧ h.2.1 = s.2.2.1 ∧ (∀ a, s.1.1 a = none → a < s.2.1 → h.2.2 a = c0 a) ∧ (s.1.1 0 = none ∧ 0 < s.2.1) ∧ hy_R s.1 h s.2.2.2 ∧ (∀ a t n, s.1.1 a = some (t, n) → n ≤ 10000000) ∧ sFix D s.1
def sU (s : sS) (a : Nat) (e v : Int) : sS := (s.1, s.2.1, s.2.2.1, hy_u s.2.2.2 a e v)
def hy_z (m : hy_m) (a : Nat) : hy_m := fun b k => if b = a then 0 else m b k
def hy_e (T : hy_T) (a t n : Nat) : hy_T := (fun b => if b = a then some (t, n) else T.1 b, T.2)
def sN (s : sS) (t n : Nat) : sS := (hy_e s.1 s.2.1 t n, s.2.1 + 1, s.2.2.1 + n, hy_z s.2.2.2 s.2.1)
/-- an array cell at a reference: its length -/
def sRow (D : Nat → Bool) (s : sS) (t : Nat) (q : sv) (K : Nat → Nat → Prop) : Prop := match Nat.beq q.1 5 with
  | true => match sT D q.2.2.toNat with
    | some c => sB (Nat.beq c.1 t) (K q.2.2.toNat c.2)
    | none => False
  | false => sB (Nat.beq q.1 3) (∃ n, s.1.1 q.2.2.toNat = some (t, n) ∧ K q.2.2.toNat n)
def sRow3 (D : Nat → Bool) (s : sS) (lo : Nat) (q : sv) (K : Nat → Nat → Nat → Prop) : Prop := match Nat.beq q.1 5 with
  | true => match sT D q.2.2.toNat with
    | some c => sB (Nat.ble lo c.1) (K q.2.2.toNat c.1 c.2)
    | none => False
  | false => sB (Nat.beq q.1 3) (∃ t n, s.1.1 q.2.2.toNat = some (t, n) ∧ lo ≤ t ∧ K q.2.2.toNat t n)
def sObj (D : Nat → Bool) (s : sS) (c : Nat) (q : sv) (K : Nat → Prop) : Prop := match Nat.beq q.1 5 with
  | true => match sT D q.2.2.toNat with
    | some p => sB (Nat.beq p.1 c && Nat.beq p.2 (mx_nf c)) (K q.2.2.toNat)
    | none => False
  | false => sB (Nat.beq q.1 3) (s.1.1 q.2.2.toNat = some (c, mx_nf c) ∧ K q.2.2.toNat)
def sget (D : Nat → Bool) (s : sS) (c k : Nat) (q : sv) (K : sv → Prop) : Prop := sB (Nat.blt k (mx_nf c) && Nat.blt c 50) (sObj D s c q (fun a => match (match Nat.beq q.1 5 with
    | true => sF0 a k
    | false => none) with
  | some b => sB (Nat.blt 0 b) (K (5, true, (b : Nat)))
  | none => sB (Nat.ble (mx_kd c k) 3) (K (mx_kd c k, true, s.2.2.2 a (k : Nat)))))
/-- a value for a place of a kind -/
def sput (k : Nat) (q : sv) (P : Prop) : Prop := match Nat.beq k 3 with
  | true => match Nat.beq q.1 5 with
    | true => P
    | false => sB (Nat.beq q.1 3) (rq 3 q P)
  | false => match Nat.beq k 1 with
    | true => sB (sJ q) (rq 1 q P)
    | false => sB (sI q && Nat.ble k 4) (rq k q P)
def sidx (i : sv) (n : Nat) (P : Prop) : Prop := sB (sI i) (0 ≤ i.2.2 ∧ i.2.2 < (n : Nat) ∧ P)
def wH (D : Nat → Bool) (e : im_E) (st : List sv) (s : sS) (K : List sv → sS → Prop) : Prop := match e.2.1 with
  | .getfield _ => match st with
    | q :: r => sget D s e.2.2.2.1 e.2.2.2.2.1 q (fun v => K (v :: r) s)
    | _ => False
  | .putfield _ => match st with
    | v :: q :: r => sB (Nat.blt e.2.2.2.2.1 (mx_nf e.2.2.2.1) && Nat.blt e.2.2.2.1 50 && Nat.ble (mx_kd e.2.2.2.1 e.2.2.2.2.1) 3 && !(hy_fin e.2.2.2.1 e.2.2.2.2.1)) (sObj D s e.2.2.2.1 q (fun a => sput (mx_kd e.2.2.2.1 e.2.2.2.2.1) v (K r (sU s a (e.2.2.2.2.1 : Nat) v.2.2))))
    | _ => False
  | .arraylength => match st with
    | q :: r => sRow3 D s 99 q (fun _ _ n => K ((0, true, (n : Nat)) :: r) s)
    | _ => False
  | .iaload => match st with
    | i :: q :: r => sRow D s 100 q (fun a n => sidx i n (K ((0, true, s.2.2.2 a i.2.2) :: r) s))
    | _ => False
  | .laload => match st with
    | i :: q :: r => sRow D s 101 q (fun a n => sidx i n (K ((1, true, s.2.2.2 a i.2.2) :: r) s))
    | _ => False
  | .caload => match st with
    | i :: q :: r => sRow D s 102 q (fun a n => sidx i n (K ((4, true, s.2.2.2 a i.2.2) :: r) s))
    | _ => False
  | .aaload => match st with
    | i :: q :: r => sRow3 D s 110 q (fun a t n => sidx i n (K ((3, true, s.2.2.2 a i.2.2) :: r) s))
    | _ => False
  | .iastore => match st with
    | v :: i :: q :: r => sRow D s 100 q (fun a n => sidx i n (sput 0 v (K r (sU s a i.2.2 v.2.2))))
    | _ => False
  | .lastore => match st with
    | v :: i :: q :: r => sRow D s 101 q (fun a n => sidx i n (sput 1 v (K r (sU s a i.2.2 v.2.2))))
    | _ => False
  | .castore => match st with
    | v :: i :: q :: r => sRow D s 102 q (fun a n => sidx i n (sput 4 v (K r (sU s a i.2.2 v.2.2))))
    | _ => False
  | .aastore => match st with
    | v :: i :: q :: r => sRow3 D s 110 q (fun a t n => sidx i n (sput 3 v ((v.2.2 = 0 ∨ ∃ nv, s.1.1 v.2.2.toNat = some (t - 110, nv) ∧ t < 160) ∧ K r (sU s a i.2.2 v.2.2))))
    | _ => False
  | .new _ => sB (Nat.blt e.2.2.2.1 50 && Nat.ble (mx_nf e.2.2.2.1) 100) (K ((3, true, (s.2.1 : Nat)) :: st) (sN s e.2.2.2.1 (mx_nf e.2.2.2.1)))
  | .newarray .int => match st with
    | q :: r => sB (sI q) (0 ≤ q.2.2 ∧ q.2.2 ≤ 10000000 ∧ K ((3, true, (s.2.1 : Nat)) :: r) (sN s 100 q.2.2.toNat))
    | _ => False
  | .newarray .long => match st with
    | q :: r => sB (sI q) (0 ≤ q.2.2 ∧ q.2.2 ≤ 10000000 ∧ K ((3, true, (s.2.1 : Nat)) :: r) (sN s 101 q.2.2.toNat))
    | _ => False
  | .anewarray _ => match st with
    | q :: r => sB (sI q) (0 ≤ q.2.2 ∧ q.2.2 ≤ 10000000 ∧ K ((3, true, (s.2.1 : Nat)) :: r) (sN s (110 + e.2.2.2.1) q.2.2.toNat))
    | _ => False
  | .ldc _ => match e.2.2.2.2.2.2 with
    | .int x => K ((0, true, x.toInt) :: st) s
    | _ => False
  | .ldc_w _ => match e.2.2.2.2.2.2 with
    | .int x => K ((0, true, x.toInt) :: st) s
    | _ => False
  | .ldc2_w _ => match e.2.2.2.2.2.2 with
    | .long x => K ((1, true, x.toInt) :: st) s
    | _ => False
  | .checkcast _ => match st with
    | q :: r => sRow D s e.2.2.2.1 q (fun _ _ => K (q :: r) s)
    | _ => False
  | _ => False
theorem sT0_ok {c0 : Nat → Option im_C} {h : im_H} {s : sS} {a : Nat} {p : Nat × Nat} (hk : kR D c0 h s) (hp : sT D a = some p) : s.1.1 a = some p := hk.2.2.2.2.2.2.1 a p hp
theorem kR_cell {c0 : Nat → Option im_C} {h : im_H} {s : sS} {a t n : Nat} (hk : kR D c0 h s) (ha : s.1.1 a = some (t, n)) : a < h.1 ∧ a ≠ 0 ∧ n ≤ 10000000 ∧ ∃ f, h.2.2 a = some (t, n, f) ∧ (∀ k : Nat, k < n → f k = hy_v (hy_k t k) (s.2.2.2 a k) ∧ hy_r (hy_k t k) (s.2.2.2 a k)) ∧ ∀ k b, s.1.2 a k = some b → f k = .ref b := by
  obtain ⟨h1, h2, h3, h4, h5, h6, h7⟩ := hk
  refine ⟨(h5.2 a t n ha).1, fun q => ?_, h6 a t n ha, (h5.2 a t n ha).2⟩
  rw [q, h4.1] at ha
  cases ha
theorem sv3 {q : sv} (h : Nat.beq q.1 3 = true) (h0 : q.2.2.toNat ≠ 0) : svV q = .ref q.2.2.toNat := by
  obtain ⟨k, b, x⟩ := q
  have h : k = 3 := Nat.eq_of_beq_eq_true h
  subst h
  refine if_neg (fun e => h0 ?_)
  have e : x = 0 := e
  show x.toNat = 0
  rw [e]
  rfl
theorem sv5 {q : sv} (h : Nat.beq q.1 5 = true) : svV q = .ref q.2.2.toNat := by
  obtain ⟨k, b, x⟩ := q
  have h : k = 5 := Nat.eq_of_beq_eq_true h
  subst h
  rfl
theorem sObj_ok {c0 : Nat → Option im_C} {h : im_H} {s : sS} {c : Nat} {q : sv} {K : Nat → Prop} (hk : kR D c0 h s) (ho : sObj D s c q K) : svV q = .ref q.2.2.toNat ∧ s.1.1 q.2.2.toNat = some (c, mx_nf c) ∧ (Nat.beq q.1 5 = true → D q.2.2.toNat = true) ∧ K q.2.2.toNat := by
  unfold sObj at ho
  split at ho
  · rename_i e5
    split at ho
    · rename_i p hp
      obtain ⟨h1, h2⟩ := sB_ok ho
      rw [Bool.and_eq_true] at h1
      have h3 := sT0_ok hk hp
      obtain ⟨p1, p2⟩ := p
      have e1 : p1 = c := Nat.eq_of_beq_eq_true h1.1
      have e2 : p2 = mx_nf c := Nat.eq_of_beq_eq_true h1.2
      subst e1 e2
      refine ⟨sv5 e5, h3, fun _ => ?_, h2⟩
      unfold sT at hp
      split at hp
      · assumption
      · cases hp
    · exact ho.elim
  · rename_i e5
    obtain ⟨h1, h2, h3⟩ := sB_ok ho
    exact ⟨sv3 h1 (kR_cell hk h2).2.1, h2, (fun q => by rw [q] at e5; cases e5), h3⟩
theorem sRow_ok {c0 : Nat → Option im_C} {h : im_H} {s : sS} {t : Nat} {q : sv} {K : Nat → Nat → Prop} (hk : kR D c0 h s) (ho : sRow D s t q K) : ∃ n, svV q = .ref q.2.2.toNat ∧ s.1.1 q.2.2.toNat = some (t, n) ∧ K q.2.2.toNat n := by
  unfold sRow at ho
  split at ho
  · rename_i e5
    split at ho
    · rename_i p hp
      obtain ⟨h1, h2⟩ := sB_ok ho
      have h3 := sT0_ok hk hp
      obtain ⟨p1, p2⟩ := p
      have e1 : p1 = t := Nat.eq_of_beq_eq_true h1
      subst e1
      exact ⟨p2, sv5 e5, h3, h2⟩
    · exact ho.elim
  · obtain ⟨h1, n, h2, h3⟩ := sB_ok ho
    exact ⟨n, sv3 h1 (kR_cell hk h2).2.1, h2, h3⟩
theorem sRow3_ok {c0 : Nat → Option im_C} {h : im_H} {s : sS} {lo : Nat} {q : sv} {K : Nat → Nat → Nat → Prop} (hk : kR D c0 h s) (ho : sRow3 D s lo q K) : ∃ t n, svV q = .ref q.2.2.toNat ∧ s.1.1 q.2.2.toNat = some (t, n) ∧ lo ≤ t ∧ K q.2.2.toNat t n := by
  unfold sRow3 at ho
  split at ho
  · rename_i e5
    split at ho
    · rename_i p hp
      obtain ⟨h1, h2⟩ := sB_ok ho
      exact ⟨p.1, p.2, sv5 e5, sT0_ok hk hp, Nat.le_of_ble_eq_true h1, h2⟩
    · exact ho.elim
  · obtain ⟨h1, t, n, h2, h4, h3⟩ := sB_ok ho
    exact ⟨t, n, sv3 h1 (kR_cell hk h2).2.1, h2, h4, h3⟩
theorem kR_u {c0 : Nat → Option im_C} {h : im_H} {s : sS} {a t n k : Nat} {f : Nat → Value} {x : Int} (hk : kR D c0 h s) (ha : s.1.1 a = some (t, n)) (hf : h.2.2 a = some (t, n, f)) (hr : hy_r (hy_k t k) x) (hn : hy_fin t k = false) : kR D c0 (im_wr h a (t, n, updV f k (hy_v (hy_k t k) x))) (sU s a k x) := by
  have h0 := (kR_cell hk ha).2.1
  obtain ⟨h1, h2, h3, h4, h5, h6, h7⟩ := hk
  exact ⟨h1, h2, (fun b hb hl => by rw [im_wr_ne _ _ (fun q => by have hb2 : s.1.1 b = none := hb; rw [q, ha] at hb2; cases hb2)]; exact h3 b hb hl), h4, h5.wr ha hf hr hn, h6, h7⟩
theorem hy_r0 (q : Nat) : hy_r q 0 := by
  unfold hy_r
  split
  · omega
  · exact Or.inl rfl
  · omega
  · omega
  · omega
theorem kR_n {c0 : Nat → Option im_C} {h : im_H} {s : sS} {t n : Nat} {f : Nat → Value} {m' : hy_m} (hk : kR D c0 h s) (hn : n ≤ 10000000) (hm : ∀ b, b ≠ s.2.1 → m' b = s.2.2.2 b) (hf : ∀ k : Nat, k < n → f k = hy_v (hy_k t k) (m' s.2.1 k) ∧ hy_r (hy_k t k) (m' s.2.1 k)) : kR D c0 (im_mk h (t, n, f)) (hy_e s.1 s.2.1 t n, s.2.1 + 1, s.2.2.1 + n, m') ∧ s.1.1 s.2.1 = none := by
  obtain ⟨h1, h2, h3, h4, h5, h6, h7, h8⟩ := hk
  have e0 : s.1.1 s.2.1 = none := by
    cases e : s.1.1 s.2.1 with
    | none => rfl
    | some p =>
      have := (h5.2 s.2.1 p.1 p.2 e).1
      omega
  have en : ∀ b, s.1.1 b ≠ none → b ≠ s.2.1 := fun b hb q => hb (by rw [q]; exact e0)
  have hz : h.1 ≠ 0 := by
    have := h4.2
    omega
  have up : ∀ b, b ≠ h.1 → (im_mk h (t, n, f)).2.2 b = h.2.2 b := fun b hb => by
    show va_up h.2.2 h.1 (some (t, n, f)) b = _
    unfold va_up
    rw [if_neg hb]
  refine ⟨⟨by show h.1 + 1 = s.2.1 + 1; omega, by show h.2.1 + n = s.2.2.1 + n; omega, ?_, ⟨?_, by show 0 < s.2.1 + 1; omega⟩, ⟨?_, ?_⟩, ?_, ?_, ?_⟩, e0⟩
  · intro b hb hl
    have hb : (if b = s.2.1 then some (t, n) else s.1.1 b) = none := hb
    have hl : b < s.2.1 + 1 := hl
    by_cases e : b = s.2.1
    · rw [if_pos e] at hb
      cases hb
    · rw [if_neg e] at hb
      rw [up b (by omega)]
      exact h3 b hb (by omega)
  · show (if 0 = s.2.1 then some (t, n) else s.1.1 0) = none
    rw [if_neg (by omega)]
    exact h4.1
  · intro a k b hb
    obtain ⟨t', n', g1, g2⟩ := h5.1 a k b hb
    refine ⟨t', n', ?_, g2⟩
    show (if a = s.2.1 then some (t, n) else s.1.1 a) = _
    rw [if_neg (en a (by rw [g1]; exact Option.some_ne_none _))]
    exact g1
  · intro a t' n' ha
    have ha : (if a = s.2.1 then some (t, n) else s.1.1 a) = some (t', n') := ha
    by_cases e : a = s.2.1
    · rw [if_pos e] at ha
      cases ha
      refine ⟨by show a < h.1 + 1; omega, f, ?_, ?_, ?_⟩
      · show va_up h.2.2 h.1 (some (t, n, f)) a = _
        unfold va_up
        rw [if_pos (by omega)]
      · rw [e]
        exact hf
      · intro k b hb
        obtain ⟨t', n', g1, g2⟩ := h5.1 a k b hb
        rw [e, e0] at g1
        cases g1
    · rw [if_neg e] at ha
      obtain ⟨g1, f', g2, g3, g4⟩ := h5.2 a t' n' ha
      refine ⟨by show a < h.1 + 1; omega, f', by rw [up a (by omega)]; exact g2, ?_, g4⟩
      show ∀ k : Nat, k < n' → f' k = hy_v (hy_k t' k) (m' a k) ∧ hy_r (hy_k t' k) (m' a k)
      rw [hm a e]
      exact g3
  · intro a t' n' ha
    have ha : (if a = s.2.1 then some (t, n) else s.1.1 a) = some (t', n') := ha
    by_cases e : a = s.2.1
    · rw [if_pos e] at ha
      cases ha
      exact hn
    · rw [if_neg e] at ha
      exact h6 a t' n' ha
  · intro a q hq
    show (if a = s.2.1 then some (t, n) else s.1.1 a) = _
    have := h7 a q hq
    rw [if_neg (en a (by rw [this]; exact Option.some_ne_none _))]
    exact this
  · exact h8
theorem kR_N {c0 : Nat → Option im_C} {h : im_H} {s : sS} {t n : Nat} {f : Nat → Value} (hk : kR D c0 h s) (hn : n ≤ 10000000) (hf : ∀ k : Nat, k < n → f k = hy_v (hy_k t k) 0) : kR D c0 (im_mk h (t, n, f)) (sN s t n) := by
  refine (kR_n hk hn (fun b hb => ?_) (fun k hk => ?_)).1
  · funext j
    exact if_neg hb
  · show f k = hy_v (hy_k t k) (if s.2.1 = s.2.1 then 0 else _) ∧ hy_r (hy_k t k) (if s.2.1 = s.2.1 then 0 else _)
    rw [if_pos rfl]
    exact ⟨hf k hk, hy_r0 _⟩
theorem sget_ok {c0 : Nat → Option im_C} {h : im_H} {s : sS} {pc ix len ea eb ec : Nat} {ev : Value} {q : sv} {r : List Value} {K : sv → Prop} (hk : kR D c0 h s) (ho : sget D s ea eb q K) : ∃ v, svR v ∧ im_h mx_kd mx_nf (pc, .getfield ix, len, ea, eb, ec, ev) (svV q :: r) h = some (svV v :: r, h) ∧ K v := by
  unfold sget at ho
  obtain ⟨h1, ho⟩ := sB_ok ho
  rw [Bool.and_eq_true] at h1
  have hlt : eb < mx_nf ea := Nat.lt_of_lt_of_le (Nat.lt_succ_self _) (Nat.le_of_ble_eq_true h1.1)
  have h50 : ea < 50 := Nat.lt_of_lt_of_le (Nat.lt_succ_self _) (Nat.le_of_ble_eq_true h1.2)
  obtain ⟨h2, h3, h5D, h4⟩ := sObj_ok hk ho
  obtain ⟨-, -, -, f, g1, g2, g3⟩ := kR_cell hk h3
  split at h4
  · rename_i b hb
    obtain ⟨h5, h6⟩ := sB_ok h4
    refine ⟨_, ?_, ?_, h6⟩
    · show 0 < ((b : Nat) : Int)
      have : 0 < b := Nat.lt_of_lt_of_le (Nat.lt_succ_self _) (Nat.le_of_ble_eq_true h5)
      omega
    · rw [h2]
      have hb : sF0 q.2.2.toNat eb = some b ∧ D q.2.2.toNat = true := by
        split at hb
        · rename_i e5
          exact ⟨hb, h5D e5⟩
        · cases hb
      have := g3 eb b (hk.2.2.2.2.2.2.2 _ _ _ hb.2 hb.1)
      exact wh_gf g1 hlt this
  · obtain ⟨h5, h6⟩ := sB_ok h4
    have h5 := Nat.le_of_ble_eq_true h5
    have e1 : hy_k ea eb = mx_kd ea eb := if_pos h50
    have g4 := g2 eb hlt
    rw [e1] at g4
    refine ⟨_, svR_t (by omega) g4.2, ?_, h6⟩
    rw [h2, wh_gf g1 hlt g4.1]
    congr 3
    show hy_v (mx_kd ea eb) _ = svV _
    unfold svV
    dsimp only
    split
    · omega
    · rfl
theorem sput_ok {k : Nat} {q : sv} {P : Prop} (hk : k < 5) (hq : svR q) (h : sput k q P) : hy_r k q.2.2 ∧ svV q = hy_v k q.2.2 ∧ P := by
  unfold sput at h
  split at h
  · rename_i e
    have e := Nat.eq_of_beq_eq_true e
    subst e
    split at h
    · rename_i e5
      obtain ⟨k, b, x⟩ := q
      have e5 : k = 5 := Nat.eq_of_beq_eq_true e5
      subst e5
      have hq : 0 < x := hq
      refine ⟨show 0 ≤ x by omega, ?_, h⟩
      show Value.ref x.toNat = if x = 0 then .null else .ref x.toNat
      rw [if_neg (by omega)]
    · obtain ⟨h1, h⟩ := sB_ok h
      obtain ⟨h2, hP⟩ := rq_ok hk hq h
      obtain ⟨k, b, x⟩ := q
      have h1 : k = 3 := Nat.eq_of_beq_eq_true h1
      subst h1
      exact ⟨h2, rfl, hP⟩
  · rename_i e3
    split at h
    · rename_i e
      have e := Nat.eq_of_beq_eq_true e
      subst e
      obtain ⟨h1, h⟩ := sB_ok h
      obtain ⟨h2, h⟩ := rq_ok hk hq h
      exact ⟨h2, svV_j h1, h⟩
    · rename_i e1
      obtain ⟨h1, h⟩ := sB_ok h
      rw [Bool.and_eq_true] at h1
      obtain ⟨h2, h⟩ := rq_ok hk hq h
      refine ⟨h2, ?_, h⟩
      rw [svV_i h1.1]
      have n3 : k ≠ 3 := fun q => by rw [q] at e3; cases e3
      have n1 : k ≠ 1 := fun q => by rw [q] at e1; cases e1
      unfold hy_v
      split
      · exact absurd rfl n1
      · exact absurd rfl n3
      · rfl
theorem sidx_ok {i : sv} {n : Nat} {P : Prop} (hn : n ≤ 10000000) (h : sidx i n P) : ∃ j : Nat, i.2.2 = j ∧ j < n ∧ svV i = .int (iI i.2.2) ∧ im_ix (iI i.2.2) n = some j ∧ P := by
  unfold sidx at h
  obtain ⟨h1, h2, h3, h4⟩ := sB_ok h
  refine ⟨i.2.2.toNat, by omega, by omega, svV_i h1, ?_, h4⟩
  exact hy_ix (show -2147483648 ≤ i.2.2 ∧ i.2.2 < 2147483648 by omega) h2 h3
theorem hy_k100 (k : Nat) : hy_k 100 k = 0 := rfl
theorem hy_k101 (k : Nat) : hy_k 101 k = 1 := rfl
theorem hy_k102 (k : Nat) : hy_k 102 k = 4 := rfl
theorem hy_k110 {t : Nat} (h : 110 ≤ t) (k : Nat) : hy_k t k = 3 := by
  unfold hy_k
  rw [if_neg (by omega), if_neg (by omega), if_neg (by omega), if_pos h]
theorem hy_f99 {t : Nat} (h : 99 ≤ t) (k : Nat) : hy_fin t k = false := by
  unfold hy_fin
  have : hy_fl[t]? = none := List.getElem?_eq_none (by show 13 ≤ t; omega)
  rw [this]
theorem hy_v0 (k : Nat) : im_dv k = hy_v k 0 := by
  match k with
  | 0 => rfl
  | 1 => rfl
  | 2 => rfl
  | 3 => rfl
  | k + 4 => rfl
theorem svN {n : Nat} (h : n ≠ 0) : svV (3, true, (n : Int)) = .ref n := by
  show (if ((n : Nat) : Int) = 0 then Value.null else .ref ((n : Nat) : Int).toNat) = _
  rw [if_neg (by omega)]
  rfl
theorem wH_ok {c0 : Nat → Option im_C} {e : im_E} {st : List sv} {s : sS} {h : im_H} {K : List sv → sS → Prop} (hk : kR D c0 h s) (ho : okS st) (hw : wH D e st s K) : ∃ st' s' h', okS st' ∧ kR D c0 h' s' ∧ im_h mx_kd mx_nf e (st.map svV) h = some (st'.map svV, h') ∧ K st' s' := by
  obtain ⟨pc, ins, len, ea, eb, ec, ev⟩ := e
  unfold wH at hw
  dsimp only at hw
  split at hw
  · split at hw
    · rename_i q r
      obtain ⟨v, h1, h2, h3⟩ := sget_ok (pc := pc) (ec := ec) (ev := ev) (len := len) (r := r.map svV) hk hw
      exact ⟨v :: r, s, h, okS_c h1 (okS_t ho), hk, h2, h3⟩
    · exact hw.elim
  · split at hw
    · rename_i v q r
      obtain ⟨h1, hw⟩ := sB_ok hw
      simp only [Bool.and_eq_true, Bool.not_eq_true'] at h1
      obtain ⟨⟨⟨h1a, h1b⟩, h1c⟩, h1d⟩ := h1
      have hlt : eb < mx_nf ea := Nat.lt_of_lt_of_le (Nat.lt_succ_self _) (Nat.le_of_ble_eq_true h1a)
      have h50 : ea < 50 := Nat.lt_of_lt_of_le (Nat.lt_succ_self _) (Nat.le_of_ble_eq_true h1b)
      have h3k : mx_kd ea eb ≤ 3 := Nat.le_of_ble_eq_true h1c
      have e1 : hy_k ea eb = mx_kd ea eb := if_pos h50
      obtain ⟨h2, h3, -, h4⟩ := sObj_ok hk hw
      obtain ⟨-, -, -, f, g1, g2, g3⟩ := kR_cell hk h3
      obtain ⟨h5, h6, h7⟩ := sput_ok (by omega) (okS_h ho) h4
      have g5 := kR_u (k := eb) (x := v.2.2) hk h3 g1 (by rw [e1]; exact h5) h1d
      rw [e1] at g5
      refine ⟨r, _, _, okS_t (okS_t ho), g5, ?_, h7⟩
      rw [List.map_cons, List.map_cons, h2, h6]
      exact wh_pf g1 hlt (hy_kf h3k h5)
    · exact hw.elim
  · split at hw
    · rename_i q r
      obtain ⟨t, n, h2, h3, h4, h5⟩ := sRow3_ok hk hw
      obtain ⟨-, -, h6, f, g1, g2, g3⟩ := kR_cell hk h3
      refine ⟨_, s, h, okS_c (svR_t (k := 0) (by decide) (show -2147483648 ≤ ((n : Nat) : Int) ∧ ((n : Nat) : Int) < 2147483648 by omega)) (okS_t ho), hk, ?_, h5⟩
      rw [List.map_cons, h2, wh_al g1 h4, List.map_cons]
      show some (Value.int (Int32.ofNat n) :: _, h) = some (Value.int (iI n) :: _, h)
      rw [← Int32.ofInt_eq_ofNat]
    · exact hw.elim
  · split at hw
    · rename_i i q r
      obtain ⟨n, h2, h3, h5⟩ := sRow_ok hk hw
      obtain ⟨-, -, h6, f, g1, g2, g3⟩ := kR_cell hk h3
      obtain ⟨j, e, hj, hv, hx, hK⟩ := sidx_ok h6 h5
      rw [e] at hK
      refine ⟨_, s, h, okS_c (svR_t (k := 0) (by decide) (g2 j hj).2) (okS_t (okS_t ho)), hk, ?_, hK⟩
      rw [List.map_cons, List.map_cons, h2, hv, wh_ia g1 (Or.inr rfl) hx (g2 j hj).1]
      rfl
    · exact hw.elim
  · split at hw
    · rename_i i q r
      obtain ⟨n, h2, h3, h5⟩ := sRow_ok hk hw
      obtain ⟨-, -, h6, f, g1, g2, g3⟩ := kR_cell hk h3
      obtain ⟨j, e, hj, hv, hx, hK⟩ := sidx_ok h6 h5
      rw [e] at hK
      refine ⟨_, s, h, okS_c (svR_t (k := 1) (by decide) (g2 j hj).2) (okS_t (okS_t ho)), hk, ?_, hK⟩
      rw [List.map_cons, List.map_cons, h2, hv]
      dsimp only [im_h]
      rw [g1]
      dsimp only
      rw [if_pos rfl, hx]
      dsimp only
      rw [(g2 j hj).1]
      rfl
    · exact hw.elim
  · split at hw
    · rename_i i q r
      obtain ⟨n, h2, h3, h5⟩ := sRow_ok hk hw
      obtain ⟨-, -, h6, f, g1, g2, g3⟩ := kR_cell hk h3
      obtain ⟨j, e, hj, hv, hx, hK⟩ := sidx_ok h6 h5
      rw [e] at hK
      refine ⟨_, s, h, okS_c (svR_t (k := 4) (by decide) (g2 j hj).2) (okS_t (okS_t ho)), hk, ?_, hK⟩
      rw [List.map_cons, List.map_cons, h2, hv]
      dsimp only [im_h]
      rw [g1]
      dsimp only
      rw [if_pos rfl, hx]
      dsimp only
      rw [(g2 j hj).1]
      rfl
    · exact hw.elim
  · split at hw
    · rename_i i q r
      obtain ⟨t, n, h2, h3, h4, h5⟩ := sRow3_ok hk hw
      obtain ⟨-, -, h6, f, g1, g2, g3⟩ := kR_cell hk h3
      obtain ⟨j, e, hj, hv, hx, hK⟩ := sidx_ok h6 h5
      rw [e] at hK
      have g4 := g2 j hj
      rw [hy_k110 h4] at g4
      refine ⟨_, s, h, okS_c (svR_t (by decide) g4.2) (okS_t (okS_t ho)), hk, ?_, hK⟩
      rw [List.map_cons, List.map_cons, h2, hv, wh_aa g1 h4 hx g4.1]
      rfl
    · exact hw.elim
  · split at hw
    · rename_i v i q r
      obtain ⟨n, h2, h3, h5⟩ := sRow_ok hk hw
      obtain ⟨-, -, h6, f, g1, g2, g3⟩ := kR_cell hk h3
      obtain ⟨j, e, hj, hv, hx, hK⟩ := sidx_ok h6 h5
      obtain ⟨h7, h8, hK⟩ := sput_ok (by decide) (okS_h ho) hK
      rw [e] at hK
      refine ⟨r, _, _, okS_t (okS_t (okS_t ho)), kR_u (k := j) (x := v.2.2) hk h3 g1 h7 rfl, ?_, hK⟩
      rw [List.map_cons, List.map_cons, List.map_cons, h2, hv, h8]
      exact wh_is g1 hx
    · exact hw.elim
  · split at hw
    · rename_i v i q r
      obtain ⟨n, h2, h3, h5⟩ := sRow_ok hk hw
      obtain ⟨-, -, h6, f, g1, g2, g3⟩ := kR_cell hk h3
      obtain ⟨j, e, hj, hv, hx, hK⟩ := sidx_ok h6 h5
      obtain ⟨h7, h8, hK⟩ := sput_ok (by decide) (okS_h ho) hK
      rw [e] at hK
      refine ⟨r, _, _, okS_t (okS_t (okS_t ho)), kR_u (k := j) (x := v.2.2) hk h3 g1 h7 rfl, ?_, hK⟩
      rw [List.map_cons, List.map_cons, List.map_cons, h2, hv, h8]
      dsimp only [im_h]
      show (match h.2.2 q.2.2.toNat with
        | some (t, n, f) => if t = 101 then match im_ix (iI i.2.2) n with
          | some j => some (r.map svV, im_wr h q.2.2.toNat (t, n, updV f j (.long (jI v.2.2))))
          | none => none else none
        | none => none) = _
      rw [g1]
      dsimp only
      rw [if_pos rfl, hx]
      rfl
    · exact hw.elim
  · split at hw
    · rename_i v i q r
      obtain ⟨n, h2, h3, h5⟩ := sRow_ok hk hw
      obtain ⟨-, -, h6, f, g1, g2, g3⟩ := kR_cell hk h3
      obtain ⟨j, e, hj, hv, hx, hK⟩ := sidx_ok h6 h5
      obtain ⟨h7, h8, hK⟩ := sput_ok (by decide) (okS_h ho) hK
      rw [e] at hK
      refine ⟨r, _, _, okS_t (okS_t (okS_t ho)), kR_u (k := j) (x := v.2.2) hk h3 g1 h7 rfl, ?_, hK⟩
      rw [List.map_cons, List.map_cons, List.map_cons, h2, hv, h8]
      have g4 := wh_cs (pc := pc) (len := len) (ea := ea) (eb := eb) (ec := ec) (ev := ev) (r := r.map svV) (x := iI v.2.2) g1 hx
      rw [hy_nar h7] at g4
      exact g4
    · exact hw.elim
  · split at hw
    · rename_i v i q r
      obtain ⟨t, n, h2, h3, h4, h5⟩ := sRow3_ok hk hw
      obtain ⟨-, -, h6, f, g1, g2, g3⟩ := kR_cell hk h3
      obtain ⟨j, e, hj, hv, hx, hK⟩ := sidx_ok h6 h5
      obtain ⟨h7, h8, h9, hK⟩ := sput_ok (by decide) (okS_h ho) hK
      rw [e] at hK
      have g5 := kR_u (k := j) (x := v.2.2) hk h3 g1 (by rw [hy_k110 h4]; exact h7) (hy_f99 (by omega) j)
      rw [hy_k110 h4] at g5
      refine ⟨r, _, _, okS_t (okS_t (okS_t ho)), g5, ?_, hK⟩
      rw [List.map_cons, List.map_cons, List.map_cons, h2, hv, h8]
      by_cases e0 : v.2.2 = 0
      · have : hy_v 3 v.2.2 = .null := if_pos e0
        rw [this]
        dsimp only [im_h]
        rw [g1]
        dsimp only
        rw [if_pos h4, hx]
      · have e3 : hy_v 3 v.2.2 = .ref v.2.2.toNat := if_neg e0
        rcases h9 with h9 | ⟨nv, h9, h10⟩
        · exact absurd h9 e0
        · obtain ⟨-, -, -, fv, gv, -⟩ := kR_cell hk h9
          rw [e3]
          dsimp only [im_h]
          rw [g1]
          dsimp only
          rw [gv]
          dsimp only
          rw [if_pos ⟨h4, by omega, by omega⟩, hx]
    · exact hw.elim
  · obtain ⟨h1, hw⟩ := sB_ok hw
    rw [Bool.and_eq_true] at h1
    have h50 : ea < 50 := Nat.lt_of_lt_of_le (Nat.lt_succ_self _) (Nat.le_of_ble_eq_true h1.1)
    have h100 : mx_nf ea ≤ 100 := Nat.le_of_ble_eq_true h1.2
    refine ⟨_, _, _, okS_c (svR_t (k := 3) (by decide) (show (0 : Int) ≤ ((s.2.1 : Nat) : Int) by omega)) ho, kR_N (f := fun k => im_dv (mx_kd ea k)) hk (by omega) (fun k hk => ?_), ?_, hw⟩
    · show im_dv (mx_kd ea k) = hy_v (hy_k ea k) 0
      rw [show hy_k ea k = mx_kd ea k from if_pos h50]
      exact hy_v0 _
    · have hn := (kR_n (t := ea) (n := 0) (f := fun _ => .null) (m' := s.2.2.2) hk (by omega) (fun _ _ => rfl) (fun k hk => absurd hk (Nat.not_lt_zero _))).2
      have h00 : s.2.1 ≠ 0 := by
        have := hk.2.2.2.1.2
        omega
      rw [List.map_cons, svN h00, ← hk.1]
      rfl
  · split at hw
    · rename_i q r
      obtain ⟨h1, h2, h3, hw⟩ := sB_ok hw
      have h00 : s.2.1 ≠ 0 := by
        have := hk.2.2.2.1.2
        omega
      refine ⟨_, _, _, okS_c (svR_t (k := 3) (by decide) (show (0 : Int) ≤ ((s.2.1 : Nat) : Int) by omega)) (okS_t ho), kR_N (f := fun _ => .int 0) hk (by omega) (fun k hk => rfl), ?_, hw⟩
      rw [List.map_cons, List.map_cons, svN h00, ← hk.1, svV_i h1]
      dsimp only [im_h]
      rw [if_neg (by rw [show (0 : Int32) = iI 0 from rfl, iI_lt (show -2147483648 ≤ q.2.2 ∧ q.2.2 < 2147483648 by omega) (hy_c rfl)]; omega), Int32.toNatClampNeg_ofInt_of_le (by omega) (by omega), if_neg (by omega)]
    · exact hw.elim
  · split at hw
    · rename_i q r
      obtain ⟨h1, h2, h3, hw⟩ := sB_ok hw
      have h00 : s.2.1 ≠ 0 := by
        have := hk.2.2.2.1.2
        omega
      refine ⟨_, _, _, okS_c (svR_t (k := 3) (by decide) (show (0 : Int) ≤ ((s.2.1 : Nat) : Int) by omega)) (okS_t ho), kR_N (f := fun _ => .long 0) hk (by omega) (fun k hk => rfl), ?_, hw⟩
      rw [List.map_cons, List.map_cons, svN h00, ← hk.1, svV_i h1]
      dsimp only [im_h]
      rw [if_neg (by rw [show (0 : Int32) = iI 0 from rfl, iI_lt (show -2147483648 ≤ q.2.2 ∧ q.2.2 < 2147483648 by omega) (hy_c rfl)]; omega), Int32.toNatClampNeg_ofInt_of_le (by omega) (by omega), if_neg (by omega)]
    · exact hw.elim
  · split at hw
    · rename_i q r
      obtain ⟨h1, h2, h3, hw⟩ := sB_ok hw
      have h00 : s.2.1 ≠ 0 := by
        have := hk.2.2.2.1.2
        omega
      refine ⟨_, _, _, okS_c (svR_t (k := 3) (by decide) (show (0 : Int) ≤ ((s.2.1 : Nat) : Int) by omega)) (okS_t ho), kR_N (f := fun _ => .null) hk (by omega) (fun k hk => by rw [hy_k110 (by omega)]; rfl), ?_, hw⟩
      rw [List.map_cons, List.map_cons, svN h00, ← hk.1, svV_i h1]
      dsimp only [im_h]
      rw [if_neg (by rw [show (0 : Int32) = iI 0 from rfl, iI_lt (show -2147483648 ≤ q.2.2 ∧ q.2.2 < 2147483648 by omega) (hy_c rfl)]; omega), Int32.toNatClampNeg_ofInt_of_le (by omega) (by omega), if_neg (by omega)]
    · exact hw.elim
  · split at hw
    · rename_i x
      refine ⟨_, s, h, okS_c (svR_t (by decide) (iI_r x)) ho, hk, ?_, hw⟩
      show some (Value.int x :: _, h) = some (Value.int (iI x.toInt) :: _, h)
      rw [show iI x.toInt = x from Int32.ofInt_toInt x]
    · exact hw.elim
  · split at hw
    · rename_i x
      refine ⟨_, s, h, okS_c (svR_t (by decide) (iI_r x)) ho, hk, ?_, hw⟩
      show some (Value.int x :: _, h) = some (Value.int (iI x.toInt) :: _, h)
      rw [show iI x.toInt = x from Int32.ofInt_toInt x]
    · exact hw.elim
  · split at hw
    · rename_i x
      refine ⟨_, s, h, okS_c (svR_t (by decide) (jI_r x)) ho, hk, ?_, hw⟩
      show some (Value.long x :: _, h) = some (Value.long (jI x.toInt) :: _, h)
      rw [show jI x.toInt = x from Int64.ofInt_toInt x]
    · exact hw.elim
  · split at hw
    · rename_i q r
      obtain ⟨n, h2, h3, h5⟩ := sRow_ok hk hw
      obtain ⟨-, -, h6, f, g1, g2, g3⟩ := kR_cell hk h3
      refine ⟨_, s, h, ho, hk, ?_, h5⟩
      rw [List.map_cons, h2]
      dsimp only [im_h]
      rw [g1]
      dsimp only
      rw [if_pos rfl]
    · exact hw.elim
  · exact hw.elim
end
