section
variable {D : Nat → Bool}
/-! calls -/
abbrev sF : Type := List sv → sS → sQ → Prop
abbrev sFf : Type := List sv → sS → (Int → hy_m → Prop) → Prop
abbrev sFS : Type := Sum sFf sF
/-- the state with another memory -/
def sM (s : sS) (m : hy_m) : sS := (s.1, s.2.1, s.2.2.1, m)
def scall (f : sFS) (as : List sv) (s : sS) (K : Int → sS → Prop) : Prop := match f with
  | .inl f => ∃ R, f as s R ∧ ∀ x m', R x m' → K x (sM s m')
  | .inr f => ∃ R, f as s R ∧ ∀ x s', R x s' → K x s'
def sC : List (Nat × Nat × sFS) → Nat → Option (Nat × sFS)
  | [], _ => none
  | p :: r, i => match Nat.beq p.1 i with
    | true => some p.2
    | false => sC r i
def sct (q : sv) : Nat := match sJ q with
  | true => 2
  | false => 1
def sc8 (st : List sv) : Bool := Nat.ble (st.map sct).sum 8
def sres (rk : Nat) (x : Int) (rest : List sv) : List sv := match Nat.beq rk 9 with
  | true => rest
  | false => (rk, true, x) :: rest
def hy_cp (m : hy_m) (a0 : Nat) (sp : Int) (a : Nat) (dp n : Int) : hy_m := fun b k => if b = a ∧ dp ≤ k ∧ k < dp + n then m a0 (sp + (k - dp)) else m b k
def hy_cq (m : hy_m) (a0 a : Nat) : hy_m := fun b k => if b = a then m a0 k else m b k
def wCl (D : Nat → Bool) (cs : List (Nat × Nat × sFS)) (e : im_E) (st : List sv) (s : sS) (K : List sv → sS → Prop) : Prop :=
  match e.2.2.2.1 with
  | 0 => match st with
    | q :: r => sB (sc8 r) (match Nat.beq q.1 5 with
      | true => K r s
      | false => sB (Nat.beq q.1 3) (rq 3 q (q.2.2 ≠ 0 ∧ K r s)))
    | _ => False
  | 8 => match st with
    | n :: dp :: a :: sp :: a0 :: r => sB (sI n && sI dp && sI sp && sc8 r) (rq 0 n (rq 0 dp (rq 0 sp (sRow3 D s 99 a0 (fun b0 t n0 => sRow D s t a (fun b n1 => (t = 100 ∨ t = 101) ∧ 0 ≤ sp.2.2 ∧ 0 ≤ dp.2.2 ∧ 0 ≤ n.2.2 ∧ sp.2.2 + n.2.2 ≤ (n0 : Nat) ∧ dp.2.2 + n.2.2 ≤ (n1 : Nat) ∧ b0 ≠ b ∧ K r (s.1, s.2.1, s.2.2.1, hy_cp s.2.2.2 b0 sp.2.2 b dp.2.2 n.2.2)))))))
    | _ => False
  | 9 => match st with
    | q :: r => sB (sc8 r) (sRow D s e.2.2.2.2.1 q (fun a n => (e.2.2.2.2.1 = 100 ∨ e.2.2.2.2.1 = 101) ∧ K ((3, true, (s.2.1 : Nat)) :: r) (hy_e s.1 s.2.1 e.2.2.2.2.1 n, s.2.1 + 1, s.2.2.1 + n, hy_cq s.2.2.2 a s.2.1)))
    | _ => False
  | 10 => match st with
    | y :: x :: r => sB (sI y && sI x && sc8 r) (rq 0 y (rq 0 x (K ((0, true, if y.2.2 < x.2.2 then y.2.2 else x.2.2) :: r) s)))
    | _ => False
  | 11 => match st with
    | y :: x :: r => sB (sI y && sI x && sc8 r) (rq 0 y (rq 0 x (K ((0, true, if x.2.2 < y.2.2 then y.2.2 else x.2.2) :: r) s)))
    | _ => False
  | 12 => match st with
    | x :: r => sB (sJ x && sc8 r) (rq 1 x (-9223372036854775808 < x.2.2 ∧ K ((1, true, if 0 < x.2.2 then x.2.2 else -x.2.2) :: r) s))
    | _ => False
  | k => match mm_tb[e.2.2.2.2.1]? with
    | some y => match sC cs e.2.2.2.2.1 with
      | some g => sB (Nat.ble e.2.2.2.2.2.1 st.length) (match Nat.beq k 5 || Nat.beq k 7 with
        | true => sB (sc8 (st.drop e.2.2.2.2.2.1)) (scall g.2 (st.take e.2.2.2.2.2.1).reverse s (fun x s' => K (sres g.1 x (st.drop e.2.2.2.2.2.1)) s'))
        | false => sB (Nat.beq k 1 || Nat.beq k 3 || Nat.beq k 4) (match st.drop e.2.2.2.2.2.1 with
          | q :: rest => sB (sc8 rest) (sObj D s y.2.2.2.2.1 q (fun _ => scall g.2 (q :: (st.take e.2.2.2.2.2.1).reverse) s (fun x s' => K (sres g.1 x rest) s')))
          | [] => False))
      | none => False
    | none => False
/-- what a transformer of a method says -/
def kE (D : Nat → Bool) (c0 : Nat → Option im_C) (rk : Nat) (Q : sQ) (r : im_R) : Prop := ∃ x s', kR D c0 r.1 s' ∧ r.2 = hy_o rk x ∧ hy_r rk x ∧ Q x s'
def kM (D : Nat → Bool) (d N rk : Nat) (as : List sv) (s : sS) (Q : sQ) : Prop := ∀ c0 h, kR D c0 h s → wp_M d N (as.map svV) h (kE D c0 rk Q)
def kX (D : Nat → Bool) (d : Nat) (mi : im_M) (rk pc : Nat) (lv : sL) (st : List sv) (s : sS) (Q : sQ) : Prop := ∀ c0 h, kR D c0 h s → wp_X d mi pc (sLV lv) (st.map svV) h (kE D c0 rk Q)
theorem kM.imp {d N rk : Nat} {as : List sv} {s : sS} {Q Q' : sQ} (h : kM D d N rk as s Q) (hq : ∀ x s', Q x s' → Q' x s') : kM D d N rk as s Q' := fun c0 h' hk => (h c0 h' hk).imp (fun r hr => by
  obtain ⟨x, s', k1, k2, k3, k4⟩ := hr
  exact ⟨x, s', k1, k2, k3, hq x s' k4⟩)
def kS (D : Nat → Bool) (d N rk : Nat) (f : sFS) : Prop := match f with
  | .inl f => ∀ as s R, okS as → f as s R → kM D d N rk as s (fun x s' => ∃ m', s' = sM s m' ∧ R x m')
  | .inr f => ∀ as s R, okS as → f as s R → kM D d N rk as s R
theorem kS_call {d N rk : Nat} {f : sFS} {as : List sv} {s : sS} {K : Int → sS → Prop} (h : kS D d N rk f) (ho : okS as) (hc : scall f as s K) : kM D d N rk as s K := by
  cases f with
  | inl f =>
    obtain ⟨R, h1, h2⟩ := hc
    refine kM.imp (h as s R ho h1) (fun x s' hx => ?_)
    obtain ⟨m', rfl, hx⟩ := hx
    exact h2 x m' hx
  | inr f =>
    obtain ⟨R, h1, h2⟩ := hc
    exact kM.imp (h as s R ho h1) h2
theorem kS.deep {d d' N rk : Nat} {f : sFS} (h : kS D d N rk f) (hd : d ≤ d') : kS D d' N rk f := by
  cases f with
  | inl f => exact fun as s R ho hf c0 h' hk => (h as s R ho hf c0 h' hk).deep hd
  | inr f => exact fun as s R ho hf c0 h' hk => (h as s R ho hf c0 h' hk).deep hd
def kCs (D : Nat → Bool) (d : Nat) (cs : List (Nat × Nat × sFS)) : Prop := ∀ p ∈ cs, (p.2.1 = 0 ∨ p.2.1 = 1 ∨ p.2.1 = 2 ∨ p.2.1 = 3 ∨ p.2.1 = 9) ∧ kS D d p.1 p.2.1 p.2.2
theorem sC_ok {d : Nat} {cs : List (Nat × Nat × sFS)} (hc : kCs D d cs) {N : Nat} {g : Nat × sFS} (h : sC cs N = some g) : (g.1 = 0 ∨ g.1 = 1 ∨ g.1 = 2 ∨ g.1 = 3 ∨ g.1 = 9) ∧ kS D d N g.1 g.2 := by
  induction cs with
  | nil => cases h
  | cons p r ih =>
    unfold sC at h
    split at h
    · rename_i e
      have e := Nat.eq_of_beq_eq_true e
      cases h
      have := hc p (List.mem_cons_self ..)
      rw [e] at this
      exact this
    · exact ih (fun q hq => hc q (List.mem_cons_of_mem _ hq)) h
theorem sct_ok (q : sv) : (svV q).category = sct q := by
  have h := svV_c q
  unfold sct
  cases e : sJ q with
  | true =>
    rw [e] at h
    exact eq_of_beq h
  | false =>
    obtain ⟨k, b, x⟩ := q
    rw [e] at h
    have : ∀ v : Value, (v.category == 2) = false → v.category = 1 := by
      intro v hv
      cases v <;> first | rfl | cases hv
    exact this _ h
theorem sc8_ok {st : List sv} (h : sc8 st = true) : ((st.map svV).map fun v => v.category).sum ≤ 8 := by
  have : (st.map svV).map (fun v => v.category) = st.map sct := by
    rw [List.map_map]
    exact List.map_congr_left (fun q _ => sct_ok q)
  rw [this]
  exact Nat.le_of_ble_eq_true h
theorem sres_ok {rk : Nat} {x : Int} {rest : List sv} (hr : rk = 0 ∨ rk = 1 ∨ rk = 2 ∨ rk = 3 ∨ rk = 9) (hx : hy_r rk x) (ho : okS rest) : okS (sres rk x rest) ∧ (sres rk x rest).map svV = (hy_o rk x).toList ++ rest.map svV := by
  rcases hr with rfl | rfl | rfl | rfl | rfl
  · exact ⟨okS_c (svR_t (by decide) hx) ho, rfl⟩
  · exact ⟨okS_c (svR_t (by decide) hx) ho, rfl⟩
  · exact ⟨okS_c (svR_t (by decide) hx) ho, rfl⟩
  · exact ⟨okS_c (svR_t (by decide) hx) ho, rfl⟩
  · exact ⟨ho, rfl⟩
theorem okS_take {st : List sv} (n : Nat) (h : okS st) : okS (st.take n).reverse := fun q hq => h q (List.mem_of_mem_take (List.mem_reverse.mp hq))
theorem okS_drop {st : List sv} (n : Nat) (h : okS st) : okS (st.drop n) := fun q hq => h q (List.mem_of_mem_drop hq)
theorem sar_map {st : List sv} {n : Nat} (h : n ≤ st.length) : im_ar n (st.map svV) = some (((st.take n).reverse).map svV, (st.drop n).map svV) := by
  unfold im_ar
  rw [if_pos (by rw [List.length_map]; exact h), List.map_take.symm, List.map_drop.symm, List.map_reverse]
section WCL
variable {d : Nat} {mi : im_M} {rk : Nat} {cs : List (Nat × Nat × sFS)} {e : im_E} {lv : sL} {st : List sv} {s : sS} {Q : sQ} {K : List sv → sS → Prop} {pc : Nat}
theorem wCl_ok (hat : im_at mi.2.2.2.2.2 pc = some e) (hg : im_g e.2.1 = 4) (hc : kCs D d cs) (ho : okS st) (hK : ∀ st' s', okS st' → K st' s' → kX D d mi rk (e.1 + e.2.2.1) lv st' s' Q) (hw : wCl D cs e st s K) : kX D d mi rk pc lv st s Q := by
  have plain : ∀ c0 h st' s' h', kR D c0 h s → okS st' → kR D c0 h' s' → (∀ cal, im_c mm_tb cal e (st.map svV) h = some (st'.map svV, h')) → K st' s' → wp_X d mi pc (sLV lv) (st.map svV) h (kE D c0 rk Q) := by
    intro c0 h st' s' h' hk ho' hk' hi hkk
    refine wp_s hat (fun cal => ?_) (hK st' s' ho' hkk c0 h' hk')
    unfold im_st
    rw [hg]
    (try dsimp only)
    rw [hi]
    rfl
  intro c0 h hk
  unfold wCl at hw
  split at hw
  · rename_i e0
    split at hw
    · rename_i q r
      obtain ⟨h8, hw⟩ := sB_ok hw
      have : ∃ a, svV q = .ref a ∧ K r s := by
        split at hw
        · rename_i e5
          exact ⟨_, sv5 e5, hw⟩
        · obtain ⟨h3, hw⟩ := sB_ok hw
          obtain ⟨h4, h5, hw⟩ := rq_ok (by decide) (okS_h ho) hw
          have h4 : 0 ≤ q.2.2 := h4
          exact ⟨_, sv3 h3 (by omega), hw⟩
      obtain ⟨a, ha, hw⟩ := this
      refine plain c0 h r s h hk (okS_t ho) hk (fun cal => ?_) hw
      unfold im_c
      rw [if_pos e0, List.map_cons, ha]
      unfold im_c0
      dsimp only
      rw [if_pos (sc8_ok h8)]
    · exact hw.elim
  · rename_i e0
    split at hw
    · rename_i n dp a sp a0 r
      obtain ⟨h8, hw⟩ := sB_ok hw
      simp only [Bool.and_eq_true] at h8
      obtain ⟨⟨⟨i1, i2⟩, i3⟩, h8⟩ := h8
      obtain ⟨r1, hw⟩ := rq_ok (by decide) (okS_h ho) hw
      obtain ⟨r2, hw⟩ := rq_ok (by decide) (okS_h (okS_t ho)) hw
      obtain ⟨r3, hw⟩ := rq_ok (by decide) (okS_h (okS_t (okS_t (okS_t ho)))) hw
      obtain ⟨t, n0, v0, c1, -, hw⟩ := sRow3_ok hk hw
      obtain ⟨n1, v1, c2, ht, p1, p2, p3, p4, p5, p6, hw⟩ := sRow_ok hk hw
      obtain ⟨-, -, l0, f, g1, g2, -⟩ := kR_cell hk c1
      obtain ⟨-, hne, l1, g, g3, g4, g5⟩ := kR_cell hk c2
      have r1' : -2147483648 ≤ n.2.2 ∧ n.2.2 < 2147483648 := r1
      have r2' : -2147483648 ≤ dp.2.2 ∧ dp.2.2 < 2147483648 := r2
      have r3' : -2147483648 ≤ sp.2.2 ∧ sp.2.2 < 2147483648 := r3
      refine plain c0 h r _ (im_wr h a.2.2.toNat (t, n1, im_cp f g sp.2.2.toNat dp.2.2.toNat n.2.2.toNat)) hk (okS_t (okS_t (okS_t (okS_t (okS_t ho))))) ?_ (fun cal => ?_) hw
      · obtain ⟨k1, k2, k3, k4, k5, k6, k7⟩ := hk
        refine ⟨k1, k2, (fun b hb hl => by rw [im_wr_ne _ _ (fun q => by have hb2 : s.1.1 b = none := hb; rw [q, c2] at hb2; cases hb2)]; exact k3 b hb hl), k4, ⟨k5.1, fun b t' n' hb => ?_⟩, k6, k7⟩
        obtain ⟨q1, f', q2, q3, q4⟩ := k5.2 b t' n' hb
        refine ⟨q1, ?_⟩
        by_cases e : b = a.2.2.toNat
        · subst e
          rw [c2] at hb
          cases hb
          rw [g3] at q2
          cases q2
          refine ⟨_, im_wr_eq _ _ _, fun j hj => ?_, fun j c hc => ?_⟩
          · show (if dp.2.2.toNat ≤ j ∧ j < dp.2.2.toNat + n.2.2.toNat then f (sp.2.2.toNat + (j - dp.2.2.toNat)) else g j) = hy_v (hy_k t j) (if a.2.2.toNat = a.2.2.toNat ∧ dp.2.2 ≤ (j : Int) ∧ (j : Int) < dp.2.2 + n.2.2 then s.2.2.2 a0.2.2.toNat (sp.2.2 + ((j : Int) - dp.2.2)) else s.2.2.2 a.2.2.toNat j) ∧ hy_r (hy_k t j) (if a.2.2.toNat = a.2.2.toNat ∧ dp.2.2 ≤ (j : Int) ∧ (j : Int) < dp.2.2 + n.2.2 then s.2.2.2 a0.2.2.toNat (sp.2.2 + ((j : Int) - dp.2.2)) else s.2.2.2 a.2.2.toNat j)
            by_cases e : dp.2.2.toNat ≤ j ∧ j < dp.2.2.toNat + n.2.2.toNat
            · rw [if_pos e, if_pos ⟨rfl, by omega, by omega⟩]
              have := g2 (sp.2.2.toNat + (j - dp.2.2.toNat)) (by omega)
              rw [show ((sp.2.2.toNat + (j - dp.2.2.toNat) : Nat) : Int) = sp.2.2 + ((j : Int) - dp.2.2) by omega] at this
              have hkk : ∀ i, hy_k t i = hy_k t j := by
                intro i
                rcases ht with rfl | rfl <;> rfl
              rw [hkk] at this
              exact this
            · rw [if_neg e, if_neg (fun q => e ⟨by omega, by omega⟩)]
              exact q3 j hj
          · have := k5.1 _ _ _ hc
            obtain ⟨t2, n2, z1, z2⟩ := this
            rw [c2] at z1
            cases z1
            rw [hy_f99 (by omega)] at z2
            cases z2
        · refine ⟨f', by rw [im_wr_ne _ _ e]; exact q2, fun j hj => ?_, q4⟩
          show f' j = hy_v (hy_k t' j) (if b = a.2.2.toNat ∧ _ then _ else s.2.2.2 b j) ∧ hy_r (hy_k t' j) (if b = a.2.2.toNat ∧ _ then _ else s.2.2.2 b j)
          rw [if_neg (fun q => e q.1)]
          exact q3 j hj
      · unfold im_c
        rw [if_neg (by omega), if_pos e0, List.map_cons, List.map_cons, List.map_cons, List.map_cons, List.map_cons, svV_i i1, svV_i i2, svV_i i3, v0, v1]
        unfold im_c8
        dsimp only
        rw [g1]
        dsimp only
        rw [g3]
        dsimp only
        have z0 : ∀ x : Int, -2147483648 ≤ x ∧ x < 2147483648 → 0 ≤ x → ¬ iI x < 0 := fun x hx h0 q => by
          have q : iI x < iI 0 := q
          rw [iI_lt hx (hy_c rfl)] at q
          omega
        have z1 : ∀ x : Int, -2147483648 ≤ x ∧ x < 2147483648 → 0 ≤ x → (iI x).toNatClampNeg = x.toNat := fun x hx h0 => Int32.toNatClampNeg_ofInt_of_le (by omega) (by omega)
        rw [z1 _ r1' p3, z1 _ r2' p2, z1 _ r3' p1, if_pos ⟨rfl, ht, z0 _ r3' p1, z0 _ r2' p2, z0 _ r1' p3, by omega, by omega, sc8_ok h8⟩]
    · exact hw.elim
  · rename_i e0
    split at hw
    · rename_i q r
      obtain ⟨h8, hw⟩ := sB_ok hw
      obtain ⟨n, v0, c1, ht, hw⟩ := sRow_ok hk hw
      obtain ⟨-, -, l0, f, g1, g2, -⟩ := kR_cell hk c1
      have h00 : s.2.1 ≠ 0 := by
        have := hk.2.2.2.1.2
        omega
      refine plain c0 h _ _ (im_mk h (e.2.2.2.2.1, n, f)) hk (okS_c (svR_t (k := 3) (by decide) (show (0 : Int) ≤ ((s.2.1 : Nat) : Int) by omega)) (okS_t ho)) (kR_n hk l0 (fun b hb => ?_) (fun k hk => ?_)).1 (fun cal => ?_) hw
      · funext j
        exact if_neg hb
      · show f k = hy_v _ (if s.2.1 = s.2.1 then s.2.2.2 q.2.2.toNat k else _) ∧ hy_r _ (if s.2.1 = s.2.1 then s.2.2.2 q.2.2.toNat k else _)
        rw [if_pos rfl]
        exact g2 k hk
      · unfold im_c
        rw [if_neg (by omega), if_neg (by omega), if_pos e0, List.map_cons, List.map_cons, v0, svN h00, ← hk.1]
        unfold im_c9
        dsimp only
        rw [g1]
        dsimp only
        rw [if_pos ⟨ht, rfl, sc8_ok h8⟩]
    · exact hw.elim
  · rename_i e0
    split at hw
    · rename_i y x r
      obtain ⟨h8, hw⟩ := sB_ok hw
      simp only [Bool.and_eq_true] at h8
      obtain ⟨⟨i1, i2⟩, h8⟩ := h8
      obtain ⟨r1, hw⟩ := rq_ok (by decide) (okS_h ho) hw
      obtain ⟨r2, hw⟩ := rq_ok (by decide) (okS_h (okS_t ho)) hw
      refine plain c0 h _ s h hk (okS_c (svR_t (by decide) ?_) (okS_t (okS_t ho))) hk (fun cal => ?_) hw
      · split
        · exact r1
        · exact r2
      · unfold im_c
        rw [if_neg (by omega), if_neg (by omega), if_neg (by omega), if_pos e0, List.map_cons, List.map_cons, List.map_cons, svV_i i1, svV_i i2]
        unfold im_c10
        dsimp only
        rw [if_pos (sc8_ok h8)]
        show some (Value.int (if iI y.2.2 < iI x.2.2 then iI y.2.2 else iI x.2.2) :: _, h) = some (Value.int (iI (if y.2.2 < x.2.2 then y.2.2 else x.2.2)) :: _, h)
        by_cases q : y.2.2 < x.2.2
        · rw [if_pos q, if_pos ((iI_lt r1 r2).mpr q)]
        · rw [if_neg q, if_neg (fun z => q ((iI_lt r1 r2).mp z))]
    · exact hw.elim
  · rename_i e0
    split at hw
    · rename_i y x r
      obtain ⟨h8, hw⟩ := sB_ok hw
      simp only [Bool.and_eq_true] at h8
      obtain ⟨⟨i1, i2⟩, h8⟩ := h8
      obtain ⟨r1, hw⟩ := rq_ok (by decide) (okS_h ho) hw
      obtain ⟨r2, hw⟩ := rq_ok (by decide) (okS_h (okS_t ho)) hw
      refine plain c0 h _ s h hk (okS_c (svR_t (by decide) ?_) (okS_t (okS_t ho))) hk (fun cal => ?_) hw
      · split
        · exact r1
        · exact r2
      · unfold im_c
        rw [if_neg (by omega), if_neg (by omega), if_neg (by omega), if_neg (by omega), if_pos e0, List.map_cons, List.map_cons, List.map_cons, svV_i i1, svV_i i2]
        unfold im_c11
        dsimp only
        rw [if_pos (sc8_ok h8)]
        show some (Value.int (if iI x.2.2 < iI y.2.2 then iI y.2.2 else iI x.2.2) :: _, h) = some (Value.int (iI (if x.2.2 < y.2.2 then y.2.2 else x.2.2)) :: _, h)
        by_cases q : x.2.2 < y.2.2
        · rw [if_pos q, if_pos ((iI_lt r2 r1).mpr q)]
        · rw [if_neg q, if_neg (fun z => q ((iI_lt r2 r1).mp z))]
    · exact hw.elim
  · rename_i e0
    split at hw
    · rename_i x r
      obtain ⟨h8, hw⟩ := sB_ok hw
      rw [Bool.and_eq_true] at h8
      obtain ⟨r1, hw0, hw⟩ := rq_ok (by decide) (okS_h ho) hw
      have r1' : -9223372036854775808 ≤ x.2.2 ∧ x.2.2 < 9223372036854775808 := r1
      refine plain c0 h _ s h hk (okS_c (svR_t (by decide) ?_) (okS_t ho)) hk (fun cal => ?_) hw
      · show -9223372036854775808 ≤ _ ∧ _ < 9223372036854775808
        split <;> omega
      · unfold im_c
        rw [if_neg (by omega), if_neg (by omega), if_neg (by omega), if_neg (by omega), if_neg (by omega), if_pos e0, List.map_cons, List.map_cons, svV_j h8.1]
        unfold im_c12
        dsimp only
        rw [if_pos (sc8_ok h8.2)]
        show some (Value.long (if 0 < jI x.2.2 then jI x.2.2 else -jI x.2.2) :: _, h) = some (Value.long (jI (if 0 < x.2.2 then x.2.2 else -x.2.2)) :: _, h)
        have z : (0 : Int64) < jI x.2.2 ↔ 0 < x.2.2 := by
          show jI 0 < jI x.2.2 ↔ _
          exact jI_lt (hy_cl rfl) r1
        by_cases q : 0 < x.2.2
        · rw [if_pos q, if_pos (z.mpr q)]
        · rw [if_neg q, if_neg (fun y => q (z.mp y)), ← Int64.ofInt_neg]
    · exact hw.elim
  · split at hw
    · rename_i k y hy
      split at hw
      · rename_i g hgg
        obtain ⟨hle, hw⟩ := sB_ok hw
        have hle := Nat.le_of_ble_eq_true hle
        obtain ⟨g1, g2⟩ := sC_ok hc hgg
        split at hw
        · rename_i h57
          rw [Bool.or_eq_true] at h57
          have h57 := h57.imp Nat.eq_of_beq_eq_true Nat.eq_of_beq_eq_true
          obtain ⟨h8, hw⟩ := sB_ok hw
          refine wp_vs hat hg h57 hy (sar_map hle) (sc8_ok h8) (kS_call g2 (okS_take _ ho) hw c0 h hk) rfl (fun h' v hP => ?_)
          obtain ⟨x, s', k1, k2, k3, k4⟩ := hP
          have k2 : v = hy_o g.1 x := k2
          subst k2
          obtain ⟨o1, o2⟩ := sres_ok (rest := st.drop e.2.2.2.2.2.1) g1 k3 (okS_drop _ ho)
          rw [← o2]
          exact hK _ _ o1 k4 c0 h' k1
        · obtain ⟨h57, hw⟩ := sB_ok hw
          simp only [Bool.or_eq_true, Nat.beq_eq] at h57
          split at hw
          · rename_i q rest hdr
            obtain ⟨h8, hw⟩ := sB_ok hw
            obtain ⟨v0, c1, -, hw⟩ := sObj_ok hk hw
            obtain ⟨-, -, l0, f, gg1, -, -⟩ := kR_cell hk c1
            have hor : okS (q :: rest) := by rw [← hdr]; exact okS_drop _ ho
            have har := sar_map hle
            rw [hdr, List.map_cons, v0] at har
            have hm := kS_call g2 (okS_c (okS_h hor) (okS_take _ ho)) hw c0 h hk
            rw [List.map_cons, v0] at hm
            refine wp_vi hat hg (by omega) hy har (sc8_ok h8) gg1 rfl hm rfl (fun h' v hP => ?_)
            obtain ⟨x, s', k1, k2, k3, k4⟩ := hP
            have k2 : v = hy_o g.1 x := k2
            subst k2
            obtain ⟨o1, o2⟩ := sres_ok (rest := rest) g1 k3 (okS_t hor)
            rw [← o2]
            exact hK _ _ o1 k4 c0 h' k1
          · exact hw.elim
      · exact hw.elim
    · exact hw.elim
end WCL
/-! returns, a step, a walk -/
def wR (rk : Nat) (ret : Option FieldType) (i : Instr) (st : List sv) (s : sS) (Q : sQ) : Prop := match i with
  | .return_ => match ret, st with
    | none, [] => sB (Nat.beq rk 9) (Q 0 s)
    | _, _ => False
  | .ireturn => match ret, st with
    | some .int, [q] => sB (sI q && Nat.beq rk 0) (rq 0 q (Q q.2.2 s))
    | some .boolean, [q] => sB (sI q && Nat.beq rk 2) (rq 2 q (Q q.2.2 s))
    | _, _ => False
  | .lreturn => match ret, st with
    | some .long, [q] => sB (sJ q && Nat.beq rk 1) (rq 1 q (Q q.2.2 s))
    | _, _ => False
  | .areturn => match ret, st with
    | some (.object _), [q] => sB (Nat.beq rk 3) (sput 3 q (Q q.2.2 s))
    | some (.array _), [q] => sB (Nat.beq rk 3) (sput 3 q (q.2.2 ≠ 0 ∧ Q q.2.2 s))
    | _, _ => False
  | _ => False
theorem wR_ok {c0 : Nat → Option im_C} {rk : Nat} {ret : Option FieldType} {i : Instr} {st : List sv} {s : sS} {h : im_H} {Q : sQ} (hk : kR D c0 h s) (ho : okS st) (hw : wR rk ret i st s Q) : ∃ v, im_r ret i (st.map svV) = some v ∧ kE D c0 rk Q (h, v) := by
  unfold wR at hw
  split at hw
  · split at hw
    · obtain ⟨h1, hw2⟩ := sB_ok hw
      have h1 := Nat.eq_of_beq_eq_true h1
      subst h1
      exact ⟨none, rfl, 0, s, hk, rfl, hy_r0 _, hw2⟩
    · exact hw.elim
  · split at hw
    · obtain ⟨h1, hw2⟩ := sB_ok hw
      rw [Bool.and_eq_true] at h1
      have h2 := Nat.eq_of_beq_eq_true h1.2
      subst h2
      obtain ⟨r1, hw⟩ := rq_ok (by decide) (okS_h ho) hw2
      refine ⟨_, ?_, _, s, hk, rfl, r1, hw⟩
      rw [List.map_cons, svV_i h1.1]
      rfl
    · obtain ⟨h1, hw2⟩ := sB_ok hw
      rw [Bool.and_eq_true] at h1
      have h2 := Nat.eq_of_beq_eq_true h1.2
      subst h2
      obtain ⟨r1, hw⟩ := rq_ok (by decide) (okS_h ho) hw2
      refine ⟨_, ?_, _, s, hk, rfl, r1, hw⟩
      rw [List.map_cons, svV_i h1.1]
      exact kr_b r1
    · exact hw.elim
  · split at hw
    · obtain ⟨h1, hw2⟩ := sB_ok hw
      rw [Bool.and_eq_true] at h1
      have h2 := Nat.eq_of_beq_eq_true h1.2
      subst h2
      obtain ⟨r1, hw⟩ := rq_ok (by decide) (okS_h ho) hw2
      refine ⟨_, ?_, _, s, hk, rfl, r1, hw⟩
      rw [List.map_cons, svV_j h1.1]
      rfl
    · exact hw.elim
  · split at hw
    · rename_i q
      obtain ⟨h1, hw2⟩ := sB_ok hw
      have h1 := Nat.eq_of_beq_eq_true h1
      subst h1
      obtain ⟨r1, r2, hw⟩ := sput_ok (by decide) (okS_h ho) hw2
      refine ⟨_, ?_, _, s, hk, rfl, r1, hw⟩
      rw [List.map_cons, r2]
      show im_r _ .areturn [if q.2.2 = 0 then .null else .ref q.2.2.toNat] = some (some (if q.2.2 = 0 then .null else .ref q.2.2.toNat))
      split <;> rfl
    · rename_i q
      obtain ⟨h1, hw2⟩ := sB_ok hw
      have h1 := Nat.eq_of_beq_eq_true h1
      subst h1
      obtain ⟨r1, r2, h0, hw⟩ := sput_ok (by decide) (okS_h ho) hw2
      refine ⟨_, ?_, _, s, hk, rfl, r1, hw⟩
      rw [List.map_cons, r2]
      show im_r _ .areturn [if q.2.2 = 0 then .null else .ref q.2.2.toNat] = some (some (if q.2.2 = 0 then .null else .ref q.2.2.toNat))
      rw [if_neg h0]
      rfl
    · exact hw.elim
  · exact hw.elim
/-- what is fixed in a walk: the method's callees, places where numbers wrap, the answer's kind, labels -/
def wy (D : Nat → Bool) (cs : List (Nat × Nat × sFS)) (wr : List Nat) (rk : Nat) (mi : im_M) (Q : sQ) (k : Nat → sL → List sv → sS → Prop) (pc : Nat) (lv : sL) (st : List sv) (s : sS) : Prop := match im_at mi.2.2.2.2.2 pc with
  | none => False
  | some e => match im_g e.2.1 with
    | 0 => match e.2.1 with
      | .lcmp => match im_at mi.2.2.2.2.2 (e.1 + e.2.2.1) with
        | none => False
        | some e2 => match e2.2.1, st with
          | .ifCond c o, y :: x :: r => sB (sJ y && sJ x) (rq 1 y (rq 1 x (scd c x.2.2 y.2.2 (sjp e2.1 o (fun t => k t lv r s)) (k (e2.1 + e2.2.2.1) lv r s))))
          | _, _ => False
      | _ => wP (wr.any (fun p => Nat.beq p pc)) e.2.1 st (fun st' => k (e.1 + e.2.2.1) lv st' s)
    | 1 => wLc (wr.any (fun p => Nat.beq p pc)) mi.2.2.1 e.2.1 lv st (fun lv' st' => k (e.1 + e.2.2.1) lv' st' s)
    | 2 => wB e.1 (e.1 + e.2.2.1) e.2.1 st (fun t st' => k t lv st' s)
    | 3 => wH D e st s (fun st' s' => k (e.1 + e.2.2.1) lv st' s')
    | 4 => wCl D cs e st s (fun st' s' => k (e.1 + e.2.2.1) lv st' s')
    | _ => wR rk mi.2.2.2.1 e.2.1 st s Q
def wx (D : Nat → Bool) (cs : List (Nat × Nat × sFS)) (wr : List Nat) (rk : Nat) (mi : im_M) (Q : sQ) (lb : Nat → Option (sL → sS → Prop)) : Nat → Nat → sL → List sv → sS → Prop
  | 0, _, _, _, _ => False
  | n + 1, pc, lv, st, s => match lb pc with
    | some B => match st with
      | [] => B lv s
      | _ => False
    | none => wy D cs wr rk mi Q (wx D cs wr rk mi Q lb n) pc lv st s
section WY
variable {d : Nat} {cs : List (Nat × Nat × sFS)} {wr : List Nat} {rk : Nat} {mi : im_M} {Q : sQ}
theorem kX_s {pc pc' : Nat} {lv lv' : sL} {st st' : List sv} {s : sS} {e : im_E} (hat : im_at mi.2.2.2.2.2 pc = some e) (hs : ∀ cal h, im_st mm_tb mx_kd mx_nf cal mi e (sLV lv) (st.map svV) h = some (.inl (pc', sLV lv', st'.map svV, h))) (K : kX D d mi rk pc' lv' st' s Q) : kX D d mi rk pc lv st s Q := fun c0 h hk => wp_s hat (fun cal => hs cal h) (K c0 h hk)
theorem wy_ok (hc : kCs D d cs) {k : Nat → sL → List sv → sS → Prop} (hK : ∀ pc lv st s, okL lv → okS st → k pc lv st s → kX D d mi rk pc lv st s Q) {pc : Nat} {lv : sL} {st : List sv} {s : sS} (hL : okL lv) (ho : okS st) (hw : wy D cs wr rk mi Q k pc lv st s) : kX D d mi rk pc lv st s Q := by
  unfold wy at hw
  split at hw
  · exact hw.elim
  · rename_i e hat
    split at hw
    · rename_i hg
      split at hw
      · rename_i hi
        split at hw
        · exact hw.elim
        · rename_i e2 hat2
          split at hw
          · rename_i c o y x r hi2
            obtain ⟨h1, hw⟩ := sB_ok hw
            rw [Bool.and_eq_true] at h1
            obtain ⟨r1, hw⟩ := rq_ok (by decide) (okS_h ho) hw
            obtain ⟨r2, hw⟩ := rq_ok (by decide) (okS_h (okS_t ho)) hw
            have h3 := scd_ok hw
            have hb := kl_cond (c := c) (x := x.2.2) (y := y.2.2) (o := o) (r := r.map svV)
            intro c0 h hk
            refine wp_s (pc' := e.1 + e.2.2.1) (lv' := sLV lv) (st' := .int (iI (jc x.2.2 y.2.2)) :: r.map svV) (h' := h) hat (fun cal => ?_) ?_
            · unfold im_st
              rw [hg]
              (try dsimp only)
              rw [hi, List.map_cons, List.map_cons, svV_j h1.1, svV_j h1.2, kp_lcmp r2 r1]
              rfl
            · have hg2 : im_g e2.2.1 = 2 := by rw [hi2]; rfl
              rcases hb.2.2 with h | h
              · obtain ⟨t, ht, hk2⟩ := sjp_ok (h3.1 h)
                refine wp_b (o := some o) hat2 hg2 (by rw [hi2]; exact hb.1 h) ht (hK _ _ _ _ hL (okS_t (okS_t ho)) hk2 c0 _ hk)
              · exact wp_b (o := none) hat2 hg2 (by rw [hi2]; exact hb.2.1 h) rfl (hK _ _ _ _ hL (okS_t (okS_t ho)) (h3.2 h) c0 _ hk)
          · exact hw.elim
      · obtain ⟨st', o1, h1, h2⟩ := wP_ok ho hw
        refine kX_s hat (fun cal h => ?_) (hK _ _ _ _ hL o1 h2)
        unfold im_st
        rw [hg]
        (try dsimp only)
        rw [h1]
        rfl
    · rename_i hg
      obtain ⟨lv', st', o1, o2, h1, h2⟩ := wLc_ok hL ho hw
      refine kX_s hat (fun cal h => ?_) (hK _ _ _ _ o1 o2 h2)
      unfold im_st
      rw [hg]
      (try dsimp only)
      rw [h1]
      rfl
    · rename_i hg
      obtain ⟨o, st', t, o1, h1, h2, h3⟩ := wB_ok ho hw
      intro c0 h hk
      cases o with
      | none => exact wp_b (o := none) hat hg h1 h2 (hK _ _ _ _ hL o1 h3 c0 h hk)
      | some f => exact wp_b (o := some f) hat hg h1 h2 (hK _ _ _ _ hL o1 h3 c0 h hk)
    · rename_i hg
      intro c0 h hk
      obtain ⟨st', s', h', o1, k1, h1, h2⟩ := wH_ok hk ho hw
      exact wp_h hat hg h1 rfl (hK _ _ _ _ hL o1 h2 c0 h' k1)
    · rename_i hg
      exact wCl_ok hat hg hc ho (fun st' s' o1 h1 => hK _ _ _ _ hL o1 h1) hw
    · rename_i h0 h1 h2 h3 h4
      intro c0 h hk
      obtain ⟨v, g1, g2⟩ := wR_ok hk ho hw
      refine wp_r (r := (h, v)) hat (fun cal => ?_) g2
      unfold im_st
      split
      · exact absurd ‹_› h0
      · exact absurd ‹_› h1
      · exact absurd ‹_› h2
      · exact absurd ‹_› h3
      · exact absurd ‹_› h4
      · rw [g1]
def kLb (D : Nat → Bool) (d : Nat) (mi : im_M) (rk : Nat) (Q : sQ) (lb : Nat → Option (sL → sS → Prop)) : Prop := ∀ p B, lb p = some B → ∀ lv s, okL lv → B lv s → kX D d mi rk p lv [] s Q
theorem wx_ok (hc : kCs D d cs) {lb : Nat → Option (sL → sS → Prop)} (hb : kLb D d mi rk Q lb) : ∀ (n pc : Nat) (lv : sL) (st : List sv) (s : sS), okL lv → okS st → wx D cs wr rk mi Q lb n pc lv st s → kX D d mi rk pc lv st s Q
  | 0, _, _, _, _, _, _, h => h.elim
  | n + 1, pc, lv, st, s, hL, ho, h => by
    unfold wx at h
    split at h
    · rename_i B hB
      split at h
      · exact hb _ _ hB _ _ hL h
      · exact h.elim
    · exact wy_ok hc (wx_ok hc hb n) hL ho h
/-- a block, from its label on -/
theorem wz_ok (n : Nat) (hc : kCs D d cs) {lb : Nat → Option (sL → sS → Prop)} (hb : kLb D d mi rk Q lb) {pc : Nat} {lv : sL} {s : sS} (hL : okL lv) (h : wy D cs wr rk mi Q (wx D cs wr rk mi Q lb n) pc lv [] s) : kX D d mi rk pc lv [] s Q := wy_ok hc (wx_ok hc hb n) hL (fun _ q => by cases q) h
end WY
/-- a block: whatever follows from its steps and its labels -/
theorem wz2_ok {d : Nat} {cs : List (Nat × Nat × sFS)} {wr : List Nat} {rk : Nat} {mi : im_M} {Q : sQ} (hc : kCs D d cs) {lb : Nat → Option (sL → sS → Prop)} (hb : kLb D d mi rk Q lb) {pc : Nat} {lv : sL} {s : sS} (hL : okL lv) (h : ∀ Y : Nat → sL → List sv → sS → Prop, (∀ pc lv st s, wy D cs wr rk mi Q Y pc lv st s → Y pc lv st s) → (∀ q B, lb q = some B → ∀ lv t, B lv t → Y q lv [] t) → Y pc lv [] s) : kX D d mi rk pc lv [] s Q := h (fun pc lv st s => okL lv → okS st → kX D d mi rk pc lv st s Q) (fun _ _ _ _ hw h1 h2 => wy_ok hc (fun _ _ _ _ h1 h2 hk => hk h1 h2) h1 h2 hw) (fun q B hB lv t ht h1 _ => hb q B hB lv t h1 ht) hL (fun _ q => by cases q)
/-! labels: a row of locals, each with its kind, or a known cell -/
def sG : List (Nat × Nat × Nat) → sL → (List Int → Prop) → Prop
  | [], _, B => B []
  | p :: ks, lv, B => match sg lv p.1 with
    | none => False
    | some q => match Nat.beq p.2.1 5 with
      | true => sB (Nat.beq q.1 5 && Nat.beq q.2.2.toNat p.2.2) (sG ks lv B)
      | false => sput p.2.1 q (sG ks lv (fun xs => B (q.2.2 :: xs)))
def sCan : List (Nat × Nat × Nat) → List Int → sL
  | [], _ => []
  | p :: ks, xs => match Nat.beq p.2.1 5 with
    | true => (p.1, (5, true, (p.2.2 : Nat))) :: sCan ks xs
    | false => match xs with
      | x :: xs => (p.1, (p.2.1, true, x)) :: sCan ks xs
      | [] => []
def sRg : List (Nat × Nat × Nat) → List Int → Prop
  | [], _ => True
  | p :: ks, xs => match Nat.beq p.2.1 5 with
    | true => sRg ks xs
    | false => match xs with
      | x :: xs => hy_r p.2.1 x ∧ sRg ks xs
      | [] => False
def sKs (ks : List (Nat × Nat × Nat)) : Bool := ks.all (fun p => (Nat.ble p.2.1 4 || (Nat.beq p.2.1 5 && Nat.blt 0 p.2.2)))
def lvS (l' l : im_L) : Prop := ∀ k v, im_lg l' k = some v → im_lg l k = some v
theorem sG_ok {lv : sL} (hL : okL lv) : ∀ (ks : List (Nat × Nat × Nat)) (B : List Int → Prop), sKs ks = true → sG ks lv B → ∃ xs, sRg ks xs ∧ B xs ∧ okL (sCan ks xs) ∧ lvS (sLV (sCan ks xs)) (sLV lv)
  | [], B, _, h => ⟨[], trivial, h, fun p hp => (by cases hp), fun k v hk => (by cases hk)⟩
  | p :: ks, B, hks, h => by
    unfold sKs at hks
    rw [List.all_cons, Bool.and_eq_true] at hks
    obtain ⟨hk1, hk2⟩ := hks
    unfold sG at h
    split at h
    · exact h.elim
    · rename_i q hq
      obtain ⟨g1, g2⟩ := sg_ok hq
      have hqr : svR q := hL _ g2
      split at h
      · rename_i e5
        obtain ⟨h1, h⟩ := sB_ok h
        rw [Bool.and_eq_true] at h1
        obtain ⟨xs, r1, r2, r3, r4⟩ := sG_ok hL ks B hk2 h
        refine ⟨xs, ?_, r2, ?_, ?_⟩
        · unfold sRg
          rw [e5]
          exact r1
        · unfold sCan
          rw [e5]
          intro p' hp'
          rcases List.mem_cons.mp hp' with rfl | hp'
          · show 0 < ((p.2.2 : Nat) : Int)
            obtain ⟨k, b, x⟩ := q
            have a1 : k = 5 := Nat.eq_of_beq_eq_true h1.1
            have a2 : x.toNat = p.2.2 := Nat.eq_of_beq_eq_true h1.2
            subst a1
            have hqr : 0 < x := hqr
            omega
          · exact r3 p' hp'
        · unfold sCan
          rw [e5]
          intro k v hkv
          have hkv : im_lg ((p.1, svV (5, true, ((p.2.2 : Nat) : Int))) :: sLV (sCan ks xs)) k = some v := hkv
          have hkv : (match Nat.beq p.1 k with
            | true => some (svV (5, true, ((p.2.2 : Nat) : Int)))
            | false => im_lg (sLV (sCan ks xs)) k) = some v := hkv
          cases e : Nat.beq p.1 k with
          | true =>
            rw [e] at hkv
            have e := Nat.eq_of_beq_eq_true e
            subst e
            rw [g1, sv5 h1.1, Nat.eq_of_beq_eq_true h1.2]
            exact hkv
          | false =>
            rw [e] at hkv
            exact r4 k v hkv
      · rename_i e5
        have hk4 : p.2.1 < 5 := by
          rw [Bool.or_eq_true, Bool.and_eq_true] at hk1
          rcases hk1 with hk1 | hk1
          · have := Nat.le_of_ble_eq_true hk1
            omega
          · rw [e5] at hk1
            cases hk1.1
        obtain ⟨h1, h2, h⟩ := sput_ok hk4 hqr h
        obtain ⟨xs, r1, r2, r3, r4⟩ := sG_ok hL ks _ hk2 h
        have hv : svV (p.2.1, true, q.2.2) = hy_v p.2.1 q.2.2 := by
          unfold svV
          dsimp only
          split
          · omega
          · rfl
        refine ⟨q.2.2 :: xs, ?_, r2, ?_, ?_⟩
        · unfold sRg
          rw [e5]
          exact ⟨h1, r1⟩
        · unfold sCan
          rw [e5]
          intro p' hp'
          rcases List.mem_cons.mp hp' with rfl | hp'
          · exact svR_t (by omega) h1
          · exact r3 p' hp'
        · unfold sCan
          rw [e5]
          intro k v hkv
          have hkv : im_lg ((p.1, svV (p.2.1, true, q.2.2)) :: sLV (sCan ks xs)) k = some v := hkv
          have hkv : (match Nat.beq p.1 k with
            | true => some (svV (p.2.1, true, q.2.2))
            | false => im_lg (sLV (sCan ks xs)) k) = some v := hkv
          cases e : Nat.beq p.1 k with
          | true =>
            rw [e] at hkv
            have e := Nat.eq_of_beq_eq_true e
            subst e
            rw [g1, h2, ← hv]
            exact hkv
          | false =>
            rw [e] at hkv
            exact r4 k v hkv
/-! fewer locals, the same run -/
def lnd (l : im_L) : Prop := (l.map (fun q => q.1)).Nodup
theorem lg_mem {l : im_L} {k : Nat} {v : Value} (h : im_lg l k = some v) : (k, v) ∈ l := by
  induction l with
  | nil => cases h
  | cons q r ih =>
    unfold im_lg at h
    split at h
    · rename_i e
      have e := Nat.eq_of_beq_eq_true e
      cases h
      rw [← e]
      exact List.mem_cons_self ..
    · exact List.mem_cons_of_mem _ (ih h)
theorem lg_keep {l : im_L} {p : Nat × Value → Bool} {k : Nat} {v : Value} (h : im_lg l k = some v) (hp : p (k, v) = true) : im_lg (l.filter p) k = some v := by
  induction l with
  | nil => cases h
  | cons q r ih =>
    unfold im_lg at h
    split at h
    · rename_i e
      have e2 := Nat.eq_of_beq_eq_true e
      cases h
      have hq : p q = true := by
        rw [← hp, ← e2]
      rw [List.filter_cons_of_pos hq]
      unfold im_lg
      rw [e]
    · rename_i e
      have := ih h
      by_cases hq : p q = true
      · rw [List.filter_cons_of_pos hq]
        unfold im_lg
        rw [e]
        exact this
      · rw [List.filter_cons_of_neg hq]
        exact this
theorem lg_in {l : im_L} (hn : lnd l) {k : Nat} {v : Value} (h : (k, v) ∈ l) : im_lg l k = some v := by
  induction l with
  | nil => cases h
  | cons q r ih =>
    unfold lnd at hn
    rw [List.map_cons, List.nodup_cons] at hn
    unfold im_lg
    rcases List.mem_cons.mp h with e | e
    · rw [← e]
      dsimp only
      rw [Nat.beq_refl]
    · have : q.1 ≠ k := fun q' => hn.1 (by rw [q']; exact List.mem_map_of_mem (f := fun q : Nat × Value => q.1) e)
      have hb : Nat.beq q.1 k = false := by
        cases e2 : Nat.beq q.1 k with
        | false => rfl
        | true => exact absurd (Nat.eq_of_beq_eq_true e2) this
      rw [hb]
      exact ih hn.2 e
theorem lnd_f {l : im_L} (p : Nat × Value → Bool) (hn : lnd l) : lnd (l.filter p) := List.Nodup.sublist (List.Sublist.map _ List.filter_sublist) hn
theorem lnd_s {l : im_L} {k : Nat} {v : Value} {p : Nat × Value → Bool} (hn : lnd l) (hp : ∀ q, p q = true → q.1 ≠ k) : lnd ((k, v) :: l.filter p) := by
  unfold lnd
  rw [List.map_cons, List.nodup_cons]
  refine ⟨fun hm => ?_, lnd_f p hn⟩
  obtain ⟨q, hq, e⟩ := List.mem_map.mp hm
  exact hp q (List.mem_filter.mp hq).2 e
theorem lvS_s {l' l : im_L} {k : Nat} {v : Value} {p : Nat × Value → Bool} (hn : lnd l') (hs : lvS l' l) : lvS ((k, v) :: l'.filter p) ((k, v) :: l.filter p) := by
  intro j w hw
  unfold im_lg at hw ⊢
  split at hw
  · exact hw
  · have hm := lg_mem hw
    rw [List.mem_filter] at hm
    exact lg_keep (hs _ _ (lg_in hn hm.1)) hm.2
theorem lvS_1 {l' l : im_L} {k : Nat} {v : Value} (hn : lnd l') (hs : lvS l' l) : lvS (im_s1 l' k v) (im_s1 l k v) ∧ lnd (im_s1 l' k v) := by
  refine ⟨lvS_s hn hs, lnd_s hn (fun q hq => ?_)⟩
  rw [Bool.and_eq_true] at hq
  intro e
  rw [e] at hq
  simp only [beq_self_eq_true, Bool.not_true] at hq
  exact absurd hq.1 (by decide)
theorem lvS_2 {l' l : im_L} {k : Nat} {v : Value} (hn : lnd l') (hs : lvS l' l) : lvS (im_s2 l' k v) (im_s2 l k v) ∧ lnd (im_s2 l' k v) := by
  refine ⟨lvS_s hn hs, lnd_s hn (fun q hq => ?_)⟩
  rw [Bool.and_eq_true] at hq
  intro e
  rw [e] at hq
  simp only [beq_self_eq_true, Bool.not_true] at hq
  exact absurd hq.1 (by decide)
theorem im_l_S {nL : Nat} {i : Instr} {l' l l1' : im_L} {st st1 : List Value} (hn : lnd l') (hs : lvS l' l) (h : im_l nL i l' st = some (l1', st1)) : ∃ l1, im_l nL i l st = some (l1, st1) ∧ lvS l1' l1 ∧ lnd l1' := by
  have ldi : ∀ k, (match im_lg l' k with
      | some (.int x) => some (l', Value.int x :: st)
      | _ => none) = some (l1', st1) → ∃ l1, (match im_lg l k with
      | some (.int x) => some (l, Value.int x :: st)
      | _ => none) = some (l1, st1) ∧ lvS l1' l1 ∧ lnd l1' := by
    intro k h
    split at h
    · rename_i x e
      cases h
      rw [hs _ _ e]
      exact ⟨l, rfl, hs, hn⟩
    · cases h
  have ldl : ∀ k, (match im_lg l' k with
      | some (.long x) => some (l', Value.long x :: st)
      | _ => none) = some (l1', st1) → ∃ l1, (match im_lg l k with
      | some (.long x) => some (l, Value.long x :: st)
      | _ => none) = some (l1, st1) ∧ lvS l1' l1 ∧ lnd l1' := by
    intro k h
    split at h
    · rename_i x e
      cases h
      rw [hs _ _ e]
      exact ⟨l, rfl, hs, hn⟩
    · cases h
  have lda : ∀ k, (match im_lg l' k with
      | some (.ref x) => some (l', Value.ref x :: st)
      | some .null => some (l', Value.null :: st)
      | _ => none) = some (l1', st1) → ∃ l1, (match im_lg l k with
      | some (.ref x) => some (l, Value.ref x :: st)
      | some .null => some (l, Value.null :: st)
      | _ => none) = some (l1, st1) ∧ lvS l1' l1 ∧ lnd l1' := by
    intro k h
    split at h
    · rename_i x e
      cases h
      rw [hs _ _ e]
      exact ⟨l, rfl, hs, hn⟩
    · rename_i e
      cases h
      rw [hs _ _ e]
      exact ⟨l, rfl, hs, hn⟩
    · cases h
  have s1 : ∀ (c : Prop) [Decidable c] k v r, (if c then some (im_s1 l' k v, r) else none) = some (l1', st1) → ∃ l1, (if c then some (im_s1 l k v, r) else none) = some (l1, st1) ∧ lvS l1' l1 ∧ lnd l1' := by
    intro c _ k v r h
    split at h
    · rename_i hc
      cases h
      rw [if_pos hc]
      exact ⟨_, rfl, lvS_1 hn hs⟩
    · cases h
  have s2 : ∀ (c : Prop) [Decidable c] k v r, (if c then some (im_s2 l' k v, r) else none) = some (l1', st1) → ∃ l1, (if c then some (im_s2 l k v, r) else none) = some (l1, st1) ∧ lvS l1' l1 ∧ lnd l1' := by
    intro c _ k v r h
    split at h
    · rename_i hc
      cases h
      rw [if_pos hc]
      exact ⟨_, rfl, lvS_2 hn hs⟩
    · cases h
  cases i <;> first
    | (exact ldi _ h)
    | (exact ldl _ h)
    | (exact lda _ h)
    | skip
  all_goals try (exact absurd h (by intro q; cases q))
  all_goals try (dsimp only [im_l] at h ⊢; split at h)
  all_goals try (exact absurd h (by intro q; cases q))
  all_goals first
    | (exact s1 _ _ _ _ h)
    | (exact s2 _ _ _ _ h)
    | skip
  all_goals
    rename_i e
    rw [hs _ _ e]
    exact s1 _ _ _ _ h
theorem im_ex_S {tb : List im_M} {kd : Nat → Nat → Nat} {nf : Nat → Nat} {cal : Nat → List Value → im_H → Option im_R} {mi : im_M} : ∀ (n pc : Nat) (l' l : im_L) (st : List Value) (h : im_H) (r : im_R), lnd l' → lvS l' l → im_ex tb kd nf cal mi n pc l' st h = some r → im_ex tb kd nf cal mi n pc l st h = some r
  | 0, _, _, _, _, _, _, _, _, h => by cases h
  | n + 1, pc, l', l, st, h, r, hn, hs, he => by
    unfold im_ex at he ⊢
    split at he
    · cases he
    · rename_i e hat
      try dsimp only
      have key : ∀ q, im_st tb kd nf cal mi e l' st h = some q → (∀ s, q = .inl s → ∃ l2, im_st tb kd nf cal mi e l st h = some (.inl (s.1, l2, s.2.2.1, s.2.2.2)) ∧ lvS s.2.1 l2 ∧ lnd s.2.1) ∧ (∀ s, q = .inr s → im_st tb kd nf cal mi e l st h = some (.inr s)) := by
        intro q hq
        unfold im_st at hq ⊢
        split at hq
        · split at hq
          · cases hq
            exact ⟨fun s hs' => (by cases hs'; exact ⟨l, rfl, hs, hn⟩), fun s hs' => (by cases hs')⟩
          · cases hq
        · split at hq
          · rename_i l1 st1 e1
            cases hq
            obtain ⟨l2, g1, g2, g3⟩ := im_l_S hn hs e1
            rw [g1]
            exact ⟨fun s hs' => (by cases hs'; exact ⟨l2, rfl, g2, g3⟩), fun s hs' => (by cases hs')⟩
          · cases hq
        · split at hq
          · cases hq
            exact ⟨fun s hs' => (by cases hs'; exact ⟨l, rfl, hs, hn⟩), fun s hs' => (by cases hs')⟩
          · split at hq
            · cases hq
              exact ⟨fun s hs' => (by cases hs'; exact ⟨l, rfl, hs, hn⟩), fun s hs' => (by cases hs')⟩
            · cases hq
          · cases hq
        · split at hq
          · cases hq
            exact ⟨fun s hs' => (by cases hs'; exact ⟨l, rfl, hs, hn⟩), fun s hs' => (by cases hs')⟩
          · cases hq
        · split at hq
          · cases hq
            exact ⟨fun s hs' => (by cases hs'; exact ⟨l, rfl, hs, hn⟩), fun s hs' => (by cases hs')⟩
          · cases hq
        · split at hq
          · cases hq
            exact ⟨fun s hs' => (by cases hs'), fun s hs' => (by cases hs'; rfl)⟩
          · cases hq
      split at he
      · cases he
      · rename_i q hq
        obtain ⟨l2, g1, g2, g3⟩ := (key _ hq).1 _ rfl
        rw [g1]
        exact im_ex_S n _ _ _ _ _ _ g3 g2 he
      · rename_i q hq
        rw [(key _ hq).2 _ rfl]
        exact he
theorem kX_S {d rk pc : Nat} {mi : im_M} {l' l : sL} {s : sS} {Q : sQ} (hn : lnd (sLV l')) (hs : lvS (sLV l') (sLV l)) (h : kX D d mi rk pc l' [] s Q) : kX D d mi rk pc l [] s Q := by
  intro c0 h' hk
  obtain ⟨F, n, r, h1, h2⟩ := h c0 h' hk
  exact ⟨F, n, r, im_ex_S n pc _ _ _ _ _ hn hs h1, h2⟩
def sNd (ks : List (Nat × Nat × Nat)) : Bool := decide ((ks.map (fun p => p.1)).Nodup)
theorem sCan_sub : ∀ (ks : List (Nat × Nat × Nat)) (xs : List Int), List.Sublist ((sLV (sCan ks xs)).map (fun q => q.1)) (ks.map (fun p => p.1))
  | [], _ => List.Sublist.slnil
  | p :: ks, xs => by
    unfold sCan
    split
    · exact List.Sublist.cons₂ _ (sCan_sub ks xs)
    · split
      · exact List.Sublist.cons₂ _ (sCan_sub ks _)
      · exact List.nil_sublist _
theorem kLab {d rk pc : Nat} {mi : im_M} {Q : sQ} {ks : List (Nat × Nat × Nat)} {Bd : List Int → sS → Prop} (hk : (sKs ks && sNd ks) = true) (hb : ∀ xs s, sRg ks xs → okL (sCan ks xs) → Bd xs s → kX D d mi rk pc (sCan ks xs) [] s Q) : ∀ lv s, okL lv → sG ks lv (fun xs => Bd xs s) → kX D d mi rk pc lv [] s Q := by
  intro lv s hL hg
  rw [Bool.and_eq_true] at hk
  obtain ⟨xs, h1, h2, h3, h4⟩ := sG_ok hL ks _ hk.1 hg
  exact kX_S (List.Nodup.sublist (sCan_sub ks xs) (of_decide_eq_true hk.2)) h4 (hb xs s h1 h3 h2)
def sLb : List (Nat × (sL → sS → Prop)) → Nat → Option (sL → sS → Prop)
  | [], _ => none
  | p :: r, i => match Nat.beq p.1 i with
    | true => some p.2
    | false => sLb r i
theorem kLb_c {d rk p : Nat} {mi : im_M} {Q : sQ} {B : sL → sS → Prop} {r : List (Nat × (sL → sS → Prop))} (h : ∀ lv s, okL lv → B lv s → kX D d mi rk p lv [] s Q) (hr : kLb D d mi rk Q (sLb r)) : kLb D d mi rk Q (sLb ((p, B) :: r)) := by
  intro q B' hq lv s hL hB
  unfold sLb at hq
  dsimp only at hq
  split at hq
  · rename_i e
    have e := Nat.eq_of_beq_eq_true e
    subst e
    cases hq
    exact h lv s hL hB
  · exact hr q B' hq lv s hL hB
theorem kLb_n {d rk : Nat} {mi : im_M} {Q : sQ} : kLb D d mi rk Q (sLb []) := fun _ _ hq => by cases hq
theorem rq_imp {k : Nat} {q : sv} {P P' : Prop} (h : P → P') (hr : rq k q P) : rq k q P' := by
  unfold rq at hr ⊢
  split at hr
  · exact h hr
  · exact ⟨hr.1, h hr.2⟩
theorem sB_imp {b : Bool} {P P' : Prop} (h : P → P') (hr : sB b P) : sB b P' := by
  cases b with
  | true => exact h hr
  | false => exact hr
theorem sput_imp {k : Nat} {q : sv} {P P' : Prop} (h : P → P') (hr : sput k q P) : sput k q P' := by
  unfold sput at hr ⊢
  split at hr
  · split at hr
    · exact h hr
    · exact sB_imp (rq_imp h) hr
  · split at hr
    · exact sB_imp (rq_imp h) hr
    · exact sB_imp (rq_imp h) hr
theorem sG_imp : ∀ (ks : List (Nat × Nat × Nat)) (lv : sL) {B B' : List Int → Prop} (_ : List Int → True), (∀ xs, B xs → B' xs) → sG ks lv B → sG ks lv B'
  | [], lv, B, B', _, h, hg => h _ hg
  | p :: ks, lv, B, B', t, h, hg => by
    unfold sG at hg ⊢
    split at hg
    · exact hg
    · split at hg
      · exact sB_imp (sG_imp ks lv t h) hg
      · exact sput_imp (sG_imp ks lv t (fun xs hx => h _ hx)) hg
/-! methods -/
def sAr : Nat → List sv → sL
  | _, [] => []
  | i, q :: r => (i, q) :: sAr (i + sct q) r
def sSl : List sv → Nat
  | [] => 0
  | q :: r => sct q + sSl r
theorem sAr_ok : ∀ (as : List sv) (i : Nat), lv_args i (as.map svV) = sLV (sAr i as)
  | [], i => rfl
  | q :: r, i => by
    show (i, svV q) :: lv_args (if (svV q).category = 2 then i + 2 else i + 1) (r.map svV) = (i, svV q) :: sLV (sAr (i + sct q) r)
    rw [← sAr_ok r, sct_ok]
    have : (if sct q = 2 then i + 2 else i + 1) = i + sct q := by
      unfold sct
      cases sJ q <;> rfl
    rw [this]
theorem sSl_ok : ∀ (as : List sv), (lg_sl (as.map svV)).length = sSl as
  | [] => rfl
  | q :: r => by
    have h := sSl_ok r
    unfold lg_sl at h ⊢
    rw [List.map_cons, List.flatMap_cons, List.length_append, h]
    show _ = sct q + sSl r
    rw [sct_ok]
    unfold sct
    cases sJ q <;> rfl
theorem okL_ar : ∀ (as : List sv) (i : Nat), okS as → okL (sAr i as)
  | [], i, _ => fun p hp => (by cases hp)
  | q :: r, i, h => by
    intro p hp
    rcases List.mem_cons.mp hp with rfl | hp
    · exact okS_h h
    · exact okL_ar r _ (okS_t h) p hp
/-- a method's transformer: its arguments, then its body -/
def sE (nL : Nat) (ks : List (Nat × Nat × Nat)) (Bd : List Int → sS → sQ → Prop) : sF := fun as s Q => sB (Nat.ble (sSl as) nL) (sG ks (sAr 0 as) (fun xs => Bd xs s Q))
def sEf (nL : Nat) (ks : List (Nat × Nat × Nat)) (Bd : List Int → sS → (Int → hy_m → Prop) → Prop) : sFf := fun as s Q => sB (Nat.ble (sSl as) nL) (sG ks (sAr 0 as) (fun xs => Bd xs s Q))
theorem sE_1 {d N rk : Nat} {mi : im_M} {ks : List (Nat × Nat × Nat)} {Bd : List Int → sS → Prop} {as : List sv} {s : sS} {Q : sQ} (hm : mm_tb[N]? = some mi) (hk : (sKs ks && sNd ks) = true) (hb : ∀ xs s, sRg ks xs → Bd xs s → kX D d mi rk 0 (sCan ks xs) [] s Q) (ho : okS as) (hf : sB (Nat.ble (sSl as) mi.2.2.1) (sG ks (sAr 0 as) (fun xs => Bd xs s))) : kM D (d + 1) N rk as s Q := by
  intro c0 h hkr
  obtain ⟨h1, h2⟩ := sB_ok hf
  refine wp_of hm (by rw [sSl_ok]; exact Nat.le_of_ble_eq_true h1) ?_
  rw [sAr_ok]
  exact kLab (Bd := Bd) hk (fun xs s r1 r2 r3 => hb xs s r1 r3) _ s (okL_ar as 0 ho) h2 c0 h hkr
theorem sE_ok {d N rk nL : Nat} {mi : im_M} {ks : List (Nat × Nat × Nat)} {Bd : List Int → sS → sQ → Prop} (hm : mm_tb[N]? = some mi) (hn : mi.2.2.1 = nL) (hk : (sKs ks && sNd ks) = true) (hb : ∀ Q xs s, sRg ks xs → Bd xs s Q → kX D d mi rk 0 (sCan ks xs) [] s Q) : kS D (d + 1) N rk (.inr (sE nL ks Bd)) := by
  intro as s Q ho hf
  subst hn
  exact sE_1 (Bd := fun xs s => Bd xs s Q) hm hk (fun xs s r1 r3 => hb Q xs s r1 r3) ho hf
theorem sEf_ok {d N rk nL : Nat} {mi : im_M} {ks : List (Nat × Nat × Nat)} {Bd : List Int → sS → (Int → hy_m → Prop) → Prop} (hm : mm_tb[N]? = some mi) (hn : mi.2.2.1 = nL) (hk : (sKs ks && sNd ks) = true) (hb : ∀ R xs s, sRg ks xs → Bd xs s R → kX D d mi rk 0 (sCan ks xs) [] s (fun x s' => ∃ m', s' = sM s m' ∧ R x m')) : kS D (d + 1) N rk (.inl (sEf nL ks Bd)) := by
  intro as s R ho hf
  subst hn
  refine sE_1 (Bd := fun xs s0 => s0 = s ∧ Bd xs s0 R) hm hk (fun xs s0 r1 r3 => ?_) ho ?_
  · obtain ⟨rfl, r3⟩ := r3
    exact hb R xs s0 r1 r3
  · obtain ⟨h1, h2⟩ := sB_ok hf
    unfold sB
    rw [h1]
    exact sG_imp _ _ (fun _ => trivial) (fun xs hx => ⟨rfl, hx⟩) h2
/-! the state with another memory; rows of numbers; loops with so many numbers -/
theorem kCs_n {d : Nat} : kCs D d [] := fun p hp => by cases hp
theorem kCs_c {d N rk : Nat} {f : sFS} {r : List (Nat × Nat × sFS)} (h1 : rk = 0 ∨ rk = 1 ∨ rk = 2 ∨ rk = 3 ∨ rk = 9) (h2 : kS D d N rk f) (h : kCs D d r) : kCs D d ((N, rk, f) :: r) := by
  intro p hp
  rcases List.mem_cons.mp hp with rfl | hp
  · exact ⟨h1, h2⟩
  · exact h p hp
theorem okL_can : ∀ {ks : List (Nat × Nat × Nat)} {xs : List Int}, sKs ks = true → sRg ks xs → okL (sCan ks xs)
  | [], xs, _, _ => fun p hp => by cases hp
  | p :: ks, xs, hk, hr => by
    unfold sKs at hk
    rw [List.all_cons, Bool.and_eq_true] at hk
    obtain ⟨hk1, hk2⟩ := hk
    unfold sRg at hr
    unfold sCan
    split at hr
    · rename_i e5
      intro q hq
      rcases List.mem_cons.mp hq with rfl | hq
      · show 0 < ((p.2.2 : Nat) : Int)
        rw [Bool.or_eq_true, Bool.and_eq_true] at hk1
        rcases hk1 with h | h
        · have h := Nat.le_of_ble_eq_true h
          have := Nat.eq_of_beq_eq_true e5
          omega
        · have : 0 < p.2.2 := Nat.lt_of_lt_of_le (Nat.lt_succ_self _) (Nat.le_of_ble_eq_true h.2)
          omega
      · exact okL_can hk2 hr q hq
    · rename_i e5
      split at hr
      · intro q hq
        rcases List.mem_cons.mp hq with rfl | hq
        · exact svR_t (fun q => by rw [q] at e5; cases e5) hr.1
        · exact okL_can hk2 hr.2 q hq
      · exact hr.elim
def ap0 (f : Prop) (xs : List Int) : Prop := match xs with
  | [] => f 
  | _ => False
theorem ap0_ok {f : Prop} {xs : List Int} (h : ap0 f xs) : xs = [] ∧ f := by
  unfold ap0 at h
  split at h
  · exact ⟨rfl, h⟩
  · exact h.elim
def ap1 (f : Int → Prop) (xs : List Int) : Prop := match xs with
  | [x0] => f x0
  | _ => False
theorem ap1_ok {f : Int → Prop} {xs : List Int} (h : ap1 f xs) : ∃ x0, xs = [x0] ∧ f x0 := by
  unfold ap1 at h
  split at h
  · exact ⟨_, rfl, h⟩
  · exact h.elim
def ap2 (f : Int → Int → Prop) (xs : List Int) : Prop := match xs with
  | [x0, x1] => f x0 x1
  | _ => False
theorem ap2_ok {f : Int → Int → Prop} {xs : List Int} (h : ap2 f xs) : ∃ x0 x1, xs = [x0, x1] ∧ f x0 x1 := by
  unfold ap2 at h
  split at h
  · exact ⟨_, _, rfl, h⟩
  · exact h.elim
def ap3 (f : Int → Int → Int → Prop) (xs : List Int) : Prop := match xs with
  | [x0, x1, x2] => f x0 x1 x2
  | _ => False
theorem ap3_ok {f : Int → Int → Int → Prop} {xs : List Int} (h : ap3 f xs) : ∃ x0 x1 x2, xs = [x0, x1, x2] ∧ f x0 x1 x2 := by
  unfold ap3 at h
  split at h
  · exact ⟨_, _, _, rfl, h⟩
  · exact h.elim
def ap4 (f : Int → Int → Int → Int → Prop) (xs : List Int) : Prop := match xs with
  | [x0, x1, x2, x3] => f x0 x1 x2 x3
  | _ => False
theorem ap4_ok {f : Int → Int → Int → Int → Prop} {xs : List Int} (h : ap4 f xs) : ∃ x0 x1 x2 x3, xs = [x0, x1, x2, x3] ∧ f x0 x1 x2 x3 := by
  unfold ap4 at h
  split at h
  · exact ⟨_, _, _, _, rfl, h⟩
  · exact h.elim
def ap5 (f : Int → Int → Int → Int → Int → Prop) (xs : List Int) : Prop := match xs with
  | [x0, x1, x2, x3, x4] => f x0 x1 x2 x3 x4
  | _ => False
theorem ap5_ok {f : Int → Int → Int → Int → Int → Prop} {xs : List Int} (h : ap5 f xs) : ∃ x0 x1 x2 x3 x4, xs = [x0, x1, x2, x3, x4] ∧ f x0 x1 x2 x3 x4 := by
  unfold ap5 at h
  split at h
  · exact ⟨_, _, _, _, _, rfl, h⟩
  · exact h.elim
def ap6 (f : Int → Int → Int → Int → Int → Int → Prop) (xs : List Int) : Prop := match xs with
  | [x0, x1, x2, x3, x4, x5] => f x0 x1 x2 x3 x4 x5
  | _ => False
theorem ap6_ok {f : Int → Int → Int → Int → Int → Int → Prop} {xs : List Int} (h : ap6 f xs) : ∃ x0 x1 x2 x3 x4 x5, xs = [x0, x1, x2, x3, x4, x5] ∧ f x0 x1 x2 x3 x4 x5 := by
  unfold ap6 at h
  split at h
  · exact ⟨_, _, _, _, _, _, rfl, h⟩
  · exact h.elim
def ap7 (f : Int → Int → Int → Int → Int → Int → Int → Prop) (xs : List Int) : Prop := match xs with
  | [x0, x1, x2, x3, x4, x5, x6] => f x0 x1 x2 x3 x4 x5 x6
  | _ => False
theorem ap7_ok {f : Int → Int → Int → Int → Int → Int → Int → Prop} {xs : List Int} (h : ap7 f xs) : ∃ x0 x1 x2 x3 x4 x5 x6, xs = [x0, x1, x2, x3, x4, x5, x6] ∧ f x0 x1 x2 x3 x4 x5 x6 := by
  unfold ap7 at h
  split at h
  · exact ⟨_, _, _, _, _, _, _, rfl, h⟩
  · exact h.elim
def ap8 (f : Int → Int → Int → Int → Int → Int → Int → Int → Prop) (xs : List Int) : Prop := match xs with
  | [x0, x1, x2, x3, x4, x5, x6, x7] => f x0 x1 x2 x3 x4 x5 x6 x7
  | _ => False
theorem ap8_ok {f : Int → Int → Int → Int → Int → Int → Int → Int → Prop} {xs : List Int} (h : ap8 f xs) : ∃ x0 x1 x2 x3 x4 x5 x6 x7, xs = [x0, x1, x2, x3, x4, x5, x6, x7] ∧ f x0 x1 x2 x3 x4 x5 x6 x7 := by
  unfold ap8 at h
  split at h
  · exact ⟨_, _, _, _, _, _, _, _, rfl, h⟩
  · exact h.elim
def wL0 (σ : Type) (F : (σ → Prop) → σ → Prop) (s : σ) : Prop := ∀ P : σ → Prop, (∀ s, F P  s → P  s) → P  s
theorem wL0_rule {σ β : Type} {F : (σ → Prop) → σ → Prop} {r : β → β → Prop} (hr : WellFounded r) (Iv : σ → Prop) (μ : σ → β) (hs : ∀ P  s, Iv  s → (∀  t, Iv  t → r (μ  t) (μ  s) → P  t) → F P  s) {s : σ} (h : Iv  s) : wL0 σ F  s := by
  intro P hP
  have : ∀ y  s, μ  s = y → Iv  s → P  s := by
    intro y
    induction y using hr.induction with
    | _ y ih =>
      intro  s ha hi
      refine hP  s (hs P  s hi (fun  t hb hrb => ?_))
      rw [ha] at hrb
      exact ih _ hrb  t rfl hb
  exact this _  s rfl h
def wL1 (σ : Type) (F : (Int → σ → Prop) → Int → σ → Prop) (x0 : Int) (s : σ) : Prop := ∀ P : Int → σ → Prop, (∀ x0 s, F P x0 s → P x0 s) → P x0 s
theorem wL1_rule {σ β : Type} {F : (Int → σ → Prop) → Int → σ → Prop} {r : β → β → Prop} (hr : WellFounded r) (Iv : Int → σ → Prop) (μ : Int → σ → β) (hs : ∀ P x0 s, Iv x0 s → (∀ y0 t, Iv y0 t → r (μ y0 t) (μ x0 s) → P y0 t) → F P x0 s) {x0 : Int} {s : σ} (h : Iv x0 s) : wL1 σ F x0 s := by
  intro P hP
  have : ∀ y x0 s, μ x0 s = y → Iv x0 s → P x0 s := by
    intro y
    induction y using hr.induction with
    | _ y ih =>
      intro x0 s ha hi
      refine hP x0 s (hs P x0 s hi (fun y0 t hb hrb => ?_))
      rw [ha] at hrb
      exact ih _ hrb y0 t rfl hb
  exact this _ x0 s rfl h
def wL2 (σ : Type) (F : (Int → Int → σ → Prop) → Int → Int → σ → Prop) (x0 x1 : Int) (s : σ) : Prop := ∀ P : Int → Int → σ → Prop, (∀ x0 x1 s, F P x0 x1 s → P x0 x1 s) → P x0 x1 s
theorem wL2_rule {σ β : Type} {F : (Int → Int → σ → Prop) → Int → Int → σ → Prop} {r : β → β → Prop} (hr : WellFounded r) (Iv : Int → Int → σ → Prop) (μ : Int → Int → σ → β) (hs : ∀ P x0 x1 s, Iv x0 x1 s → (∀ y0 y1 t, Iv y0 y1 t → r (μ y0 y1 t) (μ x0 x1 s) → P y0 y1 t) → F P x0 x1 s) {x0 x1 : Int} {s : σ} (h : Iv x0 x1 s) : wL2 σ F x0 x1 s := by
  intro P hP
  have : ∀ y x0 x1 s, μ x0 x1 s = y → Iv x0 x1 s → P x0 x1 s := by
    intro y
    induction y using hr.induction with
    | _ y ih =>
      intro x0 x1 s ha hi
      refine hP x0 x1 s (hs P x0 x1 s hi (fun y0 y1 t hb hrb => ?_))
      rw [ha] at hrb
      exact ih _ hrb y0 y1 t rfl hb
  exact this _ x0 x1 s rfl h
def wL3 (σ : Type) (F : (Int → Int → Int → σ → Prop) → Int → Int → Int → σ → Prop) (x0 x1 x2 : Int) (s : σ) : Prop := ∀ P : Int → Int → Int → σ → Prop, (∀ x0 x1 x2 s, F P x0 x1 x2 s → P x0 x1 x2 s) → P x0 x1 x2 s
theorem wL3_rule {σ β : Type} {F : (Int → Int → Int → σ → Prop) → Int → Int → Int → σ → Prop} {r : β → β → Prop} (hr : WellFounded r) (Iv : Int → Int → Int → σ → Prop) (μ : Int → Int → Int → σ → β) (hs : ∀ P x0 x1 x2 s, Iv x0 x1 x2 s → (∀ y0 y1 y2 t, Iv y0 y1 y2 t → r (μ y0 y1 y2 t) (μ x0 x1 x2 s) → P y0 y1 y2 t) → F P x0 x1 x2 s) {x0 x1 x2 : Int} {s : σ} (h : Iv x0 x1 x2 s) : wL3 σ F x0 x1 x2 s := by
  intro P hP
  have : ∀ y x0 x1 x2 s, μ x0 x1 x2 s = y → Iv x0 x1 x2 s → P x0 x1 x2 s := by
    intro y
    induction y using hr.induction with
    | _ y ih =>
      intro x0 x1 x2 s ha hi
      refine hP x0 x1 x2 s (hs P x0 x1 x2 s hi (fun y0 y1 y2 t hb hrb => ?_))
      rw [ha] at hrb
      exact ih _ hrb y0 y1 y2 t rfl hb
  exact this _ x0 x1 x2 s rfl h
def wL4 (σ : Type) (F : (Int → Int → Int → Int → σ → Prop) → Int → Int → Int → Int → σ → Prop) (x0 x1 x2 x3 : Int) (s : σ) : Prop := ∀ P : Int → Int → Int → Int → σ → Prop, (∀ x0 x1 x2 x3 s, F P x0 x1 x2 x3 s → P x0 x1 x2 x3 s) → P x0 x1 x2 x3 s
theorem wL4_rule {σ β : Type} {F : (Int → Int → Int → Int → σ → Prop) → Int → Int → Int → Int → σ → Prop} {r : β → β → Prop} (hr : WellFounded r) (Iv : Int → Int → Int → Int → σ → Prop) (μ : Int → Int → Int → Int → σ → β) (hs : ∀ P x0 x1 x2 x3 s, Iv x0 x1 x2 x3 s → (∀ y0 y1 y2 y3 t, Iv y0 y1 y2 y3 t → r (μ y0 y1 y2 y3 t) (μ x0 x1 x2 x3 s) → P y0 y1 y2 y3 t) → F P x0 x1 x2 x3 s) {x0 x1 x2 x3 : Int} {s : σ} (h : Iv x0 x1 x2 x3 s) : wL4 σ F x0 x1 x2 x3 s := by
  intro P hP
  have : ∀ y x0 x1 x2 x3 s, μ x0 x1 x2 x3 s = y → Iv x0 x1 x2 x3 s → P x0 x1 x2 x3 s := by
    intro y
    induction y using hr.induction with
    | _ y ih =>
      intro x0 x1 x2 x3 s ha hi
      refine hP x0 x1 x2 x3 s (hs P x0 x1 x2 x3 s hi (fun y0 y1 y2 y3 t hb hrb => ?_))
      rw [ha] at hrb
      exact ih _ hrb y0 y1 y2 y3 t rfl hb
  exact this _ x0 x1 x2 x3 s rfl h
def wL5 (σ : Type) (F : (Int → Int → Int → Int → Int → σ → Prop) → Int → Int → Int → Int → Int → σ → Prop) (x0 x1 x2 x3 x4 : Int) (s : σ) : Prop := ∀ P : Int → Int → Int → Int → Int → σ → Prop, (∀ x0 x1 x2 x3 x4 s, F P x0 x1 x2 x3 x4 s → P x0 x1 x2 x3 x4 s) → P x0 x1 x2 x3 x4 s
theorem wL5_rule {σ β : Type} {F : (Int → Int → Int → Int → Int → σ → Prop) → Int → Int → Int → Int → Int → σ → Prop} {r : β → β → Prop} (hr : WellFounded r) (Iv : Int → Int → Int → Int → Int → σ → Prop) (μ : Int → Int → Int → Int → Int → σ → β) (hs : ∀ P x0 x1 x2 x3 x4 s, Iv x0 x1 x2 x3 x4 s → (∀ y0 y1 y2 y3 y4 t, Iv y0 y1 y2 y3 y4 t → r (μ y0 y1 y2 y3 y4 t) (μ x0 x1 x2 x3 x4 s) → P y0 y1 y2 y3 y4 t) → F P x0 x1 x2 x3 x4 s) {x0 x1 x2 x3 x4 : Int} {s : σ} (h : Iv x0 x1 x2 x3 x4 s) : wL5 σ F x0 x1 x2 x3 x4 s := by
  intro P hP
  have : ∀ y x0 x1 x2 x3 x4 s, μ x0 x1 x2 x3 x4 s = y → Iv x0 x1 x2 x3 x4 s → P x0 x1 x2 x3 x4 s := by
    intro y
    induction y using hr.induction with
    | _ y ih =>
      intro x0 x1 x2 x3 x4 s ha hi
      refine hP x0 x1 x2 x3 x4 s (hs P x0 x1 x2 x3 x4 s hi (fun y0 y1 y2 y3 y4 t hb hrb => ?_))
      rw [ha] at hrb
      exact ih _ hrb y0 y1 y2 y3 y4 t rfl hb
  exact this _ x0 x1 x2 x3 x4 s rfl h
def wL6 (σ : Type) (F : (Int → Int → Int → Int → Int → Int → σ → Prop) → Int → Int → Int → Int → Int → Int → σ → Prop) (x0 x1 x2 x3 x4 x5 : Int) (s : σ) : Prop := ∀ P : Int → Int → Int → Int → Int → Int → σ → Prop, (∀ x0 x1 x2 x3 x4 x5 s, F P x0 x1 x2 x3 x4 x5 s → P x0 x1 x2 x3 x4 x5 s) → P x0 x1 x2 x3 x4 x5 s
theorem wL6_rule {σ β : Type} {F : (Int → Int → Int → Int → Int → Int → σ → Prop) → Int → Int → Int → Int → Int → Int → σ → Prop} {r : β → β → Prop} (hr : WellFounded r) (Iv : Int → Int → Int → Int → Int → Int → σ → Prop) (μ : Int → Int → Int → Int → Int → Int → σ → β) (hs : ∀ P x0 x1 x2 x3 x4 x5 s, Iv x0 x1 x2 x3 x4 x5 s → (∀ y0 y1 y2 y3 y4 y5 t, Iv y0 y1 y2 y3 y4 y5 t → r (μ y0 y1 y2 y3 y4 y5 t) (μ x0 x1 x2 x3 x4 x5 s) → P y0 y1 y2 y3 y4 y5 t) → F P x0 x1 x2 x3 x4 x5 s) {x0 x1 x2 x3 x4 x5 : Int} {s : σ} (h : Iv x0 x1 x2 x3 x4 x5 s) : wL6 σ F x0 x1 x2 x3 x4 x5 s := by
  intro P hP
  have : ∀ y x0 x1 x2 x3 x4 x5 s, μ x0 x1 x2 x3 x4 x5 s = y → Iv x0 x1 x2 x3 x4 x5 s → P x0 x1 x2 x3 x4 x5 s := by
    intro y
    induction y using hr.induction with
    | _ y ih =>
      intro x0 x1 x2 x3 x4 x5 s ha hi
      refine hP x0 x1 x2 x3 x4 x5 s (hs P x0 x1 x2 x3 x4 x5 s hi (fun y0 y1 y2 y3 y4 y5 t hb hrb => ?_))
      rw [ha] at hrb
      exact ih _ hrb y0 y1 y2 y3 y4 y5 t rfl hb
  exact this _ x0 x1 x2 x3 x4 x5 s rfl h
end
