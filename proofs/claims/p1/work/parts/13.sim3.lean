/-! THE INTERPRETER IS FOLLOWED: instructions on the heap -/
/-- what the tables must say of a row that speaks of a class, a field, a constant -/
def im_eo (Ts : List Cond) (cl : List vw_C) (rA : List Nat) (nf : Nat → Nat) (y : MethodName) (e : im_E) : Prop := match e.2.1 with
  | .getfield ix => ∃ r : vw_C, cl[e.2.2.2.1]? = some r ∧ e.2.2.2.1 < 50 ∧ Cond.fieldLink y.cls ix (r.2.1 e.2.2.2.2.1).1 (r.2.1 e.2.2.2.2.1).2.1 (r.2.1 e.2.2.2.2.1).2.2.1 ∈ Ts
  | .putfield ix => ∃ r : vw_C, cl[e.2.2.2.1]? = some r ∧ e.2.2.2.1 < 50 ∧ Cond.fieldLink y.cls ix (r.2.1 e.2.2.2.2.1).1 (r.2.1 e.2.2.2.2.1).2.1 (r.2.1 e.2.2.2.2.1).2.2.1 ∈ Ts ∧ ((r.2.1 e.2.2.2.2.1).2.2.2 = true → y.name = "<init>" ∧ (r.2.1 e.2.2.2.2.1).1 = y.cls)
  | .new ix => ∃ r : vw_C, cl[e.2.2.2.1]? = some r ∧ e.2.2.2.1 < 50 ∧ Cond.classLink y.cls ix r.1 ∈ Ts ∧ nf e.2.2.2.1 = r.2.2
  | .anewarray ix => ∃ r : vw_C, cl[e.2.2.2.1]? = some r ∧ e.2.2.2.1 ∈ rA ∧ Cond.classLink y.cls ix r.1 ∈ Ts
  | .ldc ix => ∃ v, e.2.2.2.2.2.2 = .int v ∧ Cond.constant y.cls ix v ∈ Ts
  | .ldc_w ix => ∃ v, e.2.2.2.2.2.2 = .int v ∧ Cond.constant y.cls ix v ∈ Ts
  | .ldc2_w ix => ∃ v, e.2.2.2.2.2.2 = .long v ∧ Cond.constantLong y.cls ix v ∈ Ts
  | .checkcast ix => (e.2.2.2.1 = 100 ∧ Cond.classLink y.cls ix "[I" ∈ Ts) ∨ (e.2.2.2.1 = 101 ∧ Cond.classLink y.cls ix "[J" ∈ Ts)
  | _ => True
/-- what the tables must say of the classes -/
def im_cf (Ts : List Cond) (cl : List vw_C) (rA : List Nat) (kd : Nat → Nat → Nat) : Prop :=
  (∀ (ci : Nat) (r : vw_C), cl[ci]? = some r → (∀ w ∈ u_ws r.1 r.2.1 r.2.2, w ∈ Ts) ∧ Cond.instantiable r.1 r.2.2 ∈ Ts ∧ Cond.initialized r.1 ∈ Ts ∧ ∃ ty0 : Nat → FieldType, (∀ k, k < r.2.2 → parseFieldDescriptor (r.2.1 k).2.2.1 = some (ty0 k)) ∧ (∀ a, a < r.2.2 → ∀ b, b < r.2.2 → a ≠ b → (r.2.1 a).2.1 ≠ (r.2.1 b).2.1) ∧
    (∀ k, k < r.2.2 → defaultValue (ty0 k) = im_dv (kd ci k)) ∧ ∀ k, k < r.2.2 → ∀ v, im_kf (kd ci k) v = true → narrow (ty0 k) v = v ∧ fits (ty0 k) v = true) ∧
  (∀ c ∈ rA, ∃ r, cl[c]? = some r) ∧ Cond.arrayClass .int ∈ Ts ∧ Cond.arrayClass .long ∈ Ts ∧ Cond.arrayClass .char ∈ Ts
theorem im_dv_sh (b z k : Nat) : im_sh b z (im_dv k) = im_dv k := by
  unfold im_dv
  split <;> rfl
section IM3
variable {p : Program} {l : Launch} {e : Env} {R : Room} {s : State} {m : MethodId} {args : Array Value} {below : List Frame} {meth : Method} {c : Code} {H : Heap} {locs : List Loc} {Q : State → Prop}
variable {cc : ByteArray} {ls : Array Slot}
variable {D : va_G} {dA : Nat → ClassId} {cl : List vw_C} {rA : List Nat} {nw : List Cond} {b z L : Nat} {xs : Nat → Int32} {Hs : Heap} {h : im_H} {Ts : List Cond} {kd : Nat → Nat → Nat} {nf : Nat → Nat} {y : MethodName}
theorem im_arrT (hcf : im_cf Ts cl rA kd) (hK : im_K D dA cl rA nw b L xs Hs s) {t : Nat} (ht : im_tag rA t) : ∃ ty, im_ty cl t = some ty ∧ ArrOfT s (dA t) ty ∧ va_RA s (dA t) ty := by
  have : ∃ ty, im_ty cl t = some ty := by
    rcases ht with rfl | rfl | rfl | ⟨c, hc, rfl⟩
    · exact ⟨.int, rfl⟩
    · exact ⟨.long, rfl⟩
    · exact ⟨.char, rfl⟩
    · obtain ⟨r, hr⟩ := hcf.2.1 c hc
      refine ⟨.object r.1, ?_⟩
      unfold im_ty
      rw [if_neg (by omega), if_neg (by omega), if_neg (by omega), show 110 + c - 110 = c by omega, hr]
      rfl
  obtain ⟨ty, h1⟩ := this
  exact ⟨ty, h1, hK.2.1 t ty ht h1⟩
theorem im_arrO (hcf : im_cf Ts cl rA kd) (hK : im_K D dA cl rA nw b L xs Hs s) {t : Nat} (ht : im_tag rA t) (h0 : 110 ≤ t) : ∃ c r, c ∈ rA ∧ t = 110 + c ∧ cl[c]? = some r ∧ ArrOfT s (dA t) (.object r.1) ∧ va_RA s (dA t) (.object r.1) := by
  rcases id ht with rfl | rfl | rfl | ⟨c, hc, rfl⟩
  · omega
  · omega
  · omega
  · obtain ⟨r, hr⟩ := hcf.2.1 c hc
    refine ⟨c, r, hc, rfl, hr, hK.2.1 _ _ ht ?_⟩
    unfold im_ty
    rw [if_neg (by omega), if_neg (by omega), if_neg (by omega), show 110 + c - 110 = c by omega, hr]
    rfl
theorem im_ovf {cA : ClassId} {n j : Nat} {f : Nat → Value} {i : Int32} (h0 : ¬ i < 0) (hj : i.toNatClampNeg = j) (hn : j < n) : ¬ (i < 0 ∨ (arrV cA n f).slots.size ≤ i.toNatClampNeg) := by
  rw [arrV_size, hj]
  rintro (q | q)
  · exact h0 q
  · omega
set_option maxHeartbeats 4000000 in
set_option maxRecDepth 100000 in
theorem im_h_ok (hx : p.tables.exec = Jvm.exec) (hb : c.code = cc) (hts : ∀ w ∈ Ts, w.before args s = true) (hown : s.vm.findClass y.cls = some m.cls) (hmn : y.name = "<init>" → meth.name = "<init>") (hK : im_K D dA cl rA nw b L xs Hs s) (hbz : b < z) (hcf : im_cf Ts cl rA kd) {er : im_E} (hok : im_eo Ts cl rA nf y er)
    (hd : decode cc er.1 = .ok (er.2.1, er.2.2.1)) (hn : ∀ k, im_ln er.2.1 = some k → er.2.2.1 = k) (hR : im_Rl D dA cl rA b z L xs Hs H h) (hlo : ∀ q ∈ locs, z ≤ q.base) {st st' : List Value} {h' : im_H} (hp : im_h kd nf er st h = some (st', h'))
    {n0 u0 : Nat} (hn0 : n0 ≤ h.1) (hu0 : u0 ≤ h.2.1) (hc1 : h'.1 - n0 ≤ R.cells) (hs1 : h'.2.1 - u0 ≤ R.slots)
    (K : ∀ (H' : Heap) (locs' : List Loc), im_Rl D dA cl rA b z L xs Hs H' h' → (∀ q ∈ locs', z ≤ q.base) → W p l e R s m args below meth c H' locs' (h'.1 - n0) (h'.2.1 - u0) Q (F0 m (er.1 + er.2.2.1) ls (st'.map (im_sh b z)))) :
    W p l e R s m args below meth c H locs (h.1 - n0) (h.2.1 - u0) Q (F0 m er.1 ls (st.map (im_sh b z))) := by
  have hloc : ∀ (a j : Nat), a ≠ 0 → ∀ q ∈ locs ++ [(⟨im_ad b z a, j⟩ : Loc)], z ≤ q.base := by
    intro a j ha q hq
    rcases List.mem_append.mp hq with h1 | h1
    · exact hlo q h1
    · rw [List.mem_singleton] at h1
      subst h1
      show z ≤ im_ad b z a
      rw [im_ad_pos b z ha]
      omega
  obtain ⟨pc, i, len, ea, eb, ec, ev⟩ := er
  dsimp only at hd hn K ⊢
  cases i
  case getfield ix =>
    have e1 := hn 3 rfl; subst e1
    dsimp only [im_h] at hp
    split at hp
    · rename_i a r
      split at hp
      · rename_i t n f ha
        split at hp
        · rename_i hc
          cases hp
          obtain ⟨rfl, hk⟩ := hc
          obtain ⟨⟨C, T, N⟩, hr, h50, hlk⟩ := hok
          obtain ⟨r', hr', hN, cell, q1, q2, q3, q4⟩ := hR.obj ha h50
          cases hr.symm.trans hr'
          dsimp only at hN hr h50 hlk
          subst hN
          have hin := (hcf.1 t _ hr).1
          obtain ⟨hS, hfc, kC, hkC, hkind⟩ := hK.1.1 t _ hr
          obtain ⟨cf, kf, fi, fd, hi, hsl⟩ := hS eb hk
          have hst := (u_facts hfc hkC (u_lays hts hin hk) hi).1
          exact W.getf hx hb hown (hts _ hlk) hi hst q1 (by rw [q3]; exact fun h => by cases h) (by rw [hsl]; exact q4 eb hk) rfl rfl hd (K H locs hR hlo)
        · cases hp
      · cases hp
    · cases hp
  case putfield ix =>
    have e1 := hn 3 rfl; subst e1
    dsimp only [im_h] at hp
    split at hp
    · rename_i v a r
      split at hp
      · rename_i t n f ha
        split at hp
        · rename_i hc
          cases hp
          obtain ⟨rfl, hk, hkf⟩ := hc
          obtain ⟨⟨C, T, N⟩, hr, h50, hlk, hfi⟩ := hok
          dsimp only at hr h50 hlk hfi
          have ha0 := (hR.cell ha (show t ≠ 99 by omega)).1
          obtain ⟨r', hr', hN, cell, q1, q2, q3, q4⟩ := hR.obj ha h50
          cases hr.symm.trans hr'
          dsimp only at hN
          subst hN
          obtain ⟨hin, -, -, ty0, hty, hnm, -, hkd⟩ := hcf.1 t _ hr
          obtain ⟨hS, hfc, kC, hkC, hkind⟩ := hK.1.1 t _ hr
          obtain ⟨cf, kf, fi, fd, hi, hsl⟩ := hS eb hk
          have hst := (u_facts hfc hkC (u_lays hts hin hk) hi).1
          have hap := va_apart (own := y.cls) hts hin ty0 hty hnm hK.1 hr
          obtain ⟨hnr, hft⟩ := hkd eb hk (im_sh b z v) (by rw [im_kf_sh]; exact hkf)
          have hlay := hts _ (hin _ (u_in_lay hk))
          have fin : ∀ H' : Heap, H'[im_ad b z a]? = some (cell.setSlot (D.2 t eb) (im_sh b z v)) → H'.size = H.size → (∀ q, q ≠ im_ad b z a → H'[q]? = H[q]?) → im_Rl D dA cl rA b z L xs Hs H' (im_wr h a (t, N, updV f eb v)) := by
            intro H' e1 e2 e3
            refine hR.wr ha (show t ≠ 99 by omega) (Or.inl ⟨h50, _, hr, rfl, ?_⟩) e2 e3
            dsimp only
            rw [im_sh_upd]
            exact ⟨_, e1, q2, q3, t_set q4 hap hk (im_sh b z v)⟩
          unfold u_lay at hlay
          cases hF : (T eb).2.2.2 with
          | false =>
            rw [if_neg (by rw [hF]; decide)] at hlay
            have h6 := u_store hfc hkC hkind hlay hi (hty eb hk) hnr hft
            refine W.putK hx hb (f := fd) ⟨hown, hts _ hlk, ⟨_, _, _, hi⟩, hst⟩ (by rw [q2]; exact h6) q1 q3 (by rw [hsl]; exact k2_hasslot (q4 eb hk)) rfl rfl hd fun H' e1 e2 e3 => ?_
            rw [hsl] at e1
            exact K H' _ (fin H' e1 e2 e3) (hloc a _ ha0)
          | true =>
            rw [if_pos hF] at hlay
            obtain ⟨hin2, hdecl⟩ := hfi hF
            have hcf2 : m.cls = cf := by
              obtain ⟨_, _, c', _, _, _, -, -, hf', -, -, -, hown2, -⟩ := Cond.laysFinal_spec hlay
              have e1 : c' = cf := by have := hi.symm.trans hf'; simp at this; exact this.1.symm
              rw [hdecl] at hown2
              rw [← e1]; exact Option.some.inj (hown.symm.trans hown2)
            have h6 := u_fits hfc hkC hkind (Or.inr hlay) hi (hty eb hk) hnr hft
            refine W.putFinK hx hb hown (hts _ hlk) hi hst hcf2 (hmn hin2) (by rw [q2]; exact h6) q1 q3 (by rw [hsl]; exact k2_hasslot (q4 eb hk)) rfl rfl hd fun H' e1 e2 e3 => ?_
            rw [hsl] at e1
            exact K H' _ (fin H' e1 e2 e3) (hloc a _ ha0)
        · cases hp
      · cases hp
    · cases hp
  case arraylength =>
    have e1 := hn 1 rfl; subst e1
    dsimp only [im_h] at hp
    split at hp
    · rename_i a r
      split at hp
      · rename_i t n f ha
        split at hp
        · rename_i hc
          cases hp
          by_cases h9 : t = 99
          · subst h9
            obtain ⟨rfl, rfl, rfl⟩ := hR.scr ha
            obtain ⟨scr, g1, g2, g3, g4, g5⟩ := hK.2.2.2.2
            exact W.alen hx hb (a := b) ((hR.2.2.1 b hbz).trans g1) g2 (by rw [g4]) rfl rfl hd (K H locs hR hlo)
          · obtain ⟨ht, -, hcell⟩ := hR.arr ha (by omega)
            obtain ⟨ty, -, hA, -⟩ := im_arrT hcf hK ht
            exact W.alen hx hb hcell (hA _ _) (by rw [arrV_size]) rfl rfl hd (K H locs hR hlo)
        · cases hp
      · cases hp
    · cases hp
  case iaload =>
    have e1 := hn 1 rfl; subst e1
    dsimp only [im_h] at hp
    split at hp
    · rename_i i a r
      split at hp
      · rename_i t n f ha
        split at hp
        · rename_i hc
          split at hp
          · rename_i j hj
            cases hp
            obtain ⟨g1, g2, g3⟩ := im_ix_ok hj
            rcases hc with rfl | rfl
            · obtain ⟨rfl, rfl, rfl⟩ := hR.scr ha
              obtain ⟨scr, k1, k2, k3, k4, k5⟩ := hK.2.2.2.2
              exact W.iald hx hb (a := b) (v := .int (xs j)) ((hR.2.2.1 b hbz).trans k1) k2 k3 (by rw [k4, g2]; rintro (q | q); exact g1 q; omega) (by rw [g2]; exact k5 j g3) rfl rfl hd (K H locs hR hlo)
            · obtain ⟨ht, -, hcell⟩ := hR.arr ha (by omega)
              exact W.iald hx hb (v := im_sh b z (f j)) hcell ((hK.2.1 100 .int ht rfl).1 _ _) (fun h => by cases h) (im_ovf g1 g2 g3) (by rw [g2, arrV_read _ _ g3]) rfl rfl hd (K H locs hR hlo)
          · cases hp
        · cases hp
      · cases hp
    · cases hp
  case laload =>
    have e1 := hn 1 rfl; subst e1
    dsimp only [im_h] at hp
    split at hp
    · rename_i i a r
      split at hp
      · rename_i t n f ha
        split at hp
        · rename_i hc
          split at hp
          · rename_i j hj
            cases hp
            obtain ⟨g1, g2, g3⟩ := im_ix_ok hj
            subst hc
            obtain ⟨ht, -, hcell⟩ := hR.arr ha (by omega)
            exact W.lald hx hb (v := im_sh b z (f j)) hcell ((hK.2.1 101 .long ht rfl).1 _ _) (fun h => by cases h) (im_ovf g1 g2 g3) (by rw [g2, arrV_read _ _ g3]) rfl rfl hd (K H locs hR hlo)
          · cases hp
        · cases hp
      · cases hp
    · cases hp
  case caload =>
    have e1 := hn 1 rfl; subst e1
    dsimp only [im_h] at hp
    split at hp
    · rename_i i a r
      split at hp
      · rename_i t n f ha
        split at hp
        · rename_i hc
          split at hp
          · rename_i j hj
            cases hp
            obtain ⟨g1, g2, g3⟩ := im_ix_ok hj
            subst hc
            obtain ⟨ht, -, hcell⟩ := hR.arr ha (by omega)
            exact W.cald hx hb (v := im_sh b z (f j)) hcell ((hK.2.1 102 .char ht rfl).1 _ _) (fun h => by cases h) (im_ovf g1 g2 g3) (by rw [g2, arrV_read _ _ g3]) rfl rfl hd (K H locs hR hlo)
          · cases hp
        · cases hp
      · cases hp
    · cases hp
  case aaload =>
    have e1 := hn 1 rfl; subst e1
    dsimp only [im_h] at hp
    split at hp
    · rename_i i a r
      split at hp
      · rename_i t n f ha
        split at hp
        · rename_i hc
          split at hp
          · rename_i j hj
            cases hp
            obtain ⟨g1, g2, g3⟩ := im_ix_ok hj
            obtain ⟨ht, -, hcell⟩ := hR.arr ha (by omega)
            obtain ⟨c0, r0, -, rfl, hr0, hA, -⟩ := im_arrO hcf hK ht hc
            exact W.aald hx hb (v := im_sh b z (f j)) (ty := .object r0.1) hcell (hA _ _) rfl (fun h => by cases h) (im_ovf g1 g2 g3) (by rw [g2, arrV_read _ _ g3]) rfl rfl hd (K H locs hR hlo)
          · cases hp
        · cases hp
      · cases hp
    · cases hp
  case iastore =>
    have e1 := hn 1 rfl; subst e1
    dsimp only [im_h] at hp
    split at hp
    · rename_i x i a r
      split at hp
      · rename_i t n f ha
        split at hp
        · rename_i hc
          split at hp
          · rename_i j hj
            cases hp
            obtain ⟨g1, g2, g3⟩ := im_ix_ok hj
            subst hc
            have ha0 := (hR.cell ha (show 100 ≠ 99 by omega)).1
            obtain ⟨ht, hwt, hcell⟩ := hR.arr ha (by omega)
            refine W.iast hx hb hcell ((hK.2.1 100 .int ht rfl).1 _ _) (fun h => by cases h) (im_ovf g1 g2 g3) rfl rfl hd fun H' e1 e2 e3 => ?_
            rw [g2, arrV_store] at e1
            refine K H' _ (hR.wr ha (show 100 ≠ 99 by omega) (Or.inr ⟨ht, ⟨fun _ k => ?_, fun q => by cases q⟩, ?_⟩) e2 e3) (hloc a _ ha0)
            · show ∃ x', updV f j (.int x) k = .int x'
              unfold updV
              split
              · exact ⟨_, rfl⟩
              · exact hwt.1 rfl k
            · dsimp only
              rw [im_sh_upd]
              exact e1
          · cases hp
        · cases hp
      · cases hp
    · cases hp
  case lastore =>
    have e1 := hn 1 rfl; subst e1
    dsimp only [im_h] at hp
    split at hp
    · rename_i x i a r
      split at hp
      · rename_i t n f ha
        split at hp
        · rename_i hc
          split at hp
          · rename_i j hj
            cases hp
            obtain ⟨g1, g2, g3⟩ := im_ix_ok hj
            subst hc
            have ha0 := (hR.cell ha (show 101 ≠ 99 by omega)).1
            obtain ⟨ht, hwt, hcell⟩ := hR.arr ha (by omega)
            refine W.last hx hb hcell ((hK.2.1 101 .long ht rfl).1 _ _) (fun h => by cases h) (im_ovf g1 g2 g3) rfl rfl hd fun H' e1 e2 e3 => ?_
            rw [g2, arrV_store] at e1
            refine K H' _ (hR.wr ha (show 101 ≠ 99 by omega) (Or.inr ⟨ht, ⟨fun q => (by cases q), fun _ k => ?_⟩, ?_⟩) e2 e3) (hloc a _ ha0)
            · show ∃ x', updV f j (.long x) k = .long x'
              unfold updV
              split
              · exact ⟨_, rfl⟩
              · exact hwt.2 rfl k
            · dsimp only
              rw [im_sh_upd]
              exact e1
          · cases hp
        · cases hp
      · cases hp
    · cases hp
  case castore =>
    have e1 := hn 1 rfl; subst e1
    dsimp only [im_h] at hp
    split at hp
    · rename_i x i a r
      split at hp
      · rename_i t n f ha
        split at hp
        · rename_i hc
          split at hp
          · rename_i j hj
            cases hp
            obtain ⟨g1, g2, g3⟩ := im_ix_ok hj
            subst hc
            have ha0 := (hR.cell ha (show 102 ≠ 99 by omega)).1
            obtain ⟨ht, hwt, hcell⟩ := hR.arr ha (by omega)
            refine W.cast hx hb hcell ((hK.2.1 102 .char ht rfl).1 _ _) (fun h => by cases h) (im_ovf g1 g2 g3) rfl rfl hd fun H' e1 e2 e3 => ?_
            rw [g2, arrV_store] at e1
            refine K H' _ (hR.wr ha (show 102 ≠ 99 by omega) (Or.inr ⟨ht, ⟨fun q => (by cases q), fun q => (by cases q)⟩, ?_⟩) e2 e3) (hloc a _ ha0)
            dsimp only
            rw [im_sh_upd]
            exact e1
          · cases hp
        · cases hp
      · cases hp
    · cases hp
  case aastore =>
    have e1 := hn 1 rfl; subst e1
    dsimp only [im_h] at hp
    split at hp
    · rename_i i a r
      split at hp
      · rename_i t n f ha
        split at hp
        · rename_i hc
          split at hp
          · rename_i j hj
            cases hp
            obtain ⟨g1, g2, g3⟩ := im_ix_ok hj
            have ha0 := (hR.cell ha (show t ≠ 99 by omega)).1
            obtain ⟨ht, hwt, hcell⟩ := hR.arr ha (by omega)
            obtain ⟨c0, r0, -, rfl, hr0, hA, -⟩ := im_arrO hcf hK ht hc
            refine va_WaastN (C := r0.1) hx hb hcell (hA _ _) (fun h => by cases h) (im_ovf g1 g2 g3) rfl rfl hd fun H' e1 e2 e3 => ?_
            rw [g2, arrV_store] at e1
            refine K H' _ (hR.wr ha (show 110 + c0 ≠ 99 by omega) (Or.inr ⟨ht, ⟨fun q => absurd q (show ¬ 110 + c0 = 100 by omega), fun q => absurd q (show ¬ 110 + c0 = 101 by omega)⟩, ?_⟩) e2 e3) (hloc a _ ha0)
            dsimp only
            rw [im_sh_upd]
            exact e1
          · cases hp
        · cases hp
      · cases hp
    · rename_i v i a r
      split at hp
      · rename_i t n f ha
        split at hp
        · rename_i tv nv fv hv
          split at hp
          · rename_i hc
            split at hp
            · rename_i j hj
              cases hp
              obtain ⟨hc, h50, hcc⟩ := hc
              obtain ⟨g1, g2, g3⟩ := im_ix_ok hj
              have ha0 := (hR.cell ha (show t ≠ 99 by omega)).1
              obtain ⟨ht, hwt, hcell⟩ := hR.arr ha (by omega)
              obtain ⟨c0, r0, -, e0, hr0, hA, kA, comp, k1, k2, k3, -⟩ := im_arrO hcf hK ht hc
              have hce : c0 = tv := by omega
              subst hce
              obtain ⟨r', hr', -, cellV, w1, w2, w3, -⟩ := hR.obj hv h50
              have hcls := (hK.1.1 c0 r0 hr0).2
              have hcomp : comp = D.1 c0 := Option.some.inj (k3.symm.trans hcls.1)
              subst hcomp
              obtain ⟨kC, hkC, -⟩ := id hcls.2
              refine W.aast hx hb hcell (fun q h => by cases h) (fun h => by cases h) k1 k2 rfl hkC ⟨g1, by rw [arrV_size, g2]; exact g3⟩ w1 (fun q h => by rw [w3] at h; cases h) (by rw [w2]; exact hkC) (by rw [w2]; exact va_assign hcls) rfl rfl hd fun H' e1 e2 e3 => ?_
              rw [g2, arrV_store] at e1
              refine K H' _ (hR.wr ha (show t ≠ 99 by omega) (Or.inr ⟨ht, ⟨fun q => absurd q (show ¬ t = 100 by omega), fun q => absurd q (show ¬ t = 101 by omega)⟩, ?_⟩) e2 e3) (hloc a _ ha0)
              dsimp only
              rw [im_sh_upd]
              exact e1
            · cases hp
          · cases hp
        · cases hp
      · cases hp
    · cases hp
  case new ix =>
    have e1 := hn 3 rfl; subst e1
    dsimp only [im_h] at hp
    cases hp
    obtain ⟨⟨C, T, N⟩, hr, h50, hlk, hnf⟩ := hok
    dsimp only at hr h50 hlk hnf
    obtain ⟨hin, hins, hini, ty0, hty, hnm, hdf, -⟩ := hcf.1 ea _ hr
    have hKn := hK.1.1 ea _ hr
    dsimp only [im_mk] at hc1 hs1 K
    rw [hnf] at hs1 K
    refine W.newcK hx hb hown (hts _ hlk) (hts _ hins) (hts _ hini) rfl hd (by omega) (by dsimp only; omega) hKn.2.1 rfl fun H' kC hkC e1 z1 o1 => ?_
    have hnew : im_ca D dA cl rA b z H.size (ea, N, fun k => im_dv (kd ea k)) H' := by
      refine Or.inl ⟨h50, _, hr, rfl, (u_born ty0 hts hin hKn hkC e1 hty).to fun k hk => ?_⟩
      rw [hdf k hk]
      exact (im_dv_sh b z _).symm
    have K1 := K H' locs (hR.mk z1 hnew o1) hlo
    rw [List.map_cons, show im_sh b z (.ref h.1) = .ref H.size by show Value.ref (im_ad b z h.1) = _; rw [hR.top], show h.1 + 1 - n0 = h.1 - n0 + 1 by omega, show h.2.1 + N - u0 = h.2.1 - u0 + N by omega] at K1
    exact K1
  case newarray at0 =>
    have e1 := hn 2 rfl; subst e1
    cases at0
    case int =>
      dsimp only [im_h] at hp
      split at hp
      · rename_i n r
        split at hp
        · cases hp
        · rename_i hn0'
          split at hp
          · cases hp
          · rename_i hbig
            cases hp
            dsimp only [im_mk] at hc1 hs1 K
            obtain ⟨hA, hRA⟩ := hK.2.1 100 .int (Or.inl rfl) rfl
            refine va_newaK hx hb (atype := .int) (hts _ hcf.2.2.1) rfl hd rfl hn0' rfl (show n.toNatClampNeg * 4 ≤ 536870912 by omega) (by omega) (by omega) rfl fun H' cA e1 z1 o1 _ hfc => ?_
            have hcA : dA 100 = cA := Option.some.inj (hRA.symm.trans hfc)
            subst hcA
            have K1 := K H' locs (hR.mk z1 (Or.inr ⟨Or.inl rfl, ⟨fun _ _ => ⟨0, rfl⟩, fun q => by cases q⟩, e1⟩) o1) hlo
            rw [List.map_cons, show im_sh b z (.ref h.1) = .ref H.size by show Value.ref (im_ad b z h.1) = _; rw [hR.top], show h.1 + 1 - n0 = h.1 - n0 + 1 by omega, show h.2.1 + n.toNatClampNeg - u0 = h.2.1 - u0 + n.toNatClampNeg by omega] at K1
            exact K1
      · cases hp
    case long =>
      dsimp only [im_h] at hp
      split at hp
      · rename_i n r
        split at hp
        · cases hp
        · rename_i hn0'
          split at hp
          · cases hp
          · rename_i hbig
            cases hp
            dsimp only [im_mk] at hc1 hs1 K
            obtain ⟨hA, hRA⟩ := hK.2.1 101 .long (Or.inr (Or.inl rfl)) rfl
            refine va_newaK hx hb (atype := .long) (hts _ hcf.2.2.2.1) rfl hd rfl hn0' rfl (show n.toNatClampNeg * 8 ≤ 536870912 by omega) (by omega) (by omega) rfl fun H' cA e1 z1 o1 _ hfc => ?_
            have hcA : dA 101 = cA := Option.some.inj (hRA.symm.trans hfc)
            subst hcA
            have K1 := K H' locs (hR.mk z1 (Or.inr ⟨Or.inr (Or.inl rfl), ⟨fun q => (by cases q), fun _ _ => ⟨0, rfl⟩⟩, e1⟩) o1) hlo
            rw [List.map_cons, show im_sh b z (.ref h.1) = .ref H.size by show Value.ref (im_ad b z h.1) = _; rw [hR.top], show h.1 + 1 - n0 = h.1 - n0 + 1 by omega, show h.2.1 + n.toNatClampNeg - u0 = h.2.1 - u0 + n.toNatClampNeg by omega] at K1
            exact K1
      · cases hp
    case char =>
      dsimp only [im_h] at hp
      split at hp
      · rename_i n r
        split at hp
        · cases hp
        · rename_i hn0'
          split at hp
          · cases hp
          · rename_i hbig
            cases hp
            dsimp only [im_mk] at hc1 hs1 K
            obtain ⟨hA, hRA⟩ := hK.2.1 102 .char (Or.inr (Or.inr (Or.inl rfl))) rfl
            refine va_newaK hx hb (atype := .char) (hts _ hcf.2.2.2.2) rfl hd rfl hn0' rfl (show n.toNatClampNeg * 2 ≤ 536870912 by omega) (by omega) (by omega) rfl fun H' cA e1 z1 o1 _ hfc => ?_
            have hcA : dA 102 = cA := Option.some.inj (hRA.symm.trans hfc)
            subst hcA
            have K1 := K H' locs (hR.mk z1 (Or.inr ⟨Or.inr (Or.inr (Or.inl rfl)), ⟨fun q => (by cases q), fun q => (by cases q)⟩, e1⟩) o1) hlo
            rw [List.map_cons, show im_sh b z (.ref h.1) = .ref H.size by show Value.ref (im_ad b z h.1) = _; rw [hR.top], show h.1 + 1 - n0 = h.1 - n0 + 1 by omega, show h.2.1 + n.toNatClampNeg - u0 = h.2.1 - u0 + n.toNatClampNeg by omega] at K1
            exact K1
      · cases hp
    all_goals exact nomatch (show (none : Option (List Value × im_H)) = some (st', h') from hp)
  case anewarray ix =>
    have e1 := hn 3 rfl; subst e1
    dsimp only [im_h] at hp
    split at hp
    · rename_i n r
      split at hp
      · cases hp
      · rename_i hn0'
        split at hp
        · cases hp
        · rename_i hbig
          cases hp
          obtain ⟨⟨C, T, N⟩, hr, hrA, hlk⟩ := hok
          dsimp only at hr hrA hlk
          have htag : im_tag rA (110 + ea) := Or.inr (Or.inr (Or.inr ⟨ea, hrA, rfl⟩))
          dsimp only [im_mk] at hc1 hs1 K
          obtain ⟨c0, r0, -, e0, hr0, hA, kA, comp, k1, k2, k3, k4⟩ := im_arrO hcf hK htag (by omega)
          have hce : c0 = ea := by omega
          subst hce
          cases hr.symm.trans hr0
          refine W.anew hx hb hown (hts _ hlk) (va_AO.use (hK.2.2.2.1 c0 hrA _ hr)) rfl hd rfl hn0' (by omega) (by omega) (by omega) fun cA kA' comp' f1 f2 f3 f4 => ?_
          have hcA : dA (110 + c0) = cA := Option.some.inj (k4.symm.trans f1)
          subst hcA
          rw [arrV_new]
          have K1 := K (H.push (arrV (dA (110 + c0)) n.toNatClampNeg fun _ => .null)) locs (hR.mk (by rw [Array.size_push]) (Or.inr ⟨htag, ⟨fun q => absurd q (show ¬ 110 + c0 = 100 by omega), fun q => absurd q (show ¬ 110 + c0 = 101 by omega)⟩, by rw [Array.getElem?_push_size]; rfl⟩) (fun q hq => by rw [Array.getElem?_push, if_neg (Nat.ne_of_lt hq)])) hlo
          rw [List.map_cons, show im_sh b z (.ref h.1) = .ref H.size by show Value.ref (im_ad b z h.1) = _; rw [hR.top], show h.1 + 1 - n0 = h.1 - n0 + 1 by omega, show h.2.1 + n.toNatClampNeg - u0 = h.2.1 - u0 + n.toNatClampNeg by omega] at K1
          exact K1
    · cases hp
  case ldc ix =>
    have e1 := hn 2 rfl; subst e1
    dsimp only [im_h] at hp
    cases hp
    obtain ⟨v, hv, hc⟩ := hok
    dsimp only at hv
    subst hv
    exact lv_ldc hx hb hown (hts _ hc) hd (K H locs hR hlo)
  case ldc_w ix =>
    have e1 := hn 3 rfl; subst e1
    dsimp only [im_h] at hp
    cases hp
    obtain ⟨v, hv, hc⟩ := hok
    dsimp only at hv
    subst hv
    exact lv_ldcw hx hb hown (hts _ hc) hd (K H locs hR hlo)
  case ldc2_w ix =>
    have e1 := hn 3 rfl; subst e1
    dsimp only [im_h] at hp
    cases hp
    obtain ⟨v, hv, hc⟩ := hok
    dsimp only at hv
    subst hv
    exact lv_ldc2 hx hb hown (hts _ hc) hd (K H locs hR hlo)
  case checkcast ix =>
    have e1 := hn 3 rfl; subst e1
    dsimp only [im_h] at hp
    split at hp
    · rename_i a r
      split at hp
      · rename_i t n f ha
        split at hp
        · rename_i hc
          cases hp
          subst hc
          have key : ∀ (nm : String), Cond.classLink y.cls ix nm ∈ Ts → 100 ≤ t → s.vm.findClass nm = some (dA t) → W p l e R s m args below meth c H locs (h.1 - n0) (h.2.1 - u0) Q (F0 m pc ls ((Value.ref a :: r).map (im_sh b z))) := by
            intro nm hlk h100 hfc
            obtain ⟨ht, -, hcell⟩ := hR.arr ha h100
            intro T hT X
            obtain ⟨vm', X', st0⟩ := X.checkcastYes hx hown (hts _ hlk) (a := im_ad b z a) (by rw [hT]; exact hcell) rfl hfc (va_asg _ _) (g := F0 m pc ls ((Value.ref a :: r).map (im_sh b z))) rfl rfl (by rw [hb]; exact hd)
            obtain ⟨t', a1, b1⟩ := K H locs hR hlo (T.setVm vm') hT X'
            exact ⟨t', st0 t' a1, b1⟩
          rcases hok with ⟨h1, h2⟩ | ⟨h1, h2⟩
          · dsimp only at h1
            subst h1
            exact key _ h2 (by omega) (hK.2.1 100 .int (Or.inl rfl) rfl).2
          · dsimp only at h1
            subst h1
            exact key _ h2 (by omega) (hK.2.1 101 .long (Or.inr (Or.inl rfl)) rfl).2
        · cases hp
      · cases hp
    · cases hp
  all_goals exact nomatch (show (none : Option (List Value × im_H)) = some (st', h') from hp)
end IM3
