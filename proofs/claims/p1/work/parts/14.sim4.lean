/-! THE INTERPRETER IS FOLLOWED: calls -/
def im_cln (ad : String) : MethodName := ⟨ad, "clone", "()Ljava/lang/Object;"⟩
/-- what the tables must say of a call -/
def im_co (Ts nw : List Cond) (tb : List im_M) (y : MethodName) (e : im_E) : Prop :=
  (e.2.2.2.1 = 0 ∧ ∃ ix, e.2.1 = .invokespecial ix ∧ Cond.methodLink y.cls ix objectInit ∈ Ts) ∨
  (e.2.2.2.1 = 8 ∧ ∃ ix, e.2.1 = .invokestatic ix ∧ Cond.methodLink y.cls ix arraycopyName ∈ Ts) ∨
  (e.2.2.2.1 = 9 ∧ ∃ ix ad, e.2.1 = .invokevirtual ix ∧ ((e.2.2.2.2.1 = 100 ∧ ad = "[I") ∨ (e.2.2.2.2.1 = 101 ∧ ad = "[J")) ∧ Cond.methodLink y.cls ix (im_cln ad) ∈ Ts ∧ Cond.sameMethod ad "java/lang/Object" "clone" "()Ljava/lang/Object;" ∈ Ts ∧ Cond.selects ad (im_cln ad) (im_cln "java/lang/Object") ∈ Ts ∧ Cond.castable ad "java/lang/Cloneable" ∈ nw) ∨
  (e.2.2.2.1 = 10 ∧ ∃ ix, e.2.1 = .invokestatic ix ∧ Cond.methodLink y.cls ix Lib.Math.min.name ∈ Ts ∧ Cond.static Lib.Math.min.name ∈ Ts ∧ Cond.code Lib.Math.min.name Lib.Math.min.code 2 (some .int) ∈ Ts ∧ Cond.initialized "java/lang/Math" ∈ Ts) ∨
  (e.2.2.2.1 = 11 ∧ ∃ ix, e.2.1 = .invokestatic ix ∧ Cond.methodLink y.cls ix Lib.Math.max.name ∈ Ts ∧ Cond.static Lib.Math.max.name ∈ Ts ∧ Cond.code Lib.Math.max.name Lib.Math.max.code 2 (some .int) ∈ Ts ∧ Cond.initialized "java/lang/Math" ∈ Ts) ∨
  (e.2.2.2.1 = 12 ∧ ∃ ix, e.2.1 = .invokestatic ix ∧ Cond.methodLink y.cls ix Lib.MathLoose.abs_long.x ∈ Ts ∧ Cond.static Lib.MathLoose.abs_long.x ∈ Ts ∧ Cond.code Lib.MathLoose.abs_long.x Lib.MathLoose.abs_long.code 2 (some .long) ∈ Ts ∧ Cond.initialized "java/lang/Math" ∈ Ts) ∨
  ∃ mi : im_M, tb[e.2.2.2.2.1]? = some mi ∧ (parseMethodDescriptor mi.1.desc).map (fun d => d.parameters.length) = some e.2.2.2.2.2.1 ∧
    ((e.2.2.2.1 = 1 ∧ ∃ ix, e.2.1 = .invokevirtual ix ∧ Cond.methodLink y.cls ix mi.1 ∈ Ts ∧ Cond.instanceMethod mi.1 ∈ Ts ∧ Cond.selects mi.1.cls mi.1 mi.1 ∈ Ts) ∨
     (e.2.2.2.1 = 3 ∧ ∃ ix, e.2.1 = .invokespecial ix ∧ Cond.methodLink y.cls ix mi.1 ∈ Ts ∧ Cond.instanceMethod mi.1 ∈ Ts ∧ mi.1.name = "<init>" ∧ mi.2.2.2.1 = none) ∨
     (e.2.2.2.1 = 4 ∧ ∃ ix host, e.2.1 = .invokespecial ix ∧ Cond.methodLinkNest y.cls ix mi.1 host ∈ nw ∧ Cond.instanceMethod mi.1 ∈ Ts ∧ mi.1.name = "<init>" ∧ mi.2.2.2.1 = none) ∨
     (e.2.2.2.1 = 5 ∧ ∃ ix, e.2.1 = .invokestatic ix ∧ Cond.methodLink y.cls ix mi.1 ∈ Ts ∧ Cond.static mi.1 ∈ Ts) ∨
     (e.2.2.2.1 = 7 ∧ ∃ ix host, e.2.1 = .invokestatic ix ∧ Cond.methodLinkNest y.cls ix mi.1 host ∈ nw ∧ Cond.static mi.1 ∈ Ts))
/-- what the tables must say of a method -/
def im_mo (Ts : List Cond) (cl : List vw_C) (mi : im_M) : Prop :=
  Cond.code mi.1 mi.2.1 mi.2.2.1 mi.2.2.2.1 ∈ Ts ∧ Cond.initialized mi.1.cls ∈ Ts ∧ mi.1.cls ≠ "java/lang/invoke/MethodHandle" ∧ mi.1.cls ≠ "java/lang/invoke/VarHandle" ∧ plainName mi.1.cls = true ∧ mi.2.2.1 ≤ 24 ∧ mi.2.2.2.2.1 < 50 ∧
  ∀ r : vw_C, cl[mi.2.2.2.2.1]? = some r → r.1 = mi.1.cls
/-- what they must say of the natives -/
def im_gf (Ts : List Cond) : Prop :=
  (∀ w ∈ Ts, goodWord w = true) ∧ Cond.instanceMethod objectInit ∈ Ts ∧ Cond.code objectInit ⟨#[0xb1]⟩ 1 none ∈ Ts ∧ Cond.native arraycopyName ∈ Ts ∧ Cond.static arraycopyName ∈ Ts ∧ Cond.initialized "java/lang/System" ∈ Ts ∧ Cond.native (im_cln "java/lang/Object") ∈ Ts ∧ Cond.instanceMethod (im_cln "java/lang/Object") ∈ Ts
def im_rm (d : Nat) (h h' : im_H) : Room := { frames := d, cells := h'.1 - h.1, slots := h'.2.1 - h.2.1, locals := 43 * d }
def im_Pc (D : va_G) (dA : Nat → ClassId) (cl : List vw_C) (rA : List Nat) (nw : List Cond) (b z L : Nat) (xs : Nat → Int32) (Hs : Heap) (as : List Value) (h : im_H) : Array Value → State → Prop := fun v U => v = (as.map (im_sh b z)).toArray ∧ im_Rl D dA cl rA b z L xs Hs U.heap h ∧ im_K D dA cl rA nw b L xs Hs U
def im_Qc (D : va_G) (dA : Nat → ClassId) (cl : List vw_C) (rA : List Nat) (nw : List Cond) (b z L : Nat) (xs : Nat → Int32) (Hs : Heap) (r : im_R) : Array Value → State → Outcome → State → Prop := fun _ _ o t => o = .returned (r.2.map (im_sh b z)) ∧ im_Rl D dA cl rA b z L xs Hs t.heap r.1
def im_Met (l : Launch) (Ts : List Cond) (D : va_G) (dA : Nat → ClassId) (cl : List vw_C) (rA : List Nat) (nw : List Cond) (b z L : Nat) (xs : Nat → Int32) (Hs : Heap) (d : Nat) (mi : im_M) (as : List Value) (h : im_H) (r : im_R) : Prop :=
  Met l mi.1 (Cond.code mi.1 mi.2.1 mi.2.2.1 mi.2.2.2.1 :: Ts) (im_rm d h r.1) (im_Pc D dA cl rA nw b z L xs Hs as h) (im_Qc D dA cl rA nw b z L xs Hs r) (r.1.1 - h.1) (r.1.2.1 - h.2.1) (fun q => z ≤ q)
theorem im_cp_sh (b z : Nat) (f g : Nat → Value) (sp dp n : Nat) : (fun k => im_sh b z (im_cp f g sp dp n k)) = va_cpy (fun k => im_sh b z (f k)) (fun k => im_sh b z (g k)) sp dp n := by
  funext k
  unfold im_cp va_cpy
  split <;> rfl
theorem im_ar_ok {n : Nat} {st as rest : List Value} (h : im_ar n st = some (as, rest)) : st = as.reverse ++ rest ∧ as.length = n := by
  unfold im_ar at h
  split at h
  · cases h
    rename_i hn
    refine ⟨by rw [List.reverse_reverse, List.take_append_drop], ?_⟩
    rw [List.length_reverse, List.length_take]
    omega
  · cases h
theorem im_ra {a c n R : Nat} (h1 : n ≤ a) (h2 : a ≤ c) (h3 : c - n ≤ R) : a - n + (c - a) ≤ R := by omega
theorem im_goodIn {Ts : List Cond} (hg : im_gf Ts) {w : Cond} (hw : w ∈ Ts) : GoodIn Ts (w :: Ts) := by
  intro v hv
  rcases List.mem_cons.mp hv with rfl | hv
  · exact ⟨hw, good_of_word (hg.1 _ hw)⟩
  · exact ⟨hv, good_of_word (hg.1 _ hv)⟩
section IM4
variable {p : Program} {l : Launch} {e : Env} {R : Room} {s : State} {m : MethodId} {args : Array Value} {below : List Frame} {meth : Method} {c : Code} {H : Heap} {locs : List Loc} {Q : State → Prop}
variable {cc : ByteArray} {ls : Array Slot} {pc : Nat} {cells slots : Nat}
variable {D : va_G} {dA : Nat → ClassId} {cl : List vw_C} {rA : List Nat} {nw : List Cond} {b z L : Nat} {xs : Nat → Int32} {Hs : Heap} {h : im_H} {Ts : List Cond} {kd : Nat → Nat → Nat} {nf : Nat → Nat} {y : MethodName}
theorem im_pre (hn : im_nw nw) (hR : im_Rl D dA cl rA b z L xs Hs H h) (hK : im_K D dA cl rA nw b L xs Hs s) (as : List Value) : PreS s H (im_Pc D dA cl rA nw b z L xs Hs as h) (as.map (im_sh b z)) :=
  ⟨fun _ U g mk q => ⟨q.1, q.2.1, im_K.same (s := U) hn rfl q.2.2⟩, fun U hU hW => ⟨rfl, by rw [hU]; exact hR, hK.warm hn hW⟩⟩
theorem im_go {st0 rest : List Value} {mc ms : Nat} {r : im_R} {a : Array Value} (hr : va_Run p l e R s m args below meth c H locs cells slots mc ms (F0 m pc ls st0) rest (im_Qc D dA cl rA nw b z L xs Hs r a) (fun q => z ≤ q)) (hlo : ∀ q ∈ locs, z ≤ q.base)
    (K : ∀ (H' : Heap) (locs' : List Loc), im_Rl D dA cl rA b z L xs Hs H' r.1 → (∀ q ∈ locs', z ≤ q.base) → W p l e R s m args below meth c H' locs' (cells + mc) (slots + ms) Q (F0 m (pc + 3) ls ((r.2.map (im_sh b z)).toList ++ rest))) : W p l e R s m args below meth c H locs cells slots Q (F0 m pc ls st0) := by
  intro T hT X
  obtain ⟨v, st₀, t, T', L', h0, X', hL, e1, e2, ⟨hv, hR⟩, st⟩ := hr T hT X
  have hv : v = r.2.map (im_sh b z) := by cases hv; rfl
  subst hv
  obtain ⟨t2, a1, b1⟩ := K T'.heap (locs ++ L') (by rw [e1]; exact hR) (fun q hq => by
      rcases List.mem_append.mp hq with h | h
      · exact hlo q h
      · exact hL q h) T' rfl X'
  exact ⟨t2, st t2 a1, b1⟩
set_option maxHeartbeats 4000000 in
set_option maxRecDepth 100000 in
theorem im_c_ok {tb : List im_M} {cal : Nat → List Value → im_H → Option im_R} {d nL : Nat} (hx : p.tables.exec = Jvm.exec) (hb : c.code = cc) (hml : c.maxLocals = nL) (hls : ls.size = nL) (hts : ∀ w ∈ Ts, w.before args s = true) (hown : s.vm.findClass y.cls = some m.cls) (hK : im_K D dA cl rA nw b L xs Hs s) (hcf : im_cf Ts cl rA kd) (hgf : im_gf Ts) (hnw : im_nw nw) (hmo : ∀ (M : Nat) (mi : im_M), tb[M]? = some mi → im_mo Ts cl mi)
    (hRf : d + 1 ≤ R.frames) (hRl : 43 * (d + 1) ≤ R.locals) (IH : ∀ (M : Nat) (as : List Value) (h : im_H) (r : im_R) (mi : im_M), cal M as h = some r → tb[M]? = some mi → im_Met l Ts D dA cl rA nw b z L xs Hs d mi as h r) (mono : ∀ (M : Nat) (as : List Value) (h : im_H) (r : im_R), cal M as h = some r → h.1 ≤ r.1.1 ∧ h.2.1 ≤ r.1.2.1)
    {er : im_E} (hok : im_co Ts nw tb y er) (hd : decode cc er.1 = .ok (er.2.1, er.2.2.1)) (hn : ∀ k, im_ln er.2.1 = some k → er.2.2.1 = k) (hR : im_Rl D dA cl rA b z L xs Hs H h) (hlo : ∀ q ∈ locs, z ≤ q.base) {st st' : List Value} {h' : im_H} (hp : im_c tb cal er st h = some (st', h'))
    {n0 u0 : Nat} (hn0 : n0 ≤ h.1) (hu0 : u0 ≤ h.2.1) (hc1 : h'.1 - n0 ≤ R.cells) (hs1 : h'.2.1 - u0 ≤ R.slots)
    (K : ∀ (H' : Heap) (locs' : List Loc), im_Rl D dA cl rA b z L xs Hs H' h' → (∀ q ∈ locs', z ≤ q.base) → W p l e R s m args below meth c H' locs' (h'.1 - n0) (h'.2.1 - u0) Q (F0 m (er.1 + er.2.2.1) ls (st'.map (im_sh b z)))) :
    W p l e R s m args below meth c H locs (h.1 - n0) (h.2.1 - u0) Q (F0 m er.1 ls (st.map (im_sh b z))) := by
  have room : ∀ (rest : List Value), (rest.map fun v => v.category).sum ≤ 8 → 2 * (F0 m er.1 ls (st.map (im_sh b z))).monitorRoom + ((rest.map (im_sh b z)).map fun v => v.category).sum ≤ 8 := fun rest hr => lv_room (by rw [im_sh_sum]; exact hr)
  -- behind a call
  have behind : ∀ (r : im_R) (rest : List Value) (a : Array Value), st' = r.2.toList ++ rest → h' = r.1 → h.1 ≤ r.1.1 ∧ h.2.1 ≤ r.1.2.1 → er.2.2.1 = 3 →
      va_Run p l e R s m args below meth c H locs (h.1 - n0) (h.2.1 - u0) (r.1.1 - h.1) (r.1.2.1 - h.2.1) (F0 m er.1 ls (st.map (im_sh b z))) (rest.map (im_sh b z)) (im_Qc D dA cl rA nw b z L xs Hs r a) (fun q => z ≤ q) →
      W p l e R s m args below meth c H locs (h.1 - n0) (h.2.1 - u0) Q (F0 m er.1 ls (st.map (im_sh b z))) := by
    intro r rest a e1 e2 hm e3 hr
    refine im_go hr hlo fun H' locs' hR' hlo' => ?_
    subst e2
    have K1 := K H' locs' hR' hlo'
    rw [e3, e1, List.map_append, show (r.2.toList.map (im_sh b z)) = (r.2.map (im_sh b z)).toList by cases r.2 <;> rfl, show r.1.1 - n0 = h.1 - n0 + (r.1.1 - h.1) by omega, show r.1.2.1 - u0 = h.2.1 - u0 + (r.1.2.1 - h.2.1) by omega] at K1
    exact K1
  rcases hok with ⟨hk0, ix, hi, hlk⟩ | ⟨hk0, ix, hi, hlk⟩ | ⟨hk0, ix, ad, hi, had, hlk, hsame, hsel, hcast⟩ | ⟨hk0, ix, hi, hlk, hsta, hcod, hini0⟩ | ⟨hk0, ix, hi, hlk, hsta, hcod, hini0⟩ | ⟨hk0, ix, hi, hlk, hsta, hcod, hini0⟩ | ⟨mi, hmi, har, hkind⟩
  · -- Object()
    unfold im_c at hp
    rw [if_pos hk0] at hp
    unfold im_c0 at hp
    split at hp
    · rename_i a r
      split at hp
      · rename_i hr8
        cases hp
        have e1 : er.2.2.1 = 3 := hn 3 (by rw [hi]; rfl)
        rw [hi, e1] at hd
        rw [e1] at K
        have r8 := room st' hr8
        exact W.objInit hx hb hown (hts _ hlk) (hts _ hgf.2.1) (hts _ hgf.2.2.1) rfl (hls.trans hml.symm) rfl hd (by omega) (by omega) (K H locs hR hlo)
      · cases hp
    · cases hp
  · -- arraycopy
    unfold im_c at hp
    rw [if_neg (by omega), if_pos hk0] at hp
    unfold im_c8 at hp
    split at hp
    · rename_i n dp a sp a0 r
      split at hp
      · rename_i t0 n0' f ha0
        split at hp
        rotate_left
        · cases hp
        rename_i t1 n1 g ha1
        split at hp
        · rename_i hc
          cases hp
          obtain ⟨rfl, htt, h1, h2, h3, h4, h5, hr8⟩ := hc
          have e1 : er.2.2.1 = 3 := hn 3 (by rw [hi]; rfl)
          rw [hi, e1] at hd
          rw [e1] at K
          have hane := (hR.cell ha1 (show t0 ≠ 99 by omega)).1
          obtain ⟨ht, hwt0, hc0⟩ := hR.arr ha0 (by omega)
          obtain ⟨-, hwt1, hc1'⟩ := hR.arr ha1 (by omega)
          obtain ⟨ty, hty, hA, -⟩ := im_arrT hcf hK ht
          have hprim : refKind ty = false ∧ ∀ k, fits ty (im_sh b z (f k)) = true ∧ ∀ (U : State) (q : ClassId), U.takes q (im_sh b z (f k)) := by
            rcases htt with rfl | rfl
            · cases hty
              refine ⟨rfl, fun k => ?_⟩
              obtain ⟨x, hx'⟩ := hwt0.1 rfl k
              have hx' : f k = .int x := hx'
              rw [hx']
              exact ⟨rfl, fun _ _ => trivial⟩
            · cases hty
              refine ⟨rfl, fun k => ?_⟩
              obtain ⟨x, hx'⟩ := hwt0.2 rfl k
              have hx' : f k = .long x := hx'
              rw [hx']
              exact ⟨rfl, fun _ _ => trivial⟩
          have nn : ∀ w : Int32, ¬ w < 0 → w.toInt = (w.toNatClampNeg : Int) := by
            intro w hw
            have hw0 : (0 : Int) ≤ w.toInt := by
              have := Int32.not_lt.mp hw
              simpa using Int32.le_iff_toInt_le.mp this
            show w.toInt = ((w.toInt.toNat : Nat) : Int)
            omega
          have r8 := room st' hr8
          obtain ⟨-, k0, hk0', cm0, hkk0⟩ := hA n0' (fun k => im_sh b z (f k))
          intro T hT X
          obtain ⟨vm', X', step⟩ := X.arraycopy hx hown (hts _ hlk) (hts _ hgf.2.2.2.1) (hts _ hgf.2.2.2.2.1) (hts _ hgf.2.2.2.2.2.1) (src := im_ad b z a0) (dst := im_ad b z a) (cs := arrV (dA t0) n0' fun k => im_sh b z (f k)) (cd := arrV (dA t0) n1 fun k => im_sh b z (g k)) (srcPos := sp) (destPos := dp) (n := n) (by rw [hT]; exact hc0) (by rw [hT]; exact hc1')
            (fun _ h => by cases h) (fun _ h => by cases h) (fun h => by cases h) (fun h => by cases h) hk0' hk0' hkk0 hkk0 (by simp [hprim.1]) h1 h2 h3
            (by rw [nn sp h1, nn n h3, arrV_size]; omega) (by rw [nn dp h2, nn n h3, arrV_size]; omega)
            (fun vm₁ _ i hi' => by
              have e2 : (arrV (dA t0) n0' fun k => im_sh b z (f k)).slots.getD (sp.toNatClampNeg + i) .null = im_sh b z (f (sp.toNatClampNeg + i)) := by
                rw [Array.getD_eq_getD_getElem?, arrV_read _ _ (by omega)]
                rfl
              rw [e2]
              exact ⟨(hprim.2 _).1, (hprim.2 _).2 _ _⟩)
            (g := F0 m er.1 ls ((Value.int n :: .int dp :: .ref a :: .int sp :: .ref a0 :: st').map (im_sh b z))) rfl (hls.trans hml.symm) (rest := st'.map (im_sh b z)) rfl (by rw [hb]; exact hd) (by omega)
            (by have e3 : nativeFrameWords "java/lang/System" "arraycopy" 5 = 7 := by decide +kernel
                rw [e3]
                have r8' : 2 * (F0 m er.1 ls ((Value.int n :: .int dp :: .ref a :: .int sp :: .ref a0 :: st').map (im_sh b z))).monitorRoom + ((st'.map (im_sh b z)).map fun v => v.category).sum ≤ 8 := r8
                omega)
          have e1 : copied (arrV (dA t0) n0' fun k => im_sh b z (f k)) (arrV (dA t0) n1 fun k => im_sh b z (g k)) sp dp n = arrV (dA t0) n1 (fun k => im_sh b z (im_cp f g sp.toNatClampNeg dp.toNatClampNeg n.toNatClampNeg k)) := by
            rw [im_cp_sh]
            exact va_copied (fun v => v) (dA t0) (dA t0) _ _ h4
          rw [e1] at X' step
          have hl : im_ad b z a < H.size := (Array.getElem?_eq_some_iff.mp hc1').1
          generalize hY : arrV (dA t0) n1 (fun k => im_sh b z (im_cp f g sp.toNatClampNeg dp.toNatClampNeg n.toNatClampNeg k)) = Y at X' step
          have hheap : ((T.setVm vm').setCell (im_ad b z a) Y).heap = H.setIfInBounds (im_ad b z a) Y := by rw [← hT]; rfl
          have oq : ∀ q : Nat, q ≠ im_ad b z a → (H.setIfInBounds (im_ad b z a) Y)[q]? = H[q]? := fun q hq => by simp [Array.getElem?_setIfInBounds, Ne.symm hq]
          have hwt2 : im_wt (t0, n1, im_cp f g sp.toNatClampNeg dp.toNatClampNeg n.toNatClampNeg) := by
            refine ⟨fun q k => ?_, fun q k => ?_⟩
            · show ∃ x, im_cp f g _ _ _ k = .int x
              unfold im_cp
              split
              · exact hwt0.1 q _
              · exact hwt1.1 q _
            · show ∃ x, im_cp f g _ _ _ k = .long x
              unfold im_cp
              split
              · exact hwt0.2 q _
              · exact hwt1.2 q _
          obtain ⟨t, a1, b1⟩ := K _ _ (hR.wr ha1 (show t0 ≠ 99 by omega) (Or.inr ⟨ht, hwt2, by
              show (H.setIfInBounds (im_ad b z a) Y)[im_ad b z a]? = _
              rw [hY]
              simp [Array.getElem?_setIfInBounds, hl]⟩) (by simp) oq) (fun q hq => by
            rcases List.mem_append.mp hq with h | h
            · exact hlo q h
            · obtain ⟨w, -, hw⟩ := List.mem_map.mp h
              rw [← hw]
              show z ≤ im_ad b z a
              rw [im_ad_pos b z hane]
              omega) _ hheap X'
          exact ⟨t, step t a1, b1⟩
        · cases hp
      · cases hp
    · cases hp
  · -- clone
    unfold im_c at hp
    rw [if_neg (by omega), if_neg (by omega), if_pos hk0] at hp
    unfold im_c9 at hp
    split at hp
    · rename_i a r
      split at hp
      · rename_i t n f ha
        split at hp
        · rename_i hc
          cases hp
          obtain ⟨htt, hteq, hr8⟩ := hc
          have e1 : er.2.2.1 = 3 := hn 3 (by rw [hi]; rfl)
          rw [hi, e1] at hd
          rw [e1] at K
          obtain ⟨ht, hwt, hcell⟩ := hR.arr ha (by omega)
          have hfa : s.vm.findClass ad = some (dA t) := by
            rcases had with ⟨q1, rfl⟩ | ⟨q1, rfl⟩
            · have : t = 100 := by omega
              subst this
              exact (hK.2.1 100 .int (Or.inl rfl) rfl).2
            · have : t = 101 := by omega
              subst this
              exact (hK.2.1 101 .long (Or.inr (Or.inl rfl)) rfl).2
          obtain ⟨ty, hty, hA, -⟩ := im_arrT hcf hK ht
          have hfit : ∀ k, fits ty (im_sh b z (f k)) = true := by
            intro k
            rcases htt with rfl | rfl
            · cases hty
              obtain ⟨x, hx'⟩ := hwt.1 rfl k
              have hx' : f k = .int x := hx'
              rw [hx']
              rfl
            · cases hty
              obtain ⟨x, hx'⟩ := hwt.2 rfl k
              have hx' : f k = .long x := hx'
              rw [hx']
              rfl
          obtain ⟨c0, t0', f1, f2, f3⟩ := Cond.castable_spec (va_Nw.use (A := args) rfl (hK.2.2.1 _ hcast))
          cases hfa.symm.trans f1
          have r8 := room r hr8
          dsimp only [im_mk] at hc1 hs1 K
          intro T hT X
          have hcellT : T.heap[im_ad b z a]? = some (arrV (dA t) n fun k => im_sh b z (f k)) := by rw [hT]; exact hcell
          obtain ⟨-, kA, hkA, comp, hkindA⟩ := State.isArrayOf_alike X.warmed.alike (hA 0 (fun _ => .null))
          obtain ⟨-, kS, hkS, compS, hkindS⟩ := hA 0 (fun _ => .null)
          obtain ⟨vm', X', stp⟩ := X.cloneArray hx hown (hts _ hlk) (hts _ hsame) (hts _ hgf.2.2.2.2.2.2.1) (hts _ hgf.2.2.2.2.2.2.2) (hts _ hsel) (a := im_ad b z a) hcellT (fun k h => by cases h) (fun h => by cases h) hfa f2 f3
            (fun i v hv => by
              have hk' : T.vm.classes[dA t]? = some kA := hkA
              have hlt : i < n := by
                have := (Array.getElem?_eq_some_iff.mp hv).1
                rw [arrV_size] at this
                exact this
              rw [arrV_read _ _ hlt] at hv
              cases hv
              show T.fitsSlot (dA t) .none i _ = true
              simpa [State.fitsSlot, State.slotType?, hk', hkindA] using hfit i)
            (g := F0 m er.1 ls ((Value.ref a :: r).map (im_sh b z))) rfl (hls.trans hml.symm) (rest := r.map (im_sh b z)) rfl (by rw [hb]; exact hd) (by omega)
            (by have r8' : 2 * (F0 m er.1 ls ((Value.ref a :: r).map (im_sh b z))).monitorRoom + ((r.map (im_sh b z)).map fun v => v.category).sum ≤ 8 := r8
                omega) (by omega) (by rw [arrV_size]; omega) (hloader := Vm.clonesLoader_of_array hkS hkindS)
          have hcE : ({ cls := (arrV (dA t) n fun k => im_sh b z (f k)).cls, slots := (arrV (dA t) n fun k => im_sh b z (f k)).slots } : Cell) = arrV (dA t) n fun k => im_sh b z (f k) := rfl
          rw [hcE] at X' stp
          rw [arrV_size] at X'
          obtain ⟨t2, a1, b1⟩ := K (H.push (arrV (dA t) n fun k => im_sh b z (f k))) locs (hR.mk (by rw [Array.size_push]) (Or.inr ⟨ht, hwt, by rw [Array.getElem?_push_size]⟩) (fun q hq => by rw [Array.getElem?_push, if_neg (Nat.ne_of_lt hq)])) hlo ((T.setVm vm').pushCell (arrV (dA t) n fun k => im_sh b z (f k))) (by rw [← hT]; rfl)
            (by rw [show h.1 + 1 - n0 = h.1 - n0 + 1 by omega, show h.2.1 + n - u0 = h.2.1 - u0 + n by omega]; exact X')
          rw [List.map_cons, show im_sh b z (.ref h.1) = .ref T.heap.size by show Value.ref (im_ad b z h.1) = _; rw [hR.top, hT]] at a1
          exact ⟨t2, stp t2 a1, b1⟩
        · cases hp
      · cases hp
    · cases hp
  · -- Math
    unfold im_c at hp
    rw [if_neg (by omega), if_neg (by omega), if_neg (by omega), if_pos hk0] at hp
    unfold im_c10 at hp
    split at hp
    · rename_i y0 x0 r
      split at hp
      · rename_i hr8
        cases hp
        have e1 : er.2.2.1 = 3 := hn 3 (by rw [hi]; rfl)
        rw [hi, e1] at hd
        rw [e1] at K
        have r8 := room r hr8
        have r9 : ((r.map (im_sh b z)).map fun v => v.category).sum ≤ 8 := by rw [im_sh_sum]; exact hr8
        exact va_mmin hx hb (hml.trans hls.symm) hown (hts _ hlk) (hts _ hsta) (hts _ hini0) (hts _ hcod) (by omega) (by omega) hc1 hs1 hd (K H locs hR hlo)
      · cases hp
    · cases hp
  · -- Math
    unfold im_c at hp
    rw [if_neg (by omega), if_neg (by omega), if_neg (by omega), if_neg (by omega), if_pos hk0] at hp
    unfold im_c11 at hp
    split at hp
    · rename_i y0 x0 r
      split at hp
      · rename_i hr8
        cases hp
        have e1 : er.2.2.1 = 3 := hn 3 (by rw [hi]; rfl)
        rw [hi, e1] at hd
        rw [e1] at K
        have r8 := room r hr8
        have r9 : ((r.map (im_sh b z)).map fun v => v.category).sum ≤ 8 := by rw [im_sh_sum]; exact hr8
        exact va_mmax hx hb (hml.trans hls.symm) hown (hts _ hlk) (hts _ hsta) (hts _ hini0) (hts _ hcod) (by omega) (by omega) hc1 hs1 hd (K H locs hR hlo)
      · cases hp
    · cases hp
  · -- Math
    unfold im_c at hp
    rw [if_neg (by omega), if_neg (by omega), if_neg (by omega), if_neg (by omega), if_neg (by omega), if_pos hk0] at hp
    unfold im_c12 at hp
    split at hp
    · rename_i x0 r
      split at hp
      · rename_i hr8
        cases hp
        have e1 : er.2.2.1 = 3 := hn 3 (by rw [hi]; rfl)
        rw [hi, e1] at hd
        rw [e1] at K
        have r8 := room r hr8
        have r9 : ((r.map (im_sh b z)).map fun v => v.category).sum ≤ 8 := by rw [im_sh_sum]; exact hr8
        exact va_mabs_long hx hb (hml.trans hls.symm) hown (hts _ hlk) (hts _ hsta) (hts _ hini0) (hts _ hcod) (by omega) (by omega) hc1 hs1 hd (K H locs hR hlo)
      · cases hp
    · cases hp
  · -- methods of the table
    have hM := hmo _ _ hmi
    have e1 : er.2.2.1 = 3 := by
      rcases hkind with ⟨-, ix, hi, -⟩ | ⟨-, ix, hi, -⟩ | ⟨-, ix, _, hi, -⟩ | ⟨-, ix, hi, -⟩ | ⟨-, ix, _, hi, -⟩ <;> exact hn 3 (by rw [hi]; rfl)
    have hdd : mi.1.cls ≠ "java/lang/invoke/MethodHandle" ∧ mi.1.cls ≠ "java/lang/invoke/VarHandle" ∧ (parseMethodDescriptor mi.1.desc).map (fun d => d.parameters.length) = some er.2.2.2.2.2.1 := ⟨hM.2.2.1, hM.2.2.2.1, har⟩
    have hG : GoodIn Ts (Cond.code mi.1 mi.2.1 mi.2.2.1 mi.2.2.2.1 :: Ts) := im_goodIn hgf hM.1
    have hini : (Cond.initialized mi.1.cls).before args s = true := hts _ hM.2.1
    have hRR : ∀ h0 h1 : im_H, (im_rm d h0 h1).frames + 1 ≤ R.frames ∧ 8 + (mi.2.2.1 + 11) + (im_rm d h0 h1).locals ≤ R.locals := by
      intro h0 h1
      have := hM.2.2.2.2.2.1
      exact ⟨hRf, by show 8 + (mi.2.2.1 + 11) + 43 * d ≤ R.locals; omega⟩
    have hfx : CallFix p m c cc nL s args Ts y.cls := ⟨hx, hb, hml, hown, hts⟩
    unfold im_c at hp
    have hk4 : ¬ er.2.2.2.1 = 0 ∧ ¬ er.2.2.2.1 = 8 ∧ ¬ er.2.2.2.1 = 9 ∧ ¬ er.2.2.2.1 = 10 ∧ ¬ er.2.2.2.1 = 11 ∧ ¬ er.2.2.2.1 = 12 := by
      rcases hkind with ⟨q, -⟩ | ⟨q, -⟩ | ⟨q, -⟩ | ⟨q, -⟩ | ⟨q, -⟩ <;> omega
    rw [if_neg hk4.1, if_neg hk4.2.1, if_neg hk4.2.2.1, if_neg hk4.2.2.2.1, if_neg hk4.2.2.2.2.1, if_neg hk4.2.2.2.2.2, hmi] at hp
    dsimp only at hp
    -- a receiver
    have inst : ¬ (er.2.2.2.1 = 5 ∨ er.2.2.2.1 = 7) → ∃ as rb rest r, st = as.reverse ++ .ref rb :: rest ∧ as.length = er.2.2.2.2.2.1 ∧ (rest.map fun v => v.category).sum ≤ 8 ∧ (∃ cellB : Cell, H[im_ad b z rb]? = some cellB ∧ cellB.vm.isStatics = false ∧ s.vm.findClass mi.1.cls = some cellB.cls) ∧ cal er.2.2.2.2.1 (.ref rb :: as) h = some r ∧ st' = r.2.toList ++ rest ∧ h' = r.1 := by
      intro hne
      rw [if_neg hne] at hp
      unfold im_cI at hp
      split at hp
      · rename_i q har'
        obtain ⟨hst, hlen⟩ := im_ar_ok (as := q.1) (rest := q.2) har'
        split at hp
        · rename_i rb rest hq
          split at hp
          · rename_i hr8
            split at hp
            · rename_i c0 hb'
              split at hp
              · rename_i htc
                unfold im_bk at hp
                split at hp
                · rename_i r hcal
                  cases hp
                  rw [hq] at hst
                  refine ⟨q.1, rb, rest, r, hst, hlen, hr8, ?_, hcal, rfl, rfl⟩
                  obtain ⟨t, n1, f1⟩ := c0
                  dsimp only at htc
                  have h50 : t < 50 := by rw [htc]; exact hM.2.2.2.2.2.2.1
                  obtain ⟨r, hr, -, cell, q1, q2, q3, -⟩ := hR.obj hb' h50
                  have hc := (hK.1.1 t r hr).2.1
                  have hr2 := hr
                  rw [htc] at hr2
                  rw [hM.2.2.2.2.2.2.2 r hr2] at hc
                  exact ⟨cell, q1, by rw [q3]; rfl, by rw [q2]; exact hc⟩
                · cases hp
              · cases hp
            · cases hp
          · cases hp
        · cases hp
      · cases hp
    have stat : (er.2.2.2.1 = 5 ∨ er.2.2.2.1 = 7) → ∃ as rest r, st = as.reverse ++ rest ∧ as.length = er.2.2.2.2.2.1 ∧ (rest.map fun v => v.category).sum ≤ 8 ∧ cal er.2.2.2.2.1 as h = some r ∧ st' = r.2.toList ++ rest ∧ h' = r.1 := by
      intro hne
      rw [if_pos hne] at hp
      unfold im_cS at hp
      split at hp
      · rename_i q har'
        obtain ⟨hst, hlen⟩ := im_ar_ok (as := q.1) (rest := q.2) har'
        split at hp
        · rename_i hr8
          unfold im_bk at hp
          split at hp
          · rename_i r hcal
            cases hp
            exact ⟨q.1, q.2, r, hst, hlen, hr8, hcal, rfl, rfl⟩
          · cases hp
        · cases hp
      · cases hp
    rcases hkind with ⟨hk0, ix, hi, hlk, hin, hsel⟩ | ⟨hk0, ix, hi, hlk, hin, hnm, hret⟩ | ⟨hk0, ix, host, hi, hlk, hin, hnm, hret⟩ | ⟨hk0, ix, hi, hlk, hst0⟩ | ⟨hk0, ix, host, hi, hlk, hst0⟩
    · obtain ⟨as, rb, rest, r, hst, hlen, hr8, hrecv, hcal, q1, q2⟩ := inst (by omega)
      have hmet := IH _ _ _ _ _ hcal hmi
      have hmn := mono _ _ _ _ hcal
      have hd2 := hd
      rw [hi, e1] at hd2
      have hpre := im_pre hnw hR hK (.ref rb :: as)
      subst hst
      refine behind r rest ((Value.ref rb :: as).map (im_sh b z)).toArray q1 q2 hmn e1 ?_
      rw [q2] at hc1 hs1
      exact va_runV (b := im_ad b z rb) (As := as.map (im_sh b z)) hfx hmet ⟨callB_of _ hts hG rfl rfl rfl hini (hts _ hlk) hdd (hRR _ _), hts _ hin, hts _ hsel⟩ ⟨hpre.1, hrecv, hpre.2⟩ rfl (by rw [List.length_map]; exact hlen) hls (by rw [List.map_append, List.map_reverse]; rfl) (room rest hr8) hd2 ⟨im_ra hn0 hmn.1 hc1, im_ra hu0 hmn.2 hs1⟩
    · obtain ⟨as, rb, rest, r, hst, hlen, hr8, hrecv, hcal, q1, q2⟩ := inst (by omega)
      have hmet := IH _ _ _ _ _ hcal hmi
      have hmn := mono _ _ _ _ hcal
      have hd2 := hd
      rw [hi, e1] at hd2
      have hpre := im_pre hnw hR hK (.ref rb :: as)
      subst hst
      refine behind r rest ((Value.ref rb :: as).map (im_sh b z)).toArray q1 q2 hmn e1 ?_
      rw [q2] at hc1 hs1
      unfold im_Met at hmet
      rw [hret] at hmet hG
      exact va_runI (b := im_ad b z rb) (As := as.map (im_sh b z)) hfx hmet ⟨callB_of _ hts hG rfl rfl rfl hini (hts _ hlk) hdd (hRR _ _), hnm, hts _ hin⟩ hpre rfl (by rw [List.length_map]; exact hlen) hls (by rw [List.map_append, List.map_reverse]; rfl) (room rest hr8) hd2 ⟨im_ra hn0 hmn.1 hc1, im_ra hu0 hmn.2 hs1⟩
    · obtain ⟨as, rb, rest, r, hst, hlen, hr8, hrecv, hcal, q1, q2⟩ := inst (by omega)
      have hmet := IH _ _ _ _ _ hcal hmi
      have hmn := mono _ _ _ _ hcal
      have hd2 := hd
      rw [hi, e1] at hd2
      have hpre := im_pre hnw hR hK (.ref rb :: as)
      subst hst
      refine behind r rest ((Value.ref rb :: as).map (im_sh b z)).toArray q1 q2 hmn e1 ?_
      rw [q2] at hc1 hs1
      unfold im_Met at hmet
      rw [hret] at hmet hG
      exact va_runIN (b := im_ad b z rb) (As := as.map (im_sh b z)) hfx hmet ⟨va_cnB _ hts hG rfl rfl rfl (hK.2.2.1 _ hlk) hini hdd (hRR _ _), hnm, hts _ hin⟩ hpre rfl (by rw [List.length_map]; exact hlen) hls (by rw [List.map_append, List.map_reverse]; rfl) (room rest hr8) hd2 ⟨im_ra hn0 hmn.1 hc1, im_ra hu0 hmn.2 hs1⟩
    · obtain ⟨as, rest, r, hst, hlen, hr8, hcal, q1, q2⟩ := stat (by omega)
      have hmet := IH _ _ _ _ _ hcal hmi
      have hmn := mono _ _ _ _ hcal
      have hd2 := hd
      rw [hi, e1] at hd2
      have hpre := im_pre hnw hR hK as
      subst hst
      refine behind r rest (as.map (im_sh b z)).toArray q1 q2 hmn e1 ?_
      rw [q2] at hc1 hs1
      exact va_runS (As := as.map (im_sh b z)) hfx hmet ⟨callB_of _ hts hG rfl rfl rfl hini (hts _ hlk) hdd (hRR _ _), hts _ hst0⟩ hpre rfl (by rw [List.length_map]; exact hlen) hls (by rw [List.map_append, List.map_reverse]) (room rest hr8) hd2 ⟨im_ra hn0 hmn.1 hc1, im_ra hu0 hmn.2 hs1⟩
    · obtain ⟨as, rest, r, hst, hlen, hr8, hcal, q1, q2⟩ := stat (by omega)
      have hmet := IH _ _ _ _ _ hcal hmi
      have hmn := mono _ _ _ _ hcal
      have hd2 := hd
      rw [hi, e1] at hd2
      have hpre := im_pre hnw hR hK as
      subst hst
      refine behind r rest (as.map (im_sh b z)).toArray q1 q2 hmn e1 ?_
      rw [q2] at hc1 hs1
      exact va_runSN (As := as.map (im_sh b z)) hfx hmet ⟨va_cnB _ hts hG rfl rfl rfl (hK.2.2.1 _ hlk) hini hdd (hRR _ _), hts _ hst0, trivial⟩ hpre rfl (by rw [List.length_map]; exact hlen) hls (by rw [List.map_append, List.map_reverse]) (room rest hr8) hd2 ⟨im_ra hn0 hmn.1 hc1, im_ra hu0 hmn.2 hs1⟩
end IM4
