/-! THE INTERPRETER IS FOLLOWED BY THE MACHINE: shift of places, locals, instructions of the groups 0, 1, 2 -/
def im_ad (b z : Nat) : Nat → Nat
  | 0 => b
  | k + 1 => z + k
def im_sh (b z : Nat) (v : Value) : Value := match v with
  | .ref k => .ref (im_ad b z k)
  | v => v
theorem im_sh_cat (b z : Nat) (v : Value) : (im_sh b z v).category = v.category := by cases v <;> rfl
theorem im_sh_sum (b z : Nat) (st : List Value) : ((st.map (im_sh b z)).map fun v => v.category).sum = (st.map fun v => v.category).sum := by
  rw [List.map_map]
  congr 1
  apply List.map_congr_left
  intro v _
  exact im_sh_cat b z v
def im_ml (b z : Nat) (lv : im_L) : im_L := lv.map (fun q => (q.1, im_sh b z q.2))
theorem im_ml_s1 (b z : Nat) (lv : im_L) (i : Nat) (v : Value) : (i, im_sh b z v) :: (im_ml b z lv).filter (fun q => !(q.1 == i) && !(q.1 + 1 == i && q.2.category == 2)) = im_ml b z (im_s1 lv i v) := by
  unfold im_ml im_s1
  rw [List.map_cons, List.filter_map]
  congr 3
  funext q
  simp only [Function.comp, im_sh_cat]
theorem im_ml_s2 (b z : Nat) (lv : im_L) (i : Nat) (v : Value) : (i, im_sh b z v) :: (im_ml b z lv).filter (fun q => !(q.1 == i) && (!(q.1 == i + 1) && !(q.1 + 1 == i && q.2.category == 2))) = im_ml b z (im_s2 lv i v) := by
  unfold im_ml im_s2
  rw [List.map_cons, List.filter_map]
  congr 3
  funext q
  simp only [Function.comp, im_sh_cat]
theorem im_lg_mem {lv : im_L} {i : Nat} {v : Value} (h : im_lg lv i = some v) : (i, v) ∈ lv := by
  induction lv with
  | nil => cases h
  | cons q r ih =>
    unfold im_lg at h
    split at h
    · rename_i hq
      cases h
      have : q.1 = i := Nat.eq_of_beq_eq_true hq
      subst this
      exact List.mem_cons_self
    · exact List.mem_cons_of_mem _ (ih h)
theorem im_lg_ok {b z : Nat} {ls : Array Slot} {nL : Nat} {lv : im_L} (hl : lv_has ls nL (im_ml b z lv)) {i : Nat} {v : Value} (h : im_lg lv i = some v) : ls[i]? = some (.val (im_sh b z v)) :=
  hl.2.2 (i, im_sh b z v) (List.mem_map.mpr ⟨(i, v), im_lg_mem h, rfl⟩)
theorem im_lg_ix {lv : im_L} {i : Nat} {v : Value} (h : im_lg lv i = some v) : ∃ k : Nat, lv[k]? = some (i, v) := List.getElem?_of_mem (im_lg_mem h)
/-- an instruction's length, where it is fixed -/
def im_ln (i : Instr) : Option Nat := match i with
  | .tableswitch .. | .lookupswitch .. => none
  | .bipush _ | .iload _ | .lload _ | .aload _ | .istore _ | .lstore _ | .astore _ | .ldc _ | .newarray _ => some 2
  | .sipush _ | .iinc _ _ | .ldc_w _ | .ldc2_w _ | .getfield _ | .putfield _ | .invokevirtual _ | .invokespecial _ | .invokestatic _ | .new _ | .anewarray _ | .checkcast _ | .goto _ | .ifCond _ _ | .if_icmp _ _ | .ifnull _ | .ifnonnull _ => some 3
  | _ => some 1
theorem im_tg_ok {pc t : Nat} {o : Int} (h : im_tg pc o = some t) : (pc : Int) + o = (t : Int) := by
  unfold im_tg at h
  split at h
  · rename_i t' e
    cases h
    exact e
  · cases h
section IM1
variable {p : Program} {l : Launch} {e : Env} {R : Room} {s : State} {m : MethodId} {args : Array Value} {below : List Frame} {meth : Method} {c : Code} {H : Heap} {locs : List Loc} {cells slots : Nat} {Q : State → Prop}
variable {cc : ByteArray} {pc : Nat} {ls : Array Slot} {b z : Nat}

set_option maxHeartbeats 4000000 in
set_option maxRecDepth 100000 in
theorem im_p_ok (hx : p.tables.exec = Jvm.exec) (hb : c.code = cc) {i : Instr} {len : Nat} {st st' : List Value} (hd : decode cc pc = .ok (i, len)) (hn : ∀ k, im_ln i = some k → len = k) (hp : im_p i st = some st')
    (K : W p l e R s m args below meth c H locs cells slots Q (F0 m (pc + len) ls (st'.map (im_sh b z)))) : W p l e R s m args below meth c H locs cells slots Q (F0 m pc ls (st.map (im_sh b z))) := by
  cases i
  case aconst_null =>
    have e1 := hn 1 rfl; subst e1
    cases hp
    exact lv_null hx hb hd K
  case iconst n =>
    have e1 := hn 1 rfl; subst e1
    cases hp
    exact lv_iconst hx hb hd rfl K
  case bipush n =>
    have e1 := hn 2 rfl; subst e1
    cases hp
    exact lv_bipush hx hb hd rfl K
  case sipush n =>
    have e1 := hn 3 rfl; subst e1
    cases hp
    exact lv_sipush hx hb hd rfl K
  case lconst n =>
    have e1 := hn 1 rfl; subst e1
    cases hp
    exact lv_lconst hx hb hd rfl K
  case iadd =>
    have e1 := hn 1 rfl; subst e1
    dsimp only [im_p] at hp
    split at hp
    · cases hp
      exact lv_iadd hx hb hd K
    · cases hp
  case isub =>
    have e1 := hn 1 rfl; subst e1
    dsimp only [im_p] at hp
    split at hp
    · cases hp
      exact lv_isub hx hb hd K
    · cases hp
  case imul =>
    have e1 := hn 1 rfl; subst e1
    dsimp only [im_p] at hp
    split at hp
    · cases hp
      exact lv_imul hx hb hd K
    · cases hp
  case iand =>
    have e1 := hn 1 rfl; subst e1
    dsimp only [im_p] at hp
    split at hp
    · cases hp
      exact lv_iand hx hb hd K
    · cases hp
  case ior =>
    have e1 := hn 1 rfl; subst e1
    dsimp only [im_p] at hp
    split at hp
    · cases hp
      exact lv_ior hx hb hd K
    · cases hp
  case ixor =>
    have e1 := hn 1 rfl; subst e1
    dsimp only [im_p] at hp
    split at hp
    · cases hp
      exact lv_ixor hx hb hd K
    · cases hp
  case ineg =>
    have e1 := hn 1 rfl; subst e1
    dsimp only [im_p] at hp
    split at hp
    · cases hp
      exact lv_ineg hx hb hd K
    · cases hp
  case ishl =>
    have e1 := hn 1 rfl; subst e1
    dsimp only [im_p] at hp
    split at hp
    · cases hp
      exact lv_ishl hx hb hd K
    · cases hp
  case ishr =>
    have e1 := hn 1 rfl; subst e1
    dsimp only [im_p] at hp
    split at hp
    · cases hp
      exact lv_ishr hx hb hd K
    · cases hp
  case ladd =>
    have e1 := hn 1 rfl; subst e1
    dsimp only [im_p] at hp
    split at hp
    · cases hp
      exact lv_ladd hx hb hd K
    · cases hp
  case lsub =>
    have e1 := hn 1 rfl; subst e1
    dsimp only [im_p] at hp
    split at hp
    · cases hp
      exact lv_lsub hx hb hd K
    · cases hp
  case lmul =>
    have e1 := hn 1 rfl; subst e1
    dsimp only [im_p] at hp
    split at hp
    · cases hp
      exact lv_lmul hx hb hd K
    · cases hp
  case land =>
    have e1 := hn 1 rfl; subst e1
    dsimp only [im_p] at hp
    split at hp
    · cases hp
      exact lv_land hx hb hd K
    · cases hp
  case lor =>
    have e1 := hn 1 rfl; subst e1
    dsimp only [im_p] at hp
    split at hp
    · cases hp
      exact lv_lor hx hb hd K
    · cases hp
  case lneg =>
    have e1 := hn 1 rfl; subst e1
    dsimp only [im_p] at hp
    split at hp
    · cases hp
      exact lv_lneg hx hb hd K
    · cases hp
  case lcmp =>
    have e1 := hn 1 rfl; subst e1
    dsimp only [im_p] at hp
    split at hp
    · cases hp
      exact W.lcmp hx hb hd K
    · cases hp
  case iushr =>
    have e1 := hn 1 rfl; subst e1
    dsimp only [im_p] at hp
    split at hp
    · cases hp
      exact lv_iushr hx hb hd rfl K
    · cases hp
  case lshl =>
    have e1 := hn 1 rfl; subst e1
    dsimp only [im_p] at hp
    split at hp
    · cases hp
      exact lv_lshl hx hb hd rfl K
    · cases hp
  case lshr =>
    have e1 := hn 1 rfl; subst e1
    dsimp only [im_p] at hp
    split at hp
    · cases hp
      exact lv_lshr hx hb hd rfl K
    · cases hp
  case i2l =>
    have e1 := hn 1 rfl; subst e1
    dsimp only [im_p] at hp
    split at hp
    · cases hp
      exact lv_i2l hx hb hd rfl K
    · cases hp
  case l2i =>
    have e1 := hn 1 rfl; subst e1
    dsimp only [im_p] at hp
    split at hp
    · cases hp
      exact lv_l2i hx hb hd rfl K
    · cases hp
  case i2c =>
    have e1 := hn 1 rfl; subst e1
    dsimp only [im_p] at hp
    split at hp
    · cases hp
      exact lv_i2c hx hb hd rfl K
    · cases hp
  case idiv =>
    have e1 := hn 1 rfl; subst e1
    dsimp only [im_p] at hp
    split at hp
    · split at hp
      · cases hp
      · rename_i hne
        cases hp
        exact lv_idiv hx hb hd hne K
    · cases hp
  case ldiv =>
    have e1 := hn 1 rfl; subst e1
    dsimp only [im_p] at hp
    split at hp
    · split at hp
      · cases hp
      · rename_i hne
        cases hp
        exact lv_ldiv hx hb hd hne K
    · cases hp
  case lrem =>
    have e1 := hn 1 rfl; subst e1
    dsimp only [im_p] at hp
    split at hp
    · split at hp
      · cases hp
      · rename_i hne
        cases hp
        exact lv_lrem hx hb hd hne K
    · cases hp
  case dup =>
    have e1 := hn 1 rfl; subst e1
    dsimp only [im_p] at hp
    split at hp
    · cases hp
      exact lv_dup hx hb hd rfl K
    · cases hp
      exact lv_dup hx hb hd rfl K
    · cases hp
      exact lv_dup hx hb hd rfl K
    · cases hp
  case dup2 =>
    have e1 := hn 1 rfl; subst e1
    dsimp only [im_p] at hp
    split at hp
    · cases hp
      exact lv_dup2_2 hx hb hd rfl K
    · cases hp
      exact lv_dup2_11 hx hb hd rfl rfl K
    · cases hp
      exact lv_dup2_11 hx hb hd rfl rfl K
    · cases hp
  case pop =>
    have e1 := hn 1 rfl; subst e1
    dsimp only [im_p] at hp
    split at hp
    · rename_i v r
      cases hp
      exact lv_pop (va := .int v) hx hb hd rfl K
    · rename_i v r
      cases hp
      exact lv_pop (va := .ref (im_ad b z v)) hx hb hd rfl K
    · cases hp
      exact lv_pop (va := .null) hx hb hd rfl K
    · cases hp
  all_goals exact nomatch (show (none : Option (List Value)) = some st' from hp)
set_option maxHeartbeats 4000000 in
set_option maxRecDepth 100000 in
theorem im_l_ok (hx : p.tables.exec = Jvm.exec) (hb : c.code = cc) {i : Instr} {len nL : Nat} {lv lv' : im_L} {st st' : List Value} (hd : decode cc pc = .ok (i, len)) (hn : ∀ k, im_ln i = some k → len = k) (hl : lv_has ls nL (im_ml b z lv)) (hp : im_l nL i lv st = some (lv', st'))
    (K : ∀ ls' : Array Slot, lv_has ls' nL (im_ml b z lv') → W p l e R s m args below meth c H locs cells slots Q (F0 m (pc + len) ls' (st'.map (im_sh b z)))) : W p l e R s m args below meth c H locs cells slots Q (F0 m pc ls (st.map (im_sh b z))) := by
  cases i
  case iload k =>
    have e1 := hn 2 rfl; subst e1
    dsimp only [im_l] at hp
    split at hp
    · rename_i x hg
      cases hp
      exact lv_iload hx hb hd (im_lg_ok hl hg) (K _ hl)
    · cases hp
  case iload_n k =>
    have e1 := hn 1 rfl; subst e1
    dsimp only [im_l] at hp
    split at hp
    · rename_i x hg
      cases hp
      exact lv_iload_n hx hb hd rfl (im_lg_ok hl hg) (K _ hl)
    · cases hp
  case lload k =>
    have e1 := hn 2 rfl; subst e1
    dsimp only [im_l] at hp
    split at hp
    · rename_i x hg
      cases hp
      exact lv_lload hx hb hd (im_lg_ok hl hg) (K _ hl)
    · cases hp
  case lload_n k =>
    have e1 := hn 1 rfl; subst e1
    dsimp only [im_l] at hp
    split at hp
    · rename_i x hg
      cases hp
      exact lv_lload_n hx hb hd rfl (im_lg_ok hl hg) (K _ hl)
    · cases hp
  case aload k =>
    have e1 := hn 2 rfl; subst e1
    dsimp only [im_l] at hp
    split at hp
    · rename_i x hg
      cases hp
      exact lv_aload hx hb hd (im_lg_ok hl hg) (K _ hl)
    · rename_i hg
      cases hp
      exact lv_aloadN hx hb hd (im_lg_ok hl hg) (K _ hl)
    · cases hp
  case aload_n k =>
    have e1 := hn 1 rfl; subst e1
    dsimp only [im_l] at hp
    split at hp
    · rename_i x hg
      cases hp
      exact lv_aload_n hx hb hd rfl (im_lg_ok hl hg) (K _ hl)
    · rename_i hg
      cases hp
      exact lv_aload_nN hx hb hd rfl (im_lg_ok hl hg) (K _ hl)
    · cases hp
  case istore k =>
    have e1 := hn 2 rfl; subst e1
    dsimp only [im_l] at hp
    split at hp
    · rename_i x r
      split at hp
      · rename_i hlt
        cases hp
        exact lv_istore hx hb hd hl hlt (im_ml_s1 b z lv _ (.int x)) K
      · cases hp
    · cases hp
  case istore_n k =>
    have e1 := hn 1 rfl; subst e1
    dsimp only [im_l] at hp
    split at hp
    · rename_i x r
      split at hp
      · rename_i hlt
        cases hp
        exact lv_istore_n hx hb hd rfl hl hlt (im_ml_s1 b z lv _ (.int x)) K
      · cases hp
    · cases hp
  case lstore k =>
    have e1 := hn 2 rfl; subst e1
    dsimp only [im_l] at hp
    split at hp
    · rename_i x r
      split at hp
      · rename_i hlt
        cases hp
        exact lv_lstore hx hb hd hl hlt (im_ml_s2 b z lv _ (.long x)) K
      · cases hp
    · cases hp
  case lstore_n k =>
    have e1 := hn 1 rfl; subst e1
    dsimp only [im_l] at hp
    split at hp
    · rename_i x r
      split at hp
      · rename_i hlt
        cases hp
        exact lv_lstore_n hx hb hd rfl hl hlt (im_ml_s2 b z lv _ (.long x)) K
      · cases hp
    · cases hp
  case astore k =>
    have e1 := hn 2 rfl; subst e1
    dsimp only [im_l] at hp
    split at hp
    · rename_i x r
      split at hp
      · rename_i hlt
        cases hp
        exact lv_astore hx hb hd hl hlt (im_ml_s1 b z lv _ (.ref x)) K
      · cases hp
    · rename_i r
      split at hp
      · rename_i hlt
        cases hp
        exact lv_astoreN hx hb hd hl hlt (im_ml_s1 b z lv _ (.null)) K
      · cases hp
    · cases hp
  case astore_n k =>
    have e1 := hn 1 rfl; subst e1
    dsimp only [im_l] at hp
    split at hp
    · rename_i x r
      split at hp
      · rename_i hlt
        cases hp
        exact lv_astore_n hx hb hd rfl hl hlt (im_ml_s1 b z lv _ (.ref x)) K
      · cases hp
    · rename_i r
      split at hp
      · rename_i hlt
        cases hp
        exact lv_astore_nN hx hb hd rfl hl hlt (im_ml_s1 b z lv _ (.null)) K
      · cases hp
    · cases hp
  case iinc k n =>
    have e1 := hn 3 rfl; subst e1
    dsimp only [im_l] at hp
    split at hp
    · rename_i x hg
      split at hp
      · rename_i hlt
        cases hp
        obtain ⟨j, hj⟩ := im_lg_ix hg
        exact lv_iinc (k := j) hx hb hd hl (by unfold im_ml; rw [List.getElem?_map, hj]; rfl) rfl hlt (im_ml_s1 b z lv _ (.int (x + Int32.ofInt n))) K
      · cases hp
    · cases hp
  all_goals exact nomatch (show (none : Option (im_L × List Value)) = some (lv', st') from hp)
set_option maxHeartbeats 4000000 in
set_option maxRecDepth 100000 in
theorem im_b_ok (hx : p.tables.exec = Jvm.exec) (hb : c.code = cc) {i : Instr} {len : Nat} {o : Option Int} {st st' : List Value} (hd : decode cc pc = .ok (i, len)) (hn : ∀ k, im_ln i = some k → len = k) (ht : ∀ co f, i = .ifCond co f ∨ i = .if_icmp co f → ∃ t : Nat, (pc : Int) + f = (t : Int)) (hp : im_b i st = some (o, st'))
    {t : Nat} (ho : ∀ f, o = some f → (pc : Int) + f = (t : Int)) (ho2 : o = none → t = pc + len) (K : W p l e R s m args below meth c H locs cells slots Q (F0 m t ls (st'.map (im_sh b z)))) : W p l e R s m args below meth c H locs cells slots Q (F0 m pc ls (st.map (im_sh b z))) := by
  cases i
  case goto f =>
    have e1 := hn 3 rfl; subst e1
    cases hp
    exact lv_goto hx hb hd (ho _ rfl) K
  case ifnull f =>
    have e1 := hn 3 rfl; subst e1
    dsimp only [im_b] at hp
    split at hp
    · cases hp
      exact lv_ifnullN hx hb hd (ho _ rfl) K
    · cases hp
      have e2 := ho2 rfl; subst e2
      exact lv_ifnull hx hb hd K
    · cases hp
  case ifnonnull f =>
    have e1 := hn 3 rfl; subst e1
    dsimp only [im_b] at hp
    split at hp
    · cases hp
      have e2 := ho2 rfl; subst e2
      exact lv_ifnonnullN hx hb hd K
    · cases hp
      exact lv_ifnonnull hx hb hd (ho _ rfl) K
    · cases hp
  case ifCond co f =>
    have e1 := hn 3 rfl; subst e1
    obtain ⟨tt, htt⟩ := ht co f (Or.inl rfl)
    dsimp only [im_b] at hp
    split at hp
    · cases co
      case eq =>
        dsimp only at hp
        split at hp
        · rename_i hc
          cases hp
          have e3 : tt = t := by have := ho _ rfl; omega
          subst e3
          exact lv_if_eq hx hb hd htt (fun _ => K) (fun q => absurd hc q)
        · rename_i hc
          cases hp
          have e2 := ho2 rfl; subst e2
          exact lv_if_eq hx hb hd htt (fun q => absurd q hc) (fun _ => K)
      case ne =>
        dsimp only at hp
        split at hp
        · rename_i hc
          cases hp
          have e2 := ho2 rfl; subst e2
          exact lv_if_ne hx hb hd htt (fun q => absurd hc q) (fun _ => K)
        · rename_i hc
          cases hp
          have e3 : tt = t := by have := ho _ rfl; omega
          subst e3
          exact lv_if_ne hx hb hd htt (fun _ => K) (fun q => absurd q hc)
      case lt =>
        dsimp only at hp
        split at hp
        · rename_i hc
          cases hp
          have e3 : tt = t := by have := ho _ rfl; omega
          subst e3
          exact lv_if_lt hx hb hd htt (fun _ => K) (fun q => absurd hc q)
        · rename_i hc
          cases hp
          have e2 := ho2 rfl; subst e2
          exact lv_if_lt hx hb hd htt (fun q => absurd q hc) (fun _ => K)
      case ge =>
        dsimp only at hp
        split at hp
        · rename_i hc
          cases hp
          have e3 : tt = t := by have := ho _ rfl; omega
          subst e3
          exact lv_if_ge hx hb hd htt (fun _ => K) (fun q => absurd hc q)
        · rename_i hc
          cases hp
          have e2 := ho2 rfl; subst e2
          exact lv_if_ge hx hb hd htt (fun q => absurd q hc) (fun _ => K)
      case gt =>
        dsimp only at hp
        split at hp
        · rename_i hc
          cases hp
          have e3 : tt = t := by have := ho _ rfl; omega
          subst e3
          exact lv_if_gt hx hb hd htt (fun _ => K) (fun q => absurd hc q)
        · rename_i hc
          cases hp
          have e2 := ho2 rfl; subst e2
          exact lv_if_gt hx hb hd htt (fun q => absurd q hc) (fun _ => K)
      case le =>
        dsimp only at hp
        split at hp
        · rename_i hc
          cases hp
          have e3 : tt = t := by have := ho _ rfl; omega
          subst e3
          exact lv_if_le hx hb hd htt (fun _ => K) (fun q => absurd hc q)
        · rename_i hc
          cases hp
          have e2 := ho2 rfl; subst e2
          exact lv_if_le hx hb hd htt (fun q => absurd q hc) (fun _ => K)
    · cases hp
  case if_icmp co f =>
    have e1 := hn 3 rfl; subst e1
    obtain ⟨tt, htt⟩ := ht co f (Or.inr rfl)
    dsimp only [im_b] at hp
    split at hp
    · cases co
      case eq =>
        dsimp only at hp
        split at hp
        · rename_i hc
          cases hp
          have e3 : tt = t := by have := ho _ rfl; omega
          subst e3
          exact lv_icmp_eq hx hb hd htt (fun _ => K) (fun q => absurd hc q)
        · rename_i hc
          cases hp
          have e2 := ho2 rfl; subst e2
          exact lv_icmp_eq hx hb hd htt (fun q => absurd q hc) (fun _ => K)
      case ne =>
        dsimp only at hp
        split at hp
        · rename_i hc
          cases hp
          have e2 := ho2 rfl; subst e2
          exact lv_icmp_ne hx hb hd htt (fun q => absurd hc q) (fun _ => K)
        · rename_i hc
          cases hp
          have e3 : tt = t := by have := ho _ rfl; omega
          subst e3
          exact lv_icmp_ne hx hb hd htt (fun _ => K) (fun q => absurd q hc)
      case lt =>
        dsimp only at hp
        split at hp
        · rename_i hc
          cases hp
          have e3 : tt = t := by have := ho _ rfl; omega
          subst e3
          exact lv_icmp_lt hx hb hd htt (fun _ => K) (fun q => absurd hc q)
        · rename_i hc
          cases hp
          have e2 := ho2 rfl; subst e2
          exact lv_icmp_lt hx hb hd htt (fun q => absurd q hc) (fun _ => K)
      case ge =>
        dsimp only at hp
        split at hp
        · rename_i hc
          cases hp
          have e3 : tt = t := by have := ho _ rfl; omega
          subst e3
          exact lv_icmp_ge hx hb hd htt (fun _ => K) (fun q => absurd hc q)
        · rename_i hc
          cases hp
          have e2 := ho2 rfl; subst e2
          exact lv_icmp_ge hx hb hd htt (fun q => absurd q hc) (fun _ => K)
      case gt =>
        dsimp only at hp
        split at hp
        · rename_i hc
          cases hp
          have e3 : tt = t := by have := ho _ rfl; omega
          subst e3
          exact lv_icmp_gt hx hb hd htt (fun _ => K) (fun q => absurd hc q)
        · rename_i hc
          cases hp
          have e2 := ho2 rfl; subst e2
          exact lv_icmp_gt hx hb hd htt (fun q => absurd q hc) (fun _ => K)
      case le =>
        dsimp only at hp
        split at hp
        · rename_i hc
          cases hp
          have e3 : tt = t := by have := ho _ rfl; omega
          subst e3
          exact lv_icmp_le hx hb hd htt (fun _ => K) (fun q => absurd hc q)
        · rename_i hc
          cases hp
          have e2 := ho2 rfl; subst e2
          exact lv_icmp_le hx hb hd htt (fun q => absurd q hc) (fun _ => K)
    · cases hp
  case tableswitch dflt lo hi offs =>
    dsimp only [im_b] at hp
    split at hp
    · split at hp
      · rename_i h1
        cases hp
        exact lv_tableOut hx hb hd (Or.inl h1) (ho _ rfl) K
      · rename_i h1
        split at hp
        · rename_i h2
          cases hp
          exact lv_tableOut hx hb hd (Or.inr h2) (ho _ rfl) K
        · rename_i h2
          split at hp
          · rename_i f hf
            cases hp
            exact lv_tableIn hx hb hd h1 h2 hf (ho _ rfl) K
          · cases hp
    · cases hp
  case lookupswitch dflt ps =>
    dsimp only [im_b] at hp
    split at hp
    · split at hp
      · rename_i h1
        cases hp
        exact lv_lookup hx hb hd h1 rfl (ho _ rfl) K
      · cases hp
    · cases hp
  all_goals exact nomatch (show (none : Option (Option Int × List Value)) = some (o, st') from hp)
end IM1
