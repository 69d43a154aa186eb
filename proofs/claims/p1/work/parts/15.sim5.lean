/-! THE INTERPRETER IS FOLLOWED: whole bodies, whole methods -/
theorem im_at_mem {cd : List im_E} {pc : Nat} {e : im_E} (h : im_at cd pc = some e) : e ∈ cd ∧ e.1 = pc := by
  induction cd with
  | nil => cases h
  | cons q r ih =>
    unfold im_at at h
    split at h
    · rename_i hq
      cases h
      exact ⟨List.mem_cons_self, Nat.eq_of_beq_eq_true hq⟩
    · exact ⟨List.mem_cons_of_mem _ (ih h).1, (ih h).2⟩
theorem im_ml_args (b z : Nat) (as : List Value) : ∀ i, im_ml b z (lv_args i as) = lv_args i (as.map (im_sh b z)) := by
  induction as with
  | nil => intro i; rfl
  | cons v r ih =>
    intro i
    show (i, im_sh b z v) :: im_ml b z (lv_args _ r) = (i, im_sh b z v) :: lv_args _ (r.map (im_sh b z))
    rw [ih, im_sh_cat]
theorem im_sl_len (b z : Nat) (as : List Value) : (lg_sl (as.map (im_sh b z))).length = (lg_sl as).length := by
  induction as with
  | nil => rfl
  | cons v r ih =>
    unfold lg_sl at ih ⊢
    rw [List.map_cons, List.flatMap_cons, List.flatMap_cons, List.length_append, List.length_append, ih, im_sh_cat]
    congr 1
    split <;> rfl
theorem im_h_mono {kd : Nat → Nat → Nat} {nf : Nat → Nat} {e : im_E} {st st' : List Value} {h h' : im_H} (hp : im_h kd nf e st h = some (st', h')) : h.1 ≤ h'.1 ∧ h.2.1 ≤ h'.2.1 := by
  unfold im_h at hp
  repeat' split at hp
  all_goals (cases hp; try first | exact ⟨Nat.le_refl _, Nat.le_refl _⟩ | exact ⟨Nat.le_succ _, Nat.le_add_right _ _⟩)
theorem im_c_mono {tb : List im_M} {cal : Nat → List Value → im_H → Option im_R} (mono : ∀ (M : Nat) (as : List Value) (h : im_H) (r : im_R), cal M as h = some r → h.1 ≤ r.1.1 ∧ h.2.1 ≤ r.1.2.1) {e : im_E} {st st' : List Value} {h h' : im_H} (hp : im_c tb cal e st h = some (st', h')) : h.1 ≤ h'.1 ∧ h.2.1 ≤ h'.2.1 := by
  have bk : ∀ (rest : List Value) (M : Nat) (as : List Value), im_bk rest (cal M as h) = some (st', h') → h.1 ≤ h'.1 ∧ h.2.1 ≤ h'.2.1 := by
    intro rest M as hq
    unfold im_bk at hq
    split at hq
    · rename_i r hr
      cases hq
      exact mono _ _ _ _ hr
    · cases hq
  unfold im_c at hp
  split at hp
  · unfold im_c0 at hp
    repeat' split at hp
    all_goals (cases hp; try exact ⟨Nat.le_refl _, Nat.le_refl _⟩)
  · split at hp
    · unfold im_c8 at hp
      repeat' split at hp
      all_goals (cases hp; try exact ⟨Nat.le_refl _, Nat.le_refl _⟩)
    · split at hp
      · unfold im_c9 at hp
        repeat' split at hp
        all_goals (cases hp; try exact ⟨Nat.le_succ _, Nat.le_add_right _ _⟩)
      · split at hp
        · unfold im_c10 at hp
          repeat' split at hp
          all_goals (cases hp; try exact ⟨Nat.le_refl _, Nat.le_refl _⟩)
        split at hp
        · unfold im_c11 at hp
          repeat' split at hp
          all_goals (cases hp; try exact ⟨Nat.le_refl _, Nat.le_refl _⟩)
        split at hp
        · unfold im_c12 at hp
          repeat' split at hp
          all_goals (cases hp; try exact ⟨Nat.le_refl _, Nat.le_refl _⟩)
        split at hp
        · split at hp
          · unfold im_cS at hp
            repeat' split at hp
            all_goals first | exact bk _ _ _ hp | cases hp
          · unfold im_cI at hp
            repeat' split at hp
            all_goals first | exact bk _ _ _ hp | cases hp
        · cases hp
theorem im_st_mono {tb : List im_M} {kd : Nat → Nat → Nat} {nf : Nat → Nat} {cal : Nat → List Value → im_H → Option im_R} {mi : im_M} (mono : ∀ (M : Nat) (as : List Value) (h : im_H) (r : im_R), cal M as h = some r → h.1 ≤ r.1.1 ∧ h.2.1 ≤ r.1.2.1) {e : im_E} {lv : im_L} {st : List Value} {h : im_H} {q : im_S} (hp : im_st tb kd nf cal mi e lv st h = some (.inl q)) : h.1 ≤ q.2.2.2.1 ∧ h.2.1 ≤ q.2.2.2.2.1 := by
  unfold im_st at hp
  split at hp
  · split at hp <;> cases hp
    exact ⟨Nat.le_refl _, Nat.le_refl _⟩
  · split at hp <;> cases hp
    exact ⟨Nat.le_refl _, Nat.le_refl _⟩
  · split at hp
    · cases hp
      exact ⟨Nat.le_refl _, Nat.le_refl _⟩
    · split at hp <;> cases hp
      exact ⟨Nat.le_refl _, Nat.le_refl _⟩
    · cases hp
  · split at hp
    · rename_i hq
      cases hp
      exact im_h_mono hq
    · cases hp
  · split at hp
    · rename_i hq
      cases hp
      exact im_c_mono mono hq
    · cases hp
  · split at hp <;> cases hp
theorem im_st_ret {tb : List im_M} {kd : Nat → Nat → Nat} {nf : Nat → Nat} {cal : Nat → List Value → im_H → Option im_R} {mi : im_M} {e : im_E} {lv : im_L} {st : List Value} {h : im_H} {r : im_R} (hp : im_st tb kd nf cal mi e lv st h = some (.inr r)) : r.1 = h ∧ im_r mi.2.2.2.1 e.2.1 st = some r.2 := by
  unfold im_st at hp
  split at hp
  · split at hp <;> cases hp
  · split at hp <;> cases hp
  · split at hp
    · cases hp
    · split at hp <;> cases hp
    · cases hp
  · split at hp <;> cases hp
  · split at hp <;> cases hp
  · split at hp
    · rename_i hq
      cases hp
      exact ⟨rfl, hq⟩
    · cases hp
theorem im_ex_mono {tb : List im_M} {kd : Nat → Nat → Nat} {nf : Nat → Nat} {cal : Nat → List Value → im_H → Option im_R} {mi : im_M} (mono : ∀ (M : Nat) (as : List Value) (h : im_H) (r : im_R), cal M as h = some r → h.1 ≤ r.1.1 ∧ h.2.1 ≤ r.1.2.1) {r : im_R} : ∀ (n pc : Nat) (lv : im_L) (st : List Value) (h : im_H), im_ex tb kd nf cal mi n pc lv st h = some r → h.1 ≤ r.1.1 ∧ h.2.1 ≤ r.1.2.1 := by
  intro n
  induction n with
  | zero => intro pc lv st h hp; cases hp
  | succ n ih =>
    intro pc lv st h hp
    unfold im_ex at hp
    split at hp
    · cases hp
    · split at hp
      · cases hp
      · rename_i hq
        have h1 := im_st_mono mono hq
        have h2 := ih _ _ _ _ hp
        exact ⟨Nat.le_trans h1.1 h2.1, Nat.le_trans h1.2 h2.2⟩
      · rename_i hq
        cases hp
        rw [(im_st_ret hq).1]
        exact ⟨Nat.le_refl _, Nat.le_refl _⟩
theorem im_rn_mono {tb : List im_M} {kd : Nat → Nat → Nat} {nf : Nat → Nat} {F : Nat} : ∀ (d M : Nat) (as : List Value) (h : im_H) (r : im_R), im_rn tb kd nf F d M as h = some r → h.1 ≤ r.1.1 ∧ h.2.1 ≤ r.1.2.1 := by
  intro d
  induction d with
  | zero => intro M as h r hp; cases hp
  | succ d ih =>
    intro M as h r hp
    unfold im_rn at hp
    split at hp
    · cases hp
    · split at hp
      · exact im_ex_mono ih _ _ _ _ _ hp
      · cases hp
/-- what the tables must say of a row of a method's code -/
def im_ef (Ts : List Cond) (cl : List vw_C) (rA : List Nat) (nf : Nat → Nat) (nw : List Cond) (tb : List im_M) (mi : im_M) (e : im_E) : Prop :=
  decode mi.2.1 e.1 = .ok (e.2.1, e.2.2.1) ∧ (∀ k, im_ln e.2.1 = some k → e.2.2.1 = k) ∧ (∀ co f, e.2.1 = .ifCond co f ∨ e.2.1 = .if_icmp co f → ∃ t : Nat, (e.1 : Int) + f = (t : Int)) ∧ im_eo Ts cl rA nf mi.1 e ∧ (im_g e.2.1 = 4 → im_co Ts nw tb mi.1 e)
section IM5
variable {p : Program} {l : Launch} {e : Env} {R : Room} {s : State} {m : MethodId} {args : Array Value} {below : List Frame} {meth : Method} {c : Code} {Q : State → Prop}
variable {D : va_G} {dA : Nat → ClassId} {cl : List vw_C} {rA : List Nat} {nw : List Cond} {b z L : Nat} {xs : Nat → Int32} {Hs : Heap} {Ts : List Cond} {kd : Nat → Nat → Nat} {nf : Nat → Nat}
set_option maxHeartbeats 4000000 in
theorem im_ex_ok {tb : List im_M} {cal : Nat → List Value → im_H → Option im_R} {mi : im_M} {d : Nat} (hx : p.tables.exec = Jvm.exec) (hb : c.code = mi.2.1) (hml : c.maxLocals = mi.2.2.1) (hts : ∀ w ∈ Ts, w.before args s = true) (hown : s.vm.findClass mi.1.cls = some m.cls) (hmn : mi.1.name = "<init>" → meth.name = "<init>") (hK : im_K D dA cl rA nw b L xs Hs s) (hbz : b < z) (hcf : im_cf Ts cl rA kd) (hgf : im_gf Ts) (hnw : im_nw nw) (hmo : ∀ (M : Nat) (mi : im_M), tb[M]? = some mi → im_mo Ts cl mi)
    (hef : ∀ e ∈ mi.2.2.2.2.2, im_ef Ts cl rA nf nw tb mi e) (hRf : d + 1 ≤ R.frames) (hRl : 43 * (d + 1) ≤ R.locals) (IH : ∀ (M : Nat) (as : List Value) (h : im_H) (r : im_R) (mi : im_M), cal M as h = some r → tb[M]? = some mi → im_Met l Ts D dA cl rA nw b z L xs Hs d mi as h r) (mono : ∀ (M : Nat) (as : List Value) (h : im_H) (r : im_R), cal M as h = some r → h.1 ≤ r.1.1 ∧ h.2.1 ≤ r.1.2.1)
    {r : im_R} {n0 u0 : Nat} (hc1 : r.1.1 - n0 ≤ R.cells) (hs1 : r.1.2.1 - u0 ≤ R.slots)
    (Hret : ∀ (H : Heap) (locs : List Loc) (ls : Array Slot) (pc : Nat) (i : Instr) (len : Nat) (st : List Value), decode mi.2.1 pc = .ok (i, len) → (∀ k, im_ln i = some k → len = k) → im_r mi.2.2.2.1 i st = some r.2 → im_Rl D dA cl rA b z L xs Hs H r.1 → (∀ q ∈ locs, z ≤ q.base) → W p l e R s m args below meth c H locs (r.1.1 - n0) (r.1.2.1 - u0) Q (F0 m pc ls (st.map (im_sh b z)))) :
    ∀ (n pc : Nat) (lv : im_L) (st : List Value) (h : im_H) (ls : Array Slot) (locs : List Loc) (H : Heap), im_ex tb kd nf cal mi n pc lv st h = some r → lv_has ls mi.2.2.1 (im_ml b z lv) → im_Rl D dA cl rA b z L xs Hs H h → (∀ q ∈ locs, z ≤ q.base) → n0 ≤ h.1 → u0 ≤ h.2.1 →
      W p l e R s m args below meth c H locs (h.1 - n0) (h.2.1 - u0) Q (F0 m pc ls (st.map (im_sh b z))) := by
  intro n
  induction n with
  | zero => intro pc lv st h ls locs H hp; cases hp
  | succ n ih =>
    intro pc lv st h ls locs H hp hl hR hlo hn0 hu0
    unfold im_ex at hp
    split at hp
    · cases hp
    · rename_i er her
      obtain ⟨hmem, hpc⟩ := im_at_mem her
      subst hpc
      obtain ⟨hd, hln, hbr, heo, hco⟩ := hef er hmem
      split at hp
      · cases hp
      · rename_i q hq
        have hm1 := im_st_mono mono hq
        have hm2 := im_ex_mono mono _ _ _ _ _ hp
        have go : ∀ (H' : Heap) (locs' : List Loc) (ls' : Array Slot), lv_has ls' mi.2.2.1 (im_ml b z q.2.1) → im_Rl D dA cl rA b z L xs Hs H' q.2.2.2 → (∀ w ∈ locs', z ≤ w.base) → W p l e R s m args below meth c H' locs' (q.2.2.2.1 - n0) (q.2.2.2.2.1 - u0) Q (F0 m q.1 ls' (q.2.2.1.map (im_sh b z))) :=
          fun H' locs' ls' g1 g2 g3 => ih _ _ _ _ _ _ _ hp g1 g2 g3 (Nat.le_trans hn0 hm1.1) (Nat.le_trans hu0 hm1.2)
        unfold im_st at hq
        split at hq
        · split at hq
          · rename_i st' hq'
            cases hq
            exact im_p_ok hx hb hd hln hq' (go H locs ls hl hR hlo)
          · cases hq
        · split at hq
          · rename_i lv' st' hq'
            cases hq
            exact im_l_ok hx hb hd hln hl hq' (fun ls' hl' => go H locs ls' hl' hR hlo)
          · cases hq
        · split at hq
          · rename_i st' hq'
            cases hq
            exact im_b_ok hx hb hd hln hbr hq' (fun f hf => by cases hf) (fun _ => rfl) (go H locs ls hl hR hlo)
          · rename_i o st' hq'
            split at hq
            · rename_i t ht
              cases hq
              exact im_b_ok hx hb hd hln hbr hq' (fun f hf => by cases hf; exact im_tg_ok ht) (fun hf => by cases hf) (go H locs ls hl hR hlo)
            · cases hq
          · cases hq
        · split at hq
          · rename_i st' h' hq'
            cases hq
            exact im_h_ok hx hb hts hown hmn hK hbz hcf heo hd hln hR hlo hq' hn0 hu0 (by dsimp only at hm2; omega) (by dsimp only at hm2; omega) (fun H' locs' g1 g2 => go H' locs' ls hl g1 g2)
          · cases hq
        · rename_i hg4
          split at hq
          · rename_i st' h' hq'
            cases hq
            exact im_c_ok hx hb hml hl.1 hts hown hK hcf hgf hnw hmo hRf hRl IH mono (hco hg4) hd hln hR hlo hq' hn0 hu0 (by dsimp only at hm2; omega) (by dsimp only at hm2; omega) (fun H' locs' g1 g2 => go H' locs' ls hl g1 g2)
          · cases hq
        · split at hq <;> cases hq
      · rename_i r' hq
        cases hp
        obtain ⟨h1, h2⟩ := im_st_ret hq
        rw [← h1] at hR ⊢
        exact Hret H locs ls _ _ _ st hd hln h2 hR hlo
/-- a method's end -/
theorem im_ret_ok {mi : im_M} (hx : p.tables.exec = Jvm.exec) (hb : c.code = mi.2.1) (hr : meth.sig.returnType = mi.2.2.2.1) (hlocks : meth.locks = false) {r : im_R} {cells slots : Nat} {H : Heap} {locs : List Loc} {ls : Array Slot} {pc : Nat} {i : Instr} {len : Nat} {st : List Value} (hd : decode mi.2.1 pc = .ok (i, len)) (hn : ∀ k, im_ln i = some k → len = k) (hp : im_r mi.2.2.2.1 i st = some r.2) (hR : im_Rl D dA cl rA b z L xs Hs H r.1) (hlo : ∀ q ∈ locs, z ≤ q.base) :
    W p l e R s m args below meth c H locs cells slots (MQ below (im_Qc D dA cl rA nw b z L xs Hs r) args s cells slots (fun q => z ≤ q)) (F0 m pc ls (st.map (im_sh b z))) := by
  have fin : ∀ v, r.2 = v → ∀ t : State, t.heap = H → s.WarmedH t.vm → im_Qc D dA cl rA nw b z L xs Hs r args s (.returned (v.map (im_sh b z))) t := fun v hv t ht _ => ⟨by rw [hv], by rw [ht]; exact hR⟩
  cases i
  case return_ =>
    have e1 := hn 1 rfl; subst e1
    dsimp only [im_r] at hp
    split at hp
    · rename_i hret
      have hv := (Option.some.inj hp).symm
      exact W.vret hx hb (hr.trans hret) (fin _ hv) hlo hd
    · cases hp
  case ireturn =>
    have e1 := hn 1 rfl; subst e1
    dsimp only [im_r] at hp
    split at hp
    · rename_i x hret
      have hv := (Option.some.inj hp).symm
      exact W.iret hx hb (hr.trans hret) (fin _ hv) hlo hd
    · rename_i x hret
      split at hp
      · rename_i h01
        have hv := (Option.some.inj hp).symm
        exact W.zret hx hb (hr.trans hret) (by rcases h01 with rfl | rfl <;> rfl) (fin _ hv) hlo hd
      · cases hp
    · cases hp
  case lreturn =>
    have e1 := hn 1 rfl; subst e1
    dsimp only [im_r] at hp
    split at hp
    · rename_i x hret
      have hv := (Option.some.inj hp).symm
      exact W.lret hx hb (hr.trans hret) (fin _ hv) hlo hd
    · cases hp
  case areturn =>
    have e1 := hn 1 rfl; subst e1
    dsimp only [im_r] at hp
    split at hp
    · rename_i nm a hret
      have hv := (Option.some.inj hp).symm
      exact W.aret hx hb (hr.trans hret) (Or.inl ⟨_, rfl⟩) (Or.inr ⟨_, rfl⟩) (fin _ hv) hlo hd
    · rename_i nm hret
      have hv := (Option.some.inj hp).symm
      exact W.aret hx hb (hr.trans hret) (Or.inl ⟨_, rfl⟩) (Or.inl rfl) (fin _ hv) hlo hd
    · rename_i nm a hret
      have hv := (Option.some.inj hp).symm
      exact W.aret hx hb (hr.trans hret) (Or.inr ⟨_, rfl⟩) (Or.inr ⟨_, rfl⟩) (fin _ hv) hlo hd
    · cases hp
  all_goals exact nomatch (show (none : Option (Option Value)) = some r.2 from hp)
end IM5
set_option maxHeartbeats 4000000 in
/-- EVERY METHOD OF THE TABLE: what the interpreter says of a call is what the machine does -/
theorem im_rn_ok {l : Launch} {D : va_G} {dA : Nat → ClassId} {cl : List vw_C} {rA : List Nat} {nw : List Cond} {b z L : Nat} {xs : Nat → Int32} {Hs : Heap} {Ts : List Cond} {kd : Nat → Nat → Nat} {nf : Nat → Nat} {tb : List im_M} {F : Nat} (hbz : b < z) (hcf : im_cf Ts cl rA kd) (hgf : im_gf Ts) (hnw : im_nw nw) (hmo : ∀ (M : Nat) (mi : im_M), tb[M]? = some mi → im_mo Ts cl mi) (hef : ∀ (M : Nat) (mi : im_M), tb[M]? = some mi → ∀ e ∈ mi.2.2.2.2.2, im_ef Ts cl rA nf nw tb mi e) :
    ∀ (d M : Nat) (as : List Value) (h : im_H) (r : im_R) (mi : im_M), im_rn tb kd nf F d M as h = some r → tb[M]? = some mi → im_Met l Ts D dA cl rA nw b z L xs Hs d mi as h r := by
  intro d
  induction d with
  | zero => intro M as h r mi hp; cases hp
  | succ d ih =>
    intro M as h r mi hp hmi
    have hmono := im_rn_mono (d + 1) M as h r hp
    unfold im_rn at hp
    rw [hmi] at hp
    dsimp only at hp
    split at hp
    · rename_i hlen
      unfold im_Met
      refine Met.ofW (cc := mi.2.1) (maxL := mi.2.2.1) (ret := mi.2.2.2.1) (hmo M mi hmi).2.2.2.2.1 rfl ?_
      intro p e s m args below meth c s₁ B hml hv
      obtain ⟨rfl, hRl, hK⟩ := hv
      have hts : ∀ w ∈ Ts, w.before (as.map (im_sh b z)).toArray s = true := fun w hw => atoms_spec (ws := Cond.code mi.1 mi.2.1 mi.2.2.1 mi.2.2.2.1 :: Ts) B.pre w (List.mem_cons_of_mem _ hw)
      have hown : s.vm.findClass mi.1.cls = some m.cls := findClass_of_methodNamed B.named
      have hl := lv_entry (as.map (im_sh b z)) (n := mi.2.2.1) (by rw [im_sl_len]; exact hlen)
      rw [lg_entry_eq]
      rw [← im_ml_args] at hl
      have key := im_ex_ok (R := im_rm (d + 1) h r.1) (Q := MQ below (im_Qc D dA cl rA nw b z L xs Hs r) (as.map (im_sh b z)).toArray s (r.1.1 - h.1) (r.1.2.1 - h.2.1) (fun q => z ≤ q)) (p := p) (e := e) (below := below) (meth := meth) (d := d) (n0 := h.1) (u0 := h.2.1) B.exec B.bytes hml hts hown (fun h => (name_of_methodNamed B.named B.method).1.trans h) hK hbz hcf hgf hnw hmo (hef M mi hmi) (Nat.le_refl _) (Nat.le_refl _) ih (im_rn_mono d) (Nat.le_refl _) (Nat.le_refl _)
        (fun H locs ls pc i len st g1 g2 g3 g4 g5 => im_ret_ok B.exec B.bytes B.returns B.notSynchronized g1 g2 g3 g4 g5) F 0 (lv_args 0 as) [] h _ [] s.heap hp hl hRl (fun q hq => by cases hq) (Nat.le_refl _) (Nat.le_refl _)
      rw [Nat.sub_self, Nat.sub_self] at key
      exact key
    · cases hp
