/-! THE CLAIM OUT OF ONE WALK OF THE LAW'S BODY. Your part is whole_start (and what it stands on); all else here is the same for every law, but numbers. -/
def R_law : String := "LogicMachineLaw"
def lw_P (b : Addr) (xs : List Int32) (args : Array Value) (s : State) : Prop := args = #[.ref b] ∧ s.IntsAt b xs ∧ xs.length ≤ 3 ∧ (Jvm.Cond.and given_1 narrow_1).before args s = true
def lw_Q (_ : Array Value) (s : State) (o : Outcome) (t : State) : Prop := o = .returned (some (.int 1)) ∧ Framed s o t [] 600000 7302250
def lw_Z (below : List Frame) (a : Array Value) (s : State) : State → Prop := fun t => ∃ o, t.status = .running ∧ Ended t below o ∧ lw_Q a s o t
/-- the law's own end, with 1 on the stack, nothing written that was there before, its room as the claim has it -/
theorem lw_ret {p : Program} {l : Launch} {e : Env} {s : State} {m : MethodId} {below : List Frame} {meth : Method} {c : Code} {b : Nat} (hx : p.tables.exec = Jvm.exec) (hb : c.code = code) (hr : meth.sig.returnType = ret) (hlocks : meth.locks = false) {pc : Nat} {H : Heap} {ls : Array Slot} (hdg : decode code pc = .ok (.ireturn, 1)) : W p l e room_1 s m #[Value.ref b] below meth c H [] 600000 7302250 (lw_Z below #[Value.ref b] s) (F0 m pc ls [.int 1]) := by
  intro T hT X
  obtain ⟨fs, hret, hrun, hended, hW, hframe⟩ := X.leave (v := some (.int 1)) (hlocks := hlocks) (fun h => by rw [hr] at h; cases h)
  have hmeth' : T.vm.method? m = some meth := X.method'
  refine ⟨T.setFrames fs, ?_, .returned (some (.int 1)), hrun, hended, rfl, ⟨_, rfl⟩, hW, hframe⟩
  jvm_step X.here [X.here.top, hx, hb, hdg, hmeth', hr, ret, narrow_b1]
  (try refine ⟨rfl, ?_⟩); (try refine ⟨rfl, ?_⟩)
  first | (intro acts; rw [hret _ acts rfl rfl rfl]) | rw [hret _ _ rfl rfl rfl]
  exact Steps.refl _
/-- what holds at the law's entry: the machine, the code, the tables' words (any of lw_tbl by 'hts w (by decide +kernel)'), the script of L ints xs at the cell b, what the Statement gives of the start (any of its parts by flat_of_before) -/
def lw_At (p : Program) (s : State) (m : MethodId) (meth : Method) (c : Code) (b L : Nat) (xs : Nat → Int32) : Prop :=
  p.tables.exec = Jvm.exec ∧ c.code = code ∧ meth.sig.returnType = ret ∧ c.maxLocals = 4 ∧ s.vm.findClass R_law = some m.cls ∧ (∀ w ∈ lw_tbl, w.before #[Value.ref b] s = true) ∧ va_X b L xs s s.heap ∧ b < s.heap.size ∧ meth.locks = false ∧ (Jvm.Cond.and given_1 narrow_1).before #[Value.ref b] s = true

def im_h0 (L : Nat) (xs : Nat → Int32) : im_H := (1, 0, fun k => if k = 0 then some (99, L, fun j => .int (xs j)) else none)
/-- WHAT IS LEFT: the interpreter, at the law, answers 1, within the room -/
def im_Goal (L : Nat) (xs : Nat → Int32) : Prop := ∃ (F : Nat) (h1 : im_H), im_ex mm_tb mx_kd mx_nf (im_rn mm_tb mx_kd mx_nf F 12) im_m104 F 0 (lv_args 0 [.ref 0]) [] (im_h0 L xs) = some (h1, some (.int 1)) ∧ h1.1 ≤ 600000 + 1 ∧ h1.2.1 ≤ 7302250
theorem mx_aoc : ∀ c ∈ mx_rA, (mx_cl[c]?).map (fun r => decide (Cond.arrayOver (.object r.1) ∈ lw_tbl)) = some true := by decide +kernel

set_option maxHeartbeats 4000000 in
/-- the road from the interpreter's answer to the walk of the law -/
theorem im_start {p : Program} {e : Env} {s : State} {m : MethodId} {below : List Frame} {meth : Method} {c : Code} (l : Launch) {b L : Nat} {xs : Nat → Int32} (C0 : lw_At p s m meth c b L xs) (hg : im_Goal L xs) : W p l e room_1 s m #[Value.ref b] below meth c s.heap [] 0 0 (lw_Z below #[Value.ref b] s) (entryFrame m ([Value.ref b] : List Value).toArray 4) := by
  obtain ⟨hx, hb, hr, hml, hown, hts, hX, hbl, hlocks, hgv⟩ := id C0
  obtain ⟨F, h1, hp, hc1, hs1⟩ := hg
  have htsT : ∀ w ∈ im_Ts, w.before #[Value.ref b] s = true := fun w hw => hts w (List.mem_filter.mp hw).1
  have hcl : ∀ k : Nat, ∃ (cC : ClassId) (iS : Nat → Nat), ∀ q : vw_C, mx_cl[k]? = some q → u_Kn s q.1 q.2.1 q.2.2 cC iS := by
    intro k
    cases hq : mx_cl[k]? with
    | none => exact ⟨0, fun _ => 0, fun q h => by cases h⟩
    | some q =>
      obtain ⟨hin, hinst, -⟩ := mx_cf.1 k q hq
      obtain ⟨cC, iS, h⟩ := u_known (C := q.1) (T := q.2.1) (N := q.2.2) (n := q.2.2) htsT hin (htsT _ hinst)
      exact ⟨cC, iS, fun q' h' => by cases h'; exact h⟩
  have hao : ∀ c ∈ mx_rA, ∀ r, mx_cl[c]? = some r → va_AO r.1 s := by
    intro c hc r hr
    have h2 := mx_aoc c hc
    rw [hr] at h2
    exact va_AO.of (hts _ (of_decide_eq_true (Option.some.inj h2)))
  have prim : ∀ ty : FieldType, Cond.arrayClass ty ∈ im_Ts → (∀ C, ty ≠ .object C) → ∃ cA : ClassId, ArrOfT s cA ty ∧ va_RA s cA ty := by
    intro ty hw hne
    obtain ⟨cA, k, comp, f1, f2, f3⟩ := Cond.arrayClass_spec (htsT _ hw)
    refine ⟨cA, fun n z => ⟨(fun q h => by cases h), k, f2, comp, f3⟩, ?_⟩
    cases ty <;> first | exact f1 | exact absurd rfl (hne _)
  have hA : ∀ t : Nat, ∃ cA : ClassId, ∀ ty, im_tag mx_rA t → im_ty mx_cl t = some ty → ArrOfT s cA ty ∧ va_RA s cA ty := by
    intro t
    by_cases ht : im_tag mx_rA t
    · rcases ht with rfl | rfl | rfl | ⟨c, hc, rfl⟩
      · obtain ⟨cA, h⟩ := prim .int mx_cf.2.2.1 (fun C h => by cases h)
        exact ⟨cA, fun ty _ hty => by cases hty; exact h⟩
      · obtain ⟨cA, h⟩ := prim .long mx_cf.2.2.2.1 (fun C h => by cases h)
        exact ⟨cA, fun ty _ hty => by cases hty; exact h⟩
      · obtain ⟨cA, h⟩ := prim .char mx_cf.2.2.2.2 (fun C h => by cases h)
        exact ⟨cA, fun ty _ hty => by cases hty; exact h⟩
      · obtain ⟨r, hr⟩ := mx_cf.2.1 c hc
        obtain ⟨comp, cA, k, f1, f2, f3, f4, f5⟩ := Cond.arrayOver_spec (hao c hc r hr)
        refine ⟨cA, fun ty _ hty => ?_⟩
        unfold im_ty at hty
        rw [if_neg (by omega), if_neg (by omega), if_neg (by omega), show 110 + c - 110 = c by omega, hr] at hty
        cases hty
        exact ⟨fun n z => ⟨(fun q h => by cases h), k, f3, comp, f4⟩, k, comp, f3, f4, f1, f5⟩
    · exact ⟨0, fun ty h => absurd h ht⟩
  have hK : im_K (fun k => Classical.choose (hcl k), fun k => Classical.choose (Classical.choose_spec (hcl k))) (fun t => Classical.choose (hA t)) mx_cl mx_rA mx_nw b L xs s.heap s := by
    refine ⟨⟨fun k q hq => Classical.choose_spec (Classical.choose_spec (hcl k)) q hq, fun k q h => by simp at h⟩, fun t ty h1 h2 => Classical.choose_spec (hA t) ty h1 h2, fun w hw => ?_, hao, hX⟩
    have hon : w.onTables = true := by
      rcases mx_nw_ok w hw with ⟨_, _, _, _, rfl⟩ | ⟨_, _, rfl⟩ <;> rfl
    rw [mx_nw_in] at hw
    obtain ⟨i, -, hi⟩ := List.mem_filterMap.mp hw
    exact va_Nw.of hon (hts w (List.mem_of_getElem? hi))
  generalize ((fun k => Classical.choose (hcl k), fun k => Classical.choose (Classical.choose_spec (hcl k))) : va_G) = D at hK
  generalize (fun t => Classical.choose (hA t)) = dA at hK
  have hR : im_Rl D dA mx_cl mx_rA b s.heap.size L xs s.heap s.heap (im_h0 L xs) := by
    refine ⟨rfl, Nat.le_refl _, fun _ _ => rfl, rfl, fun k c h => ?_, fun k hk => ?_⟩
    · have h : (if k + 1 = 0 then some (99, L, fun j => Value.int (xs j)) else none) = some c := h
      rw [if_neg (by omega)] at h
      cases h
    · have hk : 1 ≤ k := hk
      show (if k = 0 then some (99, L, fun j => Value.int (xs j)) else none) = (none : Option im_C)
      rw [if_neg (by omega)]
  have hl := lv_entry [Value.ref b] (n := 4) (Nat.le_of_ble_eq_true rfl)
  rw [lg_entry_eq]
  have hl : lv_has ((lg_sl [Value.ref b] ++ List.replicate (4 - (lg_sl [Value.ref b]).length) Slot.unset).toArray) im_m104.2.2.1 (im_ml b s.heap.size (lv_args 0 [.ref 0])) := hl
  refine im_ex_ok (l := l) (R := room_1) (Q := lw_Z below #[Value.ref b] s) (p := p) (e := e) (m := m) (below := below) (meth := meth) (d := 12) (n0 := 1) (u0 := 0) hx hb hml htsT hown (fun h => absurd h (by decide)) hK hbl mx_cf mx_gf mx_nw_ok mm_all_o mm_e104 (Nat.le_of_ble_eq_true rfl) (Nat.le_of_ble_eq_true rfl) (im_rn_ok hbl mx_cf mx_gf mx_nw_ok mm_all_o mm_all_e 12) (im_rn_mono 12) (r := (h1, some (.int 1))) (by show h1.1 - 1 ≤ 600000; omega) (by show h1.2.1 - 0 ≤ 7302250; omega)
      (fun H locs ls pc i len st g1 g2 g3 g4 g5 => ?_) F 0 (lv_args 0 [.ref 0]) [] (im_h0 L xs) _ [] s.heap hp hl hR (fun q hq => by cases hq) (Nat.le_refl _) (Nat.le_refl _)
  · refine va_forget g5 (W.widen (k := 600000) (n := 7302250) (by show h1.1 - 1 ≤ 600000; omega) (by show h1.2.1 - 0 ≤ 7302250; omega) ?_)
    have g6 : im_r (some .boolean) i st = some (some (.int 1)) := g3
    clear g3
    cases i <;> first | exact nomatch (show (none : Option (Option Value)) = some (some (.int 1)) from g6) | skip
    case ireturn =>
      have e1 := g2 1 rfl; subst e1
      dsimp only [im_r] at g6
      split at g6
      · rename_i hq
        exact absurd hq (by decide)
      · split at g6
        · cases g6
          exact lw_ret hx hb hr hlocks g1
        · cases g6
      · cases g6
