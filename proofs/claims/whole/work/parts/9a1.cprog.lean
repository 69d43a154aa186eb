/-! THE CLASS'S PROGRAM -/
/-- the key of a name, the value of an integer -/
def eKy : pE → Int
  | .num i => i
  | .mulL k a => kC k (eN a)
  | _ => 0
/-- kind and key of the first argument -/
def fk : pE → Int
  | .mulL _ (.add x _) => eKd x
  | _ => 0
def fy : pE → Int
  | .mulL _ (.add x _) => eKy x
  | _ => 0
def cm (k z k' z' : Int) : Bool := decide (k ≤ 1) || decide (k' ≤ 1) || (decide (k = k') && decide (z = z'))
def hdB (PL : List pCl) (x : Int) (c : Nat) : Bool := match PL[c]? with
  | some cl => decide (eKy cl.1 = x)
  | none => false
def cdB (PL : List pCl) (x k z : Int) (c : Nat) : Bool := match PL[c]? with
  | some cl => decide (eKy cl.1 = x) && cm k z (fk cl.1) (fy cl.1)
  | none => false
/-- the program in cell a, its clauses in row r -/
def cPo (T : hy_T) (m : hy_m) (F : Nat → Prop) (a r : Nat) (PL : List pCl) : Prop := T.1 a = some (5, 3) ∧ m a 1 = r ∧ T.1 r = some (113, 20) ∧ m a 2 = PL.length ∧ PL.length ≤ 20 ∧ (∀ (i : Nat) (cl : pCl), PL[i]? = some cl → (∃ c : Nat, m r (i : Int) = c ∧ cCl T m F c (some cl.1) cl.2.1 cl.2.2) ∧ kOK (some cl.1) cl.2.1 cl.2.2) ∧ (∃ no : Nat, m a 0 = no ∧ T.1 no = some (3, 9)) ∧ ∀ i : Nat, i < 20 → ∃ c : Nat, m r (i : Int) = c ∧ T.1 c = some (3, 9)
theorem hdB_hi {PL : List pCl} {x : Int} {c : Nat} (h : PL.length ≤ c) : hdB PL x c = false := by
  unfold hdB
  rw [List.getElem?_eq_none h]
theorem cdB_hi {PL : List pCl} {x k z : Int} {c : Nat} (h : PL.length ≤ c) : cdB PL x k z c = false := by
  unfold cdB
  rw [List.getElem?_eq_none h]
theorem cQ_ky {m : hy_m} {c k0 k1 k2 : Nat} {t : pE} {n : Int} (h : cQ m c k0 k1 k2 t n) (hv : ∀ w : Nat, t ≠ .var w) : m k1 n = eKy t := by
  cases t with
  | var v => exact absurd rfl (hv v)
  | num i =>
    rcases h with h | h
    · exact h.2.2.2.2
    · exact absurd h.1 (by decide)
  | mulL k a => exact h.2.2.2.1
  | add a b => exact absurd h.1 (by decide)
  | sub _ _ => exact h.elim
  | neg _ => exact h.elim
  | mulR _ _ => exact h.elim
section CPG
variable {T : hy_T} {m : hy_m} {F : Nat → Prop} {Q : Int → hy_m → Prop} {a r c nv : Nat} {PL : List pCl} {h : pE} {gs : List pE}
theorem sp_52 {x : Int} (hp : cPo T m F a r PL) (h1 : 0 ≤ x → x < PL.length → Q 1 m) (h0 : ¬ (0 ≤ x ∧ x < PL.length) → Q 0 m) : wq_52 (a : Int) x T m Q := by
  unfold wq_52
  rw [Int.toNat_natCast, hp.2.2.2.1]
  exact ⟨fun q => h0 (by omega), fun q => ⟨hp.1, fun q2 => h0 (by omega), fun q2 => h1 q q2⟩⟩
theorem sp_53 {i : Nat} {cl : pCl} (hp : cPo T m F a r PL) (hi : PL[i]? = some cl) (hq : ∀ c : Nat, cCl T m F c (some cl.1) cl.2.1 cl.2.2 → kOK (some cl.1) cl.2.1 cl.2.2 → m r (i : Int) = c → Q (c : Int) m) : wq_53 (a : Int) (i : Int) T m Q := by
  obtain ⟨p1, p2, p3, p4, p5, p6, p7, p8⟩ := hp
  have hl := (List.getElem?_eq_some_iff.mp hi).1
  obtain ⟨⟨c, c1, c2⟩, c3⟩ := p6 i cl hi
  unfold wq_53
  rw [Int.toNat_natCast]
  refine ⟨p1, sp_52 ⟨p1, p2, p3, p4, p5, p6, p7, p8⟩ (fun _ _ => ⟨fun q => absurd q (by decide), fun _ => ⟨p1, ?_⟩⟩) (fun q => absurd ⟨by omega, by omega⟩ q)⟩
  rw [p2, Int.toNat_natCast]
  refine ⟨113, 20, p3, by decide, fun q => ?_, fun _ => ⟨p1, 113, 20, p3, by decide, by omega, ?_, ?_⟩⟩
  · have : ((20 : Nat) : Int) = 20 := rfl
    omega
  · have : ((20 : Nat) : Int) = 20 := rfl
    omega
  · rw [c1]
    exact hq c c2 c3 c1
/-- predicate -/
theorem sp_45 (hc : cCl T m F c (some h) gs nv) (hk : kOK (some h) gs nv) (hq : Q (eKy h) m) : wq_45 (c : Int) T m Q := by
  obtain ⟨cc, k0, k1, k2, k4, k7, k8, hK, a1, a2, a3, a4, a5, a6, a7, a8, a9, -⟩ := hc
  have hh := a9 h rfl
  obtain ⟨-, k, b, rfl, -⟩ := hk.2.1 h rfl
  unfold wq_45
  rw [Int.toNat_natCast]
  refine ⟨hK.1, hK.1, sp_41 hK ?_⟩
  rw [if_pos (cQ_kd hh).1, cQ_ky hh (fun w q => by cases q)]
  exact hq
theorem cCl_arg {k : Int} {x rr : pE} (hc : cCl T m F c (some (.mulL k (.add x rr))) gs nv) : ∃ cc k0 k1 k2 : Nat, cK T m c cc k0 k1 k2 ∧ (0 ≤ m c 3 ∧ m c 3 < cc) ∧ cQ m cc k0 k1 k2 x (m k2 (3 * m c 3 + 0)) := by
  obtain ⟨cc, k0, k1, k2, k4, k7, k8, hK, a1, a2, a3, a4, a5, a6, a7, a8, a9, -⟩ := hc
  have hh := a9 _ rfl
  exact ⟨cc, k0, k1, k2, hK, (cQ_kd hh).1, hh.2.2.2.2.2.2.2.2.2.1⟩
theorem kOK_h (hk : kOK (some h) gs nv) : ∃ (k : Int) (b : pE), h = .mulL k b ∧ nmOK k ∧ eN b ≤ 3 ∧ (eN b = 0 → b = .num 0) ∧ (eN b ≠ 0 → ∃ x rr, b = .add x rr ∧ eK nv x false) := by
  obtain ⟨h1, k, b, rfl, -⟩ := hk.2.1 h rfl
  obtain ⟨-, n1, n2, -, -, n3⟩ := h1
  refine ⟨k, b, rfl, n1, n2, fun q => ?_, fun q => ?_⟩
  · cases b with
    | num i =>
      have : i = 0 := n3
      rw [this]
    | add x rr => exact absurd q (Nat.succ_ne_zero _)
    | var v => exact absurd n3.1 (by decide)
    | mulL _ _ => exact absurd n3.1 (by decide)
    | sub _ _ => exact n3.elim
    | neg _ => exact n3.elim
    | mulR _ _ => exact n3.elim
  · cases b with
    | num i => exact absurd rfl q
    | add x rr => exact ⟨x, rr, rfl, n3.2.1⟩
    | var v => exact absurd n3.1 (by decide)
    | mulL _ _ => exact absurd n3.1 (by decide)
    | sub _ _ => exact n3.elim
    | neg _ => exact n3.elim
    | mulR _ _ => exact n3.elim
/-- firstKind -/
theorem sp_46 (hc : cCl T m F c (some h) gs nv) (hk : kOK (some h) gs nv) (hq : Q (fk h) m) : wq_46 (c : Int) T m Q := by
  have hT : T.1 c = some (3, 9) := by
    obtain ⟨cc, k0, k1, k2, k4, k7, k8, hK, -⟩ := hc
    exact hK.1
  unfold wq_46
  refine ⟨by rw [Int.toNat_natCast]; exact hT, sp_45 hc hk ?_⟩
  obtain ⟨k, b, rfl, n1, n2, n3, n4⟩ := kOK_h hk
  show wq_26 (kC k (eN b)) m _
  refine sp_26 n2 ⟨fun q => ?_, fun q => ?_⟩
  · obtain ⟨x, rr, rfl, -⟩ := n4 (by omega)
    obtain ⟨cc, k0, k1, k2, hK, hr, hx⟩ := cCl_arg hc
    rw [Int.toNat_natCast]
    refine ⟨hT, hT, sp_42 (j := 0) hK hr (by decide) ⟨hT, sp_40 hK ?_⟩⟩
    rw [show ((0 : Nat) : Int) = 0 from rfl, if_pos (cQ_kd hx).1, (cQ_kd hx).2]
    exact hq
  · rw [n3 (by omega)] at hq
    exact hq
/-- firstKey -/
theorem sp_47 (hc : cCl T m F c (some h) gs nv) (hk : kOK (some h) gs nv) (hq : ∀ z, (1 < fk h → z = fy h) → Q z m) : wq_47 (c : Int) T m Q := by
  have hT : T.1 c = some (3, 9) := by
    obtain ⟨cc, k0, k1, k2, k4, k7, k8, hK, -⟩ := hc
    exact hK.1
  unfold wq_47
  refine ⟨by rw [Int.toNat_natCast]; exact hT, sp_45 hc hk ?_⟩
  obtain ⟨k, b, rfl, n1, n2, n3, n4⟩ := kOK_h hk
  show wq_26 (kC k (eN b)) m _
  refine sp_26 n2 ⟨fun q => ?_, fun q => ?_⟩
  · obtain ⟨x, rr, rfl, -⟩ := n4 (by omega)
    obtain ⟨cc, k0, k1, k2, hK, hr, hx⟩ := cCl_arg hc
    rw [Int.toNat_natCast]
    refine ⟨hT, hT, sp_42 (j := 0) hK hr (by decide) ⟨hT, sp_41 hK ?_⟩⟩
    rw [show ((0 : Nat) : Int) = 0 from rfl, if_pos (cQ_kd hx).1]
    refine hq _ (fun h1 => cQ_ky hx (fun w e => ?_))
    rw [e] at h1
    exact absurd (show (1 : Int) < 1 from h1) (by decide)
  · refine hq 0 (fun h1 => ?_)
    rw [n3 (by omega)] at h1
    exact absurd (show (1 : Int) < 0 from h1) (by decide)
/-- canMatch -/
theorem sp_25 {k z k' z' w : Int} (hw : 1 < k' → w = z') (hq : Q (if cm k z k' z' = true then 1 else 0) m) : wq_25 k z k' w m Q := by
  unfold wq_25
  unfold cm at hq
  refine ⟨fun q => ?_, fun q => ⟨fun q2 => ⟨fun q3 => ?_, fun q3 => ⟨fun q4 => ?_, fun q4 => ?_⟩⟩, fun q2 => ?_⟩⟩
  · rw [decide_eq_true q, Bool.true_or, Bool.true_or] at hq
    exact hq
  · rw [decide_eq_false (show ¬ k ≤ 1 by omega), decide_eq_false (show ¬ k' ≤ 1 by omega), decide_eq_false q3] at hq
    exact hq
  · rw [hw q2] at q4
    rw [decide_eq_false (show ¬ k ≤ 1 by omega), decide_eq_false (show ¬ k' ≤ 1 by omega), decide_eq_true q3, decide_eq_false q4] at hq
    exact hq
  · rw [hw q2] at q4
    rw [decide_eq_false (show ¬ k ≤ 1 by omega), decide_eq_false (show ¬ k' ≤ 1 by omega), decide_eq_true q3, decide_eq_true q4] at hq
    exact hq
  · rw [decide_eq_true q2, Bool.or_true, Bool.true_or] at hq
    exact hq
/-- one more clause is looked at -/
theorem bS_in {x : Int} {p : Nat → Bool} {d : Nat} (h : bS x (fun v => decide (v < d) && p v)) (hd : d < 20) (hp : p d = true) : bS (iO x (iSl 1 (d : Int))) (fun v => decide (v < d + 1) && p v) := by
  refine bS_c (bS_or h (bS_1 hd)) (fun v hv => ?_)
  by_cases q : v < d
  · rw [decide_eq_true q, decide_eq_true (show v < d + 1 by omega), decide_eq_false (show ¬ d = v by omega), Bool.or_false]
  · by_cases q2 : d = v
    · rw [← q2, hp, decide_eq_true (show d < d + 1 by omega), decide_eq_true rfl, Bool.or_true]
      rfl
    · rw [decide_eq_false q, decide_eq_false q2, decide_eq_false (show ¬ v < d + 1 by omega), Bool.false_and, Bool.or_false]
theorem bS_nx {x : Int} {p : Nat → Bool} {d : Nat} (h : bS x (fun v => decide (v < d) && p v)) (hp : p d = false) : bS x (fun v => decide (v < d + 1) && p v) := by
  refine bS_c h (fun v hv => ?_)
  by_cases q2 : v = d
  · rw [q2, hp, Bool.and_false, Bool.and_false]
  · by_cases q : v < d
    · rw [decide_eq_true q, decide_eq_true (show v < d + 1 by omega)]
    · rw [decide_eq_false q, decide_eq_false (show ¬ v < d + 1 by omega)]
theorem bS_00 {p : Nat → Bool} : bS 0 (fun v => decide (v < 0) && p v) := bS_c bS_0 (fun v _ => by rw [decide_eq_false (Nat.not_lt_zero v), Bool.false_and])
theorem bS_al {x : Int} {p : Nat → Bool} {d : Nat} (h : bS x (fun v => decide (v < d) && p v)) (hp : ∀ v, d ≤ v → p v = false) : bS x p := by
  refine bS_c h (fun v _ => ?_)
  by_cases q : v < d
  · rw [decide_eq_true q, Bool.true_and]
  · rw [hp v (by omega), Bool.and_false]
/-- clausesOf -/
theorem sp_59 {x : Int} (hp : cPo T m F a r PL) (hq : ∀ y, bS y (hdB PL x) → Q y m) : wq_59 (a : Int) x T m Q := by
  unfold wq_59 wq_59_5
  refine wL2_rule (Nat.lt_wfRel.wf) (fun x3 x4 m' => m' = m ∧ ∃ d : Nat, x4 = d ∧ d ≤ PL.length ∧ bS x3 (fun v => decide (v < d) && hdB PL x v)) (fun _ x4 _ => 30 - x4.toNat) ?_ ⟨rfl, 0, rfl, Nat.zero_le _, bS_00⟩
  rintro P x3 x4 m' ⟨rfl, d, rfl, hd, hb⟩ hP
  have hp' := hp
  obtain ⟨p1, p2, p3, p4, p5, p6, p7, p8⟩ := hp
  unfold wf_59_5
  rw [Int.toNat_natCast, p4]
  refine ⟨p1, fun q => hq x3 (bS_al hb (fun v hv => hdB_hi (by omega))), fun q => ⟨p1, ?_⟩⟩
  have hl : d < PL.length := by omega
  have hg : PL[d]? = some PL[d] := List.getElem?_eq_getElem hl
  obtain ⟨⟨c, c1, c2⟩, c3⟩ := p6 d _ hg
  have hT : T.1 c = some (3, 9) := by
    obtain ⟨cc, k0, k1, k2, k4, k7, k8, hK, -⟩ := c2
    exact hK.1
  rw [p2, Int.toNat_natCast, c1, Int.toNat_natCast]
  have e20 : ((20 : Nat) : Int) = 20 := rfl
  have hdef : hdB PL x d = decide (eKy PL[d].1 = x) := by
    unfold hdB
    rw [hg]
  refine ⟨113, 20, p3, by decide, by omega, by omega, hT, sp_45 c2 c3 ⟨fun q2 => ⟨show -2147483648 ≤ _ ∧ _ < 2147483648 by omega, hP _ _ _ ⟨rfl, d + 1, by omega, by omega, bS_nx hb ?_⟩ ?_⟩, fun q2 => ⟨show -2147483648 ≤ _ ∧ _ < 2147483648 by omega, hP _ _ _ ⟨rfl, d + 1, by omega, by omega, bS_in hb (by omega) ?_⟩ ?_⟩⟩⟩
  · rw [hdef, decide_eq_false q2]
  · show 30 - _ < 30 - _
    omega
  · rw [hdef, decide_eq_true q2]
  · show 30 - _ < 30 - _
    omega
/-- candidates -/
theorem sp_60 {x k z : Int} (hp : cPo T m F a r PL) (hq : ∀ y, bS y (cdB PL x k z) → Q y m) : wq_60 (a : Int) x k z T m Q := by
  unfold wq_60 wq_60_6
  refine wL2_rule (Nat.lt_wfRel.wf) (fun x3 x4 m' => m' = m ∧ ∃ d : Nat, x4 = d ∧ d ≤ PL.length ∧ bS x3 (fun v => decide (v < d) && cdB PL x k z v)) (fun _ x4 _ => 30 - x4.toNat) ?_ ⟨rfl, 0, rfl, Nat.zero_le _, bS_00⟩
  rintro P x3 x4 m' ⟨rfl, d, rfl, hd, hb⟩ hP
  have hp' := hp
  obtain ⟨p1, p2, p3, p4, p5, p6, p7, p8⟩ := hp
  unfold wf_60_6
  rw [Int.toNat_natCast, p4]
  refine ⟨p1, fun q => hq x3 (bS_al hb (fun v hv => cdB_hi (by omega))), fun q => ⟨p1, ?_⟩⟩
  have hl : d < PL.length := by omega
  have hg : PL[d]? = some PL[d] := List.getElem?_eq_getElem hl
  obtain ⟨⟨c, c1, c2⟩, c3⟩ := p6 d _ hg
  have hT : T.1 c = some (3, 9) := by
    obtain ⟨cc, k0, k1, k2, k4, k7, k8, hK, -⟩ := c2
    exact hK.1
  rw [p2, Int.toNat_natCast, c1, Int.toNat_natCast]
  have e20 : ((20 : Nat) : Int) = 20 := rfl
  have hdef : cdB PL x k z d = (decide (eKy PL[d].1 = x) && cm k z (fk PL[d].1) (fy PL[d].1)) := by
    unfold cdB
    rw [hg]
  have nx : cdB PL x k z d = false → hy_r 0 ((d : Int) + 1) ∧ P x3 ((d : Int) + 1) m' := fun e => ⟨show -2147483648 ≤ _ ∧ _ < 2147483648 by omega, hP _ _ _ ⟨rfl, d + 1, by omega, by omega, bS_nx hb e⟩ (by
    show 30 - _ < 30 - _
    omega)⟩
  have ny : cdB PL x k z d = true → hy_r 0 ((d : Int) + 1) ∧ P (iO x3 (iSl 1 (d : Int))) ((d : Int) + 1) m' := fun e => ⟨show -2147483648 ≤ _ ∧ _ < 2147483648 by omega, hP _ _ _ ⟨rfl, d + 1, by omega, by omega, bS_in hb (by omega) e⟩ (by
    show 30 - _ < 30 - _
    omega)⟩
  refine ⟨113, 20, p3, by decide, by omega, by omega, hT, sp_45 c2 c3 ⟨fun q2 => nx ?_, fun q2 => ⟨hT, sp_46 c2 c3 ⟨hT, sp_47 c2 c3 (fun w hw => sp_25 hw ?_)⟩⟩⟩⟩
  · rw [hdef, decide_eq_false q2, Bool.false_and]
  · rw [decide_eq_true q2, Bool.true_and] at hdef
    by_cases e : cm k z (fk PL[d].1) (fy PL[d].1) = true
    · rw [if_pos e]
      exact ⟨fun q => absurd q (by decide), fun _ => ny (hdef.trans e)⟩
    · rw [if_neg e]
      exact ⟨fun _ => nx (hdef.trans (Bool.eq_false_iff.mpr e)), fun q => absurd rfl q⟩
end CPG
