/-! WHAT THE CLASS TELLS OF ITS PROGRAM: missing, overlaps, ways -/
def ewB (h : pE) (gs : List pE) : Bool := match gs.getLast? with
  | some g => decide (eKy g = eKy h)
  | none => false
def ovS (PL : List pCl) (x : Int) : Nat → Nat
  | 0 => 0
  | d + 1 => ovS PL x d + (match PL[d]? with
    | some cl => if eKy cl.1 = x then cntB (fun v => cdB PL x (fk cl.1) (fy cl.1) v && decide (v < d)) 20 else 0
    | none => 0)
/-- clause c calls clause v -/
def ctB (PL : List pCl) (c v : Nat) : Bool := match PL[c]? with
  | some cl => (cals cl).any (fun x => hdB PL x v)
  | none => false
/-- what these call -/
def clB (PL : List pCl) (p : Nat → Bool) (v : Nat) : Bool := (List.range PL.length).any (fun c => p c && ctB PL c v)
def lvl (PL : List pCl) (p : Nat → Bool) : Nat → (Nat → Bool) × (Nat → Bool)
  | 0 => (p, fun _ => false)
  | s + 1 => (fun v => clB PL (lvl PL p s).1 v && !(lvl PL p s).2 v, fun v => (lvl PL p s).2 v || clB PL (lvl PL p s).1 v)
def rcI (PL : List pCl) (p : Nat → Bool) (d : Nat) (r : Int) : Prop := (r = -9 ∧ ∀ s, s < 20 → clB PL (lvl PL p s).1 d = false) ∨ ∃ s : Nat, s < 20 ∧ r = (s : Int) + 1 ∧ clB PL (lvl PL p s).1 d = true ∧ ∀ s', s' < s → clB PL (lvl PL p s').1 d = false
theorem clB_c {PL : List pCl} {p q : Nat → Bool} (hl : PL.length ≤ 20) (h : ∀ v, v < 20 → p v = q v) (v : Nat) : clB PL p v = clB PL q v := by
  unfold clB
  have e : ∀ c ∈ List.range PL.length, (p c && ctB PL c v) = (q c && ctB PL c v) := fun c hc => by
    rw [h c (by have := List.mem_range.mp hc; omega)]
  rw [Bool.eq_iff_iff, List.any_eq_true, List.any_eq_true]
  refine ⟨fun ⟨c, h1, h2⟩ => ⟨c, h1, (e c h1).symm.trans h2⟩, fun ⟨c, h1, h2⟩ => ⟨c, h1, (e c h1).trans h2⟩⟩
theorem clB_z {PL : List pCl} {p : Nat → Bool} (hl : PL.length ≤ 20) (h : ∀ v, v < 20 → p v = false) (v : Nat) : clB PL p v = false := by
  rw [clB_c hl (q := fun _ => false) h v]
  unfold clB
  rw [Bool.eq_false_iff]
  intro q
  obtain ⟨c, h1, h2⟩ := List.any_eq_true.mp q
  exact absurd h2 (by rw [Bool.false_and]; exact Bool.false_ne_true)
theorem lvl_z {PL : List pCl} {p : Nat → Bool} {s : Nat} (hl : PL.length ≤ 20) (h : ∀ v, v < 20 → (lvl PL p s).1 v = false) : ∀ k v, v < 20 → (lvl PL p (s + k)).1 v = false
  | 0, v, hv => h v hv
  | k + 1, v, hv => by
    show (clB PL (lvl PL p (s + k)).1 v && _) = false
    rw [clB_z hl (lvl_z hl h k), Bool.false_and]
theorem dsM_le (p : Int → Bool) : ∀ (l s : List Int), dsM p s l ≤ l.length
  | [], _ => Nat.le_refl _
  | x :: l, s => by
    show (if p x = true ∧ x ∉ s then 1 else 0) + dsM p (s ++ [x]) l ≤ l.length + 1
    have := dsM_le p l (s ++ [x])
    split <;> omega
section CTM
variable {T : hy_T} {m : hy_m} {F : Nat → Prop} {Q : Int → hy_m → Prop} {a r c nv : Nat} {PL : List pCl} {h : pE} {gs : List pE}
/-- countMissing -/
theorem sp_62 (hp : cPo T m F a r PL) (hq : Q ((dsM (noB PL) [] (calB PL PL.length 0) : Nat) : Int) m) : wq_62 (a : Int) T m Q := by
  have hp' := hp
  obtain ⟨p1, p2, p3, p4, p5, p6, p7, p8⟩ := hp
  have e20 : ((20 : Nat) : Int) = 20 := rfl
  unfold wq_62 wq_62_4
  refine wL2_rule (Nat.lt_wfRel.wf) (fun x1 x2 m' => m' = m ∧ ∃ d : Nat, x2 = d ∧ d ≤ PL.length ∧ x1 = dsM (noB PL) [] (calB PL d 0) ∧ x1 ≤ 5 * (d : Int)) (fun _ x2 _ => 30 - x2.toNat) ?_ ⟨rfl, 0, rfl, Nat.zero_le _, by rw [calB_0]; rfl, by decide⟩
  rintro P4 x1 x2 m' ⟨e1, d, rfl, hd, rfl, hb⟩ hP4
  unfold wf_62_4
  rw [e1, Int.toNat_natCast, p4]
  refine ⟨p1, fun q => ?_, fun q => ⟨p1, ?_⟩⟩
  · have e : d = PL.length := by omega
    rw [e]
    exact hq
  have hl : d < PL.length := by omega
  obtain ⟨⟨c, c1, c2⟩, c3⟩ := p6 d _ (List.getElem?_eq_getElem hl)
  obtain ⟨k7, s1, s2, s3⟩ := cCl_7 c2
  have h5 := c3.2.2.2.1
  have hcl : (cals PL[d]).length = PL[d].2.1.length := List.length_map ..
  rw [p2, Int.toNat_natCast, c1, Int.toNat_natCast, s1]
  refine ⟨113, 20, p3, by decide, by omega, by omega, cCl_T c2, ?_⟩
  unfold wq_62_25
  refine wL2_rule (Nat.lt_wfRel.wf) (fun x1 x4 m' => m' = m ∧ ∃ g : Nat, x4 = g ∧ g ≤ PL[d].2.1.length ∧ x1 = dsM (noB PL) [] (calB PL d g) ∧ x1 ≤ 5 * (d : Int) + (g : Int)) (fun _ x4 _ => 30 - x4.toNat) ?_ ⟨rfl, 0, rfl, Nat.zero_le _, rfl, by omega⟩
  rintro P25 x1 x4 m' ⟨e1', g, rfl, hg, rfl, hb'⟩ hP
  unfold wf_62_25
  rw [e1', Int.toNat_natCast]
  refine ⟨101, _, s2, by decide, fun q2 => ⟨show -2147483648 ≤ _ ∧ _ < 2147483648 by omega, hP4 _ _ _ ⟨rfl, d + 1, by omega, by omega, ?_, by omega⟩ ?_⟩, fun q2 => ?_⟩
  · rw [← calB_n hl, hcl, show g = PL[d].2.1.length by omega]
  · show 30 - _ < 30 - _
    omega
  have hgl : g < (cals PL[d]).length := by omega
  have hz := List.getElem?_eq_getElem hgl
  have hss := calB_s hl hz
  rw [s3 g _ hz]
  generalize (cals PL[d])[g] = y at *
  have hst : dsM (noB PL) [] (calB PL d (g + 1)) = dsM (noB PL) [] (calB PL d g) + (if noB PL y = true ∧ y ∉ calB PL d g then 1 else 0) := by
    rw [hss, dsM_app]
    rfl
  have nx : (¬ (noB PL y = true ∧ y ∉ calB PL d g)) → hy_r 0 ((g : Int) + 1) ∧ P25 ((dsM (noB PL) [] (calB PL d g) : Nat) : Int) ((g : Int) + 1) m := fun e => ⟨show -2147483648 ≤ _ ∧ _ < 2147483648 by omega, hP _ _ _ ⟨rfl, g + 1, by omega, by omega, by rw [hst, if_neg e]; rfl, by omega⟩ (by
    show 30 - _ < 30 - _
    omega)⟩
  refine ⟨_, s2, by omega, by omega, fun q3 => nx (fun ⟨z, _⟩ => ?_), fun q3 => ⟨_, s2, by omega, by omega, ?_⟩⟩
  · unfold noB at z
    rw [q3, decide_eq_false (fun z => z rfl), Bool.false_and] at z
    cases z
  rw [Int.toNat_natCast]
  refine ⟨p1, sp_59 hp' (fun w hw => ⟨fun q4 => nx (fun ⟨z, _⟩ => ?_), fun q4 => ⟨p1, sp_63 hp' hl hz ?_⟩⟩)⟩
  · unfold noB at z
    rw [Bool.and_eq_true, decide_eq_true_eq, decide_eq_true_eq] at z
    exact q4 ((bS_z hw).mpr ((cntB_z 20).mp z.2))
  · by_cases hm : y ∈ calB PL d g
    · rw [if_pos hm]
      exact ⟨fun _ => nx (fun z => z.2 hm), fun q => absurd q (by decide)⟩
    · rw [if_neg hm]
      refine ⟨fun q => absurd rfl q, fun _ => ⟨show -2147483648 ≤ _ ∧ _ < 2147483648 by omega, show -2147483648 ≤ _ ∧ _ < 2147483648 by omega, hP _ _ _ ⟨rfl, g + 1, by omega, by omega, ?_, by omega⟩ ?_⟩⟩
      · have hno : noB PL y = true := by
          unfold noB
          rw [Bool.and_eq_true, decide_eq_true_eq, decide_eq_true_eq]
          exact ⟨q3, (cntB_z 20).mpr ((bS_z hw).mp q4)⟩
        rw [hst, if_pos ⟨hno, hm⟩]
        rfl
      · show 30 - _ < 30 - _
        omega
/-- endsWithOwnPredicate -/
theorem sp_48 (hc : cCl T m F c (some h) gs nv) (hk : kOK (some h) gs nv) (hq : Q (if ewB h gs = true then 1 else 0) m) : wq_48 (c : Int) T m Q := by
  have hc' := hc
  obtain ⟨cc, k0, k1, k2, k4, k7, k8, hK, a1, a2, a3, a4, a5, a6, a7, a8, a9, a10, a11, -⟩ := hc
  have hT := hK.1
  unfold wq_48
  rw [Int.toNat_natCast, a2, Int.toNat_natCast]
  refine ⟨hT, 100, _, a3, by decide, fun q => ?_, fun q => ⟨hT, hT, 100, _, a3, by decide, _, a3, by omega, by omega, hT, ?_⟩⟩
  · have e : gs = [] := List.eq_nil_of_length_eq_zero (by omega)
    rw [e] at hq
    exact hq
  have hl : gs.length - 1 < gs.length := by omega
  have hg := a11 (gs.length - 1) hl
  rw [show ((gs.length - 1 : Nat) : Int) = (gs.length : Int) - 1 by omega] at hg
  have hgm := hk.2.2.1 gs[gs.length - 1] (List.getElem_mem hl)
  have he : ewB h gs = decide (eKy gs[gs.length - 1] = eKy h) := by
    unfold ewB
    rw [List.getLast?_eq_getElem?, List.getElem?_eq_getElem hl]
  refine sp_41 hK ?_
  rw [if_pos (cQ_kd hg).1, cQ_ky hg (fun w e => by
    obtain ⟨-, k, b, e2, -⟩ := hgm
    rw [e] at e2
    cases e2)]
  refine ⟨hT, sp_45 hc' hk ⟨fun q2 => ?_, fun q2 => ?_⟩⟩
  · rw [he, decide_eq_false q2] at hq
    exact hq
  · rw [he, decide_eq_true q2] at hq
    exact hq
theorem cdB_z {x k z z' : Int} (hz : 1 < k → z = z') (v : Nat) : cdB PL x k z v = cdB PL x k z' v := by
  unfold cdB
  cases PL[v]? with
  | none => rfl
  | some cl =>
    show (_ && cm k z _ _) = (_ && cm k z' _ _)
    unfold cm
    by_cases q : 1 < k
    · rw [hz q]
    · rw [decide_eq_true (show k ≤ 1 by omega)]
      rfl
/-- countOverlaps -/
theorem sp_64 {i : Nat} {cl : pCl} (hp : cPo T m F a r PL) (hi : PL[i]? = some cl) (hq : Q ((ovS PL (eKy cl.1) PL.length : Nat) : Int) m) : wq_64 (a : Int) (i : Int) T m Q := by
  have hp' := hp
  obtain ⟨p1, p2, p3, p4, p5, p6, p7, p8⟩ := hp
  have e20 : ((20 : Nat) : Int) = 20 := rfl
  unfold wq_64
  rw [Int.toNat_natCast]
  refine ⟨p1, sp_53 hp' hi (fun c c2 c3 _ => ⟨by rw [Int.toNat_natCast]; exact cCl_T c2, sp_45 c2 c3 ?_⟩)⟩
  generalize eKy cl.1 = x at *
  unfold wq_64_15
  refine wL2_rule (Nat.lt_wfRel.wf) (fun x4 x5 m' => m' = m ∧ ∃ d : Nat, x5 = d ∧ d ≤ PL.length ∧ x4 = ovS PL x d ∧ x4 ≤ 20 * (d : Int)) (fun _ x5 _ => 30 - x5.toNat) ?_ ⟨rfl, 0, rfl, Nat.zero_le _, rfl, by decide⟩
  rintro P x4 x5 m' ⟨e1, d, rfl, hd, rfl, hb⟩ hP
  unfold wf_64_15
  rw [e1, Int.toNat_natCast, p4]
  refine ⟨p1, fun q => ?_, fun q => ⟨p1, ?_⟩⟩
  · rw [show d = PL.length by omega]
    exact hq
  have hl : d < PL.length := by omega
  have hg := List.getElem?_eq_getElem hl
  obtain ⟨⟨c', c1', c2'⟩, c3'⟩ := p6 d _ hg
  have hT := cCl_T c2'
  rw [p2, Int.toNat_natCast, c1', Int.toNat_natCast]
  have hst : ovS PL x (d + 1) = ovS PL x d + (if eKy PL[d].1 = x then cntB (fun v => cdB PL x (fk PL[d].1) (fy PL[d].1) v && decide (v < d)) 20 else 0) := by
    show ovS PL x d + _ = _
    rw [hg]
  refine ⟨113, 20, p3, by decide, by omega, by omega, hT, sp_45 c2' c3' ⟨fun q2 => ⟨show -2147483648 ≤ _ ∧ _ < 2147483648 by omega, hP _ _ _ ⟨rfl, d + 1, by omega, by omega, ?_, by omega⟩ ?_⟩, fun q2 => ⟨hT, sp_46 c2' c3' ⟨hT, sp_47 c2' c3' (fun w hw => ⟨p1, sp_60 hp' (fun y hy => ?_)⟩)⟩⟩⟩⟩
  · rw [hst, if_neg q2]
    rfl
  · show 30 - _ < 30 - _
    omega
  have hs := bS_and (bS_c hy (fun v _ => cdB_z hw v)) (bS_b (c := d) (by omega))
  rw [iSl_1 (by omega)]
  refine bS_cnt hs ?_
  have hle := cntB_le (fun v => cdB PL x (fk PL[d].1) (fy PL[d].1) v && decide (v < d)) 20
  refine ⟨show -2147483648 ≤ _ ∧ _ < 2147483648 by omega, show -2147483648 ≤ _ ∧ _ < 2147483648 by omega, hP _ _ _ ⟨rfl, d + 1, by omega, by omega, ?_, by omega⟩ ?_⟩
  · rw [hst, if_pos q2]
    omega
  · show 30 - _ < 30 - _
    omega
/-- calledBy -/
theorem sp_66 {x : Int} {p : Nat → Bool} (hp : cPo T m F a r PL) (hx : bS x p) (hq : ∀ y, bS y (clB PL p) → Q y m) : wq_66 (a : Int) x T m Q := by
  have hp' := hp
  obtain ⟨p1, p2, p3, p4, p5, p6, p7, p8⟩ := hp
  have e20 : ((20 : Nat) : Int) = 20 := rfl
  unfold wq_66 wq_66_4
  refine wL2_rule (Nat.lt_wfRel.wf) (fun x2 x3 m' => m' = m ∧ ∃ d : Nat, x3 = d ∧ d ≤ PL.length ∧ bS x2 (fun v => (List.range d).any (fun c => p c && ctB PL c v))) (fun _ x3 _ => 30 - x3.toNat) ?_ ⟨rfl, 0, rfl, Nat.zero_le _, bS_0⟩
  rintro P4 x2 x3 m' ⟨e1, d, rfl, hd, hb⟩ hP4
  unfold wf_66_4
  rw [e1, Int.toNat_natCast, p4]
  refine ⟨p1, fun q => ?_, fun q => ?_⟩
  · rw [show d = PL.length by omega] at hb
    exact hq x2 hb
  have hl : d < PL.length := by omega
  have hbt := bS_t hx (i := d) (by omega)
  have rs : ∀ v, (List.range (d + 1)).any (fun c => p c && ctB PL c v) = ((List.range d).any (fun c => p c && ctB PL c v) || (p d && ctB PL d v)) := fun v => by
    rw [List.range_succ, List.any_append]
    simp
  refine ⟨fun q2 => ⟨show -2147483648 ≤ _ ∧ _ < 2147483648 by omega, hP4 _ _ _ ⟨rfl, d + 1, by omega, by omega, bS_c hb (fun v _ => ?_)⟩ ?_⟩, fun q2 => ⟨p1, ?_⟩⟩
  · rw [rs, hbt.mp q2, Bool.false_and, Bool.or_false]
  · show 30 - _ < 30 - _
    omega
  have hpd : p d = true := by
    cases e : p d with
    | true => rfl
    | false => exact absurd (hbt.mpr e) q2
  have hg := List.getElem?_eq_getElem hl
  obtain ⟨⟨c, c1, c2⟩, c3⟩ := p6 d _ hg
  obtain ⟨k7, s1, s2, s3⟩ := cCl_7 c2
  have h5 := c3.2.2.2.1
  have hcl : (cals PL[d]).length = PL[d].2.1.length := List.length_map ..
  have hct : ∀ v, ctB PL d v = (cals PL[d]).any (fun x => hdB PL x v) := fun v => by
    unfold ctB
    rw [hg]
  rw [p2, Int.toNat_natCast, c1, Int.toNat_natCast, s1]
  refine ⟨113, 20, p3, by decide, by omega, by omega, cCl_T c2, ?_⟩
  unfold wq_66_34
  refine wL2_rule (Nat.lt_wfRel.wf) (fun x2 x5 m' => m' = m ∧ ∃ g : Nat, x5 = g ∧ g ≤ PL[d].2.1.length ∧ bS x2 (fun v => (List.range d).any (fun c => p c && ctB PL c v) || ((cals PL[d]).take g).any (fun x => hdB PL x v))) (fun _ x5 _ => 30 - x5.toNat) ?_ ⟨rfl, 0, rfl, Nat.zero_le _, bS_c hb (fun v _ => by simp)⟩
  rintro P34 x2' x5 m' ⟨e1', g, rfl, hgg, hb'⟩ hP
  unfold wf_66_34
  rw [e1', Int.toNat_natCast]
  refine ⟨101, _, s2, by decide, fun q3 => ⟨show -2147483648 ≤ _ ∧ _ < 2147483648 by omega, hP4 _ _ _ ⟨rfl, d + 1, by omega, by omega, bS_c hb' (fun v _ => ?_)⟩ ?_⟩, fun q3 => ?_⟩
  · rw [rs, hpd, Bool.true_and, hct, List.take_of_length_le (by omega)]
  · show 30 - _ < 30 - _
    omega
  have hgl : g < (cals PL[d]).length := by omega
  have hz := List.getElem?_eq_getElem hgl
  rw [s3 g _ hz]
  refine ⟨_, s2, by omega, by omega, by rw [Int.toNat_natCast]; exact p1, sp_59 hp' (fun w hw => ⟨show -2147483648 ≤ _ ∧ _ < 2147483648 by omega, hP _ _ _ ⟨rfl, g + 1, by omega, by omega, bS_c (bS_or hb' hw) (fun v _ => ?_)⟩ ?_⟩)⟩
  · rw [List.take_add_one, hz, List.any_append, Bool.or_assoc]
    simp
  · show 30 - _ < 30 - _
    omega
/-- stepsBetween -/
theorem sp_65 {i d : Nat} {cl : pCl} (hp : cPo T m F a r PL) (hi : PL[i]? = some cl) (hd : d < PL.length) (hq : ∀ y, rcI PL (hdB PL (eKy cl.1)) d y → Q y m) : wq_65 (a : Int) (i : Int) (d : Int) T m Q := by
  have hp' := hp
  obtain ⟨p1, p2, p3, p4, p5, p6, p7, p8⟩ := hp
  unfold wq_65
  rw [Int.toNat_natCast]
  refine ⟨p1, sp_53 hp' hi (fun c c2 c3 _ => ⟨by rw [Int.toNat_natCast]; exact cCl_T c2, sp_45 c2 c3 ⟨p1, sp_59 hp' (fun y hy => ?_)⟩⟩)⟩
  unfold wq_65_19
  refine wL3_rule (Nat.lt_wfRel.wf) (fun x3 x4 x5 m' => m' = m ∧ ∃ s : Nat, x5 = (s : Int) + 1 ∧ s ≤ 20 ∧ bS x4 (lvl PL (hdB PL (eKy cl.1)) s).1 ∧ bS x3 (lvl PL (hdB PL (eKy cl.1)) s).2 ∧ ∀ s', s' < s → clB PL (lvl PL (hdB PL (eKy cl.1)) s').1 d = false) (fun _ _ x5 _ => 30 - x5.toNat) ?_ ⟨rfl, 0, rfl, Nat.zero_le _, hy, bS_0, fun s' h => absurd h (Nat.not_lt_zero _)⟩
  rintro P x3 x4 x5 m' ⟨e1, s, rfl, hs, h4, h3, hn⟩ hP
  unfold wf_65_19
  rw [e1]
  refine ⟨fun q => hq _ (Or.inl ⟨rfl, fun s' h' => hn s' (by omega)⟩), fun q => ⟨fun q2 => hq _ (Or.inl ⟨rfl, fun s' h' => ?_⟩), fun q2 => ⟨by rw [Int.toNat_natCast]; exact p1, sp_66 hp' h4 (fun w hw => ⟨fun q3 => ⟨show -2147483648 ≤ _ ∧ _ < 2147483648 by omega, hP _ _ _ _ ⟨rfl, s + 1, by omega, by omega, bS_df hw h3, bS_or h3 hw, fun s' h' => ?_⟩ ?_⟩, fun q3 => hq _ (Or.inr ⟨s, by omega, rfl, ?_, hn⟩)⟩)⟩⟩⟩
  · by_cases c : s' < s
    · exact hn s' c
    · have hz := lvl_z p5 ((bS_z h4).mp q2) (s' - s)
      rw [show s + (s' - s) = s' by omega] at hz
      exact clB_z p5 hz d
  · by_cases c : s' < s
    · exact hn s' c
    · rw [show s' = s by omega]
      exact (bS_t hw (by omega)).mp q3
  · show 30 - _ < 30 - _
    omega
  · cases e : clB PL (lvl PL (hdB PL (eKy cl.1)) s).1 d with
    | true => rfl
    | false => exact absurd ((bS_t hw (by omega)).mpr e) q3
end CTM
