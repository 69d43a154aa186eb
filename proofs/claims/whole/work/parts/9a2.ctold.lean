/-! WHAT THE CLASS TELLS OF ITS PROGRAM -/
def fsI (p : Nat → Bool) (r : Int) : Prop := (r = -9 ∧ ∀ v, v < 20 → p v = false) ∨ ∃ c : Nat, c < 20 ∧ r = c ∧ p c = true ∧ ∀ v, v < c → p v = false
theorem fsI_uq {p q : Nat → Bool} {r r' : Int} (h : fsI p r) (h' : fsI q r') (e : ∀ v, v < 20 → p v = q v) : r = r' := by
  rcases h with ⟨a1, a2⟩ | ⟨c, a0, a1, a2, a3⟩
  · rcases h' with ⟨b1, b2⟩ | ⟨c', b0, b1, b2, b3⟩
    · rw [a1, b1]
    · rw [← e c' b0, a2 c' b0] at b2
      cases b2
  · rcases h' with ⟨b1, b2⟩ | ⟨c', b0, b1, b2, b3⟩
    · rw [e c a0, b2 c a0] at a2
      cases a2
    · have : c = c' := by
        rcases Nat.lt_trichotomy c c' with q | q | q
        · have := b3 c q
          rw [← e c a0, a2] at this
          cases this
        · exact q
        · have := a3 c' q
          rw [e c' b0, b2] at this
          cases this
      rw [a1, b1, this]
def fcB (PL : List pCl) (c : Nat) : Bool := match PL[c]? with
  | some cl => decide (∀ v, v < c → hdB PL (eKy cl.1) v = false)
  | none => false
theorem cntB_hi {p : Nat → Bool} {d : Nat} : ∀ n, d ≤ n → (∀ v, d ≤ v → p v = false) → cntB p n = cntB p d
  | 0, h, _ => by rw [show d = 0 by omega]
  | n + 1, h, hp => by
    by_cases c : d = n + 1
    · rw [c]
    · show cntB p n + (if p n = true then 1 else 0) = _
      rw [hp n (by omega), cntB_hi n (by omega) hp]
      rfl
theorem cntB_z {p : Nat → Bool} : ∀ n, cntB p n = 0 ↔ ∀ v, v < n → p v = false
  | 0 => ⟨fun _ v hv => absurd hv (Nat.not_lt_zero _), fun _ => rfl⟩
  | n + 1 => by
    show cntB p n + (if p n = true then 1 else 0) = 0 ↔ _
    refine ⟨fun q v hv => ?_, fun q => ?_⟩
    · by_cases e : p n = true
      · rw [if_pos e] at q
        omega
      · by_cases c : v = n
        · rw [c]
          exact Bool.eq_false_iff.mpr e
        · exact (cntB_z n).mp (by omega) v (by omega)
    · rw [(cntB_z n).mpr (fun v hv => q v (by omega)), q n (Nat.lt_succ_self n)]
      rfl
def cals (cl : pCl) : List Int := cl.2.1.map (fun g => cal g false)
/-- all calls, in their order, before goal g of clause c -/
def calB (PL : List pCl) (c g : Nat) : List Int := (PL.take c).flatMap cals ++ (match PL[c]? with
  | some cl => (cals cl).take g
  | none => [])
def dsM (p : Int → Bool) : List Int → List Int → Nat
  | _, [] => 0
  | s, x :: l => (if p x = true ∧ x ∉ s then 1 else 0) + dsM p (s ++ [x]) l
theorem dsM_app (p : Int → Bool) : ∀ (l s l' : List Int), dsM p s (l ++ l') = dsM p s l + dsM p (s ++ l) l'
  | [], s, l' => by
    rw [List.append_nil]
    show dsM p s l' = 0 + dsM p s l'
    omega
  | x :: l, s, l' => by
    show _ + dsM p (s ++ [x]) (l ++ l') = (_ + dsM p (s ++ [x]) l) + _
    rw [dsM_app p l, List.append_assoc, Nat.add_assoc]
    rfl
/-- called, but without clauses -/
def noB (PL : List pCl) (x : Int) : Bool := decide (x ≠ 0) && decide (cntB (hdB PL x) 20 = 0)
section CTL
variable {T : hy_T} {m : hy_m} {F : Nat → Prop} {Q : Int → hy_m → Prop} {a r c nv : Nat} {PL : List pCl} {h : pE} {gs : List pE}
/-- firstOf -/
theorem sp_58 {x : Int} (hp : cPo T m F a r PL) (hq : ∀ y, fsI (hdB PL x) y → Q y m) : wq_58 (a : Int) x T m Q := by
  unfold wq_58
  rw [Int.toNat_natCast]
  refine ⟨hp.1, sp_59 hp (fun y hy => ⟨fun q => ?_, fun q => ?_⟩)⟩
  · obtain ⟨c, h1, h2, h3, h4, -⟩ := bS_low hy q
    exact h4 m _ (hq _ (Or.inr ⟨c, h1, rfl, h2, h3⟩))
  · exact hq _ (Or.inl ⟨rfl, (bS_z hy).mp q⟩)
theorem cCl_T (hc : cCl T m F c (some h) gs nv) : T.1 c = some (3, 9) := by
  obtain ⟨cc, k0, k1, k2, k4, k7, k8, hK, -⟩ := hc
  exact hK.1
theorem fcB_i {d : Nat} {y : Int} (hl : d < PL.length) (hd : d < 20) (hy : fsI (hdB PL (eKy PL[d].1)) y) : y = d ↔ fcB PL d = true := by
  have hg : PL[d]? = some PL[d] := List.getElem?_eq_getElem hl
  have hdd : hdB PL (eKy PL[d].1) d = true := by
    unfold hdB
    rw [hg]
    exact decide_eq_true rfl
  have hf : fcB PL d = decide (∀ v, v < d → hdB PL (eKy PL[d].1) v = false) := by
    unfold fcB
    rw [hg]
  rw [hf, decide_eq_true_eq]
  refine ⟨fun e => ?_, fun e => ?_⟩
  · rcases hy with ⟨a1, a2⟩ | ⟨c, a0, a1, a2, a3⟩
    · omega
    · have ec : c = d := by omega
      exact fun v hv => a3 v (by omega)
  · exact fsI_uq hy (Or.inr ⟨d, hd, rfl, hdd, e⟩) (fun _ _ => rfl)
/-- countPredicates -/
theorem sp_61 (hp : cPo T m F a r PL) (hq : Q ((cntB (fcB PL) 20 : Nat) : Int) m) : wq_61 (a : Int) T m Q := by
  unfold wq_61 wq_61_4
  refine wL2_rule (Nat.lt_wfRel.wf) (fun x1 x2 m' => m' = m ∧ ∃ d : Nat, x2 = d ∧ d ≤ PL.length ∧ x1 = cntB (fcB PL) d) (fun _ x2 _ => 30 - x2.toNat) ?_ ⟨rfl, 0, rfl, Nat.zero_le _, rfl⟩
  rintro P x1 x2 m' ⟨rfl, d, rfl, hd, rfl⟩ hP
  have hp' := hp
  obtain ⟨p1, p2, p3, p4, p5, p6, p7, p8⟩ := hp
  unfold wf_61_4
  rw [Int.toNat_natCast, p4]
  refine ⟨p1, fun q => ?_, fun q => ⟨p1, ?_⟩⟩
  · have e : d = PL.length := by omega
    rw [cntB_hi (d := PL.length) 20 p5 (fun v hv => by unfold fcB; rw [List.getElem?_eq_none hv])] at hq
    rw [e]
    exact hq
  have hl : d < PL.length := by omega
  have hg : PL[d]? = some PL[d] := List.getElem?_eq_getElem hl
  obtain ⟨⟨c, c1, c2⟩, c3⟩ := p6 d _ hg
  have hT := cCl_T c2
  have hle := cntB_le (fcB PL) d
  rw [p2, Int.toNat_natCast, c1, Int.toNat_natCast]
  have e20 : ((20 : Nat) : Int) = 20 := rfl
  refine ⟨113, 20, p3, by decide, by omega, by omega, hT, sp_45 c2 c3 ⟨p1, sp_58 hp' (fun y hy => ?_)⟩⟩
  have hi := fcB_i hl (by omega) hy
  refine ⟨fun q2 => ⟨show -2147483648 ≤ _ ∧ _ < 2147483648 by omega, show -2147483648 ≤ _ ∧ _ < 2147483648 by omega, hP _ _ _ ⟨rfl, d + 1, by omega, by omega, ?_⟩ ?_⟩, fun q2 => ⟨show -2147483648 ≤ _ ∧ _ < 2147483648 by omega, show -2147483648 ≤ _ ∧ _ < 2147483648 by omega, hP _ _ _ ⟨rfl, d + 1, by omega, by omega, ?_⟩ ?_⟩⟩
  · show _ = ((cntB (fcB PL) d + (if fcB PL d = true then 1 else 0) : Nat) : Int)
    rw [if_neg (fun q => q2 (hi.mpr q))]
    omega
  · show 30 - _ < 30 - _
    omega
  · show _ = ((cntB (fcB PL) d + (if fcB PL d = true then 1 else 0) : Nat) : Int)
    rw [if_pos (hi.mp q2)]
    omega
  · show 30 - _ < 30 - _
    omega
/-- the row of a clause's calls -/
theorem cCl_7 (hc : cCl T m F c (some h) gs nv) : ∃ k7 : Nat, m c 7 = k7 ∧ T.1 k7 = some (101, gs.length) ∧ ∀ (i : Nat) (y : Int), (gs.map (fun g => cal g false))[i]? = some y → m k7 (i : Int) = y := by
  obtain ⟨cc, k0, k1, k2, k4, k7, k8, hK, a1, a2, a3, a4, a5, a6, a7, a8, a9, a10, a11, a12, a13, a14, a15, -⟩ := hc
  refine ⟨k7, a4, a5, fun i y hy => ?_⟩
  rw [List.getElem?_map] at hy
  obtain ⟨g, g1, g2⟩ := Option.map_eq_some_iff.mp hy
  obtain ⟨hi, g1⟩ := List.getElem?_eq_some_iff.mp g1
  rw [a14 i hi, g1]
  exact g2
theorem calB_s {d g : Nat} {y : Int} (hl : d < PL.length) (hy : (cals PL[d])[g]? = some y) : calB PL d (g + 1) = calB PL d g ++ [y] := by
  unfold calB
  rw [List.getElem?_eq_getElem hl]
  show _ ++ (cals PL[d]).take (g + 1) = (_ ++ (cals PL[d]).take g) ++ [y]
  rw [List.take_add_one, hy, List.append_assoc]
  rfl
theorem calB_n {d : Nat} (hl : d < PL.length) : calB PL d (cals PL[d]).length = calB PL (d + 1) 0 := by
  unfold calB
  rw [List.getElem?_eq_getElem hl]
  show _ ++ (cals PL[d]).take (cals PL[d]).length = _
  rw [List.take_length, List.take_add_one, List.getElem?_eq_getElem hl]
  rw [List.flatMap_append, List.append_assoc]
  cases PL[d + 1]? <;> simp [List.flatMap]
theorem calB_0 : calB PL 0 0 = [] := by
  unfold calB
  cases PL[0]? <;> simp
/-- isCalledBefore -/
theorem sp_63 {d g : Nat} {y : Int} (hp : cPo T m F a r PL) (hl : d < PL.length) (hy : (cals PL[d])[g]? = some y) (hq : Q (if y ∈ calB PL d g then 1 else 0) m) : wq_63 (a : Int) (d : Int) (g : Int) T m Q := by
  have hp' := hp
  obtain ⟨p1, p2, p3, p4, p5, p6, p7, p8⟩ := hp
  have e20 : ((20 : Nat) : Int) = 20 := rfl
  have hgl := (List.getElem?_eq_some_iff.mp hy).1
  have hcl : (cals PL[d]).length = PL[d].2.1.length := List.length_map ..
  have inn : ∀ (P15 : Int → hy_m → Prop) (d' e : Nat) (hl' : d' < PL.length) (k7 : Nat), d' ≤ d → T.1 k7 = some (101, PL[d'].2.1.length) → (∀ (i : Nat) (z : Int), (cals PL[d'])[i]? = some z → m k7 (i : Int) = z) → e ≤ PL[d'].2.1.length → y ∉ calB PL d' 0 → (∀ z, z ∈ calB PL d' e → z ∈ calB PL d g) → (y ∉ calB PL d' e → hy_r 0 ((d' : Int) + 1) ∧ P15 ((d' : Int) + 1) m) → wq_63_51 P15 (a : Int) (d : Int) (g : Int) y (d' : Int) (k7 : Int) (e : Int) 0 T m Q := by
    intro P15 d' e hl' k7 hdd hT hk he h0 hsub hE
    unfold wq_63_51
    refine wL1_rule (Nat.lt_wfRel.wf) (fun x8 m' => m' = m ∧ ∃ i : Nat, x8 = i ∧ i ≤ e ∧ y ∉ calB PL d' i) (fun x8 _ => 30 - x8.toNat) ?_ ⟨rfl, 0, rfl, Nat.zero_le _, h0⟩
    rintro P x8 m' ⟨e1, i, rfl, hi, hn⟩ hP
    have h5 := (p6 d' _ (List.getElem?_eq_getElem hl')).2.2.2.2.1
    unfold wf_63_51
    rw [e1]
    refine ⟨fun q => hE (by rw [show e = i by omega]; exact hn), fun q => ?_⟩
    rw [Int.toNat_natCast]
    have hil : i < (cals PL[d']).length := by
      rw [show (cals PL[d']).length = PL[d'].2.1.length from List.length_map ..]
      omega
    have hz := List.getElem?_eq_getElem hil
    rw [hk i _ hz]
    have hs := calB_s hl' hz
    refine ⟨_, hT, by omega, by omega, fun q2 => ⟨show -2147483648 ≤ _ ∧ _ < 2147483648 by omega, hP _ _ ⟨rfl, i + 1, by omega, by omega, ?_⟩ ?_⟩, fun q2 => ?_⟩
    · rw [hs, List.mem_append]
      rintro (z | z)
      · exact hn z
      · exact q2 (List.mem_singleton.mp z).symm
    · show 30 - _ < 30 - _
      omega
    · have hm : y ∈ calB PL d' (i + 1) := by
        rw [hs, ← q2]
        simp
      have hm2 : ∀ k : Nat, i + 1 ≤ k → y ∈ calB PL d' k := by
        intro k hk
        unfold calB at hm ⊢
        rw [List.getElem?_eq_getElem hl'] at hm ⊢
        rcases List.mem_append.mp hm with z | z
        · exact List.mem_append.mpr (Or.inl z)
        · refine List.mem_append.mpr (Or.inr ?_)
          exact (List.take_subset_take_left _ hk) z
      rw [if_pos (hsub y (hm2 e (by omega)))] at hq
      exact hq
  unfold wq_63
  rw [Int.toNat_natCast, p2, Int.toNat_natCast]
  obtain ⟨⟨c, c1, c2⟩, c3⟩ := p6 d _ (List.getElem?_eq_getElem hl)
  obtain ⟨k7, s1, s2, s3⟩ := cCl_7 c2
  rw [c1, Int.toNat_natCast, s1, Int.toNat_natCast, s3 g y hy]
  refine ⟨p1, 113, 20, p3, by decide, by omega, by omega, cCl_T c2, _, s2, by omega, by omega, ?_⟩
  unfold wq_63_15
  refine wL1_rule (Nat.lt_wfRel.wf) (fun x5 m' => m' = m ∧ ∃ i : Nat, x5 = i ∧ ((i ≤ d ∧ y ∉ calB PL i 0) ∨ (i = d + 1 ∧ y ∉ calB PL d g))) (fun x5 _ => 30 - x5.toNat) ?_ ⟨rfl, 0, rfl, Or.inl ⟨Nat.zero_le _, by rw [calB_0]; exact List.not_mem_nil⟩⟩
  rintro P x5 m' ⟨e1, i, rfl, hi⟩ hP
  unfold wf_63_15
  rw [e1]
  refine ⟨fun q => ?_, fun q => ?_⟩
  · rcases hi with hi | hi
    · omega
    · rw [if_neg hi.2] at hq
      exact hq
  · have hid : i ≤ d := by omega
    have hni : y ∉ calB PL i 0 := by
      rcases hi with hi | hi
      · exact hi.2
      · omega
    have hil : i < PL.length := by omega
    obtain ⟨⟨c', c1', c2'⟩, c3'⟩ := p6 i _ (List.getElem?_eq_getElem hil)
    obtain ⟨k7', s1', s2', s3'⟩ := cCl_7 c2'
    have hcl' : (cals PL[i]).length = PL[i].2.1.length := List.length_map ..
    rw [Int.toNat_natCast, p2, Int.toNat_natCast, c1', Int.toNat_natCast, s1', Int.toNat_natCast]
    refine ⟨p1, 113, 20, p3, by decide, by omega, by omega, cCl_T c2', fun q2 => ⟨101, _, s2', by decide, ?_⟩, fun q2 => ?_⟩
    · refine inn P i _ hil k7' hid s2' s3' (Nat.le_refl _) hni (fun z hz => ?_) (fun hn => ⟨show -2147483648 ≤ _ ∧ _ < 2147483648 by omega, hP _ _ ⟨rfl, i + 1, by omega, Or.inl ⟨by omega, ?_⟩⟩ ?_⟩)
      · rw [← hcl', calB_n hil] at hz
        unfold calB at hz ⊢
        have hz2 : z ∈ List.flatMap cals (List.take (i + 1) PL) := by
          rcases List.mem_append.mp hz with z1 | z1
          · exact z1
          · revert z1
            cases PL[i + 1]? <;> simp
        refine List.mem_append.mpr (Or.inl ?_)
        obtain ⟨w, w1, w2⟩ := List.mem_flatMap.mp hz2
        exact List.mem_flatMap.mpr ⟨w, List.take_subset_take_left _ (by omega) w1, w2⟩
      · rw [← calB_n hil, hcl']
        exact hn
      · show 30 - _ < 30 - _
        omega
    · have e2 : i = d := by omega
      subst e2
      refine inn P i g hil k7' (Nat.le_refl _) s2' s3' (by omega) hni (fun z hz => hz) (fun hn => ⟨show -2147483648 ≤ _ ∧ _ < 2147483648 by omega, hP _ _ ⟨rfl, i + 1, by omega, Or.inr ⟨rfl, hn⟩⟩ ?_⟩)
      show 30 - _ < 30 - _
      omega
end CTL
