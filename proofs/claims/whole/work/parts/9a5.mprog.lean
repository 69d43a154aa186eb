/-! THE MODEL'S PROGRAM -/
/-- node n is the tree t -/
def mN (m : hy_m) (t : pE) (n : Int) : Prop := rP m (fun z => 0 ≤ z ∧ z < 3584) t (-1) n
/-- the program, and the slots of its clauses -/
def mPo (m : hy_m) (PL : List pCl) (ss : List Nat) : Prop := m 85 0 = PL.length ∧ PL.length ≤ 20 ∧ ss.length = PL.length ∧ ss.Nodup ∧ ∀ (i : Nat) (cl : pCl) (s : Nat), PL[i]? = some cl → ss[i]? = some s → s ≤ 25 ∧ m 85 (1 + (i : Int)) = s ∧ clR m s (some cl.1) cl.2.1 cl.2.2 ∧ kOK (some cl.1) cl.2.1 cl.2.2 ∧ nB cl.1
/-- a callable with a name that is one -/
def cbl (t : pE) : Prop := ∃ (k : Int) (a : pE), t = .mulL k a ∧ nmOK k ∧ eN a ≤ 3
section MPG
variable {m : hy_m} {Q : Int → hy_m → Prop} {PL : List pCl} {ss : List Nat} {t t' : pE} {n n' : Int} {nv s i : Nat}
theorem mN_r (h : mN m t n) : 0 ≤ n ∧ n < 3584 := rP_A h
theorem clR_g {hd : Option pE} {gs : List pE} (h : clR m s hd gs nv) (hs : s ≤ 27) : m 82 (s : Int) = gs.length ∧ m 84 (s : Int) = nv ∧ (∀ g (hg : g < gs.length), mN m gs[g] (m 83 (5 * (s : Int) + (g : Int)))) ∧ ∀ x, hd = some x → mN m x (m 81 (s : Int)) := by
  obtain ⟨c, h1, h2, h3, h4, h5, h6, h7, h8, h9⟩ := h
  have up : ∀ z, nA s c [] z → 0 ≤ z ∧ z < 3584 := fun z hz => by
    have := hz.1
    have := hz.2.1
    omega
  exact ⟨h3, h5, fun g hg => rP_mono up _ _ _ (h7 g hg), fun x hx => rP_mono up _ _ _ (h8 x hx)⟩
theorem mPo_i (hp : mPo m PL ss) (hi : i < PL.length) : ∃ s : Nat, ss[i]? = some s ∧ s ≤ 25 ∧ m 85 (1 + (i : Int)) = s ∧ clR m s (some PL[i].1) PL[i].2.1 PL[i].2.2 ∧ kOK (some PL[i].1) PL[i].2.1 PL[i].2.2 ∧ nB PL[i].1 := by
  obtain ⟨p1, p2, p3, p4, p5⟩ := hp
  have hs : i < ss.length := by omega
  exact ⟨ss[i], List.getElem?_eq_getElem hs, p5 i _ _ (List.getElem?_eq_getElem hi) (List.getElem?_eq_getElem hs)⟩
theorem gOK_cb {g : pE} (h : gOK nv g) : cbl g := by
  obtain ⟨h1, k, a, rfl, -⟩ := h
  exact ⟨k, a, rfl, h1.2.1, h1.2.2.1⟩
theorem kOK_cb {h : pE} {gs : List pE} (hk : kOK (some h) gs nv) : cbl h := gOK_cb (hk.2.1 h rfl)
theorem ky_eq (h : cbl t) (h' : cbl t') : eKy t = eKy t' ↔ ∃ k a a', t = .mulL k a ∧ t' = .mulL k a' ∧ eN a = eN a' := by
  obtain ⟨k, a, rfl, n1, n2⟩ := h
  obtain ⟨k', a', rfl, n1', n2'⟩ := h'
  refine ⟨fun e => ?_, fun ⟨x, y, z, e1, e2, e3⟩ => ?_⟩
  · obtain ⟨rfl, e2⟩ := kC_inj n1 n1' n2 n2' e
    exact ⟨k, a, a', rfl, rfl, e2⟩
  · injection e1 with e1 e1'
    injection e2 with e2 e2'
    show kC k (eN a) = kC k' (eN a')
    rw [e1, e2, e1', e2', e3]
/-- isClause -/
theorem sp_205 {x : Int} (hp : mPo m PL ss) (h1 : 0 ≤ x → x < PL.length → Q 1 m) (h0 : ¬ (0 ≤ x ∧ x < PL.length) → Q 0 m) : wq_205 x m Q := by
  unfold wq_205 wq_170
  rw [hp.1]
  have := hp.2.1
  refine ⟨by decide, by decide, show -2147483648 ≤ _ ∧ _ < 2147483648 by omega, ?_⟩
  refine ⟨fun q => h0 (by omega), fun q => ⟨fun q2 => h0 (by omega), fun q2 => h1 q (by omega)⟩⟩
/-- slotOf -/
theorem sp_206 (hi : i < 20) (h : m 85 (1 + (i : Int)) = s) (hq : Q (s : Int) m) : wq_206 (i : Int) m Q := by
  unfold wq_206
  rw [h]
  exact ⟨by omega, by omega, hq⟩
/-- isAlike -/
theorem sp_211 (h : mN m t n) (h' : mN m t' n') (c : cbl t) (c' : cbl t') (hq : Q (if eKy t = eKy t' then 1 else 0) m) : wq_211 n n' m Q := by
  have r := mN_r h
  have r' := mN_r h'
  have hky := ky_eq c c'
  obtain ⟨k, a, rfl, n1, n2⟩ := c
  obtain ⟨k', a', rfl, n1', n2'⟩ := c'
  have e7 : m 77 n = k := h.2.2.1
  have e8 : m 78 n = (eN a : Nat) := h.2.2.2.1
  have e7' : m 77 n' = k' := h'.2.2.1
  have e8' : m 78 n' = (eN a' : Nat) := h'.2.2.2.1
  unfold wq_211
  rw [e7, e8, e7', e8']
  refine ⟨r.1, r.2, r'.1, r'.2, fun q => ?_, fun q => ⟨r.1, r.2, r'.1, r'.2, fun q2 => ?_, fun q2 => ?_⟩⟩
  · rw [if_neg (fun e => ?_)] at hq
    · exact hq
    · obtain ⟨x, y, z, e1, e2, e3⟩ := hky.mp e
      injection e1 with e1 _
      injection e2 with e2 _
      exact q (e1.trans e2.symm)
  · rw [if_neg (fun e => ?_)] at hq
    · exact hq
    · obtain ⟨x, y, z, e1, e2, e3⟩ := hky.mp e
      injection e1 with _ e1
      injection e2 with _ e2
      apply q2
      rw [e1, e2, e3]
  · rw [if_pos ?_] at hq
    · exact hq
    · exact hky.mpr ⟨k, a, a', rfl, by rw [q], by omega⟩
/-- firstClauseOf -/
theorem sp_212 (hp : mPo m PL ss) (h : mN m t n) (c : cbl t) (hq : ∀ y, fsI (hdB PL (eKy t)) y → Q y m) : wq_212 n m Q := by
  unfold wq_212 wq_212_2
  refine wL1_rule (Nat.lt_wfRel.wf) (fun x2 m' => m' = m ∧ ∃ d : Nat, x2 = d ∧ d ≤ PL.length ∧ ∀ v, v < d → hdB PL (eKy t) v = false) (fun x2 _ => 30 - x2.toNat) ?_ ⟨rfl, 0, rfl, Nat.zero_le _, fun v hv => absurd hv (Nat.not_lt_zero _)⟩
  rintro P x2 m' ⟨e1, d, rfl, hd, hb⟩ hP
  have h20 := hp.2.1
  unfold wf_212_2
  rw [e1, hp.1]
  refine ⟨by decide, by decide, fun q => hq _ (Or.inl ⟨rfl, fun v hv => ?_⟩), fun q => ?_⟩
  · by_cases c : v < d
    · exact hb v c
    · exact hdB_hi (by omega)
  have hl : d < PL.length := by omega
  obtain ⟨s, -, s1, s2, s3, s4, s5⟩ := mPo_i hp hl
  obtain ⟨g1, g2, g3, g4⟩ := clR_g s3 (by omega)
  have hdef : hdB PL (eKy t) d = decide (eKy PL[d].1 = eKy t) := by
    unfold hdB
    rw [List.getElem?_eq_getElem hl]
  refine sp_206 (by omega) s2 ⟨by omega, by omega, sp_211 h (g4 _ rfl) c (kOK_cb s4) ⟨fun q2 => ⟨show -2147483648 ≤ _ ∧ _ < 2147483648 by omega, hP _ _ ⟨rfl, d + 1, by omega, by omega, fun v hv => ?_⟩ ?_⟩, fun q2 => hq _ (Or.inr ⟨d, by omega, rfl, ?_, hb⟩)⟩⟩
  · by_cases c : v < d
    · exact hb v c
    · rw [show v = d by omega, hdef]
      refine decide_eq_false (fun e => ?_)
      rw [if_pos e.symm] at q2
      exact absurd q2 (by decide)
  · show 30 - _ < 30 - _
    omega
  · rw [hdef]
    refine decide_eq_true ?_
    by_cases e : eKy t = eKy PL[d].1
    · exact e.symm
    · rw [if_neg e] at q2
      exact absurd rfl q2
/-- definedMany -/
theorem sp_213 (hp : mPo m PL ss) (hq : Q ((cntB (fcB PL) 20 : Nat) : Int) m) : wq_213 m Q := by
  unfold wq_213 wq_213_4
  refine wL2_rule (Nat.lt_wfRel.wf) (fun x1 x2 m' => m' = m ∧ ∃ d : Nat, x2 = d ∧ d ≤ PL.length ∧ x1 = cntB (fcB PL) d) (fun _ x2 _ => 30 - x2.toNat) ?_ ⟨rfl, 0, rfl, Nat.zero_le _, rfl⟩
  rintro P x1 x2 m' ⟨e1, d, rfl, hd, rfl⟩ hP
  have h20 := hp.2.1
  unfold wf_213_4
  rw [e1, hp.1]
  refine ⟨by decide, by decide, fun q => ?_, fun q => ?_⟩
  · have e : d = PL.length := by omega
    rw [cntB_hi (d := PL.length) 20 h20 (fun v hv => by unfold fcB; rw [List.getElem?_eq_none hv])] at hq
    rw [e]
    exact hq
  have hl : d < PL.length := by omega
  obtain ⟨s, -, s1, s2, s3, s4, s5⟩ := mPo_i hp hl
  obtain ⟨g1, g2, g3, g4⟩ := clR_g s3 (by omega)
  have hle := cntB_le (fcB PL) d
  refine sp_206 (by omega) s2 ⟨by omega, by omega, sp_212 hp (g4 _ rfl) (kOK_cb s4) (fun y hy => ?_)⟩
  have hi := fcB_i hl (by omega) hy
  refine ⟨fun q2 => ⟨show -2147483648 ≤ _ ∧ _ < 2147483648 by omega, show -2147483648 ≤ _ ∧ _ < 2147483648 by omega, hP _ _ _ ⟨rfl, d + 1, by omega, by omega, ?_⟩ ?_⟩, fun q2 => ⟨show -2147483648 ≤ _ ∧ _ < 2147483648 by omega, show -2147483648 ≤ _ ∧ _ < 2147483648 by omega, hP _ _ _ ⟨rfl, d + 1, by omega, by omega, ?_⟩ ?_⟩⟩
  · show _ = ((cntB (fcB PL) d + (if fcB PL d = true then 1 else 0) : Nat) : Int)
    rw [if_neg (fun q => q2 (hi.mpr q))]
    omega
  · show 30 - _ < 30 - _
    omega
  · show _ = ((cntB (fcB PL) d + (if fcB PL d = true then 1 else 0) : Nat) : Int)
    rw [if_pos (hi.mp q2)]
    omega
  · show 30 - _ < 30 - _
    omega
/-- isCallable -/
theorem sp_214 (h : mN m t n) (hk : eK nv t false) (hq : Q (if eCa t = true then 1 else 0) m) : wq_214 n m Q := by
  have r := mN_r h
  have e6 := rP_kd h
  unfold wq_214 wq_214_21
  rw [e6]
  cases t with
  | var v => exact ⟨r.1, r.2, fun _ => ⟨r.1, r.2, fun _ => hq, fun q => absurd (show (1 : Int) = 4 from q) (by decide)⟩, fun q => absurd (show (1 : Int) = 3 from q) (by decide)⟩
  | num v => exact ⟨r.1, r.2, fun _ => ⟨r.1, r.2, fun _ => hq, fun q => absurd (show (2 : Int) = 4 from q) (by decide)⟩, fun q => absurd (show (2 : Int) = 3 from q) (by decide)⟩
  | mulL k a =>
    have e7 : m 77 n = k := h.2.2.1
    have hk1 := hk.2.2.2.1
    have hk2 := hk.2.2.2.2.1
    rw [e7]
    have hq : Q (if (decide (k ≠ 1) && decide (k ≠ 2)) = true then 1 else 0) m := hq
    by_cases c0 : eN a = 0
    · rw [show eKd (.mulL k a) = 3 from if_pos c0]
      have c2 : k ≠ 2 := fun e => by rw [hk2 e] at c0; exact absurd c0 (by decide)
      refine ⟨r.1, r.2, fun q => absurd rfl q, fun _ => ⟨r.1, r.2, fun c1 => ?_, fun c1 => ⟨r.1, r.2, fun _ => ?_, fun q => absurd q (by decide)⟩⟩⟩
      · rw [decide_eq_true c1, decide_eq_true c2] at hq
        exact hq
      · rw [decide_eq_false (show ¬ k ≠ 1 from fun q => q c1)] at hq
        exact hq
    · rw [show eKd (.mulL k a) = 4 from if_neg c0]
      have c1 : k ≠ 1 := fun e => c0 (hk1 e)
      rw [decide_eq_true c1] at hq
      refine ⟨r.1, r.2, fun _ => ⟨r.1, r.2, fun q => absurd rfl q, fun _ => ⟨r.1, r.2, fun c2 => ?_, fun c2 => ?_⟩⟩, fun q => absurd q (by decide)⟩
      · rw [decide_eq_false (show ¬ k ≠ 2 from fun q => q c2)] at hq
        exact hq
      · rw [decide_eq_true c2] at hq
        exact hq
  | add _ _ => exact absurd hk.1 (by decide)
  | sub _ _ => exact hk.elim
  | neg _ => exact hk.elim
  | mulR _ _ => exact hk.elim
/-- a user's predicate -/
def usr : pE → Bool
  | .mulL k a => decide (bI k (eN a) = 0)
  | _ => false
/-- inner -/
theorem sp_216 (h : mN m t n) (hk : eK nv t false) (hc : cbl t) (he : cal t false = (if usr t = true then eKy t else 0) → Q (-9) m) (hg : ∀ x r, usr t = false → mN m x r → eK nv x false → eCa x = true → eM x < eM t → cal t false = cal x false → Q r m) : wq_216 n m Q := by
  have r := mN_r h
  obtain ⟨k, a, rfl, n1, n2⟩ := hc
  have e7 : m 77 n = k := h.2.2.1
  have e8 : m 78 n = (eN a : Nat) := h.2.2.2.1
  have hcal : cal (.mulL k a) false = if bI k (eN a) = 0 then kC k (eN a) else if bI k (eN a) = 4 ∨ bI k (eN a) = 5 then cal a true else 0 := rfl
  have hus : usr (.mulL k a) = decide (bI k (eN a) = 0) := rfl
  have stop : ¬ (bI k (eN a) = 4 ∨ bI k (eN a) = 5) → Q (-9) m := fun q => he (by
    rw [hcal, hus]
    by_cases c : bI k (eN a) = 0
    · rw [if_pos c, decide_eq_true c]
      rfl
    · rw [if_neg c, if_neg q, decide_eq_false c]
      rfl)
  unfold wq_216 wq_215
  rw [e7, e8]
  refine ⟨r.1, r.2, fun q => ⟨fun _ => stop (fun z => q (by rw [bI_4 z]; rfl)), fun q => absurd rfl q⟩, fun q => ⟨r.1, r.2, ?_⟩⟩
  have e1 : eN a = 1 := by omega
  refine sp_184 (n := 1) (fun hb => ⟨fun q => absurd q (by decide), fun _ => ⟨fun q => absurd q (by decide), fun _ => ?_⟩⟩) (fun hb => ⟨fun _ => ⟨fun _ => stop (fun z => ?_), fun q => absurd rfl q⟩, fun q => absurd rfl q⟩)
  · have hb2 := (bI_b k 1).mp hb
    have h45 : bI k (eN a) = 4 ∨ bI k (eN a) = 5 := by
      rw [e1]
      have e2 : bI k 1 = if k = 209221228 then 4 else if k = 1816564 then 5 else 0 := rfl
      rw [e2] at hb2 ⊢
      split
      · exact Or.inl rfl
      · rename_i z
        rw [if_neg z] at hb2
        split
        · exact Or.inr rfl
        · rename_i z2
          rw [if_neg z2] at hb2
          exact absurd rfl hb2
    have n0 : bI k (eN a) ≠ 0 := fun z => by rcases h45 with y | y <;> rw [z] at y <;> exact absurd y (by decide)
    rw [if_neg n0, if_pos h45] at hcal
    rw [decide_eq_false n0] at hus
    have hka := hk.2.2.2.2.2
    have hra := h.2.2.2.2.2.2
    cases a with
    | add x rr =>
      have hx : mN m x (m 79 (3 * n)) := by
        have := hra.2.2.1
        rw [show 3 * n + 0 = 3 * n by omega] at this
        exact this
      have hkx := hka.2.1
      have hcal : cal (.mulL k (.add x rr)) false = if eCa x = true then cal x false else 0 := hcal
      refine ⟨by omega, by omega, sp_214 hx hkx ⟨fun q => ?_, fun q => ⟨by omega, by omega, ?_⟩⟩⟩
      · have hx0 : ¬ eCa x = true := fun z => by rw [if_pos z] at q; exact absurd q (by decide)
        refine he ?_
        rw [hcal, if_neg hx0, hus]
        rfl
      · have hx1 : eCa x = true := Decidable.byContradiction fun z => by rw [if_neg z] at q; exact absurd rfl q
        refine hg x _ hus hx hkx hx1 ?_ (by rw [hcal, if_pos hx1])
        show eM x < (if eN (.add x rr) = 0 then 0 else if eN (.add x rr) = 3 then 2 else 1) + (eM x + eM rr)
        rw [e1, if_neg (by decide), if_neg (by decide)]
        omega
    | num _ => exact absurd (show (0 : Nat) = 1 from e1) (by decide)
    | var _ => exact absurd (show (0 : Nat) = 1 from e1) (by decide)
    | mulL _ _ => exact absurd hka.1 (by decide)
    | sub _ _ => exact hka.elim
    | neg _ => exact hka.elim
    | mulR _ _ => exact hka.elim
  · rw [e1] at z
    have := (bI_b k 1).mpr (fun q => by rcases z with z | z <;> rw [q] at z <;> exact absurd z (by decide))
    rw [this] at hb
    cases hb
end MPG
