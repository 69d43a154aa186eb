/-! THE CLASS SHOWS THE SEARCH: state, frame, choice -/
section CSH
variable {E : qE} {l l' TI TI' TL : List Nat} {F : Nat → Prop} {T T' : hy_T} {m m' m1 m2 mo : hy_m} {Z Z' : cZ} {N N' n u n' u' k n0 u0 K J : Nat} {A A' : qA} {B B' : bM} {s s' : Nat → pE} {X : cX} {x y w : Int} {Q : Int → hy_m → Prop} {f : qF}
theorem fGo_5 (hP : cPr E F T m Z (qi A)) (hk : frK E (qi A) (qi A).length f) : fGo E A f ≤ 5 := by
  unfold fGo
  unfold frK at hk
  cases hf : f.2.2.2 with
  | some g =>
    dsimp only
    omega
  | none =>
    rw [hf] at hk
    obtain ⟨k1, k2, k3⟩ := hk
    obtain ⟨hd, a, cc, k0, k1', k2', k4, nv, i1, i2, i3, i4, i5, -⟩ := ins_at hP 0 k1 k2
    have := i5.2.2.2.1
    dsimp only
    omega
theorem fVa_8 : fVa E A f ≤ 8 := by
  unfold fVa
  split
  · omega
  · exact cntP_le _ 8
/-- variablesLeft -/
theorem sp_104 {c : Nat} (hP : cPr E F T m Z (qi A)) (hk : frK E (qi A) (qi A).length f) (hT : T.1 c = some (4, 5)) (h1 : cF1 (zX Z (qi A).length N) m (tot E (qi A)) (qs A) f c) (hq : Q (fVa E A f : Int) m) : wq_104 (c : Int) T m Q := by
  have hU := zX_uPr hP N
  obtain ⟨a1, a3⟩ := h1
  unfold frK at hk
  unfold fVa at hq
  unfold wq_104
  rw [Int.toNat_natCast]
  refine ⟨hT, ?_⟩
  cases hf : f.2.2.2 with
  | some g =>
    rw [hf] at a3 hk hq
    have hb : m c 0 < 0 := by
      by_cases h0 : f.2.1 = 0
      · have := (a3.1 h0).1
        omega
      · have := a3.2 h0
        omega
    exact ⟨fun q => by omega, fun _ => hq⟩
  | none =>
    rw [hf] at a3 hk hq
    obtain ⟨k1, k2, k3⟩ := hk
    dsimp only at hq
    obtain ⟨hd, a, cc, k0, k1', k2', k4, nv, i1, i2, i3, i4, i5, i6, i7, i8, i9, i10, -⟩ := ins_at hP N k1 k2
    have b0 : m c 0 = (f.1 : Nat) := a3.1
    have b1 : m c 1 = (f.2.1 : Nat) := a3.2
    obtain ⟨-, -, -, -, -, k8, g1, g2, g3, g4⟩ := i4.2.2.2.2.2.2.2
    rw [b0]
    refine ⟨fun _ => ⟨hT, sp_127 hU.2.1 i1 ?_⟩, fun q => by omega⟩
    rw [i2, Int.toNat_natCast, b1]
    refine ⟨hT, i4.1.1, ?_⟩
    unfold wq_44
    rw [Int.toNat_natCast, g1, Int.toNat_natCast]
    refine ⟨fun q => by omega, fun _ => ⟨i4.1.1, 100, _, g2, by decide, fun q => by omega, fun q => ⟨i4.1.1, _, g2, by omega, q, ?_⟩⟩⟩
    rw [g4 f.2.1 k3]
    exact hq
/-- sums over frames -/
theorem sp_112 {no : Nat} (hP : cPr E F T m Z (qi A)) (hok : okF E (qi A) (qi A).length (qp A) no) (hch : cCh (zF Z) (zX Z (qi A).length N) m (tot E (qi A)) (qs A) k (qp A) (m 36 6)) (hk : k ≤ 700) (hq : Q (sumF (fGo E A) (qp A) : Int) m) : wq_112 T m Q := by
  have hO := hP.2.2.2.2.1
  unfold wq_112 wq_112_7
  intro P hP2
  have key : ∀ (L : List qF) (a b n : Nat) (y : Int), cCh (zF Z) (zX Z (qi A).length N) m (tot E (qi A)) (qs A) b L y → okF E (qi A) (qi A).length L n → a + 5 * b ≤ 5000 → a + sumF (fGo E A) L = sumF (fGo E A) (qp A) → P (a : Int) y m := by
    intro L
    induction L with
    | nil =>
      intro a b n y hc _ _ e
      have hc : y = 0 := hc
      have e : a = sumF (fGo E A) (qp A) := e
      rw [e]
      refine hP2 _ _ _ ?_
      unfold wf_112_7
      exact ⟨fun _ => hq, fun q => absurd hc q⟩
    | cons f r ih =>
      intro a b n y hc ho hb e
      obtain ⟨j, c, c1, c2, rfl, c4, c5, c6⟩ := hc
      have ht := hO.1.2.1 j c c1
      have h5 := fGo_5 hP ho.1
      have e : a + (fGo E A f + sumF (fGo E A) r) = sumF (fGo E A) (qp A) := e
      refine hP2 _ _ _ ?_
      unfold wf_112_7
      rw [Int.toNat_natCast]
      refine ⟨fun q => by have := ht.2.2.1; omega, fun _ => sp_103 hP ho.1 ht.2.1 c4 ⟨ht.2.1, show -2147483648 ≤ _ ∧ _ < 2147483648 by omega, ?_⟩⟩
      rw [show (a : Int) + (fGo E A f : Int) = ((a + fGo E A f : Nat) : Int) by omega]
      exact ih (a + fGo E A f) j _ _ c6 ho.2.2 (by omega) (by omega)
  exact key (qp A) 0 k no _ hch hok (by omega) (by omega)
theorem sp_113 {no : Nat} (hP : cPr E F T m Z (qi A)) (hok : okF E (qi A) (qi A).length (qp A) no) (hch : cCh (zF Z) (zX Z (qi A).length N) m (tot E (qi A)) (qs A) k (qp A) (m 36 6)) (hk : k ≤ 700) (hq : Q (sumF (fVa E A) (qp A) : Int) m) : wq_113 T m Q := by
  have hO := hP.2.2.2.2.1
  unfold wq_113 wq_113_7
  intro P hP2
  have key : ∀ (L : List qF) (a b n : Nat) (y : Int), cCh (zF Z) (zX Z (qi A).length N) m (tot E (qi A)) (qs A) b L y → okF E (qi A) (qi A).length L n → a + 8 * b ≤ 8000 → a + sumF (fVa E A) L = sumF (fVa E A) (qp A) → P (a : Int) y m := by
    intro L
    induction L with
    | nil =>
      intro a b n y hc _ _ e
      have hc : y = 0 := hc
      have e : a = sumF (fVa E A) (qp A) := e
      rw [e]
      refine hP2 _ _ _ ?_
      unfold wf_113_7
      exact ⟨fun _ => hq, fun q => absurd hc q⟩
    | cons f r ih =>
      intro a b n y hc ho hb e
      obtain ⟨j, c, c1, c2, rfl, c4, c5, c6⟩ := hc
      have ht := hO.1.2.1 j c c1
      have h5 := fVa_8 (E := E) (A := A) (f := f)
      have e : a + (fVa E A f + sumF (fVa E A) r) = sumF (fVa E A) (qp A) := e
      refine hP2 _ _ _ ?_
      unfold wf_113_7
      rw [Int.toNat_natCast]
      refine ⟨fun q => by have := ht.2.2.1; omega, fun _ => sp_104 hP ho.1 ht.2.1 c4 ⟨ht.2.1, show -2147483648 ≤ _ ∧ _ < 2147483648 by omega, ?_⟩⟩
      rw [show (a : Int) + (fVa E A f : Int) = ((a + fVa E A f : Nat) : Int) by omega]
      exact ih (a + fVa E A f) j _ _ c6 ho.2.2 (by omega) (by omega)
  exact key (qp A) 0 k no _ hch hok (by omega) (by omega)
/-- the choice at a place -/
theorem cCc_at (h : cCc E Z N m l TI B (qh A)) {j : Nat} (hj : j < (qh A).length) : ∃ cc, (zC Z)[(qh A).length - (j + 1)]? = some cc ∧ cCc E Z N m l TI B ((qh A)[j] :: (qh A).drop (j + 1)) ∧ ((qh A).drop (j + 1)).length = (qh A).length - (j + 1) := by
  have hd := cCc_drop _ j h
  rw [List.drop_eq_getElem_cons hj] at hd
  have el : ((qh A).drop (j + 1)).length = (qh A).length - (j + 1) := List.length_drop
  obtain ⟨cc, h1, -⟩ := hd.1
  rw [el] at h1
  exact ⟨cc, h1, hd, el⟩
theorem cho_bar {c : qC} {r : List qC} {cc : Nat} (h : cCc E Z N m l TI B (c :: r)) (hcc : (zC Z)[r.length]? = some cc) : (m cc 1 = -9 ↔ c.1.isNone = true) := by
  obtain ⟨⟨cc', h1, -, h5, -⟩, -⟩ := h
  rw [hcc] at h1
  injection h1 with h1
  subst h1
  cases hg : c.1 with
  | none =>
    rw [hg] at h5
    exact ⟨fun _ => rfl, fun _ => h5.1⟩
  | some g =>
    rw [hg] at h5
    obtain ⟨-, t, -, h0, -⟩ := h5
    exact ⟨fun q => by omega, fun q => by cases q⟩
theorem sp_114 (hO : cOb F T m Z) (h8 : m 36 8 = (qh A).length) (h300 : (qh A).length ≤ 300) (hC : cCc E Z N m l TI B (qh A)) (hq : Q (barN (qh A) : Int) m) : wq_114 T m Q := by
  have hcl := cCc_len hC
  have hbl := barN_le (qh A)
  unfold wq_114 wq_114_4
  refine wL2_rule (Nat.lt_wfRel.wf) (fun x1 x2 m' => m' = m ∧ ∃ d b : Nat, x2 = d ∧ x1 = b ∧ d ≤ (qh A).length ∧ b + barN ((qh A).drop d) = barN (qh A)) (fun _ x2 _ => 400 - x2.toNat) ?_ ⟨rfl, 0, 0, rfl, rfl, Nat.zero_le _, by rw [List.drop_zero]; omega⟩
  rintro P x1 x2 m1 ⟨rfl, d, b, rfl, rfl, hd, hb⟩ hPP
  unfold wf_114_4
  rw [h8]
  refine ⟨fun q => ?_, fun q => ?_⟩
  · have : d = (qh A).length := by omega
    rw [this, List.drop_length] at hb
    have hb : b + 0 = barN (qh A) := hb
    rw [show b = barN (qh A) by omega]
    exact hq
  · have hdl : d < (qh A).length := by omega
    obtain ⟨cc, g1, g2, g3⟩ := cCc_at hC hdl
    rw [List.drop_eq_getElem_cons hdl] at hb
    have hb : b + ((if (qh A)[d].1.isNone = true then 1 else 0) + barN ((qh A).drop (d + 1))) = barN (qh A) := hb
    have hbar := cho_bar (cc := cc) g2 (by rw [g3]; exact g1)
    refine sp_110 hO h8 hcl (fun z => by omega) (fun j c' z1 z2 z3 => ?_) (by omega)
    have hj : j = (qh A).length - (d + 1) := by omega
    rw [hj, g1] at z3
    injection z3 with z3
    subst z3
    have ht := zC_tag hO (List.mem_of_getElem? g1)
    have hi : (if (qh A)[d].1.isNone = true then 1 else 0) ≤ 1 := by split <;> omega
    refine ⟨fun z => by have := ht.2.1; omega, fun _ => ?_⟩
    unfold wq_38
    rw [Int.toNat_natCast]
    refine ⟨ht.1, ht.1, fun z => ⟨fun _ => ⟨show -2147483648 ≤ _ ∧ _ < 2147483648 by omega, show -2147483648 ≤ _ ∧ _ < 2147483648 by omega, hPP _ _ _ ⟨rfl, d + 1, b, by omega, by omega, by omega, ?_⟩ (show 400 - ((d : Int) + 1).toNat < 400 - ((d : Nat) : Int).toNat by omega)⟩, fun z2 => absurd rfl z2⟩, fun z => ⟨fun z2 => absurd z2 (by decide), fun _ => ⟨show -2147483648 ≤ _ ∧ _ < 2147483648 by omega, show -2147483648 ≤ _ ∧ _ < 2147483648 by omega, hPP _ _ _ ⟨rfl, d + 1, b + 1, by omega, by omega, by omega, ?_⟩ (show 400 - ((d : Int) + 1).toNat < 400 - ((d : Nat) : Int).toNat by omega)⟩⟩⟩
    · rw [if_neg (fun z2 => z (hbar.mpr z2))] at hb
      omega
    · rw [if_pos (hbar.mp z)] at hb
      omega
/-- state -/
theorem sp_16 (hO : qOK E A) (hA : cAl E F K Z T m A) (h0 : qn A 0 ≠ 0) (hq : Q (shS E A x) m) : wq_16 x T m Q := by
  obtain ⟨hS, hCt⟩ := hA
  obtain ⟨hln, hlc, h4, h8⟩ := hO.len
  obtain ⟨hP, ⟨n1, n2, n3, n4, n5, n6⟩, ⟨s3, s5, s8, sch⟩, B, TI, ⟨d1, ⟨TL, dt, dl, dv⟩, d4, d5, d6, d7⟩, hRes, hTI⟩ := hS
  have e46 : m 41 6 = (qn A 7 : Nat) := by rw [dt.1, dl, hTI]
  have h10 := hCt.1.1
  have h11 := hCt.1.2
  unfold wq_16
  unfold shS at hq
  refine ⟨fun q => ?_, fun q => ⟨fun q2 => ⟨fun _ => ?_, fun z => ?_⟩, fun q2 => ?_⟩⟩
  · iterate 13 rw [if_neg (by omega)] at hq
    exact hq
  · unfold wq_111
    rw [h10, n1, n2, d6, e46, n3, h11, n4, n5]
    refine ⟨⟨fun e => ?_, fun e => ?_, fun e => ?_, fun e => ?_, fun e => ?_, fun e => ?_, fun e => ?_, fun e => ?_, fun e => ?_, fun e => ?_, fun e => ?_, fun e => ?_, trivial⟩, fun e => ?_⟩
    · rw [if_pos (by omega)] at hq; exact hq
    · rw [if_neg (by omega), if_pos (by omega)] at hq; exact hq
    · iterate 2 rw [if_neg (by omega)] at hq
      rw [if_pos (by omega)] at hq; exact hq
    · iterate 3 rw [if_neg (by omega)] at hq
      rw [if_pos (by omega)] at hq
      cases he : qp A with
      | nil =>
        rw [he] at sch hq
        have sch : m 36 6 = 0 := sch
        exact ⟨fun _ => hq, fun z => absurd sch z⟩
      | cons f r =>
        rw [he] at sch hq
        obtain ⟨j, c, c1, c2, c3, c4, c5, c6⟩ := sch
        have ht := hP.2.2.2.2.1.1.2.1 j c c1
        rw [c3, Int.toNat_natCast, c5]
        refine ⟨fun z => by have := ht.2.2.1; omega, fun _ => ⟨ht.2.1, ?_⟩⟩
        have e : (((f :: r).length : Nat) : Int) = (r.length : Int) + 1 := by rw [List.length_cons]; omega
        rw [e] at hq
        exact hq
    · iterate 4 rw [if_neg (by omega)] at hq
      rw [if_pos (by omega)] at hq
      exact sp_112 hP hO.2.1 sch (by omega) hq
    · iterate 5 rw [if_neg (by omega)] at hq
      rw [if_pos (by omega)] at hq
      exact sp_113 hP hO.2.1 sch (by omega) hq
    · iterate 6 rw [if_neg (by omega)] at hq
      rw [if_pos (by omega)] at hq; exact hq
    · iterate 7 rw [if_neg (by omega)] at hq
      rw [if_pos (by omega)] at hq
      exact sp_114 hP.2.2.2.2.1 d6 hlc d5 hq
    · iterate 8 rw [if_neg (by omega)] at hq
      rw [if_pos (by omega)] at hq; exact hq
    · iterate 9 rw [if_neg (by omega)] at hq
      rw [if_pos (by omega)] at hq; exact hq
    · iterate 10 rw [if_neg (by omega)] at hq
      rw [if_pos (by omega)] at hq; exact hq
    · iterate 11 rw [if_neg (by omega)] at hq
      rw [if_pos (by omega)] at hq; exact hq
    · iterate 12 rw [if_neg (by omega)] at hq
      rw [if_pos (by omega)] at hq; exact hq
  · omega
  · iterate 13 rw [if_neg (by omega)] at hq
    exact hq
/-- frame -/
theorem sp_20 (hO : qOK E A) (hS : cSe E F Z N T m A) (hq : Q (frI E A x w) m) : wq_20 x w T m Q := by
  obtain ⟨hln, hlc, h4, h8⟩ := hO.len
  obtain ⟨hP, hNm, ⟨s3, s5, s8, sch⟩, B, TI, hD, hRes, hTI⟩ := hS
  have hOb := hP.2.2.2.2.1
  have hU := zX_uPr hP N
  have hqp := cCh_len _ _ _ sch
  -- no frame
  have no : (x < 0 ∨ ((qp A).length : Int) ≤ x) → Q (-1) m := fun h => by
    unfold frI at hq
    by_cases c : x < 0
    · rw [if_pos c] at hq; exact hq
    · rw [if_neg c, List.getElem?_eq_none (by omega)] at hq
      exact hq
  unfold wq_20 wq_109
  refine ⟨fun hx => ?_, fun hx => ?_⟩
  · obtain ⟨k, rfl⟩ : ∃ k : Nat, x = k := ⟨x.toNat, by omega⟩
    unfold wq_109_15
    intro P hPP
    have key : ∀ (e d b : Nat) (y : Int), d + e = k → cCh (zF Z) (zX Z (qi A).length N) m (tot E (qi A)) (qs A) b ((qp A).drop d) y → P y (d : Int) m := by
      intro e
      induction e with
      | zero =>
        intro d b y hd hc
        have hd : d = k := hd
        subst hd
        refine hPP _ _ _ ?_
        unfold wf_109_15
        refine ⟨fun _ => ⟨fun hy => no (Or.inr ?_), fun hy => ?_⟩, fun q => by omega⟩
        · cases hdr : (qp A).drop d with
          | nil =>
            have := List.length_drop (l := qp A) (i := d)
            rw [hdr, List.length_nil] at this
            omega
          | cons f r =>
            rw [hdr] at hc
            obtain ⟨j, c, c1, c2, c3, -⟩ := hc
            have := (hOb.1.2.1 j c c1).2.2.1
            omega
        · cases hdr : (qp A).drop d with
          | nil =>
            rw [hdr] at hc
            exact absurd hc hy
          | cons f r =>
            rw [hdr] at hc
            obtain ⟨j, c, c1, c2, rfl, c4, c5, c6⟩ := hc
            have ht := hOb.1.2.1 j c c1
            have hg : (qp A)[d]? = some f := by
              have h1 : ((qp A).drop d)[0]? = some f := by rw [hdr]; rfl
              rw [List.getElem?_drop] at h1
              exact h1
            have hkf := okF_at _ _ d hO.2.1 f hg
            unfold frI at hq
            rw [if_neg (by omega), Int.toNat_natCast, hg] at hq
            dsimp only at hq
            refine ⟨⟨fun e => ?_, fun e => ?_, fun e => ?_, trivial⟩, fun e => ?_⟩
            · rw [if_pos (by omega)] at hq
              exact sp_103 hP hkf ht.2.1 c4 hq
            · rw [if_neg (by omega), if_pos (by omega)] at hq
              exact sp_104 hP hkf ht.2.1 c4 hq
            · rw [if_neg (by omega), if_neg (by omega), if_pos (by omega)] at hq
              rw [Int.toNat_natCast]
              refine ⟨ht.2.1, ?_⟩
              unfold wq_128
              have e41 := hP.1.2.2.2.2.1
              rw [e41.1, Int.toNat_natCast]
              unfold fNo at hq
              unfold frK at hkf
              cases hf : f.2.2.2 with
              | some g =>
                have b := c4.2
                rw [hf] at b hq
                have hb : m c 0 < 0 := by
                  by_cases h0 : f.2.1 = 0
                  · have := (b.1 h0).1
                    omega
                  · have := b.2 h0
                    omega
                exact ⟨fun _ => hq, fun q => by omega⟩
              | none =>
                have b := c4.2
                rw [hf] at b hq hkf
                have b0 : m c 0 = (f.1 : Nat) := b.1
                obtain ⟨k1, k2, k3⟩ := hkf
                obtain ⟨hd', a, cc, k0, k1', k2', k4, nv, i1, i2, i3, i4, i5, i6, i7, i8, i9, i10, i11, i12, i13⟩ := ins_at hP N k1 k2
                have hcap := (hU.2.1.2.2.2.2.2 f.1 i1).1
                have hcap : f.1 < zc Z := hcap
                dsimp only at hq
                rw [b0]
                refine ⟨fun q => by omega, fun _ => ⟨100, _, e41.2, by decide, fun q => by omega, fun q => ⟨_, e41.2, by omega, q, ?_⟩⟩⟩
                by_cases h0 : f.1 = 0
                · rw [if_pos h0] at hq
                  rw [h0]
                  have := (i12 h0).2.2
                  rw [show ((0 : Nat) : Int) = 0 from rfl, this]
                  exact hq
                · rw [if_neg h0] at hq
                  have hlt : f.1 - 2 < (qi A).length := by omega
                  rw [List.getD_eq_getElem?_getD, List.getElem?_eq_getElem hlt] at hq
                  have := (i13 _ (by omega) (List.getElem?_eq_getElem hlt)).1
                  rw [this]
                  exact hq
            · rw [if_neg (by omega), if_neg (by omega), if_neg (by omega)] at hq
              exact hq
      | succ e ih =>
        intro d b y hd hc
        refine hPP _ _ _ ?_
        unfold wf_109_15
        refine ⟨fun q => by omega, fun _ => ⟨fun hy => ⟨fun _ => no (Or.inr ?_), fun z => absurd hy z⟩, fun hy => ?_⟩⟩
        · cases hdr : (qp A).drop d with
          | nil =>
            have := List.length_drop (l := qp A) (i := d)
            rw [hdr, List.length_nil] at this
            omega
          | cons f r =>
            rw [hdr] at hc
            obtain ⟨j, c, c1, c2, c3, -⟩ := hc
            have := (hOb.1.2.1 j c c1).2.2.1
            omega
        · cases hdr : (qp A).drop d with
          | nil =>
            rw [hdr] at hc
            exact absurd hc hy
          | cons f r =>
            have hdl : d < (qp A).length := by
              by_cases q : d < (qp A).length
              · exact q
              · rw [List.drop_eq_nil_of_le (by omega)] at hdr
                cases hdr
            rw [List.drop_eq_getElem_cons hdl] at hdr
            injection hdr with hd1 hd2
            rw [List.drop_eq_getElem_cons hdl] at hc
            obtain ⟨j, c, c1, c2, rfl, c4, c5, c6⟩ := hc
            have ht := hOb.1.2.1 j c c1
            rw [Int.toNat_natCast]
            exact ⟨ht.2.1, show -2147483648 ≤ _ ∧ _ < 2147483648 by omega, by
              have := ih (d + 1) j _ (by omega) c6
              rw [show ((d + 1 : Nat) : Int) = (d : Int) + 1 by omega] at this
              exact this⟩
    exact key k 0 (qn A 8) _ (Nat.zero_add _) (by rw [List.drop_zero]; exact sch)
  · unfold wq_109_15
    intro P hPP
    refine hPP _ _ _ ?_
    unfold wf_109_15
    exact ⟨fun _ => ⟨fun _ => no (Or.inl hx), fun z => absurd rfl z⟩, fun q => by omega⟩
/-- choice -/
theorem sp_21 (hxr : x < 2147483648) (hO : qOK E A) (hS : cSe E F Z N T m A) (hq : Q (coI A x w) m) : wq_21 x w T m Q := by
  obtain ⟨hln, hlc, h4, h8⟩ := hO.len
  obtain ⟨hP, hNm, ⟨s3, s5, s8, sch⟩, B, TI, ⟨d1, ⟨TL, dt, dl, dv⟩, d4, d5, d6, d7⟩, hRes, hTI⟩ := hS
  have hOb := hP.2.2.2.2.1
  have h20 := hO.2.2.2.2.2.2.2.2
  have e46 : m 41 6 = (qn A 7 : Nat) := by rw [dt.1, dl, hTI]
  have hcl := cCc_len d5
  have hzc := hP.1.2.2.1
  have hTl : qn A 7 ≤ 8 * zc Z := by
    have := ln_sub TL (List.range (8 * zc Z)) dt.2.2.1 (fun x hx => List.mem_range.mpr (dt.2.2.2 x hx).1)
    rw [List.length_range] at this
    omega
  unfold coI at hq
  unfold wq_21
  by_cases hx : x < 0 ∨ ((qh A).length : Int) ≤ x
  · have hm : Q (-1) m := by
      by_cases c : x < 0
      · rw [if_pos c] at hq; exact hq
      · rw [if_neg c, List.getElem?_eq_none (by omega)] at hq
        exact hq
    by_cases hbig : x < 2000000000
    · exact sp_110 hOb d6 hcl (fun _ => ⟨fun _ => hm, fun z => absurd rfl z⟩) (fun j cc z1 z2 z3 => by omega) hbig
    · unfold wq_110
      rw [d6]
      exact ⟨fun q => by omega, fun _ => ⟨show -2147483648 ≤ _ ∧ _ < 2147483648 by omega, fun _ => ⟨fun _ => hm, fun z => absurd rfl z⟩, fun q => by omega⟩⟩
  · obtain ⟨k, rfl⟩ : ∃ k : Nat, x = k := ⟨x.toNat, by omega⟩
    have hk : k < (qh A).length := by omega
    rw [if_neg (by omega), Int.toNat_natCast, List.getElem?_eq_getElem hk] at hq
    obtain ⟨cc, g1, g2, g3⟩ := cCc_at d5 hk
    have hbar := cho_bar (cc := cc) g2 (by rw [g3]; exact g1)
    have hall := chK_all _ hO.1 _ (List.getElem_mem hk)
    have hch : ∃ I tr ce ni, chK E (qi A) I ((qh A).drop k) ni tr ce := by
      have : ∀ (C : List qC) (k I ni tr ce : Nat), chK E (qi A) I C ni tr ce → ∃ I tr ce ni, chK E (qi A) I (C.drop k) ni tr ce := by
        intro C
        induction C with
        | nil => exact fun k I ni tr ce h => ⟨I, tr, ce, ni, by rw [List.drop_nil]; exact h⟩
        | cons c r ih =>
          intro k I ni tr ce h
          cases k with
          | zero => exact ⟨I, tr, ce, ni, h⟩
          | succ k => exact ih k _ _ _ _ h.2.2.2.2.2.2
      exact this _ k _ _ _ _ hO.1
    obtain ⟨I, tr, ce, ni, hch⟩ := hch
    rw [List.drop_eq_getElem_cons hk] at hch
    refine sp_110 hOb d6 hcl (fun z => by omega) (fun j c' z1 z2 z3 => ?_) (by omega)
    have hj : j = (qh A).length - (k + 1) := by omega
    rw [hj, g1] at z3
    injection z3 with z3
    subst z3
    have ht := zC_tag hOb (List.mem_of_getElem? g1)
    obtain ⟨⟨cc', h1, ⟨h2, h3, h4'⟩, h5, h6⟩, -⟩ := g2
    rw [g3, g1] at h1
    injection h1 with h1
    subst h1
    generalize (qh A)[k] = c at hq hbar hall hch h2 h3 h4' h5 h6
    dsimp only at hq
    rw [Int.toNat_natCast]
    refine ⟨fun z => by have := ht.2.1; omega, fun _ => ⟨⟨fun e => ⟨ht.1, ?_⟩, fun e => ⟨ht.1, ?_⟩, fun e => ⟨ht.1, ?_⟩, fun e => ⟨ht.1, ?_⟩, trivial⟩, fun e => ?_⟩⟩
    · rw [if_pos (by omega)] at hq
      unfold wq_38
      rw [Int.toNat_natCast]
      refine ⟨ht.1, fun z => ⟨fun _ => ⟨ht.1, ?_⟩, fun z2 => absurd rfl z2⟩, fun z => ⟨fun z2 => absurd z2 (by decide), fun _ => ?_⟩⟩
      · cases hg : c.1 with
        | none => exact absurd (hbar.mpr (by rw [hg]; rfl)) z
        | some g =>
          rw [hg] at h5
          obtain ⟨b1, -⟩ := h5
          have dd1 := hch.2.2.2.1
          have dd2 := hch.2.2.2.2.1
          have dd3 := hch.2.2.2.2.2.1
          cases hL : c.2.1 with
          | nil =>
            have := dd1.mpr hL
            rw [hg] at this
            cases this
          | cons c0 L =>
            rw [hL] at b1 dd2 dd3 hq
            exact (bS_lw b1 dd2 (fun v hv => Nat.lt_of_lt_of_le (dd3 v hv) h20)).1 _ _ hq
      · have hg : c.1 = none := by
          have := hbar.mp z
          cases hc : c.1 with
          | none => rfl
          | some g => rw [hc] at this; cases this
        rw [hch.2.2.2.1.mp hg] at hq
        exact hq
    · rw [if_neg (by omega), if_pos (by omega)] at hq
      cases hg : c.1 with
      | none =>
        rw [hg] at h5
        rw [hch.2.2.2.1.mp hg] at hq
        rw [h5.2]
        exact sp_307 (x := 0) (by decide) hq
      | some g =>
        rw [hg] at h5
        obtain ⟨b1, -⟩ := h5
        refine bS_cnt b1 ?_
        rw [cnt_len 20 _ hch.2.2.2.2.1 (fun v hv => Nat.lt_of_lt_of_le (hch.2.2.2.2.2.1 v hv) h20)]
        exact hq
    · rw [if_neg (by omega), if_neg (by omega), if_pos (by omega)] at hq
      cases hp : c.2.2.1 with
      | nil =>
        rw [hp] at h6 hq
        have h6 : m cc 0 = 0 := h6
        exact ⟨fun _ => hq, fun z => absurd h6 z⟩
      | cons f r =>
        rw [hp] at h6 hq
        obtain ⟨j', c2, e1, e2, e3, e4, e5, e6⟩ := h6
        have ht2 := hOb.1.2.1 j' c2 e1
        rw [e3, Int.toNat_natCast, e5]
        have el : (((f :: r).length : Nat) : Int) = (r.length : Int) + 1 := by rw [List.length_cons]; omega
        rw [el] at hq
        exact ⟨fun z => by have := ht2.2.2.1; omega, fun _ => ⟨ht.1, ht2.2.1, hq⟩⟩
    · rw [if_neg (by omega), if_neg (by omega), if_neg (by omega), if_pos (by omega)] at hq
      rw [e46, h3]
      exact ⟨show -2147483648 ≤ _ ∧ _ < 2147483648 by omega, hq⟩
    · rw [if_neg (by omega), if_neg (by omega), if_neg (by omega), if_neg (by omega)] at hq
      exact hq
end CSH
