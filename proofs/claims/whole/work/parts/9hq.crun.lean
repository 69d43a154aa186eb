/-! THE CLASS RUNS -/
section CRU
variable {E : qE} {l l' TI TI' TL : List Nat} {F : Nat → Prop} {T T' : hy_T} {m m' m1 m2 mo : hy_m} {Z Z' : cZ} {N N' n u n' u' k n0 u0 K J : Nat} {A A' : qA} {B B' : bM} {s s' : Nat → pE} {X : cX} {x y : Int} {t ta tb b : pE} {kk : Int} {Q : sQ} {f : qF} {r : List qF}
/-- a state, with status, error and counters -/
def cAl (E : qE) (F : Nat → Prop) (K : Nat) (Z : cZ) (T : hy_T) (m : hy_m) (A : qA) : Prop := cSe E F Z (qn A 2 + 1) T m A ∧ cCt m A K 0
theorem zSp.rf : zSp F T m T m := ⟨fun _ _ q => q, fun _ _ _ => rfl⟩
/-- an inference -/
theorem sp_inf {c : Nat} (hK : K + 13000 < 2147480000) (hO : qOK E A) (he : qp A = f :: r) (hi : qn A 2 < 300) (hend : qend f = false) (h6 : m 36 6 = (c : Int)) (hA : cAl E F K Z T m A) (hOk : zOk n0 u0 Z T n u) {P : sS → Prop} (h : ∀ Z' T' n' u' m', zSp F T m T' m' → zOk n0 u0 Z' T' n' u' → cAl E F K Z' T' m' (qinf E A f r) → P (T', n', u', m')) : wq_90 (c : Int) (T, n, u, m) (fun r1 s1 => (r1 ≠ (-9) → wq_93 r1 s1 (fun r2 s2 => (r2 ≠ 0 → P s2) ∧ (r2 = 0 → wq_100 s2 (fun _ s3 => P s3)))) ∧ (r1 = (-9) → wq_88 4 1 s1.1 s1.2.2.2 (fun _ m4 => P (s1.1, s1.2.1, s1.2.2.1, m4)))) := by
  obtain ⟨hS, hCt⟩ := hA
  obtain ⟨g1, g2, g3, g4, g5, g6, g7⟩ := qdrop_ok hO he hi
  have k2 := (qinf_k (E := E) (A := A) (f := f) (r := r)).1
  have hkl : ∀ c ∈ qh A, c.2.2.2.1.1 ≤ (qi A).length := fun c hc => (chK_all _ hO.1 c hc).1
  have e2 : qn (qdrop E (qcnt A) f r) 2 = qn A 2 + 1 := by
    have e : qn (qcnt A) 2 = qn A 2 + 1 := rfl
    unfold qdrop
    split
    · exact e
    · split <;> exact e
  refine sp_90 hO he hi hend h6 hS hOk hCt (fun Z' T' n' u' m' k b own' x' a1 a2 a3 a4 a5 a6 a7 a8 a9 a10 => ⟨fun _ => ?_, fun q => ?_⟩) (fun Z' T' n' u' m' a1 a2 a3 a4 a5 => ⟨fun q => absurd rfl q, fun _ => ?_⟩)
  · have eq : qinf E A f r = qcall E (qdrop E (qcnt A) f r) own' f.2.2.1 k (sb (qs A) b) := by
      unfold qinf
      rw [a9]
    have hqk := qinf_ok hO he hi
    rw [eq] at hqk k2 h
    refine sp_93 (A := qdrop E (qcnt A) f r) (N := qn A 2 + 1) (own := own') (cut := f.2.2.1) (mo := m') hK g1 e2 a3 (by rw [g5]; exact a5) (by rw [g5]; exact a6) a7 a8 (by rw [g3]; exact a10) (fun _ => by rw [g3]; exact g2) a2 zSp.rf a4 ⟨?_, ?_⟩
    · intro r2 Z2 T2 n2 u2 m2 h0 b1 b2 b3 b4
      rw [g6] at b3 b4
      refine ⟨fun _ => h Z2 T2 n2 u2 m2 (a1.tr b1) b2 ⟨?_, b4⟩, fun q => absurd q h0⟩
      rw [k2]
      exact b3
    · intro A'' Z2 T2 n2 u2 m2 c1 c2 b1 b2 b3 b4
      rw [g6] at c2
      refine ⟨fun q => absurd rfl q, fun _ => sp_100 hK c1 b3 b2 b4 (fun Z3 T3 n3 u3 m3 d1 d2 d3 d4 => ?_)⟩
      rw [c2] at d3 d4
      refine h Z3 T3 n3 u3 m3 ((a1.tr b1).tr d1) d2 ⟨?_, d4⟩
      rw [k2]
      exact d3
  · have := cTm_0 a5
    omega
  · have eq : qinf E A f r = qfin (qdrop E (qcnt A) f r) 4 1 := by
      unfold qinf
      rw [a5]
    have hqk := qinf_ok hO he hi
    rw [eq] at hqk k2 h
    refine sp_fin (st := 4) (er := 1) (N := qn A 2 + 1) a3.1 a3.2.1 a2 (cCt_z a4) (fun m5 d1 d2 d3 d4 => ?_)
    refine h _ T' n' u' m5 (a1.tr d1) d2 ⟨?_, d4⟩
    rw [k2]
    exact cSe_N (fun c hc => by cases hc) (Nat.le_succ _) d3
theorem sp_89_21 {lim : Nat} {P : Int → Int → sS → Prop} (hlim : lim ≤ 300) (hK : K + 13000 < 2147480000) (hP : ∀ x y s, wf_89_21 (lim : Int) Q P x y s → P x y s) : ∀ (n made d : Nat) (A : qA) (Z : cZ) (T : hy_T) (nn u : Nat) (m : hy_m), qOK E A → (qn A 0 = 1 → 2 * (300 - qn A 2) + (qh A).length < n) → 0 < n → d + n ≤ 900000 → qn A 3 < 2000000000 → made ≤ lim → cAl E F K Z T m A → zOk n0 u0 Z T nn u → (∀ Z' T' n' u' m', zSp F T m T' m' → zOk n0 u0 Z' T' n' u' → cAl E F K Z' T' m' (qrun E lim n made A) → Q (qn (qrun E lim n made A) 0 : Nat) (T', n', u', m')) → P (made : Int) (d : Int) (T, nn, u, m) := by
  -- the status isn't running
  have stop : ∀ (made d : Int) (A : qA) (Z : cZ) (T : hy_T) (nn u : Nat) (m : hy_m), d < 1000000 → qn A 0 ≠ 1 → m 36 10 = qn A 0 → Q (qn A 0 : Nat) (T, nn, u, m) → P made d (T, nn, u, m) := by
    intro made d A Z T nn u m hd h1 h10 hq
    refine hP _ _ _ ?_
    unfold wf_89_21
    dsimp only
    rw [h10]
    exact ⟨fun q => by omega, fun _ => ⟨fun _ => hq, fun q => by omega⟩⟩
  intro n
  induction n with
  | zero => exact fun made d A Z T nn u m _ _ h => absurd h (Nat.lt_irrefl _)
  | succ n ih =>
    intro made d A Z T nn u m hO hn _ hd h3 hmd hA hOk hq
    by_cases h0 : qn A 0 = 1
    case neg =>
      rw [qrun_n h0] at hq
      exact stop made d A Z T nn u m (by omega) h0 hA.2.1.1 (hq Z T nn u m zSp.rf hOk hA)
    have hn := hn h0
    obtain ⟨hS, hCt⟩ := id hA
    have hNm := hS.2.1
    have hkl : ∀ c ∈ qh A, c.2.2.2.1.1 ≤ (qi A).length := fun c hc => (chK_all _ hO.1 c hc).1
    obtain ⟨hln, hlc, h4, h8⟩ := hO.len
    have h2 := hO.2.2.2.2.2.2.2.1
    have hP0 := hS.1
    have hOb := hP0.2.2.2.2.1
    have h10 : m 36 10 = 1 := by rw [hCt.1.1, h0]; rfl
    refine hP _ _ _ ?_
    unfold wf_89_21
    dsimp only
    refine ⟨fun q => by omega, fun _ => ⟨fun q => absurd h10 q, fun _ => ?_⟩⟩
    have hch := hS.2.2.1.2.2.2
    cases he : qp A with
    | nil =>
      rw [he] at hch
      have hch : m 36 6 = 0 := hch
      have eq : qrun E lim (n + 1) made A = qnum (qnum A 0 2) 3 (qn A 3 + 1) := by
        rw [qrun, if_neg (fun q => q h0), he]
      rw [eq] at hq
      have e13 : m 36 13 = qn A 3 := hNm.2.1
      refine ⟨fun _ => ⟨by rw [e13]; show -2147483648 ≤ _ ∧ _ < 2147483648; omega, show -2147483648 ≤ _ ∧ _ < 2147483648 by omega, ?_⟩, fun q => absurd hch q⟩
      have hf : ∀ (a : Nat) (e : Int), ¬ (a = 36 ∧ (e = 10 ∨ e = 13)) → hy_u (hy_u m 36 10 2) 36 13 (m 36 13 + 1) a e = m a e := fun a e q => by rw [hy_uf (by omega), hy_uf (by omega)]
      have v10 : hy_u (hy_u m 36 10 2) 36 13 (m 36 13 + 1) 36 10 = 2 := by rw [hy_uk (by decide), hy_us]
      have v13 : hy_u (hy_u m 36 10 2) 36 13 (m 36 13 + 1) 36 13 = m 36 13 + 1 := hy_us _ _ _ _
      generalize hy_u (hy_u m 36 10 2) 36 13 (m 36 13 + 1) = M at hf v10 v13
      have hNM : cNm M (qnum (qnum A 0 2) 3 (qn A 3 + 1)) := by
        obtain ⟨n1, n2, n3, n4, n5, n6⟩ := hNm
        refine ⟨?_, ?_, ?_, ?_, ?_, fun c hc => ?_⟩
        · rw [hf _ _ (by omega)]; exact n1
        · rw [v13, n2]; rfl
        · rw [hf _ _ (by omega)]; exact n3
        · rw [hf _ _ (by omega)]; exact n4
        · rw [hf _ _ (by omega)]; exact n5
        · rw [hf 39 _ (by omega), hf 40 _ (by omega)]; exact n6 c hc
      have hSM : cSe E F Z (qn A 2 + 1) T M (qnum (qnum A 0 2) 3 (qn A 3 + 1)) := cSe_o hS hkl (fun a e q1 _ _ => hf a e (by omega)) rfl rfl rfl hNM
      refine stop made ((d : Int) + 1) (qnum (qnum A 0 2) 3 (qn A 3 + 1)) Z T nn u M (by omega) (by show ¬ ((2 : Nat) = 1); decide) v10 (hq Z T nn u M ⟨fun _ _ q => q, fun a e q => hf a e (fun z => (kFs_F hP0 q).2.2.2.1 z.1)⟩ hOk ⟨hSM, ⟨⟨v10, ?_⟩, ?_, ?_⟩⟩)
      · rw [hf _ _ (by omega)]; exact hCt.1.2
      · rw [hf _ _ (by omega)]; exact hCt.2.1
      · rw [hf _ _ (by omega)]; exact hCt.2.2
    | cons f r =>
      rw [he] at hch
      obtain ⟨j, c, a1, a2, a3, a4, a5, a6⟩ := hch
      have ht := hOb.1.2.1 j c a1
      have hT := ht.2.1
      have hkO := hO.2.1
      rw [he] at hkO
      rw [a3, Int.toNat_natCast]
      refine ⟨fun q => by have := ht.2.2.1; omega, fun _ => ⟨hT, fun hne => ?_, fun heq => ?_⟩⟩
      · have hend : qend f = false := by
          unfold qend
          cases hf : f.2.2.2 with
          | none => rfl
          | some g =>
            have b0 := a4.2
            rw [hf] at b0
            have hk1 := hkO.1
            unfold frK at hk1
            rw [hf] at hk1
            have : f.2.1 = 0 := by
              by_cases q : f.2.1 = 0
              · exact q
              · exact absurd (b0.2 q) hne
            rw [this]
            rfl
        have e12 : m 36 12 = qn A 2 := hNm.1
        rw [e12]
        refine ⟨fun hne2 => ⟨fun hml => ?_, fun hml => ?_⟩, fun hge => ?_⟩
        · -- an inference
          have hi : qn A 2 < 300 := by omega
          have eq : qrun E lim (n + 1) made A = qrun E lim n (made + 1) (qinf E A f r) := by
            rw [qrun, if_neg (fun q => q h0), he]
            dsimp only
            rw [if_neg (by rw [hend]; decide), if_neg (by omega), if_neg (by omega)]
          obtain ⟨k2, k3, k5, k6, kl⟩ := qinf_k (E := E) (A := A) (f := f) (r := r)
          rw [eq] at hq
          have hinf := sp_inf hK hO he hi hend a3 hA hOk (P := fun s => hy_r 0 ((made : Int) + 1) ∧ (hy_r 0 ((d : Int) + 1) ∧ P ((made : Int) + 1) ((d : Int) + 1) s)) (fun Z' T' n' u' m' q1 q2 q3 => ⟨show -2147483648 ≤ _ ∧ _ < 2147483648 by omega, show -2147483648 ≤ _ ∧ _ < 2147483648 by omega, ?_⟩)
          · exact hinf
          · have := ih (made + 1) (d + 1) (qinf E A f r) Z' T' n' u' m' (qinf_ok hO he hi) (fun _ => by rw [k2]; omega) (by omega) (by omega) (by rw [k3]; exact h3) (by omega) q3 q2 (fun Z2 T2 n2 u2 m2 b1 b2 b3 => hq Z2 T2 n2 u2 m2 (q1.tr b1) b2 b3)
            rw [show ((made + 1 : Nat) : Int) = (made : Int) + 1 by omega, show ((d + 1 : Nat) : Int) = (d : Int) + 1 by omega] at this
            exact this
        · -- the limit
          have hi : qn A 2 < 300 := by omega
          have eq : qrun E lim (n + 1) made A = A := by
            rw [qrun, if_neg (fun q => q h0), he]
            dsimp only
            rw [if_neg (by rw [hend]; decide), if_neg (by omega), if_pos (by omega)]
          rw [eq] at hq
          rw [hCt.1.1]
          exact hq Z T nn u m zSp.rf hOk hA
        · have hi : qn A 2 = 300 := by omega
          have eq : qrun E lim (n + 1) made A = qfin A 4 3 := by
            rw [qrun, if_neg (fun q => q h0), he]
            dsimp only
            rw [if_neg (by rw [hend]; decide), if_pos (by omega)]
          rw [eq] at hq
          refine sp_fin (st := 4) (er := 3) (N := qn A 2 + 1) hS.1 hNm hOk hCt (fun m5 d1 d2 d3 d4 => ⟨show -2147483648 ≤ _ ∧ _ < 2147483648 by omega, ?_⟩)
          exact stop made ((d : Int) + 1) (qfin A 4 3) Z T nn u m5 (by omega) (by show ¬ ((4 : Nat) = 1); decide) d4.1.1 (hq _ T nn u m5 d1 d2 ⟨d3, d4⟩)
      · -- the end of a not
        have hfs : ∃ g, f.2.2.2 = some g ∧ f.2.1 ≠ 0 := by
          have b0 := a4.2
          cases hf : f.2.2.2 with
          | none =>
            rw [hf] at b0
            have b0 : m c 0 = (f.1 : Nat) ∧ m c 1 = (f.2.1 : Nat) := b0
            omega
          | some g =>
            rw [hf] at b0
            refine ⟨g, rfl, fun q => ?_⟩
            have := (b0.1 q).1
            omega
        obtain ⟨g, hg, hg2⟩ := hfs
        have hend : qend f = true := by
          have hk1 := hkO.1
          unfold frK at hk1
          rw [hg] at hk1
          have hk1 : f.2.1 ≤ 1 := hk1
          unfold qend
          rw [hg, decide_eq_true (show f.2.1 = 1 by omega)]
          rfl
        have hcut := hkO.2.1.2 (by rw [hg]; rfl)
        have eq : qrun E lim (n + 1) made A = qrun E lim n made (qbk E (qkeep A f.2.2.1)) := by
          rw [qrun, if_neg (fun q => q h0), he]
          dsimp only
          rw [if_pos hend]
        rw [eq] at hq
        have hF2 := qkeep_fl (k := f.2.2.1) hO.fl
        have k2 : qn (qbk E (qkeep A f.2.2.1)) 2 = qn A 2 := qbk_k (Or.inl rfl)
        have k3 : qn (qbk E (qkeep A f.2.2.1)) 3 = qn A 3 := qbk_k (Or.inr (Or.inl rfl))
        have kl : (qh (qbk E (qkeep A f.2.2.1))).length ≤ f.2.2.1 := by
          have := qbk_l (E := E) (A := qkeep A f.2.2.1)
          rw [qkeep_len (by omega)] at this
          exact this
        rw [a4.1]
        obtain ⟨B, TI, hD, -⟩ := hS.2.2.2
        have hcl := cCc_len hD.2.2.2.1
        refine ⟨hT, sp_99 (k := f.2.2.1) hOb (by omega) (fun m5 w1 w8 w70 w7 => ?_)⟩
        have hS5 := keep_sc hkl (show f.2.2.1 ≤ (qh A).length by omega) hS (m' := m5) (fun a e q1 q2 _ => w1 a e q1 q2) w8 w70 (fun j c' q1 q2 => by
          rw [w7 j c' q1 q2]
          have := (zC_tag hOb (List.mem_of_getElem? q2)).2.1
          exact (w1 c' 3 (by omega) (by omega)).symm)
        have hsp5 : zSp F T m T m5 := ⟨fun _ _ q => q, fun a e q => w1 a e (fun z => (kFs_F hP0 q).2.2.2.1 z.1) (fun z => (kFs_F hP0 q).2.2.2.2.2.2.2.2.1 z.1)⟩
        have hC5 : cCt m5 (qkeep A f.2.2.1) K 0 := cCt_fr hCt (w1 _ _ (by omega) (by omega)) (w1 _ _ (by omega) (by omega)) (w1 _ _ (by omega) (by omega)) (w1 _ _ (by omega) (by omega)) rfl rfl rfl rfl
        refine sp_100 hK hF2 hS5.fl hOk hC5 (fun Z' T' n' u' m' q1 q2 q3 q4 => ⟨show -2147483648 ≤ _ ∧ _ < 2147483648 by omega, ?_⟩)
        have := ih made (d + 1) (qbk E (qkeep A f.2.2.1)) Z' T' n' u' m' (qbk_ok hF2) (fun _ => by rw [k2]; omega) (by omega) (by omega) (by rw [k3]; exact h3) hmd ⟨by rw [k2]; exact q3, q4⟩ q2 (fun Z2 T2 n2 u2 m2 b1 b2 b3 => hq Z2 T2 n2 u2 m2 ((hsp5.tr q1).tr b1) b2 b3)
        rw [show ((d + 1 : Nat) : Int) = (d : Int) + 1 by omega] at this
        exact this
/-- run -/
theorem sp_14 {x : Int} (hK : K + 13000 < 2147480000) (hO : qOK E A) (hA : cAl E F K Z T m A) (hOk : zOk n0 u0 Z T n u) (h3 : qn A 3 < 2000000000) (hb : ¬ (1 ≤ x ∧ x ≤ 300) → Q (-1) (T, n, u, m)) (hst : 1 ≤ x → x ≤ 300 → qn A 0 ≠ 1 → qn A 0 ≠ 2 → Q (-2) (T, n, u, m)) (hq : ∀ lim : Nat, x = lim → 1 ≤ lim → lim ≤ 300 → qn A 0 = 1 ∨ qn A 0 = 2 → ∀ Z' T' n' u' m', zSp F T m T' m' → zOk n0 u0 Z' T' n' u' → cAl E F K Z' T' m' (qproc E lim A) → Q (qn (qproc E lim A) 0 : Nat) (T', n', u', m')) : wq_14 x (T, n, u, m) Q := by
  obtain ⟨hS, hCt⟩ := id hA
  have h10 := hCt.1.1
  obtain ⟨hln, hlc, h4, h8⟩ := hO.len
  have h2 := hO.2.2.2.2.2.2.2.1
  have hkl : ∀ c ∈ qh A, c.2.2.2.1.1 ≤ (qi A).length := fun c hc => (chK_all _ hO.1 c hc).1
  unfold wq_14
  dsimp only
  refine ⟨fun q => hb (by omega), fun q1 => ⟨fun q2 => ?_, fun q => hb (by omega)⟩⟩
  obtain ⟨lim, rfl⟩ : ∃ lim : Nat, x = lim := ⟨x.toNat, by omega⟩
  have hq := hq lim rfl (by omega) (by omega)
  have run1 : qn A 0 = 1 → wq_89 (lim : Int) (T, n, u, m) (fun r s => Q r s) := by
    intro e0
    have hq := hq (Or.inl e0)
    have eq : qproc E lim A = qrun E lim 2000 0 A := by unfold qproc; rw [if_neg (by rw [e0]; decide)]
    rw [eq] at hq
    unfold wq_89
    dsimp only
    refine ⟨fun _ => ?_, fun z => by omega⟩
    unfold wq_89_21
    intro P hP
    exact sp_89_21 (by omega) hK hP 2000 0 0 A Z T n u m hO (fun _ => by omega) (by omega) (by omega) h3 (Nat.zero_le _) hA hOk hq
  have run2 : qn A 0 = 2 → wq_89 (lim : Int) (T, n, u, m) (fun r s => Q r s) := by
    intro e0
    have hq := hq (Or.inr e0)
    have eq : qproc E lim A = qrun E lim 2000 0 (qbk E (qnum A 0 1)) := by unfold qproc; rw [if_pos e0]
    rw [eq] at hq
    have hF : qFl E (qnum A 0 1) := hO.fl
    have k2 : qn (qbk E (qnum A 0 1)) 2 = qn A 2 := qbk_k (Or.inl rfl)
    have k3 : qn (qbk E (qnum A 0 1)) 3 = qn A 3 := qbk_k (Or.inr (Or.inl rfl))
    have kl : (qh (qbk E (qnum A 0 1))).length ≤ (qh A).length := qbk_l (E := E) (A := qnum A 0 1)
    have hf : ∀ (a : Nat) (e : Int), ¬ (a = 36 ∧ e = 10) → hy_u m 36 10 1 a e = m a e := fun a e q => hy_uf q
    have v10 : hy_u m 36 10 1 36 10 = 1 := hy_us _ _ _ _
    unfold wq_89
    dsimp only
    refine ⟨fun z => by omega, fun _ => ?_⟩
    generalize hy_u m 36 10 1 = M at hf v10
    have hSM : cSe E F Z (qn A 2 + 1) T M (qnum A 0 1) := cSe_o hS hkl (fun a e q1 _ _ => hf a e (by omega)) rfl rfl rfl (cNm_fr (A := A) hS.2.1 (fun e _ _ => hf _ _ (by omega)) (fun e => hf _ _ (by omega)) (fun e => hf _ _ (by omega)))
    have hCM : cCt M (qnum A 0 1) K 0 := ⟨⟨v10, by rw [hf _ _ (by omega)]; exact hCt.1.2⟩, by rw [hf _ _ (by omega)]; exact hCt.2.1, by rw [hf _ _ (by omega)]; exact hCt.2.2⟩
    have hsM : zSp F T m T M := ⟨fun _ _ q => q, fun a e q => hf a e (fun z => (kFs_F hS.1 q).2.2.2.1 z.1)⟩
    refine sp_100 hK hF hSM.fl hOk hCM (fun Z' T' n' u' m' q1 q2 q3 q4 => ?_)
    unfold wq_89_21
    intro P hP
    exact sp_89_21 (by omega) hK hP 2000 0 0 (qbk E (qnum A 0 1)) Z' T' n' u' m' (qbk_ok hF) (fun _ => by rw [k2]; omega) (by omega) (by omega) (by rw [k3]; exact h3) (Nat.zero_le _) ⟨by rw [k2]; exact q3, q4⟩ q2 (fun Z2 T2 n2 u2 m2 b1 b2 b3 => hq Z2 T2 n2 u2 m2 ((hsM.tr q1).tr b1) b2 b3)
  rw [h10]
  refine ⟨fun z => run1 (by omega), fun z => ⟨fun z2 => run2 (by omega), fun z2 => hst q1 q2 (by omega) (by omega)⟩⟩
end CRU
