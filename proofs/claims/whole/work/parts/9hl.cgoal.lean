/-! THE CLASS'S SEARCH: goals -/
section CGO
variable {E : qE} {l l' TI TI' TL : List Nat} {F : Nat → Prop} {T T' : hy_T} {m m' m1 m2 : hy_m} {Z Z' : cZ} {N N' n u n' u' k n0 u0 K J : Nat} {A A' : qA} {B B' : bM} {s s' : Nat → pE} {Q : Int → hy_m → Prop} {X : cX} {x : Int} {t : pE}
theorem cTm_0 {k : Int} {b : pE} (h : cTm X m x (.mulL k b)) : 0 ≤ x := by
  rcases h with ⟨_, _, _, e, _⟩ | ⟨i, n, u, _, e, _⟩
  · cases e
  · omega
/-- isCallable -/
theorem sp_24c {key : Int} (h : cTm X m x t) (hq : Q (if eCa t = true then 1 else 0) m) (hk : ∀ k a, t = .mulL k a → key = kC k (eN a)) : wq_24 (eKd t) key m Q := by
  rcases h with ⟨_, _, _, rfl, _⟩ | ⟨i, n, u, _, _, _, _, hku, rfl⟩
  · have hq : Q 0 m := hq
    unfold wq_24 wq_24_13
    exact ⟨fun _ => ⟨fun _ => hq, fun q => absurd q (show ¬ (2 : Int) = 4 by decide)⟩, fun q => absurd q (show ¬ (2 : Int) = 3 by decide)⟩
  · rw [eKd_rn (xP X i) u _ hku]
    have ec : eCa (rn (xP X i) u) = eCa u := by
      cases u with
      | var v => rfl
      | _ => rfl
    rw [ec] at hq
    refine sp_24 hku hq (fun k a e => ?_)
    subst e
    have := hk k (sb (fun v => .var (xP X i + v)) a) rfl
    rw [eN_sb _ a _ hku.2.2.2.2.2] at this
    exact this
/-- an argument, also one that isn't there -/
theorem sp_132x {k : Int} {b : pE} {j : Nat} (h : cW X T m) (hx : cTm X m x (.mulL k b)) (hj : j < 3) (hq : ∀ y, (j < eN b → cTm X m y (eAr b j) ∧ 0 ≤ y) → Q y m) : wq_132 x (j : Int) T m Q := by
  by_cases c : j < eN b
  · exact sp_132 h hx c (fun y q1 q2 => hq y (fun _ => ⟨q1, q2⟩))
  · have hx' := hx
    unfold wq_132
    rcases hx with ⟨_, _, _, e, _⟩ | ⟨i, n, u, hi, rfl, hn, hu, hk, e⟩
    · cases e
    · obtain ⟨g1, g2, g3, g4, g5⟩ := h.2.2.2.2.2 i hi
      have hc := h.2.2.1
      obtain ⟨e1, e2, e3⟩ := r128 (i := i) (n := n) (by omega) hn.1
      have hA := cP_A hu
      rw [e1, e2]
      exact sp_127 h hi ⟨by rw [Int.toNat_natCast]; exact g3.1, sp_42 g3 hA hj (hq _ (fun q => absurd q c))⟩
/-- the goal of a frame -/
theorem sp_91 {f : qF} {c : Nat} (hP : cPr E F T m Z (qi A)) (hk : frK E (qi A) (qi A).length f) (hend : qend f = false) (hT : T.1 c = some (4, 5)) (h1 : cF1 (zX Z (qi A).length N) m (tot E (qi A)) (qs A) f c) (hq : ∀ x t, cTm (zX Z (qi A).length N) m x t → (∀ w, vIn w t → w < tot E (qi A)) → eCa t = true → (∀ v, SolS (qs A) v → sb v t = sb v (qgoal E A f)) → Q x m) : wq_91 (c : Int) T m Q := by
  have hU := zX_uPr hP N
  obtain ⟨a1, a3⟩ := h1
  unfold qend at hend
  unfold frK at hk
  unfold wq_91
  rw [Int.toNat_natCast]
  refine ⟨hT, ?_⟩
  cases hf : f.2.2.2 with
  | some g =>
    rw [hf] at a3 hk hend
    have h0 : f.2.1 = 0 := by
      have hk : f.2.1 ≤ 1 := hk
      have : f.2.1 ≠ 1 := fun q => by rw [q] at hend; cases hend
      omega
    obtain ⟨b1, t, t1, t2, t3, t4, t5⟩ := a3.1 h0
    refine ⟨fun q => by omega, fun _ => ⟨hT, hq _ t t1 t3 t4.1 (fun v hv => ?_)⟩⟩
    have e : qgoal E A f = g := by unfold qgoal; rw [hf]
    rw [e]
    exact t5 v hv
  | none =>
    rw [hf] at a3 hk
    obtain ⟨k1, k2, k3⟩ := hk
    have eg : qgoal E A f = rn (plc E (qi A) f.1) ((gsO E (qi A) f.1).getD f.2.1 (.num 0)) := by unfold qgoal; rw [hf]
    have egd : (gsO E (qi A) f.1).getD f.2.1 (.num 0) = (gsO E (qi A) f.1)[f.2.1] := by
      rw [List.getD_eq_getElem?_getD, List.getElem?_eq_getElem k3]
      rfl
    rw [egd] at eg
    obtain ⟨hd, a, cc, k0, k1', k2', k4, nv, i1, i2, i3, i4, i5, i6, i7, i8, i9, i10, -⟩ := ins_at hP N k1 k2
    have b0 : m c 0 = (f.1 : Nat) := a3.1
    have b1 : m c 1 = (f.2.1 : Nat) := a3.2
    rw [b0, b1]
    refine ⟨fun _ => ⟨hT, hT, sp_127 hU.2.1 i1 ?_⟩, fun q => by omega⟩
    rw [i2, Int.toNat_natCast, b1]
    have hTa := i4.1.1
    refine ⟨hT, hTa, ?_⟩
    unfold wq_43
    rw [Int.toNat_natCast, i4.2.2.1, Int.toNat_natCast]
    obtain ⟨o1, o2, o3⟩ := i10 f.2.1 k3
    have hgo := i5.2.2.1 _ (List.getElem_mem k3)
    have hcap := hU.2.1.2.2.1
    have hcl := (hU.2.1.2.2.2.2.2 f.1 i1).1
    refine ⟨fun q => by omega, fun _ => ⟨hTa, 100, _, i4.2.2.2.1, by decide, fun q => by omega, fun q => ⟨hTa, _, i4.2.2.2.1, by omega, q, show -2147483648 ≤ _ ∧ _ < 2147483648 by omega, ?_⟩⟩⟩
    rw [show (f.1 : Int) * 128 + m k4 (f.2.1 : Int) = 128 * (f.1 : Int) + m k4 (f.2.1 : Int) by omega]
    refine hq _ _ o3 (fun w hw => ?_) ?_ (fun v _ => by rw [eg])
    · have := rn_in hgo.1 hw
      omega
    · obtain ⟨kk, aa, e1, e2⟩ := hgo.2
      rw [e1]
      exact wOK_ca e2
/-- goalsLeft -/
theorem sp_103 {f : qF} {c : Nat} (hP : cPr E F T m Z (qi A)) (hk : frK E (qi A) (qi A).length f) (hT : T.1 c = some (4, 5)) (h1 : cF1 (zX Z (qi A).length N) m (tot E (qi A)) (qs A) f c) (hq : Q (fGo E A f : Int) m) : wq_103 (c : Int) T m Q := by
  have hU := zX_uPr hP N
  obtain ⟨a1, a3⟩ := h1
  unfold frK at hk
  unfold fGo at hq
  unfold wq_103
  rw [Int.toNat_natCast]
  refine ⟨hT, ?_⟩
  cases hf : f.2.2.2 with
  | some g =>
    rw [hf] at a3 hk hq
    have hk : f.2.1 ≤ 1 := hk
    dsimp only at hq
    by_cases h0 : f.2.1 = 0
    · have b1 := (a3.1 h0).1
      rw [h0] at hq
      rw [b1]
      exact ⟨fun q => absurd q (by decide), fun _ => ⟨hT, fun q => absurd rfl q, fun _ => hq⟩⟩
    · have b1 := a3.2 h0
      rw [show f.2.1 = 1 by omega] at hq
      rw [b1]
      exact ⟨fun q => absurd q (by decide), fun _ => ⟨hT, fun _ => hq, fun q => absurd q (by decide)⟩⟩
  | none =>
    rw [hf] at a3 hk hq
    obtain ⟨k1, k2, k3⟩ := hk
    dsimp only at hq
    obtain ⟨hd, a, cc, k0, k1', k2', k4, nv, i1, i2, i3, i4, i5, i6, i7, i8, i9, i10, -⟩ := ins_at hP N k1 k2
    have b0 : m c 0 = (f.1 : Nat) := a3.1
    have b1 : m c 1 = (f.2.1 : Nat) := a3.2
    have h5 := i5.2.2.2.1
    rw [b0]
    refine ⟨fun _ => ⟨hT, sp_127 hU.2.1 i1 ?_⟩, fun q => by omega⟩
    rw [i2, Int.toNat_natCast, i4.2.2.1, Int.toNat_natCast, b1]
    refine ⟨i4.1.1, 100, _, i4.2.2.2.1, by decide, hT, show -2147483648 ≤ _ ∧ _ < 2147483648 by omega, ?_⟩
    rw [show (((gsO E (qi A) f.1).length : Nat) : Int) - ((f.2.1 : Nat) : Int) = (((gsO E (qi A) f.1).length - f.2.1 : Nat) : Int) by omega]
    exact hq
end CGO
section CGD
variable {E : qE} {l l' TI TI' TL : List Nat} {F : Nat → Prop} {T T' : hy_T} {m m' m1 m2 : hy_m} {Z Z' : cZ} {N N' n u n' u' k n0 u0 K J : Nat} {A A' : qA} {B B' : bM} {s s' : Nat → pE} {Q : sQ} {X : cX} {x : Int} {t : pE}
/-- another top frame -/
theorem qtop_sc {L : List qF} {j : Nat} {y : Int} (hS : cSe E F Z N T m A) (hk : ∀ c ∈ qh A, c.2.2.2.1.1 ≤ (qi A).length) (hj : j ≤ qn A 8) (hch : cCh (zF Z) (zX Z (qi A).length N) m (tot E (qi A)) (qs A) j L y) : cSe E F Z N T (hy_u m 36 6 y) (qtop A L) := by
  have f1 : ∀ (a : Nat) (e : Int), ¬ (a = 36 ∧ e = 6) → hy_u m 36 6 y a e = m a e := fun a e q => hy_uf q
  have v6 : hy_u m 36 6 y 36 6 = y := hy_us _ _ _ _
  generalize hy_u m 36 6 y = M at f1 v6
  obtain ⟨hP, hNm, ⟨h3, h5, h8, -⟩, B, TI, hD, hRes, hTI⟩ := hS
  have hO := hP.2.2.2.2.1
  have nn : ∀ {a : Nat} {e : Int}, a ≠ 36 → M a e = m a e := fun q1 => f1 _ _ (fun z => q1 z.1)
  obtain ⟨zz1, zz2, zz3, zz4, zz5, zz6, zz7⟩ := cRo_z hP.1
  have hyt := (hP.1.1.2 (yt (zU Z)) (by unfold rwL; simp)).1
  have hP' : cPr E F T M Z (qi A) := cPr_s hP (fun a e q => nn (fun z => q (Or.inl z)))
  have hFc : ∀ b z, F b → M b z = m b z := fun b z hb => by
    have := hP.1.2.1 b hb
    exact nn (by omega)
  have hTE : tE (zX Z (qi A).length N) m (zX Z (qi A).length N) M := tE_s hP hP' (Nat.le_refl _) (Nat.le_refl _) (fun _ q => q) hFc (fun _ _ => nn (by decide)) (Nat.le_refl _)
  have hFr : ∀ (j c' : Nat), (zF Z)[j]? = some c' → ∀ z, M c' z = m c' z := fun j c' q z => by
    have := (hO.1.2.1 j c' q).2.2.1
    exact nn (by omega)
  have hCr : ∀ (j c' : Nat), (zC Z)[j]? = some c' → ∀ z, M c' z = m c' z := fun j c' q z => by
    have := (hO.2.2.1 j c' q).2.2.1
    exact nn (by omega)
  have d := cDy_x (FC := zF Z) (CC := zC Z) hP hP' hk (Nat.le_refl N) (fun _ _ => nn (by decide)) hFc (fun e => nn (by omega)) (fun e => nn (by omega)) (nn (by decide)) (nn (by decide)) (f1 _ _ (by omega)) (fun _ _ j c' _ q => ⟨q, hFr j c' q⟩) (fun j c' _ q => ⟨q, hCr j c' q⟩) hD
  refine ⟨hP', cNm_fr (A := A) hNm (fun e q1 q2 => f1 _ _ (by omega)) (fun e => nn (by decide)) (fun e => nn (by decide)), ⟨?_, ?_, h8, ?_⟩, B, TI, d, hRes, hTI⟩
  · rw [nn (by decide)]; exact h3
  · rw [f1 _ _ (by omega)]; exact h5
  · rw [v6]
    exact cCh_N hj _ _ (cCh_mo hTE (Nat.le_refl _) (fun _ q => q) _ _ _ (fun j c' _ q => ⟨q, hFr j c' q⟩) hch)
/-- dropGoal -/
theorem sp_92 {f : qF} {r : List qF} {j c I : Nat} (hk : chK E (qi A) I (qh A) (qi A).length (qn A 7) (qn A 8)) (h601 : qn A 8 ≤ 601) (hfr : frK E (qi A) (qi A).length f) (hend : qend f = false) (hS : cSe E F Z N T m A) (hj : j < qn A 8) (hFj : (zF Z)[j]? = some c) (h1 : cF1 (zX Z (qi A).length N) m (tot E (qi A)) (qs A) f c) (hch : cCh (zF Z) (zX Z (qi A).length N) m (tot E (qi A)) (qs A) j r (m c 2)) (hOk : zOk n0 u0 Z T n u) (hCt : cCt m A K J) (hq : ∀ Z' T' n' u' m', zSp F T m T' m' → zOk n0 u0 Z' T' n' u' → cSe E F Z' N T' m' (qdrop E A f r) → cCt m' (qdrop E A f r) K J → (∀ z, m' c z = m c z) → zW Z' = zW Z → (∀ e, m' 46 e = m 46 e) → m' 36 8 = m 36 8 → Q 0 (T', n', u', m')) : wq_92 (c : Int) (T, n, u, m) Q := by
  have hP := hS.1
  have hNm := hS.2.1
  obtain ⟨y3, y5, y8, ych⟩ := hS.2.2.1
  have hO := hP.2.2.2.2.1
  have ht := hO.1.2.1 j c hFj
  have hT := ht.2.1
  have hkl : ∀ c ∈ qh A, c.2.2.2.1.1 ≤ (qi A).length := fun c hc => (chK_all _ hk c hc).1
  have hch8 := cCh_N (N' := qn A 8) (Nat.le_of_lt hj) _ _ hch
  have sm : ∀ z : Nat, z < 74 → z ∉ zF Z := fun z q1 q2 => by
    have := (zF_tag hO q2).2.1
    omega
  -- a new frame
  have push : ∀ (f' : qF) (x1 x2 : Int), (match f'.2.2.2 with
      | none => x1 = f'.1 ∧ x2 = f'.2.1
      | some g => (f'.2.1 = 0 → x1 = -1 ∧ cFg (zX Z (qi A).length N) m (tot E (qi A)) (qs A) x2 g) ∧ (f'.2.1 ≠ 0 → x1 = -2)) → f'.2.2.1 = f.2.2.1 → qdrop E A f r = qpush A f' r → wq_102 x1 x2 (m c 2) (m c 3) (T, n, u, m) (fun r2 s2 => Q 0 (s2.1, s2.2.1, s2.2.2.1, hy_u s2.2.2.2 36 6 r2)) := by
    intro f' x1 x2 hx hcut hdr
    refine sp_push (A := A) (f := f') (L := r) (j := qn A 8) hk (Nat.le_refl _) hP hNm y3 y5 rfl h601 y8 hch8 hS.2.2.2 hOk.2.1 hOk.2.2.1 ⟨by rw [hcut]; exact h1.1, hx⟩ (fun FC T' n' u' m3 c' hT' hW hn' hu' hnn g1 g2 hS3 => ?_)
    dsimp only
    have w1 : ∀ (z : Nat) (e : Int), ¬ (z = 36 ∧ e = 6) → hy_u m3 36 6 (c' : Int) z e = m3 z e := fun z e q => hy_uf q
    generalize hy_u m3 36 6 (c' : Int) = m4 at w1 hS3
    have low : ∀ (z : Nat) (e : Int), z < 74 → ¬ (z = 36 ∧ (e = 5 ∨ e = 6)) → z ≠ 37 → m4 z e = m z e := fun z e q1 q2 q3 => (w1 z e (fun w => q2 ⟨w.1, Or.inr w.2⟩)).trans (g1 z e (Or.inl q1) (sm z q1) (fun w => q2 ⟨w.1, Or.inl w.2⟩) q3)
    refine hq _ T' n' u' m4 ⟨hT', fun z e q => ?_⟩ (zOk_F hOk hT' hW hn' hu' hnn) ?_ ?_ (fun z => ?_) rfl (fun e => low _ _ (by decide) (by omega) (by decide)) (low _ _ (by decide) (by omega) (by decide))
    · have hz2 := kFs_F hP q
      rw [w1 z e (fun w => hz2.2.2.2.1 w.1), g1 z e hz2.1 hz2.2.1 (fun w => hz2.2.2.2.1 w.1) hz2.2.2.2.2.1]
    · rw [hdr]; exact hS3
    · rw [hdr]
      exact cCt_fr hCt (low _ _ (by decide) (by omega) (by decide)) (low _ _ (by decide) (by omega) (by decide)) (low _ _ (by decide) (by omega) (by decide)) (low _ _ (by decide) (by omega) (by decide)) rfl rfl rfl rfl
    · rw [w1 c z (by have := ht.2.2.1; omega)]
      exact g2 j c hj hFj z
  unfold wq_92
  dsimp only
  rw [Int.toNat_natCast]
  refine ⟨hT, ?_⟩
  cases hf : f.2.2.2 with
  | some g =>
    have hk1 : f.2.1 ≤ 1 := by
      have := hfr
      unfold frK at this
      rw [hf] at this
      exact this
    have h0 : f.2.1 = 0 := by
      unfold qend at hend
      rw [hf] at hend
      have : f.2.1 ≠ 1 := fun q => by rw [q] at hend; cases hend
      omega
    have b0 : m c 0 = -1 := by
      have a3 := h1.2
      rw [hf] at a3
      exact (a3.1 h0).1
    rw [b0]
    refine ⟨fun q => absurd rfl q, fun _ => ⟨hT, hT, push (0, 1, f.2.2.1, some g) (-2) 0 ⟨(fun q => absurd (show (1 : Nat) = 0 from q) (by decide)), fun _ => rfl⟩ rfl ?_⟩⟩
    unfold qdrop
    rw [hf]
  | none =>
    have a3 := h1.2
    rw [hf] at a3
    have b0 : m c 0 = (f.1 : Nat) := a3.1
    have b1 : m c 1 = (f.2.1 : Nat) := a3.2
    have hk3 := hfr
    unfold frK at hk3
    rw [hf] at hk3
    have hk3 : (f.1 = 0 ∨ 2 ≤ f.1) ∧ f.1 < (qi A).length + 2 ∧ f.2.1 < (gsO E (qi A) f.1).length := hk3
    have h5 : (gsO E (qi A) f.1).length ≤ 5 := by
      obtain ⟨hd, a, cc, k0, k1', k2', k4, nv, i1, i2, i3, i4, i5, -⟩ := ins_at hP N hk3.1 hk3.2.1
      exact i5.2.2.2.1
    rw [b0]
    refine ⟨fun _ => sp_103 hP hfr hT h1 ⟨fun hle => ⟨hT, ?_⟩, fun hlt => ⟨hT, hT, hT, hT, ?_⟩⟩, fun q => by omega⟩
    · have hl : ¬ f.2.1 + 1 < (gsO E (qi A) f.1).length := by
        unfold fGo at hle
        rw [hf] at hle
        dsimp only at hle
        omega
      have hdr : qdrop E A f r = qtop A r := by
        unfold qdrop
        rw [hf]
        dsimp only
        rw [if_neg hl]
      have f1 : ∀ (a : Nat) (e : Int), ¬ (a = 36 ∧ e = 6) → hy_u m 36 6 (m c 2) a e = m a e := fun a e q => hy_uf q
      refine hq Z T n u _ ⟨fun _ _ q => q, fun z e q => f1 z e (fun w => (kFs_F hP q).2.2.2.1 w.1)⟩ hOk ?_ ?_ (fun z => f1 c z (by have := ht.2.2.1; omega)) rfl (fun e => f1 _ _ (by omega)) (f1 _ _ (by omega))
      · rw [hdr]
        exact qtop_sc hS hkl (Nat.le_of_lt hj) hch
      · rw [hdr]
        exact cCt_fr hCt (f1 _ _ (by omega)) (f1 _ _ (by omega)) (f1 _ _ (by omega)) (f1 _ _ (by omega)) rfl rfl rfl rfl
    · have hl : f.2.1 + 1 < (gsO E (qi A) f.1).length := by
        unfold fGo at hlt
        rw [hf] at hlt
        dsimp only at hlt
        omega
      rw [b1]
      refine ⟨show -2147483648 ≤ _ ∧ _ < 2147483648 by omega, push (f.1, f.2.1 + 1, f.2.2.1, none) _ _ ⟨b0, rfl⟩ rfl ?_⟩
      unfold qdrop
      rw [hf]
      dsimp only
      rw [if_pos hl]
end CGD
