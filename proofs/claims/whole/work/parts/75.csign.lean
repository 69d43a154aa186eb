/-! THE CLASS'S READER: signs -/
section CH
variable {m m' : hy_m} {tx : List Int} {Q : Int → hy_m → Prop} {qy : Bool} {vs : List Int} {hd : Option pE} {gs : List pE} {u d c p : Nat} {K : List (pE × Int)} {y0 : Int} {oc : Nat → Nat} {f : pF} {cs : List Int} {stk : List pF} {css : List (List Int)} {t : pE} {n : Int}
/-- a term stands, and no parenthesis opens behind it -/
def pB (tx : List Int) (qy : Bool) (vs : List Int) (hd : Option pE) (gs : List pE) (t : pE) (stk : List pF) (p : Nat) : Sum pS pR := match stk with
      | [] => pG tx qy vs hd gs t p
      | (f, k, as) :: r =>
        if f = 0 then
          if pk1 tx p = 7 then
            if (!qy && hd.isNone && r.isEmpty && bBi k (as.length + 1)) = true then .inr (.inl p)
            else .inl (3, vs, hd, gs, eC k (as ++ [t]), false, r, pnx tx p)
          else if pk1 tx p = 5 ∧ as.length + 1 < 3 then .inl (1, vs, hd, gs, eNil, false, (0, k, as ++ [t]) :: r, pnx tx p)
          else .inr (.inl p)
        else if f = 1 then
          if pk1 tx p = 5 then .inl (1, vs, hd, gs, eNil, false, (1, k, as ++ [t]) :: r, pnx tx p)
          else if pk1 tx p = 10 then .inl (1, vs, hd, gs, eNil, false, (2, k, as ++ [t]) :: r, pnx tx p)
          else if pk1 tx p = 9 then .inl (3, vs, hd, gs, eI eNil (as ++ [t]), false, r, pnx tx p)
          else .inr (.inl p)
        else
          if pk1 tx p = 9 then .inl (3, vs, hd, gs, eI t as, false, r, pnx tx p) else .inr (.inl p)
theorem pSt_3 {nm : Bool} (h : nm = true → pk1 tx p ≠ 6) : pSt tx qy (3, vs, hd, gs, t, nm, stk, p) = pB tx qy vs hd gs t stk p := by
  unfold pSt
  dsimp only
  rw [if_neg (by decide), if_neg (by decide), if_neg (by decide), if_neg (fun q => h q.1 q.2)]
  rfl
theorem mK_c {x : Int} {o o' : Nat → Nat} (h : mK x o) (e : ∀ v, o v = o' v) : mK x o' := by
  have : o = o' := funext e
  rw [← this]
  exact h
theorem aO_tr {s : pS} {m1 : hy_m} {r : Int} (hf : cFm m m1) (h15 : m1 4 15 = m 4 15) (h5 : ∀ i : Int, 0 ≤ i → i < 8 → m1 5 i = m 5 i) (h : aO m1 m' tx qy s p r) : aO m m' tx qy s p r := by
  refine ⟨fun a e q => (h.1 a e q).trans (hf a e q), h.2.1.trans h15, ?_⟩
  rcases h.2.2 with g | ⟨g1, g2, g3⟩ | g
  · exact Or.inl g
  · exact Or.inr (Or.inl ⟨g1, g2, fun i q1 q2 => (g3 i q1 q2).trans (h5 i q1 q2)⟩)
  · exact Or.inr (Or.inr g)
/-- the goal or head under way is complete -/
theorem cDn_of (hN : cN m y0 [] css (some n) c K) (ht : cT m (cA c css.flatten) t n) (hL : cL m qy vs hd gs c d K y0 (fun v => oE t v + oF [] v)) : ((!qy && hd.isNone) = true → cDn m c ((t, n) :: K) (some t) [] vs.length ∧ gs = [] ∧ hd = none ∧ qy = false) ∧ ((!qy && hd.isNone) = false → cDn m c ((t, n) :: K) hd (gs ++ [t]) vs.length ∧ gs.length ≤ 4 ∧ m 4 7 = (gs.length : Int) + 1) := by
  obtain ⟨n1, n2, n3, n4, n5⟩ := hN
  cases css with
  | cons a b => exact n3.elim
  | nil =>
    have hny : n = y0 := by
      have : some n = some y0 := n3
      simpa using this
    subst hny
    obtain ⟨l1, l2, l3, l4, l5, l6, l7, l8, l9, l10, l11⟩ := hL
    have hK : ∀ q ∈ (t, n) :: K, cT m (cA c []) q.1 q.2 := by
      intro q hq
      rcases List.mem_cons.mp hq with rfl | hq
      · exact ht
      · exact n4 q hq
    refine ⟨fun hh => ?_, fun hh => ?_⟩
    · obtain ⟨g1, g2, g3⟩ := l6 hh
      subst g3
      have hh2 : qy = false ∧ hd = none := by
        cases qy <;> cases hd <;> simp_all
      obtain ⟨rfl, rfl⟩ := hh2
      refine ⟨⟨n1, l2, n5, hK, g2, by decide, l4.1, l4.2.1, fun h' e => ?_, (fun e => by cases e), fun i hi => absurd hi (Nat.not_lt_zero _), fun v hv => ?_, fun v hv => ?_, fun i hi => absurd hi (Nat.not_lt_zero _)⟩, rfl, rfl, rfl⟩
      · cases e
        rw [g1]
        exact List.mem_cons_self ..
      · rw [l8 v hv]
        show ((0 + 0 + (oE t v + 0) : Nat) : Int) = ((oE t v + 0 : Nat) : Int)
        omega
      · have : 0 + 0 + (oE t v + 0) = 0 := l9 v hv
        show oE t v + 0 = 0
        omega
    · obtain ⟨g1, g2, g3, g4, g5, g6⟩ := l7 hh
      refine ⟨⟨n1, l2, n5, hK, by rw [g3]; simp, by simp; omega, l4.1, l4.2.1, fun h' e => List.mem_cons_of_mem _ (g1 h' e), g2, fun i hi => ?_, fun v hv => ?_, fun v hv => ?_, fun i hi => ?_⟩, g5, g3⟩
      · by_cases e : i = gs.length
        · subst e
          rw [g4]
          simp
        · have hi' : i < gs.length := by simp at hi; omega
          rw [List.getElem_append_left hi']
          exact List.mem_cons_of_mem _ (l5 i hi')
      · rw [l8 v hv, oL_app]
        show ((oH hd v + oL gs v + (oE t v + 0) : Nat) : Int) = ((oH hd v + (oL gs v + (oE t v + 0)) : Nat) : Int)
        omega
      · have : oH hd v + oL gs v + (oE t v + 0) = 0 := l9 v hv
        rw [oL_app]
        show oH hd v + (oL gs v + (oE t v + 0)) = 0
        omega
      · by_cases e : i = gs.length
        · subst e
          have : (gs ++ [t])[gs.length] = t := by simp
          rw [this]
          exact mK_c g6 (fun v => rfl)
        · have hi' : i < gs.length := by simp at hi; omega
          rw [List.getElem_append_left hi']
          exact l10 i hi'
theorem cDn_fr {nv : Nat} (h : cDn m c K hd gs nv) (hf : ∀ (a : Nat) (e : Int), (a = 4 ∧ (e = 4 ∨ e = 5 ∨ e = 7 ∨ e = 10)) ∨ a = 5 ∨ a = 6 ∨ a = 7 ∨ a = 8 ∨ a = 10 ∨ a = 11 → m' a e = m a e) : cDn m' c K hd gs nv := by
  obtain ⟨h1, h2, h3, h4, h5, h6, h7, h8, h9, h10, h11, h12, h13, h14⟩ := h
  have hE : ∀ A : Int → Prop, cE m m' A := fun A z _ => ⟨hf _ _ (by omega), hf _ _ (by omega), fun j _ _ => hf _ _ (by omega)⟩
  have e5 : m' 4 5 = m 4 5 := hf _ _ (by omega)
  refine ⟨fun i a1 a2 => by rw [hf _ _ (by omega)]; exact h1 i a1 a2, by rw [hf _ _ (by omega)]; exact h2, h3, fun q hq => cT_up (fun z hz => hz) (hE _) (h4 q hq), by rw [hf _ _ (by omega)]; exact h5, h6, by rw [hf _ _ (by omega)]; exact h7, h8, fun t e => by rw [e5]; exact h9 t e, fun e => by rw [e5]; exact h10 e, fun i hi => by rw [hf _ _ (by omega)]; exact h11 i hi, fun v hv => by rw [hf _ _ (by omega)]; exact h12 v hv, h13, fun i hi => by rw [hf _ _ (by omega)]; exact h14 i hi⟩
/-- behind a goal -/
theorem sp_77 (s : pS) (hC : cCu m tx p) (h17 : m 4 17 = -9) (hN : cN m y0 [] css (some n) c K) (ht : cT m (cA c css.flatten) t n) (hL : cL m qy vs hd gs c 0 K y0 (fun v => oE t v + oF [] v)) (hc : c ≤ 8 + p) (hub : ∀ v, oH hd v + oL gs v + oE t v + oF [] v ≤ p) (hs : pSt tx qy s = pG tx qy vs hd gs t p) (hq : ∀ r m', aO m m' tx qy s p r → Q r m') : wq_77 m Q := by
  obtain ⟨i1, i2, i3, i4, i5, i6, i7, i8, i9, i10, i11, i12⟩ := pK_iff (tx := tx) (p := p)
  obtain ⟨dh, dg⟩ := cDn_of hN ht hL
  have adv : pk1 tx p ≠ 0 → p + 1 ≤ pnx tx p := fun h => pk_pos hC.1 h
  have h15 := hL.1
  have h14 := hL.2.2.1
  have hV := hL.2.2.2.1
  -- an error
  have bad : ∀ v : Int, pG tx qy vs hd gs t p = .inr (.inl p) → Q 0 (hy_u m 4 16 v) := fun v hg => hq _ _ ⟨fun a e q => hy_uf (by omega), hy_uk (by decide), Or.inr (Or.inl ⟨rfl, hs.trans hg, fun _ _ _ => hy_ua (by decide)⟩)⟩
  -- the next goal is due
  have nxt : ∀ (hd' : Option pE) (gs' : List pE), pk1 tx p ≠ 0 → pG tx qy vs hd gs t p = .inl (0, vs, hd', gs', eNil, false, [], pnx tx p) → cDn m c ((t, n) :: K) hd' gs' vs.length → gs'.length ≤ 4 → ((!qy && hd'.isNone) = true → gs' = []) → (∀ v, oH hd' v + oL gs' v ≤ p) → Q 1 (hy_u m 4 16 0) := by
    intro hd' gs' hk hg hD hl hh hu
    have hp1 := adv hk
    refine hq _ _ ⟨fun a e q => hy_uf (by omega), hy_uk (by decide), Or.inl ⟨rfl, _, hs.trans hg, hy_us _ _ _ _, Nat.zero_le _, fun v => ?_, Or.inl ⟨rfl, ?_, rfl, c, _, cDn_fr hD (fun a e q => if_neg (by omega)), ⟨?_, hV.2.1, fun i hi => ?_⟩, ?_, ?_, hl, hh, by omega⟩⟩⟩
    · have := hu v
      rw [if_neg (by decide)]
      show oH hd' v + oL gs' v + 0 + 0 ≤ _
      omega
    · rw [hy_uk (by decide)]; exact h17
    · rw [hy_uk (by decide)]; exact hV.1
    · rw [hy_ua (by decide)]; exact hV.2.2 i hi
    · rw [hy_uk (by decide)]; exact h15
    · rw [hy_uk (by decide)]; exact h14
  unfold wq_77
  rw [hC.2.2.1, h15]
  cases hh : (!qy && hd.isNone) with
  | true =>
    obtain ⟨D, rfl, rfl, rfl⟩ := dh hh
    have h7 : m 4 7 = 0 := D.2.2.2.2.1
    rw [h7]
    have hg : pG tx false vs none [] t p = (if pk1 tx p = 4 then .inr (.inr (some t, [], vs.length, pnx tx p)) else if pk1 tx p = 11 then .inl (0, vs, some t, [], eNil, false, [], pnx tx p) else .inr (.inl p)) := by
      unfold pG
      rw [if_pos (by decide)]
    refine ⟨fun k11 => ⟨fun q => absurd rfl q, fun _ => ⟨fun q => absurd rfl q, fun _ => ?_⟩⟩, fun n11 => ⟨fun k5 => ⟨fun _ => bad 0 ?_, fun q => by omega⟩, fun n5 => ⟨fun k4 => ?_, fun n4 => ?_⟩⟩⟩
    · have k11 := i11.mp k11
      refine nxt (some t) [] (by omega) (by rw [hg, if_neg (by omega), if_pos k11]) D (by decide) (fun _ => rfl) (fun v => ?_)
      have : 0 + 0 + oE t v + 0 ≤ p := hub v
      show oE t v + 0 ≤ p
      omega
    · have k5 := i8.mp k5
      rw [hg, if_neg (by omega), if_neg (by omega)]
    · have k4 := i9.mp k4
      refine hq _ _ ⟨fun a e q => hy_uf (by omega), hy_uk (by decide), Or.inr (Or.inr ⟨rfl, hy_us _ _ _ _, some t, [], vs.length, c, _, by rw [hs, hg, if_pos k4], cDn_fr D (fun a e q => if_neg (by omega)), hc⟩)⟩
    · refine hq _ _ ⟨fun a e q => rfl, rfl, Or.inr (Or.inl ⟨rfl, ?_, fun _ _ _ => rfl⟩)⟩
      rw [hs, hg, if_neg (fun q => n4 (i9.mpr q)), if_neg (fun q => n11 (i11.mpr q))]
  | false =>
    obtain ⟨D, hl4, h7⟩ := dg hh
    rw [h7]
    have hg : pG tx qy vs hd gs t p = (if pk1 tx p = 4 then .inr (.inr (hd, gs ++ [t], vs.length, pnx tx p)) else if pk1 tx p = 5 ∧ gs.length < 4 then .inl (0, vs, hd, gs ++ [t], eNil, false, [], pnx tx p) else .inr (.inl p)) := by
      unfold pG
      rw [if_neg (by rw [hh]; decide)]
    refine ⟨fun k11 => ⟨fun _ => bad 0 ?_, fun _ => ⟨fun _ => bad 0 ?_, fun q => by omega⟩⟩, fun n11 => ⟨fun k5 => ⟨fun q => by omega, fun _ => ⟨fun h5 => bad 0 ?_, fun h5 => ?_⟩⟩, fun n5 => ⟨fun k4 => ?_, fun n4 => ?_⟩⟩⟩
    · have k11 := i11.mp k11
      rw [hg, if_neg (by omega), if_neg (by omega)]
    · have k11 := i11.mp k11
      rw [hg, if_neg (by omega), if_neg (by omega)]
    · have k5 := i8.mp k5
      rw [hg, if_neg (by omega), if_neg (by omega)]
    · have k5 := i8.mp k5
      refine nxt hd (gs ++ [t]) (by omega) (by rw [hg, if_neg (by omega), if_pos (by omega)]) D (by simp; omega) (fun q => by rw [hh] at q; cases q) (fun v => ?_)
      have : oH hd v + oL gs v + oE t v + 0 ≤ p := hub v
      rw [oL_app]
      show oH hd v + (oL gs v + (oE t v + 0)) ≤ p
      omega
    · have k4 := i9.mp k4
      refine hq _ _ ⟨fun a e q => hy_uf (by omega), hy_uk (by decide), Or.inr (Or.inr ⟨rfl, hy_us _ _ _ _, hd, gs ++ [t], vs.length, c, _, by rw [hs, hg, if_pos k4], cDn_fr D (fun a e q => if_neg (by omega)), hc⟩)⟩
    · refine hq _ _ ⟨fun a e q => rfl, rfl, Or.inr (Or.inl ⟨rfl, ?_, fun _ _ _ => rfl⟩)⟩
      rw [hs, hg, if_neg (fun q => n4 (i9.mpr q)), if_neg (fun q => n5 (i8.mpr q.1))]
theorem sC_y0 {A : Int → Prop} : ∀ (stk : List pF) (css : List (List Int)) (x : Option Int), sCq m A y0 stk css x → stk ≠ [] → y0 ∈ css.flatten
  | [], _, _, _, h => absurd rfl h
  | _ :: _, [], _, h, _ => h.elim
  | f :: r, cs :: css, x, h, _ => by
    obtain ⟨-, h0, h1, h2⟩ := h
    rw [List.flatten_cons]
    cases r with
    | nil =>
      cases css with
      | cons a b => exact h2.elim
      | nil =>
        have : some h0 = some y0 := h2
        have : h0 = y0 := by simpa using this
        subst this
        cases cs with
        | nil => cases h1
        | cons z w =>
          have : z = h0 := by simpa using h1
          rw [this]
          simp
    | cons g r' => exact List.mem_append_right _ (sC_y0 (g :: r') css _ h2 (by simp))
/-- the state behind a step that closes a term -/
theorem aO_closed {s : pS} {r : Int} {t' : pE} {n' : Int} (hf : cFm m m') (h15 : m' 4 15 = m 4 15) (h16 : m' 4 16 = 3) (h17 : m' 4 17 = -9) (hdp : stk.length ≤ p) (hk : pk1 tx p ≠ 0) (hpl : p ≤ tx.length) (hs : pSt tx qy s = .inl (3, vs, hd, gs, t', false, stk, pnx tx p)) (hN : cN m' y0 stk css (some n') c K) (ht : cT m' (cA c css.flatten) t' n') (hL : cL m' qy vs hd gs c stk.length K y0 (fun v => oE t' v + oF stk v)) (hc : c ≤ 8 + p + 1) (hub : ∀ v, oH hd v + oL gs v + oE t' v + oF stk v ≤ p) (hr : r = 1) : aO m m' tx qy s p r := by
  have := pk_pos hpl hk
  refine ⟨hf, h15, Or.inl ⟨hr, _, hs, h16, by omega, fun v => ?_, Or.inr (Or.inr (Or.inl ⟨rfl, rfl, h17, c, css, K, y0, n', hN, ht, hL, by omega⟩))⟩⟩
  have := hub v
  rw [if_pos rfl]
  omega
/-- the state behind a step that wants a term -/
theorem aO_due {s : pS} {r : Int} {f : pF} (hf : cFm m m') (h15 : m' 4 15 = m 4 15) (h16 : m' 4 16 = 1) (h17 : m' 4 17 = -9) (hdp : stk.length ≤ p) (hk : pk1 tx p ≠ 0) (hpl : p ≤ tx.length) (hs : pSt tx qy s = .inl (1, vs, hd, gs, eNil, false, f :: stk, pnx tx p)) (hN : cN m' y0 (f :: stk) css none c K) (hL : cL m' qy vs hd gs c (stk.length + 1) K y0 (oF (f :: stk))) (hc : c ≤ 8 + p + 1) (hub : ∀ v, oH hd v + oL gs v + oF (f :: stk) v ≤ p) (hr : r = 1) : aO m m' tx qy s p r := by
  have := pk_pos hpl hk
  refine ⟨hf, h15, Or.inl ⟨hr, _, hs, h16, by simp only [List.length_cons]; omega, fun v => ?_, Or.inr (Or.inl ⟨Or.inl rfl, h17, by simp, c, css, K, y0, hN, hL, ?_⟩)⟩⟩
  · have := hub v
    rw [if_neg (by decide)]
    omega
  · rw [if_neg (by decide)]
    omega
theorem aO_bad {s : pS} {r : Int} (hf : cFm m m') (h15 : m' 4 15 = m 4 15) (h5 : ∀ i : Int, 0 ≤ i → i < 8 → m' 5 i = m 5 i) (hs : pSt tx qy s = .inr (.inl p)) (hr : r = 0) : aO m m' tx qy s p r := ⟨hf, h15, Or.inr (Or.inl ⟨hr, hs, h5⟩)⟩
/-- a list is closed: its last cell has both parts -/
theorem cN_closeJ {h0 o : Int} {l' : List pE} {a0 : pE} (n1 : ∀ i : Int, 0 ≤ i → i < 8 → m 5 i = 1) (n2 : (cs :: css).flatten.Nodup ∧ ∀ n ∈ (cs :: css).flatten, 8 ≤ n ∧ n < c) (s3 : sCq m (cA c (cs :: css).flatten) y0 stk css (some h0)) (n4 : ∀ q ∈ K, cT m (cA c (cs :: css).flatten) q.1 q.2) (n5 : 8 ≤ c) (hI : cI m (cA c (cs :: css).flatten) l' cs) (hl : cs.getLast? = some o) (h5 : m 5 o = 4) (h6 : m 6 o = kC 2 2) (ha : cT m (cA c (cs :: css).flatten) a0 (m 7 (3 * o))) (ht : cT m (cA c (cs :: css).flatten) t (m 7 (3 * o + 1))) (hh : cs.head? = some h0) : cN m y0 stk css (some h0) c K ∧ cT m (cA c css.flatten) (eI t (l' ++ [a0])) h0 := by
  have hnd := n2.1
  rw [List.flatten_cons, List.nodup_append] at hnd
  refine ⟨⟨n1, ⟨hnd.2.1, fun z hz => n2.2 z (by rw [List.flatten_cons]; exact List.mem_append_right _ hz)⟩, sC_eq (fun z hz => cA_pop hz) (cE_refl _ _) stk css _ (cE_refl _ _) (fun i _ => ⟨rfl, rfl⟩) s3, fun q hq => cP_mono (fun z hz => cA_pop hz) _ _ _ (n4 q hq), n5⟩, ?_⟩
  refine cI_close (fun z hz => cA_pop hz) l' cs h0 hI (fun z hz => ?_) hl h5 (by rw [h6]; decide) (cP_mono (fun z hz => cA_pop hz) _ _ _ ha) (cP_mono (fun z hz => cA_pop hz) _ _ _ ht) hh
  have hb := n2.2 z (by rw [List.flatten_cons]; exact List.mem_append_left _ hz)
  exact ⟨Or.inr ⟨hb.1, hb.2, fun q => hnd.2.2 z hz z q rfl⟩, hb.1⟩
/-- a sign behind a term -/
theorem sp_76_42 (s : pS) (hC : cCu m tx p) (htl : tx.length ≤ 120) (h16 : m 4 16 = 3) (h17 : m 4 17 = -9) (hN : cN m y0 stk css (some n) c K) (ht : cT m (cA c css.flatten) t n) (hL : cL m qy vs hd gs c stk.length K y0 (fun v => oE t v + oF stk v)) (hc : c ≤ 8 + p) (hdp : stk.length ≤ p) (hub : ∀ v, oH hd v + oL gs v + oE t v + oF stk v ≤ p) (hs : pSt tx qy s = pB tx qy vs hd gs t stk p) (hq : ∀ r m', aO m m' tx qy s p r → Q r m') : wq_76_42 m Q := by
  obtain ⟨i1, i2, i3, i4, i5, i6, i7, i8, i9, i10, i11, i12⟩ := pK_iff (tx := tx) (p := p)
  have h14 := hL.2.2.1
  have h44 := hL.2.1
  have hpl : p ≤ 120 := Nat.le_trans hC.1 htl
  have lt120 : pk1 tx p ≠ 0 → p < 120 := fun h => by
    have := pk_pos hC.1 h
    have := (pnx_ok hC.1).1
    omega
  unfold wq_76_42
  cases stk with
  | nil =>
    rw [h14]
    exact ⟨fun q => by simp at q, fun _ => sp_77 s hC h17 hN ht hL hc hub hs hq⟩
  | cons f stk =>
    obtain ⟨f0, fk, as⟩ := f
    cases css with
    | nil => exact hN.2.2.1.elim
    | cons cs css =>
      have hdl : m 4 14 - 1 = (stk.length : Int) := by rw [h14]; simp
      rw [hdl]
      have hdp' : stk.length + 1 ≤ p := by simpa using hdp
      refine ⟨fun _ => ⟨by omega, by omega, ?_⟩, fun q => by rw [h14] at q; simp at q; omega⟩
      have hF := hN.2.2.1.1
      have hb14 : ∀ v : Int, (hy_u m 4 14 v) 4 14 = v := fun v => hy_us _ _ _ _
      rcases hF with ⟨a1, -⟩ | ⟨a1, a2, -⟩ | ⟨a1, a2, l, a0, a3, -⟩
      · -- arguments
        have a1 : f0 = 0 := a1
        subst a1
        obtain ⟨b, rfl, cN', cT', c12, c13, cnm, c6, cl⟩ := cN_closeA hN ht
        have hb := hN.2.1.2 b (by rw [List.flatten_cons]; exact List.mem_append_left _ (List.mem_cons_self ..))
        have hnd := hN.2.1.1
        rw [List.flatten_cons, List.singleton_append, List.nodup_cons] at hnd
        rw [c13, c12]
        refine ⟨fun _ => ⟨by omega, by omega, ?_⟩, fun q => absurd rfl q⟩
        have hs0 : pSt tx qy s = (if pk1 tx p = 7 then
            if (!qy && hd.isNone && stk.isEmpty && bBi fk (as.length + 1)) = true then .inr (.inl p)
            else .inl (3, vs, hd, gs, eC fk (as ++ [t]), false, stk, pnx tx p)
          else if pk1 tx p = 5 ∧ as.length + 1 < 3 then .inl (1, vs, hd, gs, eNil, false, (0, fk, as ++ [t]) :: stk, pnx tx p)
          else .inr (.inl p)) := by
          rw [hs]
          unfold pB
          dsimp only
          rw [if_pos rfl]
        have hub' : ∀ v, oH hd v + oL gs v + oE t v + (oL as v + oF stk v) ≤ p := hub
        have good : pk1 tx p = 7 → ¬ (!qy && hd.isNone && stk.isEmpty && bBi fk (as.length + 1)) = true → Q 1 (hy_u m 4 14 (stk.length : Int)) := by
          intro k7 hno
          refine hq _ _ (aO_closed (t' := eC fk (as ++ [t])) (fun a e q => hy_uf (by omega)) (hy_uk (by decide)) (by rw [hy_uk (by decide)]; exact h16) (by rw [hy_uk (by decide)]; exact h17) (by omega) (by omega) hC.1 (by rw [hs0, if_pos k7, if_neg hno]) (cN_fr cN' (fun a e q => if_neg (by omega))) (cT_up (fun z hz => hz) (fun z _ => ⟨hy_ua (by decide), hy_ua (by decide), fun j _ _ => hy_ua (by decide)⟩) cT') (cL_oc (cL_u hL (fun a e q => if_neg (by omega)) (by rw [hy_uk (by decide)]; exact h44) (hb14 _)) (fun v => ?_)) (by omega) (fun v => ?_) rfl)
          · show oE t v + (oL as v + oF stk v) = oE (eC fk (as ++ [t])) v + oF stk v
            rw [oE_C, oL_app]
            show _ = oL as v + (oE t v + 0) + oF stk v
            omega
          · have := hub' v
            rw [oE_C, oL_app]
            show _ + (oL as v + (oE t v + 0)) + oF stk v ≤ p
            omega
        have hhead : b = m 4 5 ↔ ((!qy && hd.isNone) = true ∧ stk = []) := by
          constructor
          · intro e
            cases hh : (!qy && hd.isNone) with
            | true =>
              refine ⟨rfl, ?_⟩
              have hy := (hL.2.2.2.2.2.1 hh).1
              cases hstk : stk with
              | nil => rfl
              | cons g r =>
                exfalso
                have := sC_y0 stk css _ cN'.2.2.1 (by rw [hstk]; simp)
                exact hnd.1 (by rw [e, hy]; exact this)
            | false =>
              exfalso
              obtain ⟨g1, g2, -⟩ := hL.2.2.2.2.2.2.1 hh
              cases hhd : hd with
              | none =>
                have := g2 hhd
                omega
              | some h =>
                have hK := cP_A (hN.2.2.2.1 _ (g1 h hhd))
                refine cA_out hN.2.1.2 hK ?_
                show m 4 5 ∈ _
                rw [← e, List.flatten_cons]
                exact List.mem_append_left _ (List.mem_cons_self ..)
          · rintro ⟨hh, rfl⟩
            have hy := (hL.2.2.2.2.2.1 hh).1
            rw [hy]
            have h2 := cN'.2.2.1
            cases css with
            | cons a b => exact h2.elim
            | nil =>
              have : some b = some y0 := h2
              simpa using this
        unfold wq_78
        rw [hC.2.2.1, hdl, c6]
        refine ⟨fun n7 => ⟨fun n5 => ?_, fun k5 => ⟨by omega, by omega, sp_26 (by omega) ⟨fun h3 => ?_, fun h3 => ?_⟩⟩⟩, fun k7 => ⟨show -2147483648 ≤ _ ∧ _ < 2147483648 by omega, fun hne => ?_, fun heq => ⟨by omega, by omega, ?_⟩⟩⟩
        · refine hq _ _ (aO_bad (fun a e q => hy_uf (by omega)) (hy_uk (by decide)) (fun _ _ _ => hy_ua (by decide)) ?_ rfl)
          rw [hs0, if_neg (fun q => n7 (i7.mpr q)), if_neg (fun q => n5 (i8.mpr q.1))]
        · refine hq _ _ (aO_bad (fun a e q => hy_uf (by omega)) (hy_uk (by decide)) (fun _ _ _ => hy_ua (by decide)) ?_ rfl)
          rw [hs0, if_neg (fun q => n7 (i7.mpr q)), if_neg (fun q => by omega)]
        · have k5 := i8.mp k5
          refine hq _ _ (aO_due (fun a e q => hy_uf (by omega)) (hy_uk (by decide)) (hy_us _ _ _ _) (by rw [hy_uk (by decide)]; exact h17) (by omega) (by omega) hC.1 (by rw [hs0, if_neg (by omega), if_pos (by omega)]) (cN_fr (cN_moreA hN ht (by omega)) (fun a e q => if_neg (by omega))) (cL_oc (cL_fr hL (fun a e q => if_neg (by omega))) (fun v => ?_)) (by omega) (fun v => ?_) rfl)
          · show oE t v + (oL as v + oF stk v) = oL (as ++ [t]) v + oF stk v
            rw [oL_app]
            show _ = oL as v + (oE t v + 0) + oF stk v
            omega
          · have := hub' v
            show oH hd v + oL gs v + (oL (as ++ [t]) v + oF stk v) ≤ p
            rw [oL_app]
            show oH hd v + oL gs v + (oL as v + (oE t v + 0) + oF stk v) ≤ p
            omega
        · have k7 := i7.mp k7
          refine good k7 (fun q => hne (hhead.mpr ?_))
          simp only [Bool.and_eq_true, List.isEmpty_iff] at q ⊢
          exact ⟨q.1.1, q.1.2⟩
        · have k7 := i7.mp k7
          obtain ⟨hh, hnil⟩ := hhead.mp heq
          have hbb := bI_b fk (as.length + 1)
          refine sp_23 cnm (by omega) ⟨fun hne => ?_, fun he => good k7 (fun q => ?_)⟩
          · refine hq _ _ (aO_bad (fun a e q => hy_uf (by omega)) (hy_uk (by decide)) (fun _ _ _ => hy_ua (by decide)) ?_ rfl)
            rw [hs0, if_pos k7, if_pos]
            rw [hh, hnil, hbb.mpr hne]
            rfl
          · simp only [Bool.and_eq_true] at q
            exact hbb.mp q.2 he
      · -- items
        have a1 : f0 = 1 := a1
        subst a1
        have a2 : fk = 2 := a2
        subst a2
        obtain ⟨o, e1, e2, e3, e4, e5, e6, e7, e8, e9⟩ := cN_item hN
        rw [e7]
        refine ⟨fun q => absurd q (by decide), fun _ => ⟨fun _ => ?_, fun q => absurd rfl q⟩⟩
        have hs0 : pSt tx qy s = (if pk1 tx p = 5 then .inl (1, vs, hd, gs, eNil, false, (1, 2, as ++ [t]) :: stk, pnx tx p)
          else if pk1 tx p = 10 then .inl (1, vs, hd, gs, eNil, false, (2, 2, as ++ [t]) :: stk, pnx tx p)
          else if pk1 tx p = 9 then .inl (3, vs, hd, gs, eI eNil (as ++ [t]), false, stk, pnx tx p)
          else .inr (.inl p)) := by
          rw [hs]
          unfold pB
          dsimp only
          rw [if_neg (by decide), if_pos rfl]
        have hub' : ∀ v, oH hd v + oL gs v + oE t v + (oL as v + oF stk v) ≤ p := hub
        unfold wq_79
        rw [hC.2.2.1, hdl]
        refine ⟨fun k5 => ?_, fun n5 => ⟨fun k9 => ?_, fun n9 => ⟨fun k10 => ⟨by omega, by omega, ?_⟩, fun n10 => ?_⟩⟩⟩
        · have k5 := i8.mp k5
          have hp1 := pk_pos hC.1 (show pk1 tx p ≠ 0 by omega)
          have := lt120 (by omega)
          refine sp_81 h44 (by omega) ?_
          have hr1 := mAd_r m c 4 184
          have hM := cN_moreI hN ht e6
          refine sp_82 (d := stk.length) (o := o) (k := 2) (a := 1) (by rw [hr1 _ _ (by omega) (by omega)]; omega) (by omega) (by rw [hr1 _ _ (by omega) (by omega)]; exact e6) (by omega) (Or.inr (Or.inl rfl)) (by rw [hr1 _ _ (by omega) (by omega)]; exact e3) (by omega) ?_
          have hr2 := mAc_r (mAd m c 4 184) o 2 1 (c : Int)
          have hv1 := mAd_v m c 4 184
          rw [hr2 4 14 (by omega) (by omega), hr1 4 14 (by omega) (by omega), hdl]
          refine ⟨by omega, by omega, hq _ _ (aO_due (fun a e q => ?_) ?_ (hy_us _ _ _ _) ?_ (by omega) (by omega) hC.1 (by rw [hs0, if_pos k5]) (cN_fr hM (fun a e q => if_neg (by omega))) (cL_oc (cL_u hL (fun a e q => ?_) ?_ ?_) (fun v => ?_)) (by omega) (fun v => ?_) rfl)⟩
          · rw [hy_uf (by omega), hy_uf (by omega), hr2 _ _ (by omega) (by omega), hr1 _ _ (by omega) (by omega)]
          · rw [hy_uk (by decide), hy_ua (by decide), hr2 _ _ (by omega) (by omega), hr1 _ _ (by omega) (by omega)]
          · rw [hy_uk (by decide), hy_ua (by decide), hr2 _ _ (by omega) (by omega), hr1 _ _ (by omega) (by omega)]; exact h17
          · rw [show hy_u (hy_u (mAc (mAd m c 4 184) o 2 1 (c : Int)) 12 (stk.length : Int) (c : Int)) 4 16 1 a e = hy_u (mAc (mAd m c 4 184) o 2 1 (c : Int)) 12 (stk.length : Int) (c : Int) a e from if_neg (by omega), hy_uf (by omega), hr2 _ _ (by omega) (by omega), hr1 _ _ (by omega) (by omega)]
          · rw [hy_uk (by decide), hy_ua (by decide), hr2 _ _ (by omega) (by omega), hv1.2.2]; omega
          · rw [hy_uk (by decide), hy_ua (by decide), hr2 _ _ (by omega) (by omega), hr1 _ _ (by omega) (by omega)]; exact h14
          · show oE t v + (oL as v + oF stk v) = oL (as ++ [t]) v + oF stk v
            rw [oL_app]
            show _ = oL as v + (oE t v + 0) + oF stk v
            omega
          · have := hub' v
            show oH hd v + oL gs v + (oL (as ++ [t]) v + oF stk v) ≤ p
            rw [oL_app]
            show oH hd v + oL gs v + (oL as v + (oE t v + 0) + oF stk v) ≤ p
            omega
        · have k9 := i5.mp k9
          have hp1 := pk_pos hC.1 (show pk1 tx p ≠ 0 by omega)
          have := lt120 (by omega)
          refine sp_81 h44 (by omega) ?_
          have hr1 := mAd_r m c 3 47980
          have hv1 := mAd_v m c 3 47980
          refine sp_82 (d := stk.length) (o := o) (k := 2) (a := 1) (by rw [hr1 _ _ (by omega) (by omega)]; omega) (by omega) (by rw [hr1 _ _ (by omega) (by omega)]; exact e6) (by omega) (Or.inr (Or.inl rfl)) (by rw [hr1 _ _ (by omega) (by omega)]; exact e3) (by omega) ?_
          have hr2 := mAc_r (mAd m c 3 47980) o 2 1 (c : Int)
          have hv2 := mAc_v (mAd m c 3 47980) o 2 1 (c : Int)
          rw [hr2 4 14 (by omega) (by omega), hr1 4 14 (by omega) (by omega), hdl]
          have hM : ∀ (b : Nat) (e : Int), ¬ ((b = 5 ∨ b = 6) ∧ e = o) → ¬ (b = 7 ∧ e = 3 * o + 1) → ¬ ((b = 5 ∨ b = 6) ∧ e = c) → ¬ (b = 4 ∧ e = 4) → ¬ (b = 4 ∧ e = 14) → hy_u (mAc (mAd m c 3 47980) o 2 1 (c : Int)) 4 14 (stk.length : Int) b e = m b e := by
            intro b e q1 q2 q3 q4 q5
            rw [show hy_u (mAc (mAd m c 3 47980) o 2 1 (c : Int)) 4 14 (stk.length : Int) b e = mAc (mAd m c 3 47980) o 2 1 (c : Int) b e from if_neg q5, hr2 _ _ q1 (by omega), hr1 _ _ q3 q4]
          have M5o : hy_u (mAc (mAd m c 3 47980) o 2 1 (c : Int)) 4 14 (stk.length : Int) 5 o = 4 := by rw [hy_ua (by decide)]; exact hv2.1
          have M6o : hy_u (mAc (mAd m c 3 47980) o 2 1 (c : Int)) 4 14 (stk.length : Int) 6 o = kC 2 2 := by rw [hy_ua (by decide)]; exact hv2.2.1
          have M7o : hy_u (mAc (mAd m c 3 47980) o 2 1 (c : Int)) 4 14 (stk.length : Int) 7 (3 * o + 1) = c := by rw [hy_ua (by decide)]; exact hv2.2.2
          have M5c : hy_u (mAc (mAd m c 3 47980) o 2 1 (c : Int)) 4 14 (stk.length : Int) 5 (c : Int) = 3 := by rw [hy_ua (by decide), hr2 _ _ (by omega) (by omega)]; exact hv1.1
          have M6c : hy_u (mAc (mAd m c 3 47980) o 2 1 (c : Int)) 4 14 (stk.length : Int) 6 (c : Int) = 47980 := by rw [hy_ua (by decide), hr2 _ _ (by omega) (by omega)]; exact hv1.2.1
          have M14 : hy_u (mAc (mAd m c 3 47980) o 2 1 (c : Int)) 4 14 (stk.length : Int) 4 14 = stk.length := hy_us _ _ _ _
          have M44 : hy_u (mAc (mAd m c 3 47980) o 2 1 (c : Int)) 4 14 (stk.length : Int) 4 4 = (c : Int) + 1 := by rw [hy_uk (by decide), hr2 _ _ (by omega) (by omega)]; exact hv1.2.2
          generalize hy_u (mAc (mAd m c 3 47980) o 2 1 (c : Int)) 4 14 (stk.length : Int) = M at hM M5o M6o M7o M5c M6c M14 M44
          obtain ⟨n1, n2, n3, n4, n5'⟩ := hN
          obtain ⟨-, h0, s2, s3⟩ := n3
          have hnd := n2.1
          rw [List.flatten_cons, List.nodup_append] at hnd
          have hom := mem_last e1
          have hE : cE m M (cA c (cs :: css).flatten) := by
            intro z hz
            have h1 : z ≠ o := fun q => cA_out n2.2 hz (by rw [List.flatten_cons, q]; exact List.mem_append_left _ hom)
            have h2 : z < c := by rcases hz with hz | hz <;> omega
            exact ⟨hM _ _ (by omega) (by omega) (by omega) (by omega) (by omega), hM _ _ (by omega) (by omega) (by omega) (by omega) (by omega), fun j _ _ => hM _ _ (by omega) (by omega) (by omega) (by omega) (by omega)⟩
          have hcell : ∀ z ∈ cs, z < c := fun z hz => (n2.2 z (by rw [List.flatten_cons]; exact List.mem_append_left _ hz)).2
          obtain ⟨cN', cT'⟩ := cN_closeJ (m := M) (c := c + 1) (K := K) (a0 := t) (t := eNil) (y0 := y0) (fun i h1 h2 => by rw [hM _ _ (by omega) (by omega) (by omega) (by omega) (by omega)]; exact n1 i h1 h2) ⟨n2.1, fun z hz => by have := n2.2 z hz; omega⟩ (sC_eq cA_up hE stk css _ (fun z hz => by
              have h1 : z ≠ o := fun q => hnd.2.2 o hom z hz q.symm
              have h2 := (n2.2 z (by rw [List.flatten_cons]; exact List.mem_append_right _ hz)).2
              exact ⟨hM _ _ (by omega) (by omega) (by omega) (by omega) (by omega), hM _ _ (by omega) (by omega) (by omega) (by omega) (by omega), fun j _ _ => hM _ _ (by omega) (by omega) (by omega) (by omega) (by omega)⟩) (fun i hi => ⟨hM _ _ (by omega) (by omega) (by omega) (by omega) (by omega), hM _ _ (by omega) (by omega) (by omega) (by omega) (by omega)⟩) s3) (fun q hq => cT_up cA_up hE (n4 q hq)) (by omega) (cI_eq cA_up hE as cs (fun z hz => by
              have h1 := nodup_dl hnd.1 e1 z hz
              have h2 := hcell z (mem_dl _ _ hz)
              exact ⟨hM _ _ (by omega) (by omega) (by omega) (by omega) (by omega), hM _ _ (by omega) (by omega) (by omega) (by omega) (by omega), hM _ _ (by omega) (by omega) (by omega) (by omega) (by omega), hM _ _ (by omega) (by omega) (by omega) (by omega) (by omega)⟩) e2) e1 M5o M6o (by rw [hM _ _ (by omega) (by omega) (by omega) (by omega) (by omega), e5]; exact cT_up cA_up hE ht) (by rw [M7o]; exact ⟨rfl, Or.inr ⟨by omega, by omega, fun q => by have := n2.2 _ q; omega⟩, by omega, by rw [M6c]; decide, M5c, by decide, Or.inl rfl, Or.inr ⟨Int.le_refl 0, rfl⟩⟩) s2
          refine ⟨show -2147483648 ≤ _ ∧ _ < 2147483648 by omega, hq _ _ (aO_closed (fun a e q => hM _ _ (by omega) (by omega) (by omega) (by omega) (by omega)) (hM _ _ (by omega) (by omega) (by omega) (by omega) (by omega)) (by rw [hM _ _ (by omega) (by omega) (by omega) (by omega) (by omega)]; exact h16) (by rw [hM _ _ (by omega) (by omega) (by omega) (by omega) (by omega)]; exact h17) (by omega) (by omega) hC.1 (by rw [hs0, if_neg (by omega), if_neg (by omega), if_pos k9]) cN' cT' (cL_oc (cL_u hL (fun a e q => hM _ _ (by omega) (by omega) (by omega) (by omega) (by omega)) (by rw [M44]; omega) M14) (fun v => ?_)) (by omega) (fun v => ?_) rfl)⟩
          · show oE t v + (oL as v + oF stk v) = oE (eI eNil (as ++ [t])) v + oF stk v
            rw [oE_I, oL_app]
            show _ = oL as v + (oE t v + 0) + 0 + oF stk v
            omega
          · have := hub' v
            rw [oE_I, oL_app]
            show oH hd v + oL gs v + (oL as v + (oE t v + 0) + 0) + oF stk v ≤ p
            omega
        · have k10 := i10.mp k10
          refine hq _ _ (aO_due (fun a e q => (hy_uf (by omega)).trans (hy_uf (by omega))) ((hy_uk (by decide)).trans (hy_ua (by decide))) (hy_us _ _ _ _) (by rw [hy_uk (by decide), hy_ua (by decide)]; exact h17) (by omega) (by omega) hC.1 (by rw [hs0, if_neg (by omega), if_pos k10]) (cN_fr (cN_bar hN ht) (fun a e q => if_neg (by omega))) (cL_oc (cL_fr hL (fun a e q => (if_neg (by omega)).trans (if_neg (by omega)))) (fun v => ?_)) (by omega) (fun v => ?_) rfl)
          · show oE t v + (oL as v + oF stk v) = oL (as ++ [t]) v + oF stk v
            rw [oL_app]
            show _ = oL as v + (oE t v + 0) + oF stk v
            omega
          · have := hub' v
            show oH hd v + oL gs v + (oL (as ++ [t]) v + oF stk v) ≤ p
            rw [oL_app]
            show oH hd v + oL gs v + (oL as v + (oE t v + 0) + oF stk v) ≤ p
            omega
        · refine hq _ _ (aO_bad (fun a e q => rfl) rfl (fun _ _ _ => rfl) ?_ rfl)
          rw [hs0, if_neg (fun q => n5 (i8.mpr q)), if_neg (fun q => n10 (i10.mpr q)), if_neg (fun q => n9 (i5.mpr q))]
      · -- behind the bar
        have a1 : f0 = 2 := a1
        subst a1
        have a2 : fk = 2 := a2
        subst a2
        have hF := hN.2.2.1.1
        obtain ⟨n1, n2, n3, n4, n5'⟩ := hN
        obtain ⟨-, h0, s2, s3⟩ := n3
        rcases hF with ⟨a1, -⟩ | ⟨a1, -⟩ | ⟨-, -, l, a0, a3, a4, o, a5, a6, a7, a8, a9, a10, a11⟩
        · exact absurd (show (2 : Nat) = 0 from a1) (by decide)
        · exact absurd (show (2 : Nat) = 1 from a1) (by decide)
        have a3 : as = l ++ [a0] := a3
        rw [a11]
        refine ⟨fun q => absurd q (by decide), fun _ => ⟨fun q => absurd q (by decide), fun _ => ⟨show -2147483648 ≤ _ ∧ _ < 2147483648 by omega, ?_⟩⟩⟩
        have hs0 : pSt tx qy s = (if pk1 tx p = 9 then .inl (3, vs, hd, gs, eI t as, false, stk, pnx tx p) else .inr (.inl p)) := by
          rw [hs]
          unfold pB
          dsimp only
          rw [if_neg (by decide), if_neg (by decide)]
        have hub' : ∀ v, oH hd v + oL gs v + oE t v + (oL as v + oF stk v) ≤ p := hub
        have a9 : m 7 (3 * o + 1) = n := a9 n rfl
        obtain ⟨cN', cT'⟩ := cN_closeJ (K := K) (a0 := a0) (t := t) (y0 := y0) n1 n2 s3 n4 n5' a4 a5 a7 a6 a8 (by rw [a9]; exact ht) s2
        rw [← a3] at cT'
        rw [hC.2.2.1]
        refine ⟨fun n9 => hq _ _ (aO_bad (fun a e q => hy_uf (by omega)) (hy_uk (by decide)) (fun _ _ _ => hy_ua (by decide)) (by rw [hs0, if_neg (fun q => n9 (i5.mpr q))]) rfl), fun k9 => ?_⟩
        have k9 := i5.mp k9
        refine hq _ _ (aO_closed (fun a e q => hy_uf (by omega)) (hy_uk (by decide)) (by rw [hy_uk (by decide)]; exact h16) (by rw [hy_uk (by decide)]; exact h17) (by omega) (by omega) hC.1 (by rw [hs0, if_pos k9]) (cN_fr cN' (fun a e q => if_neg (by omega))) (cT_up (fun z hz => hz) (fun z _ => ⟨hy_ua (by decide), hy_ua (by decide), fun j _ _ => hy_ua (by decide)⟩) cT') (cL_oc (cL_u hL (fun a e q => if_neg (by omega)) (by rw [hy_uk (by decide)]; exact h44) (hb14 _)) (fun v => ?_)) (by omega) (fun v => ?_) rfl)
        · show oE t v + (oL as v + oF stk v) = oE (eI t as) v + oF stk v
          rw [oE_I]
          omega
        · have := hub' v
          rw [oE_I]
          omega
end CH
