/-! THE CLASS ASKS: all of it -/
section CAQ
variable {F F' : Nat → Prop} {T T' : hy_T} {m m' : hy_m} {Z Z' : cZ} {PL : List pCl} {PH : List (List pCl)} {l TI : List Nat} {N N' n n' u n0 u0 K nv : Nat} {gs : List pE} {A : qA} {B : bM} {tx : List Int}
theorem cCl_ty {a : Nat} {hd : Option pE} (h : cCl T m F a hd gs nv) : cCl T m (fun b => F b ∧ T.1 b ≠ none) a hd gs nv := by
  obtain ⟨c, k0, k1, k2, k4, k7, k8, e1, e2, e3, e4, e5, e6, e7, e8, e9, e10, e11, e12, e13, e14, e15, e16, e17⟩ := h
  obtain ⟨f1, f2, f3, f4, f5, f6, f7⟩ := e17
  have ty : ∀ {b : Nat} {x : Nat × Nat}, T.1 b = some x → T.1 b ≠ none := fun q => by rw [q]; simp
  exact ⟨c, k0, k1, k2, k4, k7, k8, e1, e2, e3, e4, e5, e6, e7, e8, e9, e10, e11, e12, e13, e14, e15, e16, ⟨f1, ty e1.1⟩, ⟨f2, ty e1.2.2.1⟩, ⟨f3, ty e1.2.2.2.2.1⟩, ⟨f4, ty e1.2.2.2.2.2.2.1⟩, ⟨f5, ty e4⟩, ⟨f6, ty e6⟩, ⟨f7, ty e8⟩⟩
theorem cPo_ty {a r : Nat} (h : cPo T m F a r PL) : cPo T m (fun b => F b ∧ T.1 b ≠ none) a r PL := by
  obtain ⟨h1, h2, h3, h4, h5, h6, h7, h8⟩ := h
  refine ⟨h1, h2, h3, h4, h5, fun i cl hi => ?_, h7, h8⟩
  obtain ⟨⟨c, g1, g2⟩, g3⟩ := h6 i cl hi
  exact ⟨⟨c, g1, cCl_ty g2⟩, g3⟩
theorem cPs_ty (h : cPs T m F PL PH) : cPs T m (fun b => F b ∧ T.1 b ≠ none) PL PH := by
  obtain ⟨p1, p2, p3, qs, XS, q1, q2, q3, q4, q5, q6⟩ := h
  refine ⟨cPo_ty p1, p2, p3, qs, XS, q1, q2, q3, q4, q5, fun i q X h1 h2 => ?_⟩
  obtain ⟨g1, g2⟩ := q6 i q X h1 h2
  exact ⟨g1, cPo_ty g2⟩
theorem cB0_mo (h : cB0 F K T m Z) (hW : sWf T n) (hn : 74 ≤ n) (hT : ∀ b x, T.1 b = some x → T'.1 b = some x) (hF1 : ∀ z, F' z → F z ∨ n ≤ z) (hF2 : ∀ z, F' z → T'.1 z ≠ none) (hk : ∀ (z : Nat) (e : Int), 36 ≤ z → z < n → m' z e = m z e) : cB0 F' K T' m' Z := by
  obtain ⟨hR, hO, hG, h47, h53⟩ := h
  have hlt := rw_lt hR hW
  have hfz : fzn F' := fun b hb => by
    rcases hF1 b hb with q | q
    · exact hR.2.1 b q
    · exact Or.inr (by omega)
  have rj := hlt (yj (zU Z)) (by unfold rwL; simp)
  have rm := hlt (ym (zU Z)) (by unfold rwL; simp)
  have rv := hlt (zV Z).2 (by unfold rwL; simp)
  have r1 := hlt (z1 Z) (by unfold rwL; simp)
  have bj := (hR.1.2 (yj (zU Z)) (by unfold rwL; simp)).1
  have bm := (hR.1.2 (ym (zU Z)) (by unfold rwL; simp)).1
  have bv := (hR.1.2 (zV Z).2 (by unfold rwL; simp)).1
  have b1 := (hR.1.2 (z1 Z) (by unfold rwL; simp)).1
  refine ⟨cRo_f hR hT (fun b e q => ?_) hfz (fun b hb hF => ?_), ?_, ?_, ?_, ?_⟩
  · rcases q with q | q | q | q | q | q
    · exact hk b e (by omega) (by omega)
    · exact hk b e (by omega) (by omega)
    · exact hk b e (by omega) (by omega)
    · exact hk b e (by omega) (by omega)
    · exact hk b e (by omega) (by omega)
    · exact hk b e (by omega) (by omega)
  · rcases hF1 b hF with z | z
    · exact (hR.1.2 b hb).2.2.2.2.2 z
    · have := hlt b hb
      omega
  · obtain ⟨⟨o1, o2, o3, o4⟩, o5, o6, o7, o8⟩ := hO
    refine ⟨⟨o1, fun j c q => ?_, fun j q => by rw [hk 37 _ (by omega) (by omega)]; exact o3 j q, o4⟩, o5, fun j c q => ?_, fun j q => by rw [hk 38 _ (by omega) (by omega)]; exact o7 j q, o8⟩
    · obtain ⟨b1, b2, b3, b4⟩ := o2 j c q
      refine ⟨by rw [hk 37 _ (by omega) (by omega)]; exact b1, hT _ _ b2, b3, fun z => ?_⟩
      rcases hF1 c z with w | w
      · exact b4 w
      · have := hW _ _ b2
        omega
    · obtain ⟨b1, b2, b3, b4⟩ := o6 j c q
      refine ⟨by rw [hk 38 _ (by omega) (by omega)]; exact b1, hT _ _ b2, b3, fun z => ?_⟩
      rcases hF1 c z with w | w
      · exact b4 w
      · have := hW _ _ b2
        omega
  · obtain ⟨g1, g2, nv0, g4⟩ := hG
    refine ⟨hF2, fun i i1 i2 => ?_, nv0, hT _ _ g4⟩
    obtain ⟨a, nv, c1, c2⟩ := g2 i i1 i2
    exact ⟨a, nv, by rw [hk _ _ (by omega) r1]; exact c1, hT _ _ c2⟩
  · rw [hk 47 _ (by omega) (by omega)]; exact h47
  · rw [hk 53 _ (by omega) (by omega)]; exact h53
/-- ask -/
theorem sp_13 {Q : sQ} (hB : cB0 F K T m Z) (hPs : cPs T m F PL PH) (h30 : ∀ cl ∈ PL, aM cl.1 + aMs cl.2.1 ≤ 30) (hT : cTx m tx) (hk5 : k5 m) (hr : rRef T m) (h39 : T.1 39 = some (100, 20) ∧ T.1 40 = some (100, 20)) (hOk : zOk n0 u0 Z T n u) (h0 : ∀ m1 (w : Nat), cFx m m1 → k5 m1 → qR tx (.inl w) → Q (-2) (T, n, u, m1)) (hq : ∀ gs nv F' Z' T' n' u' m' u0', qR tx (.inr (gs, nv)) → (∀ b x, T.1 b = some x → T'.1 b = some x) → zOk (n0 + 7) u0' Z' T' n' u' → u0' ≤ u0 + 659 → (∀ (z : Nat) (e : Int), z < 36 → ¬ (2 ≤ z ∧ z ≤ 13) → m' z e = m z e) → (∀ z, F z → F' z ∧ ∀ e, m' z e = m z e) → cPs T' m' F' PL PH → cAl (PL, gs, nv) F' K Z' T' m' qask → k5 m' → cTx m' tx → rRef T' m' → Q (gs.length : Int) (T', n', u', m')) : wq_13 (T, n, u, m) Q := by
  have hF := hB.1.2.1
  have hl120 := hT.2.1
  have hW := hOk.2.1
  have hn := hOk.2.2.1
  have hFn : ∀ z, F z → z < n := fun z hz => by
    cases q : T.1 z with
    | none => exact absurd q (hB.2.2.1.1 z hz)
    | some x => exact hW z x q
  unfold wq_13
  dsimp only
  refine sp_69 hT hk5 (fun r m1 f1 k1 hres => ⟨fun q => ?_, fun q => ?_⟩)
  · obtain ⟨gs, nv, c, Kc, hcd, hc127, hqr⟩ : ∃ gs nv c Kc, cDn m1 c Kc none gs nv ∧ c ≤ 127 ∧ qR tx (.inr (gs, nv)) := by
      rcases hres with ⟨gs, nv, c, Kc, -, a, b, d⟩ | ⟨w, e, -⟩
      · exact ⟨gs, nv, c, Kc, a, b, d⟩
      · omega
    obtain ⟨hkk, hk30, hgs⟩ := qR_K hl120 hT.2.2.2 hqr
    obtain ⟨hm5, hm6⟩ : (∀ (z : Nat) (e : Int), z < 14 → hy_z m1 n z e = m1 z e) ∧ ∀ (z : Nat) (e : Int), z ≠ n → hy_z m1 n z e = m1 z e := ⟨fun z e hz => if_neg (by omega), fun z e hz => if_neg hz⟩
    have hTe : ∀ z x, T.1 z = some x → (hy_e T n 3 9).1 z = some x := fun z x hz => by
      have := hW z x hz
      rw [he_o (by omega)]
      exact hz
    have hr6 : rRef (hy_e T n 3 9) (hy_z m1 n) := rRef_lo hTe (fun e he => by rw [hm5 4 e (by decide)]; exact f1 4 e (by omega) (by omega)) hr
    refine ⟨by rw [Int.toNat_natCast]; exact he_n T n 3 9, ?_⟩
    refine sp_39 (T := hy_e T n 3 9) (N := n + 1) (U := u + 9) (m := hy_z m1 n) (a := n) (sWf_e hW) (by omega) (he_n T n 3 9) (by omega) hr6 (cDn_lo hm5 hcd) hc127 hkk (fun T7 m7 a1 a2 a3 a4 a5 => ?_)
    have hTx : ∀ b x, T.1 b = some x → T7.1 b = some x := fun b x q => by
      have := hW b x q
      rw [a1 b (by omega)]
      exact hTe b x q
    have m7f : ∀ (b : Nat) (e : Int), b < n → m7 b e = m1 b e := fun b e q => by
      rw [a4 b e (by omega) (by omega), hm6 b e (by omega)]
    have m7g : ∀ (b : Nat) (e : Int), b < n → ¬ (2 ≤ b ∧ b ≤ 13) → m7 b e = m b e := fun b e q1 q2 => by
      rw [m7f b e q1]
      exact f1 b e (by omega) (by omega)
    have hcl : cCl T7 m7 (fun b => F b ∨ ((b = n ∨ (n + 1 ≤ b ∧ b < n + 1 + 6)) ∧ T7.1 b ≠ none)) n none gs nv := cCl_fr (cCl_ty a5) (fun b q => Or.inr q) (fun _ _ _ q => q) (fun _ _ _ => rfl)
    have hF1 : ∀ z, (F z ∨ ((z = n ∨ (n + 1 ≤ z ∧ z < n + 1 + 6)) ∧ T7.1 z ≠ none)) → F z ∨ n ≤ z := fun z q => by
      rcases q with q | q
      · exact Or.inl q
      · exact Or.inr (by omega)
    have hF2 : ∀ z, (F z ∨ ((z = n ∨ (n + 1 ≤ z ∧ z < n + 1 + 6)) ∧ T7.1 z ≠ none)) → T7.1 z ≠ none := fun z q => by
      rcases q with q | q
      · cases w : T.1 z with
        | none => exact absurd w (hB.2.2.1.1 z q)
        | some x => rw [hTx z x w]; simp
      · exact q.2
    have hB7 := cB0_mo (F' := fun z => F z ∨ ((z = n ∨ (n + 1 ≤ z ∧ z < n + 1 + 6)) ∧ T7.1 z ≠ none)) hB hW hn hTx hF1 hF2 (fun z e q1 q2 => m7g z e q2 (by omega))
    have hPs7 : cPs T7 m7 (fun z => F z ∨ ((z = n ∨ (n + 1 ≤ z ∧ z < n + 1 + 6)) ∧ T7.1 z ≠ none)) PL PH := cPs_mo hPs (fun b q => Or.inl q) hTx (m7g _ _ (by omega) (by omega)) (fun z e q => m7g z e (by
      rcases q with q | q
      · exact hFn z q
      · omega) (by
      rcases q with q | q
      · have := hF z q
        omega
      · omega))
    have h5 := hkk.2.2.2.1
    have hOk7 : zOk (n0 + 7) (u0 + (9 + c + c + 3 * c + gs.length + gs.length + gs.length)) Z T7 (n + 1 + 6) (u + 9 + c + c + 3 * c + gs.length + gs.length + gs.length) := by
      obtain ⟨o1, o2, o3, o4, o5, o6⟩ := hOk
      exact ⟨o1, a3, by omega, by omega, by omega, hTx _ _ o6⟩
    have hFi : ∀ z, F z → (fun z => F z ∨ ((z = n ∨ (n + 1 ≤ z ∧ z < n + 1 + 6)) ∧ T7.1 z ≠ none)) z := fun z q => Or.inl q
    generalize hF' : (fun z => F z ∨ ((z = n ∨ (n + 1 ≤ z ∧ z < n + 1 + 6)) ∧ T7.1 z ≠ none)) = F7 at hcl hB7 hPs7 hFi
    refine sp_86 hB7 hPs7.1 h30 hcl hkk hk30 ⟨hTx _ _ h39.1, hTx _ _ h39.2⟩ hOk7 (fun Z' T' n' u' m' s1 s2 s3 => ?_)
    obtain ⟨c2, k0, k1', k2, k4, hrw, -⟩ := cCl_rw hcl
    have hFn7 : F7 n := hrw.2.2.2.2.2.2.2.1
    have hm4 : m' n 4 = (k4 : Nat) := by
      rw [s1.2 n 4 (Or.inr (Or.inr hFn7))]
      exact hrw.2.2.1
    rw [Int.toNat_natCast]
    show T'.1 n = some (3, 9) ∧ ∃ t4 n4 : Nat, T'.1 (m' n 4).toNat = some (t4, n4) ∧ 99 ≤ t4 ∧ Q (n4 : Int) (T', n', u', m')
    rw [hm4, Int.toNat_natCast]
    refine ⟨s1.1 _ _ hrw.1.1, 100, _, s1.1 _ _ hrw.2.2.2.1, by decide, ?_⟩
    have mf : ∀ (z : Nat) (e : Int), z < 36 → m' z e = m1 z e := fun z e q => (s1.2 z e (Or.inl q)).trans (m7f z e (by omega))
    have hT1 := cTx_x hT f1
    refine hq gs nv F7 Z' T' n' u' m' _ hqr (fun b x q => s1.1 _ _ (hTx b x q)) s2 (by omega) (fun z e q1 q2 => (s1.2 z e (Or.inl q1)).trans (m7g z e (by omega) q2)) (fun z hz => ⟨hFi z hz, fun e => (s1.2 z e (Or.inr (Or.inr (hFi z hz)))).trans (m7g z e (hFn z hz) (by have := hF z hz; omega))⟩) ?_ s3 (fun i i1 i2 => by rw [mf 5 i (by decide)]; exact k1 i i1 i2) ?_ (rRef_lo (fun b x q => s1.1 _ _ (hTx b x q)) (fun e he => by rw [mf 4 e (by decide)]; exact f1 4 e (by omega) (by omega)) hr)
    · exact cPs_mo hPs7 (fun _ q => q) s1.1 (s1.2 _ _ (Or.inl (by decide))) (fun z e q => s1.2 z e (by
        rcases q with q | q
        · exact Or.inr (Or.inr q)
        · exact Or.inl (by omega)))
    · unfold cTx at hT1 ⊢
      rw [mf 2 1 (by decide)]
      exact ⟨hT1.1, hT1.2.1, fun i hi => by rw [mf 3 _ (by decide)]; exact hT1.2.2.1 i hi, hT1.2.2.2⟩
  · rcases hres with ⟨gs, nv, c, Kc, e, -⟩ | ⟨w, e, hw⟩
    · exact absurd e q
    · exact h0 m1 w f1 k1 hw
end CAQ
