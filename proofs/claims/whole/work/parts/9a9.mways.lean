/-! WAYS BETWEEN CLAUSES, IN THE MODEL -/
section MWY
variable {m m' : hy_m} {Q : Int → hy_m → Prop} {PL : List pCl} {ss : List Nat}
theorem ctB_m {k c : Nat} (hk : k < PL.length) (hc : c < PL.length) : ctB PL k c = true ↔ eKy PL[c].1 ∈ PL[k].2.1.map (fun g => cal g false) := by
  unfold ctB
  rw [List.getElem?_eq_getElem hk]
  show (cals PL[k]).any _ = true ↔ _
  rw [List.any_eq_true]
  have hd : ∀ x, hdB PL x c = true ↔ eKy PL[c].1 = x := fun x => by
    unfold hdB
    rw [List.getElem?_eq_getElem hc]
    exact decide_eq_true_iff
  refine ⟨fun ⟨x, h1, h2⟩ => ?_, fun h => ⟨_, h, (hd _).mpr rfl⟩⟩
  rw [(hd x).mp h2]
  exact h1
/-- the clauses that a step starts from -/
def wyB (m : hy_m) (PL : List pCl) (x : Int) (s : Nat) (k : Nat) : Bool := if s = 0 then hdB PL x k else decide (m 94 (k : Int) = (s : Int))
theorem clB_or {p : Nat → Bool} {v : Nat} : clB PL p v = true ↔ ∃ c, c < PL.length ∧ p c = true ∧ ctB PL c v = true := by
  unfold clB
  rw [List.any_eq_true]
  refine ⟨fun ⟨c, h1, h2⟩ => ?_, fun ⟨c, h1, h2, h3⟩ => ⟨c, List.mem_range.mpr h1, by rw [h2, h3]; rfl⟩⟩
  rw [Bool.and_eq_true] at h2
  exact ⟨c, List.mem_range.mp h1, h2.1, h2.2⟩
/-- isReached -/
theorem sp_227 {c f s : Nat} (hp : mPo m PL ss) (hc : c < PL.length) (hf : f < PL.length) (hs : s < 20) (hq : Q (if clB PL (wyB m PL (eKy PL[f].1) s) c = true then 1 else 0) m) : wq_227 (c : Int) (f : Int) ((s : Int) + 1) m Q := by
  have h20 := hp.2.1
  obtain ⟨sc, -, c1, c2, c3, c4, c5⟩ := mPo_i hp hc
  obtain ⟨-, -, -, gc4⟩ := clR_g c3 (by omega)
  obtain ⟨sf, -, f1, f2, f3, f4, f5⟩ := mPo_i hp hf
  obtain ⟨-, -, -, gf4⟩ := clR_g f3 (by omega)
  have hucc := nB_u (kOK_cb c4) c5
  unfold wq_227 wq_227_3
  refine wL1_rule (Nat.lt_wfRel.wf) (fun x4 m' => m' = m ∧ ∃ d : Nat, x4 = d ∧ d ≤ PL.length ∧ ∀ k, k < d → (wyB m PL (eKy PL[f].1) s k && ctB PL k c) = false) (fun x4 _ => 30 - x4.toNat) ?_ ⟨rfl, 0, rfl, Nat.zero_le _, fun k hk => absurd hk (Nat.not_lt_zero _)⟩
  rintro P x4 m' ⟨e1, d, rfl, hd, hb⟩ hP
  unfold wf_227_3
  rw [e1, hp.1]
  refine ⟨by decide, by decide, fun q => ?_, fun q => ?_⟩
  · rw [if_neg (fun z => ?_)] at hq
    · exact hq
    · obtain ⟨k, k1, k2, k3⟩ := clB_or.mp z
      have := hb k (by omega)
      rw [k2, k3] at this
      cases this
  have hl : d < PL.length := by omega
  obtain ⟨sd, -, d1, d2, d3, d4, d5⟩ := mPo_i hp hl
  obtain ⟨-, -, -, gd4⟩ := clR_g d3 (by omega)
  have no : (wyB m PL (eKy PL[f].1) s d && ctB PL d c) = false → hy_r 0 ((d : Int) + 1) ∧ P ((d : Int) + 1) m := fun e => ⟨show -2147483648 ≤ _ ∧ _ < 2147483648 by omega, hP _ _ ⟨rfl, d + 1, by omega, by omega, fun k hk => by
    by_cases z : k = d
    · rw [z]
      exact e
    · exact hb k (by omega)⟩ (by
      show 30 - _ < 30 - _
      omega)⟩
  have men : wyB m PL (eKy PL[f].1) s d = true → wq_206 (d : Int) m (fun r1 m1 => wq_206 (c : Int) m1 (fun r2 m2 => 0 ≤ r2 ∧ r2 < 28 ∧ (wq_226 r1 (m2 81 r2) m2 (fun r3 m3 => (r3 = 0 → (hy_r 0 ((d : Int) + 1) ∧ (P ((d : Int) + 1) m3))) ∧ (r3 ≠ 0 → (Q 1 m3)))))) := fun hw => by
    refine sp_206 (by omega) d2 (sp_206 (by omega) c2 ⟨by omega, by omega, sp_226 (gc4 _ rfl) (kOK_cb c4) hucc d3 d4 (by omega) ?_⟩)
    have hct := ctB_m (k := d) (c := c) hl hc
    by_cases z : eKy PL[c].1 ∈ PL[d].2.1.map (fun g => cal g false)
    · rw [if_pos z]
      refine ⟨fun q => absurd q (by decide), fun _ => ?_⟩
      rw [if_pos (clB_or.mpr ⟨d, hl, hw, hct.mpr z⟩)] at hq
      exact hq
    · rw [if_neg z]
      refine ⟨fun _ => no ?_, fun q => absurd rfl q⟩
      rw [Bool.eq_false_iff.mpr (fun y => z (hct.mp y)), Bool.and_false]
  refine ⟨fun q2 => ⟨by omega, by omega, show -2147483648 ≤ _ ∧ _ < 2147483648 by omega, fun q3 => ⟨fun _ => no ?_, fun z => absurd rfl z⟩, fun q3 => ⟨fun z => absurd z (by decide), fun _ => men ?_⟩⟩, fun q2 => ?_⟩
  · unfold wyB
    rw [if_neg (by omega), decide_eq_false (by omega), Bool.false_and]
  · unfold wyB
    rw [if_neg (by omega)]
    exact decide_eq_true (by omega)
  · have hs0 : s = 0 := by omega
    have hdef : wyB m PL (eKy PL[f].1) s d = decide (eKy PL[d].1 = eKy PL[f].1) := by
      unfold wyB hdB
      rw [if_pos hs0, List.getElem?_eq_getElem hl]
    refine sp_206 (by omega) f2 ⟨by omega, by omega, sp_206 (by omega) d2 ⟨by omega, by omega, sp_211 (gf4 _ rfl) (gd4 _ rfl) (kOK_cb f4) (kOK_cb d4) ?_⟩⟩
    by_cases e : eKy PL[f].1 = eKy PL[d].1
    · rw [if_pos e]
      exact ⟨fun q => absurd q (by decide), fun _ => men (by rw [hdef]; exact decide_eq_true e.symm)⟩
    · rw [if_neg e]
      refine ⟨fun _ => no ?_, fun q => absurd rfl q⟩
      rw [hdef, decide_eq_false (fun z => e z.symm), Bool.false_and]
theorem mPo_94 (h : ∀ (a : Nat) (e : Int), a ≠ 94 → m' a e = m a e) (hp : mPo m PL ss) : mPo m' PL ss := mPo_rw (fun a e q1 q2 => h a e (by omega)) (fun e => h 85 e (by decide)) hp
/-- reaches -/
theorem sp_228 {x1 x2 : Int} (hp : mPo m PL ss) (h0 : ¬ ((0 ≤ x1 ∧ x1 < PL.length) ∧ (0 ≤ x2 ∧ x2 < PL.length)) → Q (-1) m) (hq : ∀ (f d : Nat) cl m' r, x1 = f → x2 = d → PL[f]? = some cl → d < PL.length → (∀ (a : Nat) (e : Int), a ≠ 94 → m' a e = m a e) → rcI PL (hdB PL (eKy cl.1)) d r → Q r m') : wq_228 x1 x2 m Q := by
  have h20 := hp.2.1
  unfold wq_228
  refine sp_205 hp (fun a1 a2 => ⟨fun q => absurd q (by decide), fun _ => sp_205 hp (fun b1 b2 => ⟨fun _ => ?_, fun q => absurd q (by decide)⟩) (fun q => ⟨fun z => absurd rfl z, fun _ => h0 (fun z => q z.2)⟩)⟩) (fun q => ⟨fun _ => h0 (fun z => q z.1), fun z => absurd rfl z⟩)
  obtain ⟨f, rfl⟩ : ∃ f : Nat, x1 = f := ⟨x1.toNat, by omega⟩
  obtain ⟨c, rfl⟩ : ∃ c : Nat, x2 = c := ⟨x2.toNat, by omega⟩
  have hf : f < PL.length := by omega
  have hc : c < PL.length := by omega
  have hq := fun m' r => hq f c _ m' r rfl rfl (List.getElem?_eq_getElem hf) hc
  unfold wq_228_20
  refine wL1_rule (Nat.lt_wfRel.wf) (fun x3 m' => ∃ d : Nat, x3 = d ∧ d ≤ 20 ∧ (∀ (a : Nat) (e : Int), a ≠ 94 → m' a e = m a e) ∧ ∀ k : Nat, k < d → m' 94 (k : Int) = 0) (fun x3 _ => 30 - x3.toNat) ?_ ⟨0, rfl, by decide, fun _ _ _ => rfl, fun k hk => absurd hk (Nat.not_lt_zero _)⟩
  rintro P20 x3 m1 ⟨d, rfl, hd, hF, hz⟩ hP20
  unfold wf_228_20
  refine ⟨fun q => ?_, fun q => ⟨by omega, by omega, show -2147483648 ≤ _ ∧ _ < 2147483648 by omega, hP20 _ _ ⟨d + 1, by omega, by omega, fun a e ha => ?_, fun k hk => ?_⟩ ?_⟩⟩
  · have hz : ∀ k : Nat, k < 20 → m1 94 (k : Int) = 0 := fun k hk => hz k (by omega)
    clear hP20 q
    unfold wq_228_41
    refine wL1_rule (Nat.lt_wfRel.wf) (fun x3 m' => ∃ s : Nat, x3 = (s : Int) + 1 ∧ s ≤ 20 ∧ (∀ (a : Nat) (e : Int), a ≠ 94 → m' a e = m a e) ∧ ∀ k : Nat, k < PL.length → m' 94 (k : Int) = ((stv PL (hdB PL (eKy PL[f].1)) s k : Nat) : Int)) (fun x3 _ => 30 - x3.toNat) ?_ ⟨0, rfl, by decide, hF, fun k hk => hz k (by omega)⟩
    rintro P41 x3 m2 ⟨s, rfl, hs, hF2, hv⟩ hP41
    unfold wf_228_41
    refine ⟨fun q => ?_, fun q => ?_⟩
    · have e20 : s = 20 := by omega
      subst e20
      have hr := stv_r (PL := PL) (p := hdB PL (eKy PL[f].1)) (d := c)
      rw [hv c hc]
      refine ⟨by omega, by omega, fun z => ⟨by omega, by omega, ?_⟩, fun z => ?_⟩
      · rw [if_neg z] at hr
        exact hq m2 _ hF2 hr
      · rw [if_pos z] at hr
        exact hq m2 _ hF2 hr
    · unfold wq_228_50
      refine wL1_rule (Nat.lt_wfRel.wf) (fun x4 m' => ∃ d : Nat, x4 = d ∧ d ≤ PL.length ∧ (∀ (a : Nat) (e : Int), a ≠ 94 → m' a e = m a e) ∧ ∀ k : Nat, k < PL.length → m' 94 (k : Int) = (((if k < d then stv PL (hdB PL (eKy PL[f].1)) (s + 1) k else stv PL (hdB PL (eKy PL[f].1)) s k) : Nat) : Int)) (fun x4 _ => 30 - x4.toNat) ?_ ⟨0, rfl, Nat.zero_le _, hF2, fun k hk => by rw [if_neg (Nat.not_lt_zero _)]; exact hv k hk⟩
      rintro P50 x4 m3 ⟨d', rfl, hd', hF3, hv3⟩ hP
      have hp3 := mPo_94 hF3 hp
      unfold wf_228_50
      rw [hp3.1]
      refine ⟨by decide, by decide, fun q2 => ⟨show -2147483648 ≤ _ ∧ _ < 2147483648 by omega, hP41 _ _ ⟨s + 1, by omega, by omega, hF3, fun k hk => ?_⟩ ?_⟩, fun q2 => ⟨by omega, by omega, ?_⟩⟩
      · rw [hv3 k hk, if_pos (by omega)]
      · show 30 - _ < 30 - _
        omega
      have hl : d' < PL.length := by omega
      have e3 := hv3 d' hl
      rw [if_neg (Nat.lt_irrefl _)] at e3
      have st : stv PL (hdB PL (eKy PL[f].1)) (s + 1) d' = if stv PL (hdB PL (eKy PL[f].1)) s d' = 0 ∧ clB PL (lvl PL (hdB PL (eKy PL[f].1)) s).1 d' = true then s + 1 else stv PL (hdB PL (eKy PL[f].1)) s d' := rfl
      have nx : ∀ v : Int, v = stv PL (hdB PL (eKy PL[f].1)) (s + 1) d' → hy_r 0 ((d' : Int) + 1) ∧ P50 ((d' : Int) + 1) (hy_u m3 94 (d' : Int) v) := fun v hvv => ⟨show -2147483648 ≤ _ ∧ _ < 2147483648 by omega, hP _ _ ⟨d' + 1, by omega, by omega, fun a e ha => by rw [hy_ua ha]; exact hF3 a e ha, fun k hk => by
        by_cases z : k = d'
        · rw [z, hy_us, if_pos (Nat.lt_succ_self _), hvv]
        · rw [hy_uk (by omega), hv3 k hk]
          by_cases y : k < d'
          · rw [if_pos y, if_pos (by omega)]
          · rw [if_neg y, if_neg (by omega)]⟩ (by
        show 30 - _ < 30 - _
        omega)⟩
      have hcl : clB PL (wyB m3 PL (eKy PL[f].1) s) d' = clB PL (lvl PL (hdB PL (eKy PL[f].1)) s).1 d' := by
        have hwl : ∀ k, k < PL.length → wyB m3 PL (eKy PL[f].1) s k = (lvl PL (hdB PL (eKy PL[f].1)) s).1 k := by
          intro k hk
          unfold wyB
          by_cases z : s = 0
          · rw [if_pos z, z]
            rfl
          · rw [if_neg z, hv3 k hk, Bool.eq_iff_iff, decide_eq_true_eq, ← stv_l (by omega)]
            have st2 : stv PL (hdB PL (eKy PL[f].1)) (s + 1) k = if stv PL (hdB PL (eKy PL[f].1)) s k = 0 ∧ clB PL (lvl PL (hdB PL (eKy PL[f].1)) s).1 k = true then s + 1 else stv PL (hdB PL (eKy PL[f].1)) s k := rfl
            by_cases y : k < d'
            · rw [if_pos y, st2]
              by_cases w : stv PL (hdB PL (eKy PL[f].1)) s k = 0 ∧ clB PL (lvl PL (hdB PL (eKy PL[f].1)) s).1 k = true
              · rw [if_pos w]
                have := w.1
                omega
              · rw [if_neg w]
                omega
            · rw [if_neg y]
              omega
        rw [Bool.eq_iff_iff, clB_or, clB_or]
        exact ⟨fun ⟨k, a, b, e⟩ => ⟨k, a, (hwl k a).symm.trans b, e⟩, fun ⟨k, a, b, e⟩ => ⟨k, a, (hwl k a).trans b, e⟩⟩
      refine ⟨fun q3 => ⟨by omega, by omega, by omega, by omega, nx _ ?_⟩, fun q3 => sp_227 hp3 hl hf (by omega) ?_⟩
      · rw [st, if_neg (fun z => q3 (by rw [e3, z.1]; rfl))]
        exact e3
      · rw [hcl]
        by_cases z : clB PL (lvl PL (hdB PL (eKy PL[f].1)) s).1 d' = true
        · rw [if_pos z]
          refine ⟨fun q => absurd q (by decide), fun _ => ⟨by omega, by omega, nx _ ?_⟩⟩
          rw [st, if_pos ⟨by omega, z⟩]
          rfl
        · rw [if_neg z]
          refine ⟨fun _ => ⟨by omega, by omega, by omega, by omega, nx _ ?_⟩, fun q => absurd rfl q⟩
          rw [st, if_neg (fun y => z y.2)]
          exact e3
  · rw [hy_ua ha]
    exact hF a e ha
  · by_cases z : k = d
    · rw [z, hy_us]
    · rw [hy_uk (by omega)]
      exact hz k (by omega)
  · show 30 - _ < 30 - _
    omega
end MWY
