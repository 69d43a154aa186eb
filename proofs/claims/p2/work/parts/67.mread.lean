/-! THE MODEL'S PARSER: a whole term, goals -/
section NA
variable {m m' m'' : hy_m} {tx : List Int} {sl c : Nat} {vs : List Int} {stk : List pF} {css : List (List Int)} {K : List (pE × Int)} {p p' : Nat} {Q : Int → hy_m → Prop} {qy : Bool} {hd : Option pE} {gs : List pE}
theorem tO_tr {s0 s1 : pS} {p0 p1 : Nat} {r : Int} (hF : pFr m m' sl) (hR : ∀ R, pRun tx qy s0 R ↔ pRun tx qy s1 R) (hp : p0 ≤ p1) (h : tO m' m'' tx qy sl s1 hd gs K p1 r) : tO m m'' tx qy sl s0 hd gs K p0 r := by
  obtain ⟨h1, h2⟩ := h
  refine ⟨hF.trans h1, ?_⟩
  rcases h2 with ⟨c, vs, stk, css, t, nm, p, a1, a2, a3, a4, a5, a6, a7, a8⟩ | ⟨c, vs, stk, css, p, a1, a2, a3, a4, a5, a6, a7, a8⟩ | ⟨w, a1, a2, a3⟩
  · exact Or.inl ⟨c, vs, stk, css, t, nm, p, a1, a2, a3, a4, fun R => (hR R).trans (a5 R), a6, a7, by omega⟩
  · exact Or.inr (Or.inl ⟨c, vs, stk, css, p, a1, a2, a3, a4, fun R => (hR R).trans (a5 R), a6, a7, by omega⟩)
  · exact Or.inr (Or.inr ⟨w, a1, (hR _).mpr a2, a3⟩)
/-- behind a whole term -/
def rO (m m' : hy_m) (tx : List Int) (qy : Bool) (sl : Nat) (s0 : pS) (hd : Option pE) (gs : List pE) (K : List (pE × Int)) (p0 : Nat) (r : Int) : Prop := pFr m m' sl ∧
  ((∃ (c : Nat) (vs : List Int) (t : pE) (nm : Bool) (p : Nat), r ≠ -9 ∧ mS m' tx sl c vs [] [] ((t, r) :: K) p ∧ mU m' sl c ((t, r) :: K) [] ∧ (nm = true → pk1 tx p ≠ 6) ∧ (∀ R, pRun tx qy s0 R ↔ pRun tx qy (3, vs, hd, gs, t, nm, [], p) R) ∧ c ≤ p ∧ p0 < p) ∨
  (∃ w : Nat, m' 74 18 = w ∧ pRun tx qy s0 (.inl w) ∧ mPg m' sl))
theorem sp_192 {x2 : Int} (hx2 : x2 = if (!qy && hd.isNone) = true then 1 else 0) (h : mS (hy_u m 74 25 0) tx sl c vs [] [] K p) (hU : mU m sl c K []) (hcr : c ≤ p) (hq : ∀ r m', rO m m' tx qy sl (0, vs, hd, gs, eNil, false, [], p) hd gs K p r → Q r m') : wq_192 1 x2 m Q := by
  subst hx2
  have hF0 : pFr m (hy_u m 74 25 0) sl := fun a e q1 _ _ _ _ _ _ _ => if_neg (fun z => q1 ⟨z.1, by omega⟩)
  unfold wq_192
  refine sp_186g (gs := gs) eNil false [] h (mU_fr hU (fun a e q => if_neg (by omega))) hcr (fun r1 m1 hO1 => ?_)
  have hO1' := tO_tr hF0 (fun R => Iff.rfl) (Nat.le_refl p) hO1
  unfold wq_192_12
  refine wL1_rule (Nat.lt_wfRel.wf) (fun x m' => tO m m' tx qy sl (0, vs, hd, gs, eNil, false, [], p) hd gs K p x) (fun x m' => if m' 74 18 = -9 then 1 + (200 - (m' 74 16).toNat) else 0) ?_ hO1'
  rintro P x m' ⟨hF, hO⟩ hP
  have nxt : ∀ (s1 : pS) (p1 : Nat), m' 74 18 = -9 → m' 74 16 = (p1 : Int) → p1 ≤ 120 → p ≤ p1 → (∀ R, pRun tx qy (0, vs, hd, gs, eNil, false, [], p) R ↔ pRun tx qy s1 R) → ∀ (r' : Int) (m'' : hy_m), tO m' m'' tx qy sl s1 hd gs K p1 r' → P r' m'' := by
    intro s1 p1 hw h16 hp1 hpp hR r' m'' hO2
    refine hP _ _ (tO_tr hF hR hpp hO2) ?_
    show (if m'' 74 18 = -9 then 1 + (200 - (m'' 74 16).toNat) else 0) < (if m' 74 18 = -9 then 1 + (200 - (m' 74 16).toNat) else 0)
    rw [if_pos hw, h16]
    rcases hO2.2 with ⟨c, vs, stk, css, t, nm, p2, a1, a2, a3, a4, a5, a6, a7, a8⟩ | ⟨c, vs, stk, css, p2, a1, a2, a3, a4, a5, a6, a7, a8⟩ | ⟨w, a1, a2, a3⟩
    · rw [if_pos a2.2.2.2.1.1, a2.2.1.2.1]
      omega
    · rw [if_pos a2.2.2.2.1.1, a2.2.1.2.1]
      omega
    · rw [if_neg (by omega)]
      omega
  unfold wf_192_12
  rcases hO with ⟨c, vs1, stk, css, t, nm, p2, a1, a2, a3, a4, a5, a6, a7, a8⟩ | ⟨c, vs1, stk, css, p2, a1, a2, a3, a4, a5, a6, a7, a8⟩ | ⟨w, a1, a2, a3⟩
  · have hw := a2.2.2.2.1.1
    have h25 := a2.2.2.2.1.2.2.2.2
    have h16 := a2.2.1.2.1
    have hp2 : p2 ≤ 120 := Nat.le_trans a2.2.1.1 a2.1.2.1
    refine ⟨fun q => absurd hw q, fun _ => ⟨fun q => absurd q a1, fun _ => ⟨fun h0 => ?_, fun h0 => ?_⟩⟩⟩
    · have hnil : stk = [] := List.length_eq_zero_iff.mp (by omega)
      subst hnil
      have hcss : css = [] := by
        have := sR_len _ _ a2.2.2.2.2.2.1
        exact List.length_eq_zero_iff.mp (by simpa using this)
      subst hcss
      exact hq _ _ ⟨hF, Or.inl ⟨c, vs1, t, nm, p2, a1, a2, a3, a4, a5, by omega, a8⟩⟩
    · unfold wq_192_34
      refine ⟨fun _ => ?_, fun q => absurd q a1⟩
      cases stk with
      | nil => simp at h25; omega
      | cons f stk =>
        cases css with
        | nil => exact a2.2.2.2.2.2.1.elim
        | cons cs css =>
          have hlen : m' 74 25 - 1 = (stk.length : Int) := by
            rw [h25]
            simp
          have hl2 : stk.length + 1 ≤ p2 := by simpa using a7
          rw [hlen]
          refine ⟨by omega, by omega, ?_⟩
          obtain ⟨f0, f1, f2⟩ := f
          rcases a2.2.2.2.2.2.1.1 with ⟨b1, b2, -⟩ | ⟨b1, b2, b3, -⟩
          · have b1 : f0 = 0 := b1
            subst b1
            rw [b2]
            exact ⟨fun q => absurd rfl q, fun _ => sp_189 a2 a3 a4 a6 hl2 (nxt _ p2 hw h16 hp2 (by omega) a5)⟩
          · have b3 : f1 = 2 := b3
            subst b3
            rcases b1 with b1 | ⟨b1, hne⟩
            · have b1 : f0 = 1 := b1
              subst b1
              have b2 : m' 88 (stk.length : Int) = 1 := b2
              rw [b2]
              exact ⟨fun _ => ⟨by omega, by omega, fun q => absurd rfl q, fun _ => sp_190 a2 a3 a4 a6 hl2 (nxt _ p2 hw h16 hp2 (by omega) a5)⟩, fun q => absurd q (by decide)⟩
            · have b1 : f0 = 2 := b1
              subst b1
              have b2 : m' 88 (stk.length : Int) = 2 := b2
              rw [b2]
              exact ⟨fun _ => ⟨by omega, by omega, fun _ => sp_191 hne a2 a3 a4 a6 hl2 (nxt _ p2 hw h16 hp2 (by omega) a5), fun q => absurd q (by decide)⟩, fun q => absurd q (by decide)⟩
  · have hw := a2.2.2.2.1.1
    have h16 := a2.2.1.2.1
    have hp2 : p2 ≤ 120 := Nat.le_trans a2.2.1.1 a2.1.2.1
    refine ⟨fun q => absurd hw q, fun _ => ⟨fun _ => ?_, fun q => absurd a1 q⟩⟩
    unfold wq_192_34
    exact ⟨fun q => absurd a1 q, fun _ => sp_186t eNil false a2 a3 a6 a7 (nxt _ p2 hw h16 hp2 (by omega) a5)⟩
  · exact ⟨fun _ => hq _ _ ⟨hF, Or.inr ⟨w, a1, a2, a3⟩⟩, fun q => by omega⟩
/-- rows that the state doesn't speak of -/
theorem mS_fr (h : mS m tx sl c vs stk css K p) (hf : ∀ (a : Nat) (e : Int), (a = 74 ∧ (e = 1 ∨ e = 14 ∨ e = 15 ∨ e = 16 ∨ e = 17 ∨ e = 18 ∨ e = 19 ∨ e = 21 ∨ e = 25)) ∨ (75 ≤ a ∧ a ≤ 80) ∨ (87 ≤ a ∧ a ≤ 90) → m' a e = m a e) : mS m' tx sl c vs stk css K p := by
  have hu := mS_up (m' := m') h (B := nA sl c css.flatten) (fun n hn => hn) (fun n hn => ⟨hf _ _ (by omega), hf _ _ (by omega), hf _ _ (by omega), fun j _ _ => hf _ _ (by omega)⟩) (fun i hi => ⟨hf _ _ (by omega), hf _ _ (by omega), hf _ _ (by omega)⟩)
  obtain ⟨h1, h2, h3, h4, h5, -, -⟩ := h
  refine ⟨⟨?_, h1.2.1, fun i hi => ?_, h1.2.2.2⟩, ⟨h2.1, ?_, ?_, ?_, fun z => ?_, fun z => ?_⟩, ⟨?_, h3.2.1, fun i hi => ?_⟩, ⟨?_, ?_, h4.2.2.1, ?_, ?_⟩, h5, hu.1, hu.2⟩
  · rw [hf _ _ (by omega)]; exact h1.1
  · rw [hf _ _ (by omega)]; exact h1.2.2.1 i hi
  · rw [hf _ _ (by omega)]; exact h2.2.1
  · rw [hf _ _ (by omega)]; exact h2.2.2.1
  · rw [hf _ _ (by omega)]; exact h2.2.2.2.1
  · rw [hf _ _ (by omega)]; exact h2.2.2.2.2.1 z
  · rw [hf _ _ (by omega)]; exact h2.2.2.2.2.2 z
  · rw [hf _ _ (by omega)]; exact h3.1
  · rw [hf _ _ (by omega)]; exact h3.2.2 i hi
  · rw [hf _ _ (by omega)]; exact h4.1
  · rw [hf _ _ (by omega)]; exact h4.2.1
  · rw [hf _ _ (by omega)]; exact h4.2.2.2.1
  · rw [hf _ _ (by omega)]; exact h4.2.2.2.2
/-- what reading into slots of S leaves alone -/
def zFr (m m' : hy_m) (S : Int → Prop) : Prop := ∀ (a : Nat) (e : Int), ¬ (a = 74 ∧ (e = 14 ∨ e = 15 ∨ e = 16 ∨ e = 17 ∨ e = 18 ∨ e = 19 ∨ e = 21 ∨ e = 25 ∨ e = 27)) → ¬ ((a = 76 ∨ a = 77 ∨ a = 78) ∧ S (e / 128)) → ¬ (a = 79 ∧ S (e / 384)) → ¬ ((a = 80 ∨ a = 81 ∨ a = 82 ∨ a = 84) ∧ S e) → ¬ (a = 83 ∧ S (e / 5)) → a ≠ 87 → a ≠ 88 → a ≠ 89 → a ≠ 90 → a ≠ 91 → m' a e = m a e
theorem zFr.refl (m : hy_m) (S : Int → Prop) : zFr m m S := fun _ _ _ _ _ _ _ _ _ _ _ _ => rfl
theorem zFr.trans {S : Int → Prop} (h : zFr m m' S) (h' : zFr m' m'' S) : zFr m m'' S := fun a e q1 q2 q3 q4 q5 q6 q7 q8 q9 q10 => (h' a e q1 q2 q3 q4 q5 q6 q7 q8 q9 q10).trans (h a e q1 q2 q3 q4 q5 q6 q7 q8 q9 q10)
theorem zFr.mono {S S' : Int → Prop} (h : zFr m m' S) (hS : ∀ s, S s → S' s) : zFr m m' S' := fun a e q1 q2 q3 q4 q5 q6 q7 q8 q9 q10 => h a e q1 (fun z => q2 ⟨z.1, hS _ z.2⟩) (fun z => q3 ⟨z.1, hS _ z.2⟩) (fun z => q4 ⟨z.1, hS _ z.2⟩) (fun z => q5 ⟨z.1, hS _ z.2⟩) q6 q7 q8 q9 q10
theorem pFr.z (h : pFr m m' sl) : zFr m m' (fun s => s = sl) := fun a e q1 q2 q3 q4 q5 q6 q7 q8 q9 q10 => h a e (by omega) (fun z => q2 ⟨z.1, by omega⟩) (fun z => q3 ⟨z.1, by omega⟩) (fun z => q4 ⟨by omega, z.2⟩) q6 q7 q8 q9
def gPg (m : hy_m) (sl : Nat) : Prop := ∀ e : Int, 5 * (sl : Int) ≤ e → e < 5 * (sl : Int) + 5 → 0 ≤ m 83 e ∧ m 83 e < 3584
def oH (hd : Option pE) (v : Nat) : Nat := match hd with
  | some h => oE h v
  | none => 0
/-- slot sl holds a clause, or a query -/
def clR (m : hy_m) (sl : Nat) (hd : Option pE) (gs : List pE) (nv : Nat) : Prop := ∃ c : Nat, c ≤ 120 ∧ m 80 (sl : Int) = c ∧ m 82 (sl : Int) = gs.length ∧ gs.length ≤ 5 ∧ m 84 (sl : Int) = nv ∧ nv ≤ 8 ∧ (∀ i (hi : i < gs.length), rP m (nA sl c []) gs[i] (-1) (m 83 (5 * (sl : Int) + (i : Int)))) ∧ (∀ h, hd = some h → rP m (nA sl c []) h (-1) (m 81 (sl : Int))) ∧ ∀ v, vC m sl c v = oL gs v + oH hd v
/-- where the reader stands -/
def mAt (m : hy_m) (tx : List Int) (p : Nat) : Prop := mTx m tx ∧ mCu m tx p ∧ m 74 18 = -9
/-- the goals that were read so far -/
def gR (m : hy_m) (sl : Nat) (hd : Option pE) (gs : List pE) (K : List (pE × Int)) : Prop := m 82 (sl : Int) = gs.length ∧ (∀ i (hi : i < gs.length), (gs[i], m 83 (5 * (sl : Int) + (i : Int))) ∈ K) ∧ (∀ h, hd = some h → (h, m 81 (sl : Int)) ∈ K) ∧ (∀ v, oK K v = oL gs v + oH hd v) ∧ gPg m sl
theorem clR_of (h : mS m tx sl c vs [] [] K p) (hU : mU m sl c K []) (hg : gR m sl hd gs K) (hc : c ≤ 120) (hl : gs.length ≤ 5) (h84 : m 84 (sl : Int) = vs.length) : clR m sl hd gs vs.length := by
  have hK := h.2.2.2.2.2.2
  refine ⟨c, hc, h.2.2.2.1.2.2.2.1, hg.1, hl, h84, h.2.2.1.2.1, fun i hi => hK _ (hg.2.1 i hi), fun t ht => hK _ (hg.2.2.1 t ht), fun v => ?_⟩
  rw [hU.1 v, hg.2.2.2.1 v]
  show _ + 0 = _
  omega
/-- endsHere, with no fault so far -/
theorem sp_195 (h : mS m tx sl c vs [] [] K p) (h4 : pk1 tx p = 4 → ∀ m', mS m' tx sl c vs [] [] K (pnx tx p) → m' 84 (sl : Int) = vs.length → (∀ (a : Nat) (e : Int), ¬ (a = 74 ∧ (e = 14 ∨ e = 15 ∨ e = 16 ∨ e = 17)) → ¬ (a = 84 ∧ e = sl) → m' a e = m a e) → Q 0 m') (hn : pk1 tx p ≠ 4 → Q 0 (hy_u (hy_u m 84 (sl : Int) (vs.length : Int)) 74 18 p)) : wq_195 m Q := by
  have hs := h.2.2.2.1
  have hw := hs.1
  unfold wq_195
  rw [hs.2.1, hw, h.2.2.1.1, h.2.1.2.2.1]
  refine ⟨by omega, by omega, fun q => absurd rfl q, fun _ => ⟨fun k4 => ⟨fun q => absurd rfl q, fun _ => ?_⟩, fun n4 => ?_⟩⟩
  · have h1 := mS_fr (m' := hy_u m 84 (sl : Int) (vs.length : Int)) h (fun a e q => if_neg (by omega))
    refine sp_next h1.1 h1.2.1 (fun m4 k1 k2 k3 => ?_)
    obtain ⟨hS4, hF4⟩ := mS_next h1 k1 k2 k3
    refine h4 k4 m4 hS4 ?_ (fun a e q1 q2 => (k3 a e q1).trans (if_neg q2))
    rw [k3 _ _ (by omega), hy_us]
  · refine sp_180 (p := p) ?_ (hn n4)
    rw [hy_ua (by decide)]
    exact h.2.1.2.1
theorem sp_195w {w : Nat} (hw : m 74 18 = w) (hs : m 74 19 = sl) (hsl : sl < 28) (hq : Q 0 (hy_u m 84 (sl : Int) (m 74 21))) : wq_195 m Q := by
  unfold wq_195
  rw [hs, hw]
  exact ⟨by omega, by omega, fun _ => ⟨fun _ => hq, fun q => by omega⟩, fun q => by omega⟩
/-- behind the goals of a clause or a query -/
def gO (m m' : hy_m) (tx : List Int) (qy : Bool) (sl : Nat) (s0 : pS) (hd : Option pE) (p0 : Nat) : Prop := zFr m m' (fun s => s = sl) ∧ m' 74 19 = sl ∧ mPg m' sl ∧ gPg m' sl ∧ m' 74 27 = m 74 27 ∧ (∀ e, m' 91 e = m 91 e) ∧
  ((∃ (gs : List pE) (nv p : Nat), pRun tx qy s0 (.inr (hd, gs, nv, p)) ∧ clR m' sl hd gs nv ∧ mAt m' tx p ∧ p0 < p) ∨
  (∃ w : Nat, m' 74 18 = w ∧ pRun tx qy s0 (.inl w)))
/-- inside of readGoals -/
def gI (m m' : hy_m) (tx : List Int) (qy : Bool) (sl : Nat) (s0 : pS) (hd : Option pE) (p0 : Nat) (x : Int) : Prop := zFr m m' (fun s => s = sl) ∧ m' 74 19 = sl ∧ mPg m' sl ∧ gPg m' sl ∧ m' 74 27 = m 74 27 ∧ (∀ e, m' 91 e = m 91 e) ∧
  ((x = 1 ∧ ∃ (c : Nat) (vs : List Int) (gs : List pE) (K : List (pE × Int)) (p : Nat), mS (hy_u m' 74 25 0) tx sl c vs [] [] K p ∧ mU m' sl c K [] ∧ c ≤ p ∧ p0 ≤ p ∧ gR m' sl hd gs K ∧ gs.length ≤ 4 ∧ ∀ R, pRun tx qy s0 R ↔ pRun tx qy (0, vs, hd, gs, eNil, false, [], p) R) ∨
  (x = 0 ∧ ∃ (c : Nat) (vs : List Int) (gs : List pE) (t : pE) (nm : Bool) (K : List (pE × Int)) (p : Nat), mS m' tx sl c vs [] [] K p ∧ mU m' sl c K [] ∧ c ≤ p ∧ p0 < p ∧ gR m' sl hd (gs ++ [t]) K ∧ gs.length ≤ 4 ∧ (nm = true → pk1 tx p ≠ 6) ∧ ¬ (pk1 tx p = 5 ∧ gs.length < 4) ∧ ∀ R, pRun tx qy s0 R ↔ pRun tx qy (3, vs, hd, gs, t, nm, [], p) R) ∨
  (∃ w : Nat, m' 74 18 = w ∧ pRun tx qy s0 (.inl w)))
theorem gPg_fr (h : gPg m sl) (hf : ∀ e, m' 83 e = m 83 e) : gPg m' sl := fun e h1 h2 => by
  rw [hf e]
  exact h e h1 h2
theorem sp_194 (hqh : (!qy && hd.isNone) = false) (h : mS (hy_u m 74 25 0) tx sl c vs [] [] K p) (hU : mU m sl c K []) (hcr : c ≤ p) (hg : gR m sl hd [] K) (hq : ∀ m', gO m m' tx qy sl (0, vs, hd, [], eNil, false, [], p) hd p → Q 0 m') : wq_194 m Q := by
  have hsl := h.2.2.2.1.2.2.1
  have h19 : m 74 19 = sl := by
    have := h.2.2.2.1.2.1
    rw [hy_uk (by decide)] at this
    exact this
  unfold wq_194 wq_194_2
  refine wL1_rule (Nat.lt_wfRel.wf) (fun x m' => gI m m' tx qy sl (0, vs, hd, [], eNil, false, [], p) hd p x) (fun x m' => if m' 74 18 = -9 then (if x = 0 then 1 else 2 + (200 - (m' 74 16).toNat)) else 0) ?_ ⟨zFr.refl _ _, h19, hU.2, hg.2.2.2.2, rfl, fun _ => rfl, Or.inl ⟨rfl, c, vs, [], K, p, h, hU, hcr, Nat.le_refl _, hg, Nat.zero_le _, fun R => Iff.rfl⟩⟩
  rintro P x m' ⟨hF, e19, ePg, eGg, e27, e91, hO⟩ hP
  have out : ∀ w : Nat, m' 74 18 = w → pRun tx qy (0, vs, hd, [], eNil, false, [], p) (.inl w) → wq_195 m' (fun _ m1 => Q 0 m1) := by
    intro w a1 a2
    refine sp_195w a1 e19 hsl (hq _ ⟨hF.trans (fun a e q1 q2 q3 q4 q5 q6 q7 q8 q9 q10 => if_neg (fun z => q4 ⟨by omega, z.2⟩)), ?_, mPg_fr ePg (fun e => hy_ua (by decide)), gPg_fr eGg (fun e => hy_ua (by decide)), ?_, fun e => ?_, Or.inr ⟨w, ?_, a2⟩⟩)
    · rw [hy_ua (by decide)]; exact e19
    · rw [hy_ua (by decide)]; exact e27
    · rw [hy_ua (by decide)]; exact e91 e
    · rw [hy_ua (by decide)]; exact a1
  unfold wf_194_2
  rcases hO with ⟨hx, c1, vs1, gs, K1, p1, a1, a2, a3, a4, a5, a6, a7⟩ | ⟨hx, c1, vs1, gs, t, nm, K1, p1, a1, a2, a3, a4, a5, a6, a7, a8, a9⟩ | ⟨w, a1, a2⟩
  · have hw : m' 74 18 = -9 := by
      have := a1.2.2.2.1.1
      rw [hy_uk (by decide)] at this
      exact this
    have h16 : m' 74 16 = (p1 : Int) := by
      have := a1.2.1.2.1
      rw [hy_uk (by decide)] at this
      exact this
    have hp1 : p1 ≤ 120 := Nat.le_trans a1.2.1.1 a1.1.2.1
    refine ⟨fun q => by omega, fun _ => ⟨fun q => absurd hw q, fun _ => ?_⟩⟩
    refine sp_192 (qy := qy) (hd := hd) (gs := gs) (by rw [hqh]; rfl) a1 a2 a3 (fun r m3 hO => ?_)
    obtain ⟨hF3, hO⟩ := hO
    have f19 : m3 74 19 = sl := by rw [hF3 _ _ (by omega) (by omega) (by omega) (by omega) (by omega) (by omega) (by omega) (by omega)]; exact e19
    have f82 : m3 82 (sl : Int) = (gs.length : Int) := by rw [hF3 _ _ (by omega) (by omega) (by omega) (by omega) (by omega) (by omega) (by omega) (by omega)]; exact a5.1
    have f83 : ∀ e, m3 83 e = m' 83 e := fun e => hF3 _ _ (by omega) (by omega) (by omega) (by omega) (by omega) (by omega) (by omega) (by omega)
    have f81 : ∀ e, m3 81 e = m' 81 e := fun e => hF3 _ _ (by omega) (by omega) (by omega) (by omega) (by omega) (by omega) (by omega) (by omega)
    have f27 : m3 74 27 = m 74 27 := by rw [hF3 _ _ (by omega) (by omega) (by omega) (by omega) (by omega) (by omega) (by omega) (by omega)]; exact e27
    have f91 : ∀ e, m3 91 e = m 91 e := fun e => by rw [hF3 _ _ (by omega) (by omega) (by omega) (by omega) (by omega) (by omega) (by omega) (by omega)]; exact e91 e
    have hFz := hF.trans hF3.z
    rcases hO with ⟨c3, vs3, t, nm, p3, b1, b2, b3, b4, b5, b6, b7⟩ | ⟨w, b1, b2, b3⟩
    · have hrA := rP_A (b2.2.2.2.2.2.2 (t, r) (List.mem_cons_self ..))
      have hrr : 0 ≤ r ∧ r < 3584 := by
        have h1 := hrA.1
        have h2 := hrA.2.1
        have h3 : p3 ≤ 120 := Nat.le_trans b2.2.1.1 b2.1.2.1
        dsimp only at h1 h2
        omega
      have hw3 := b2.2.2.2.1.1
      have hp3 : p3 ≤ 120 := Nat.le_trans b2.2.1.1 b2.1.2.1
      refine ⟨fun q => absurd hw3 q, fun _ => ?_⟩
      rw [f19, f82]
      have eM : ∀ (a : Nat) (e : Int), ¬ (a = 83 ∧ e = 5 * (sl : Int) + (gs.length : Int)) → ¬ (a = 82 ∧ e = sl) → hy_u (hy_u m3 83 (5 * (sl : Int) + (gs.length : Int)) r) 82 (sl : Int) ((gs.length : Int) + 1) a e = m3 a e := by
        intro a e q1 q2
        unfold hy_u
        rw [if_neg q2, if_neg q1]
      have eM3 : hy_u (hy_u m3 83 (5 * (sl : Int) + (gs.length : Int)) r) 82 (sl : Int) ((gs.length : Int) + 1) 83 (5 * (sl : Int) + (gs.length : Int)) = r := by rw [hy_ua (by decide), hy_us]
      have eM2 : hy_u (hy_u m3 83 (5 * (sl : Int) + (gs.length : Int)) r) 82 (sl : Int) ((gs.length : Int) + 1) 82 (sl : Int) = (gs.length : Int) + 1 := hy_us _ _ _ _
      generalize hy_u (hy_u m3 83 (5 * (sl : Int) + (gs.length : Int)) r) 82 (sl : Int) ((gs.length : Int) + 1) = M at eM eM3 eM2
      have hSM : mS M tx sl c3 vs3 [] [] ((t, r) :: K1) p3 := mS_fr b2 (fun a e q => eM a e (by omega) (by omega))
      have hUM : mU M sl c3 ((t, r) :: K1) [] := mU_fr b3 (fun a e q => eM a e (by omega) (by omega))
      have hgM : gPg M sl := by
        intro e q1 q2
        by_cases q : e = 5 * (sl : Int) + (gs.length : Int)
        · rw [q, eM3]
          exact hrr
        · rw [eM 83 e (by omega) (by omega), f83]
          exact eGg e q1 q2
      have hGM : gR M sl hd (gs ++ [t]) ((t, r) :: K1) := by
        refine ⟨?_, fun i hi => ?_, fun h' hh => ?_, fun v => ?_, hgM⟩
        · rw [eM2]; simp
        · by_cases q : i = gs.length
          · subst q
            rw [eM3]
            simp
          · have hi' : i < gs.length := by simp at hi; omega
            rw [eM 83 _ (by omega) (by omega), f83, List.getElem_append_left hi']
            exact List.mem_cons_of_mem _ (a5.2.1 i hi')
        · rw [eM 81 _ (by omega) (by omega), f81]
          exact List.mem_cons_of_mem _ (a5.2.2.1 h' hh)
        · show oE t v + oK K1 v = oL (gs ++ [t]) v + oH hd v
          rw [a5.2.2.2.1 v, oL_app]
          show _ = oL gs v + (oE t v + 0) + oH hd v
          omega
      have hFM : zFr m M (fun s => s = sl) := hFz.trans (fun a e q1 q2 q3 q4 q5 q6 q7 q8 q9 q10 => eM a e (fun z => q5 ⟨z.1, by omega⟩) (fun z => q4 ⟨by omega, z.2⟩))
      have M19 : M 74 19 = sl := by rw [eM _ _ (by omega) (by omega)]; exact f19
      have M27 : M 74 27 = m 74 27 := by rw [eM _ _ (by omega) (by omega)]; exact f27
      have M91 : ∀ e, M 91 e = m 91 e := fun e => by rw [eM _ _ (by omega) (by omega)]; exact f91 e
      have M15 : m3 74 15 = pk1 tx p3 := b2.2.1.2.2.1
      have fin0 : ¬ (pk1 tx p3 = 5 ∧ gs.length < 4) → P 0 M := by
        intro hno
        refine hP _ _ ⟨hFM, M19, hUM.2, hgM, M27, M91, Or.inr (Or.inl ⟨rfl, c3, vs3, gs, t, nm, _, p3, hSM, hUM, b6, by omega, hGM, a6, b4, hno, fun R => (a7 R).trans (b5 R)⟩)⟩ ?_
        show (if M 74 18 = -9 then (if (0 : Int) = 0 then 1 else 2 + (200 - (M 74 16).toNat)) else 0) < (if m' 74 18 = -9 then (if x = 0 then 1 else 2 + (200 - (m' 74 16).toNat)) else 0)
        rw [if_pos hw, if_neg (show ¬ x = 0 by omega), if_pos hSM.2.2.2.1.1, if_pos rfl]
        omega
      rw [M15]
      refine ⟨by omega, by omega, by omega, by omega, by omega, by omega, by omega, by omega, show -2147483648 ≤ _ ∧ _ < 2147483648 by omega, fun n5 => ⟨fun _ => fin0 (fun q => n5 q.1), fun q => absurd rfl q⟩, fun h5 => ⟨by omega, by omega, fun h5' => ⟨fun _ => fin0 (fun q => by omega), fun q => absurd rfl q⟩, fun h5' => ⟨fun q => absurd q (by decide), fun _ => ?_⟩⟩⟩
      rw [eM2] at h5'
      have hp4 := pk_pos b2.2.1.1 (show pk1 tx p3 ≠ 0 by omega)
      refine sp_next hSM.1 hSM.2.1 (fun m6 k1 k2 k3 => ?_)
      obtain ⟨hS6, hF6⟩ := mS_next hSM k1 k2 k3
      have h250 : hy_u m6 74 25 0 = m6 := hy_ui (by have := hS6.2.2.2.1.2.2.2.2; simpa using this)
      have hGM6 : gR m6 sl hd (gs ++ [t]) ((t, r) :: K1) := by
        refine ⟨by rw [k3 _ _ (by omega)]; exact hGM.1, fun i hi => by rw [k3 _ _ (by omega)]; exact hGM.2.1 i hi, fun h' hh => by rw [k3 _ _ (by omega)]; exact hGM.2.2.1 h' hh, hGM.2.2.2.1, gPg_fr hGM.2.2.2.2 (fun e => k3 _ _ (by omega))⟩
      refine hP _ _ ⟨hFM.trans hF6.z, by rw [k3 _ _ (by omega)]; exact M19, mPg_fr hUM.2 (fun e => k3 _ _ (by omega)), hGM6.2.2.2.2, by rw [k3 _ _ (by omega)]; exact M27, fun e => by rw [k3 _ _ (by omega)]; exact M91 e, Or.inl ⟨rfl, c3, vs3, gs ++ [t], _, pnx tx p3, by rw [h250]; exact hS6, mU_fr hUM (fun a e q => k3 a e (by omega)), by omega, by omega, hGM6, by simp; omega, fun R => ?_⟩⟩ ?_
      · rw [a7 R, b5 R]
        refine pRun_s tx qy ?_ R
        unfold pSt
        dsimp only
        rw [if_neg (by decide), if_neg (by decide), if_neg (by decide), if_neg (fun q => b4 q.1 q.2)]
        unfold pG
        rw [if_neg (by rw [hqh]; decide), if_neg (by omega), if_pos ⟨h5, by omega⟩]
      · show (if m6 74 18 = -9 then (if (1 : Int) = 0 then 1 else 2 + (200 - (m6 74 16).toNat)) else 0) < (if m' 74 18 = -9 then (if x = 0 then 1 else 2 + (200 - (m' 74 16).toNat)) else 0)
        rw [if_pos hw, if_neg (show ¬ x = 0 by omega), if_pos hS6.2.2.2.1.1, if_neg (by decide), h16, hS6.2.1.2.1]
        have := (pnx_ok b2.2.1.1).1
        have := b2.1.2.1
        omega
    · refine ⟨fun _ => hP _ _ ⟨hFz, f19, b3, gPg_fr eGg f83, f27, f91, Or.inr (Or.inr ⟨w, b1, (a7 _).mpr b2⟩)⟩ ?_, fun q => by omega⟩
      show (if m3 74 18 = -9 then (if x = 0 then 1 else 2 + (200 - (m3 74 16).toNat)) else 0) < (if m' 74 18 = -9 then (if x = 0 then 1 else 2 + (200 - (m' 74 16).toNat)) else 0)
      rw [if_neg (show ¬ m3 74 18 = -9 by omega), if_pos hw, if_neg (show ¬ x = 0 by omega)]
      omega
  · refine ⟨fun _ => ?_, fun q => absurd hx q⟩
    have hst : pSt tx qy (3, vs1, hd, gs, t, nm, [], p1) = (if pk1 tx p1 = 4 then .inr (.inr (hd, gs ++ [t], vs1.length, pnx tx p1)) else .inr (.inl p1)) := by
      unfold pSt
      dsimp only
      rw [if_neg (by decide), if_neg (by decide), if_neg (by decide), if_neg (fun q => a7 q.1 q.2)]
      unfold pG
      rw [if_neg (by rw [hqh]; decide), if_neg a8]
    have hp1 : p1 ≤ 120 := Nat.le_trans a1.2.1.1 a1.1.2.1
    refine sp_195 a1 (fun k4 m4 d1 d2 d3 => hq _ ⟨hF.trans (fun a e q1 q2 q3 q4 q5 q6 q7 q8 q9 q10 => d3 a e (by omega) (fun z => q4 ⟨by omega, z.2⟩)), ?_, mPg_fr ePg (fun e => d3 _ _ (by omega) (by omega)), gPg_fr eGg (fun e => d3 _ _ (by omega) (by omega)), ?_, fun e => ?_, Or.inl ⟨gs ++ [t], vs1.length, pnx tx p1, (a9 _).mpr (pRun_e tx qy (by rw [hst, if_pos k4])), ?_, ⟨d1.1, d1.2.1, d1.2.2.2.1.1⟩, ?_⟩⟩) (fun n4 => hq _ ⟨hF.trans (fun a e q1 q2 q3 q4 q5 q6 q7 q8 q9 q10 => (if_neg (by omega)).trans (if_neg (fun z => q4 ⟨by omega, z.2⟩))), ?_, mPg_fr ePg (fun e => (hy_ua (by decide)).trans (hy_ua (by decide))), gPg_fr eGg (fun e => (hy_ua (by decide)).trans (hy_ua (by decide))), ?_, fun e => ?_, Or.inr ⟨p1, hy_us _ _ _ _, (a9 _).mpr (pRun_e tx qy (by rw [hst, if_neg n4]))⟩⟩)
    · rw [d3 _ _ (by omega) (by omega)]; exact e19
    · rw [d3 _ _ (by omega) (by omega)]; exact e27
    · rw [d3 _ _ (by omega) (by omega)]; exact e91 e
    · refine clR_of d1 (mU_fr a2 (fun a e q => d3 a e (by omega) (by omega))) ⟨by rw [d3 _ _ (by omega) (by omega)]; exact a5.1, fun i hi => by rw [d3 _ _ (by omega) (by omega)]; exact a5.2.1 i hi, fun h' hh => by rw [d3 _ _ (by omega) (by omega)]; exact a5.2.2.1 h' hh, a5.2.2.2.1, gPg_fr a5.2.2.2.2 (fun e => d3 _ _ (by omega) (by omega))⟩ (by omega) (by simp; omega) d2
    · have := pk_pos a1.2.1.1 (show pk1 tx p1 ≠ 0 by omega)
      omega
    · rw [hy_uk (by decide), hy_ua (by decide)]; exact e19
    · rw [hy_uk (by decide), hy_ua (by decide)]; exact e27
    · rw [hy_ua (by decide), hy_ua (by decide)]; exact e91 e
  · exact ⟨fun _ => out w a1 a2, fun _ => ⟨fun _ => out w a1 a2, fun q => by omega⟩⟩
end NA
