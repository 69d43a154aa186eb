/-! THE MODEL'S PARSER: a term begins -/
/-- behind a step of the parser, begun in the state s0: a term is complete, a compound is open, or the text is wrong -/
def tO (m m' : hy_m) (tx : List Int) (qy : Bool) (sl : Nat) (s0 : pS) (hd : Option pE) (gs : List pE) (K : List (pE × Int)) (p0 : Nat) (r : Int) : Prop := pFr m m' sl ∧
  ((∃ (c : Nat) (vs : List Int) (stk : List pF) (css : List (List Int)) (t : pE) (nm : Bool) (p : Nat), r ≠ -9 ∧ mS m' tx sl c vs stk css ((t, r) :: K) p ∧ mU m' sl c ((t, r) :: K) stk ∧ (nm = true → pk1 tx p ≠ 6) ∧ (∀ R, pRun tx qy s0 R ↔ pRun tx qy (3, vs, hd, gs, t, nm, stk, p) R) ∧ c + fCn stk ≤ p ∧ stk.length ≤ p ∧ p0 < p) ∨
  (∃ (c : Nat) (vs : List Int) (stk : List pF) (css : List (List Int)) (p : Nat), r = -9 ∧ mS m' tx sl c vs stk css K p ∧ mU m' sl c K stk ∧ stk ≠ [] ∧ (∀ R, pRun tx qy s0 R ↔ pRun tx qy (1, vs, hd, gs, eNil, false, stk, p) R) ∧ c + fCn stk ≤ p ∧ stk.length ≤ p ∧ p0 < p) ∨
  (∃ w : Nat, m' 74 18 = w ∧ pRun tx qy s0 (.inl w) ∧ mPg m' sl))
theorem pk_pos {tx : List Int} {p : Nat} (h : p ≤ tx.length) (h0 : pk1 tx p ≠ 0) : p < pnx tx p := by
  have h1 := (pnx_ok h).2
  have h2 : 1 ≤ (tk (tx.drop p)).2 := tk_pos _ (fun e => h0 (by unfold pk1; rw [e]; rfl))
  omega
section MB
variable {m : hy_m} {tx : List Int} {sl c : Nat} {vs : List Int} {stk : List pF} {css : List (List Int)} {K : List (pE × Int)} {p : Nat} {Q : Int → hy_m → Prop} {qy : Bool} {hd : Option pE} {gs : List pE}
theorem pFr_18 (m : hy_m) (sl : Nat) (v : Int) : pFr m (hy_u m 74 18 v) sl := fun a e h1 _ _ _ _ _ _ _ => if_neg (fun q => h1 ⟨q.1, by omega⟩)
/-- a name: isHead x tells whether a built in one is refused; s0 goes to the sign behind it, unless it is refused -/
theorem sp_187 {x : Int} (s0 : pS) (h : mS m tx sl c vs stk css K p) (hU : mU m sl c K stk) (hk : pk1 tx p = 1) (hcr : c + fCn stk ≤ p) (hdp : stk.length ≤ p) (hx : x = 0 ∨ x = 1) (hs0 : ¬ (x = 1 ∧ bBi (pwd tx p) 0 = true ∧ pk1 tx (pnx tx p) ≠ 6) → pSt tx qy s0 = .inl (3, vs, hd, gs, eA (pwd tx p), true, stk, pnx tx p)) (hs1 : x = 1 ∧ bBi (pwd tx p) 0 = true ∧ pk1 tx (pnx tx p) ≠ 6 → pSt tx qy s0 = .inr (.inl p)) (hq : ∀ r m', tO m m' tx qy sl s0 hd gs K p r → Q r m') : wq_187 x m Q := by
  have hT := h.1
  have hC := h.2.1
  have hpl : p ≤ 120 := Nat.le_trans hC.1 hT.2.1
  have hp1 := pk_pos hC.1 (by rw [hk]; decide)
  have hp2 := (pnx_ok hC.1).1
  have hp2' : pnx tx p ≤ 120 := Nat.le_trans hp2 hT.2.1
  have h17 : m 74 17 = pwd tx p := hC.2.2.2.2.1 (Or.inl hk)
  unfold wq_187
  rw [h17, hC.2.1]
  refine sp_next hT hC (fun m1 g1 g2 g3 => ?_)
  obtain ⟨hS1, hF1⟩ := mS_next h g1 g2 g3
  have hU1 : mU m1 sl c K stk := mU_fr hU (fun a e q => g3 a e (by omega))
  have h4 := hS1.2.2.2.1
  obtain ⟨hS2, hF2, hA⟩ := mS_node 3 (pwd tx p) hS1 (by omega)
  have hU2 := mU_nd0 (k := 3) (pwd tx p) hU1 (by decide)
  have hv := mNd_v m1 sl c 3 (pwd tx p)
  have hC2 := hS2.2.1
  refine sp_181 h4.2.1 h4.2.2.1 h4.2.2.2.1 (by omega) ⟨fun hne => ?_, fun heq => ?_⟩
  · have hne6 : pk1 tx (pnx tx p) ≠ 6 := by rw [← hC2.2.2.1]; exact hne
    have good : ¬ (x = 1 ∧ bBi (pwd tx p) 0 = true ∧ pk1 tx (pnx tx p) ≠ 6) → Q (128 * (sl : Int) + c) (mNd m1 sl c 3 (pwd tx p)) := by
      intro hno
      refine hq _ _ ⟨hF1.trans hF2, Or.inl ⟨c + 1, vs, stk, css, eA (pwd tx p), true, pnx tx p, by omega, ?_, mU_add hU2 (fun v => rfl), fun _ => hne6, fun R => pRun_s tx qy (hs0 hno) R, by omega, by omega, hp1⟩⟩
      refine ⟨hS2.1, hS2.2.1, hS2.2.2.1, hS2.2.2.2.1, hS2.2.2.2.2.1, hS2.2.2.2.2.2.1, fun q hqm => ?_⟩
      rcases List.mem_cons.mp hqm with rfl | hqm
      · exact ⟨rfl, hA, hv.2.1, hv.2.2.1, hv.1, Nat.zero_le _, Or.inr ⟨Int.le_refl 0, rfl⟩⟩
      · exact hS2.2.2.2.2.2.2 q hqm
    refine ⟨fun h0 => good (fun q => by omega), fun h1 => sp_184 (n := 0) (fun hb => ⟨fun q => by omega, fun _ => ?_⟩) (fun hb => ⟨fun _ => good (fun q => by rw [hb] at q; exact absurd q.2.1 (by decide)), fun q => by omega⟩)⟩
    refine hq _ _ ⟨(hF1.trans hF2).trans (pFr_18 _ _ _), Or.inr (Or.inr ⟨p, hy_us _ _ _ _, pRun_e tx qy (hs1 ⟨by omega, hb, hne6⟩), mPg_fr hU2.2 (fun e => hy_ua (by decide))⟩)⟩
  · have heq6 : pk1 tx (pnx tx p) = 6 := by rw [← hC2.2.2.1]; exact heq
    have hno : ¬ (x = 1 ∧ bBi (pwd tx p) 0 = true ∧ pk1 tx (pnx tx p) ≠ 6) := fun q => q.2.2 heq6
    obtain ⟨hS3, hF3⟩ := mS_openA (pwd tx p) hS1 (by omega) (by omega)
    refine sp_185 (d := stk.length) ?_ (by omega) ?_
    · rw [mNd_r m1 sl c 3 (pwd tx p) _ _ (by omega) (by omega)]
      exact h4.2.2.2.2
    have hp3 := pk_pos hp2 (by rw [heq6]; decide)
    refine sp_next hS3.1 hS3.2.1 (fun m4 k1 k2 k3 => ?_)
    obtain ⟨hS4, hF4⟩ := mS_next hS3 k1 k2 k3
    have hU4 : mU m4 sl (c + 1) K ((0, pwd tx p, []) :: stk) := by
      have g : mU (mNd m1 sl c 3 (pwd tx p)) sl (c + 1) K ((0, pwd tx p, []) :: stk) := ⟨fun v => (hU2.1 v).trans (by show _ = oK K v + (0 + oF stk v); omega), hU2.2⟩
      exact mU_fr (mU_fr g (m' := mPs (mNd m1 sl c 3 (pwd tx p)) stk.length 0 (128 * (sl : Int) + c)) (fun a e q => mPs_r _ _ _ _ _ _ (by omega) (by omega))) (fun a e q => k3 a e (by omega))
    refine hq _ _ ⟨(hF1.trans hF3).trans hF4, Or.inr (Or.inl ⟨c + 1, vs, (0, pwd tx p, []) :: stk, _, pnx tx (pnx tx p), rfl, hS4, hU4, by simp, fun R => ?_, ?_, ?_, by omega⟩)⟩
    · rw [pRun_s tx qy (hs0 hno) R]
      refine pRun_s tx qy ?_ R
      unfold pSt
      dsimp only
      rw [if_neg (by decide), if_neg (by decide), if_neg (by decide), if_pos ⟨rfl, heq6⟩]
      rfl
    · show c + 1 + ((if (0 : Nat) = 1 then 1 else 0) + fCn stk) ≤ _
      rw [if_neg (by decide)]
      omega
    · simp only [List.length_cons]
      omega
end MB
