/-! THE MODEL CALLS A GOAL: each kind of goal -/
/-- numbers of a tree are ints -/
def nmR : pE → Prop
  | .num i => hy_r 0 i
  | .mulL _ a => nmR a
  | .add a r => nmR a ∧ nmR r
  | _ => True
theorem nmR_sb {s : Nat → pE} : ∀ t : pE, nmR t → (∀ x, vIn x t → nmR (s x)) → nmR (sb s t)
  | .var x, _, h => h x rfl
  | .num _, h, _ => h
  | .mulL _ a, h, hs => nmR_sb a h hs
  | .add a r, h, hs => ⟨nmR_sb a h.1 (fun x hx => hs x (Or.inl hx)), nmR_sb r h.2 (fun x hx => hs x (Or.inr hx))⟩
  | .sub _ _, _, _ => trivial
  | .neg _, _, _ => trivial
  | .mulR _ _, _, _ => trivial
theorem nmR_K {nv : Nat} : ∀ (t : pE) (b : Bool), eK nv t b → nmR t
  | .var _, _, _ => trivial
  | .num i, b, h => by
    have h : if b = true then i = 0 else 0 ≤ i ∧ i < 1000000 := h
    show -2147483648 ≤ i ∧ i < 2147483648
    split at h <;> omega
  | .mulL _ a, _, h => nmR_K a true h.2.2.2.2.2
  | .add a r, _, h => ⟨nmR_K a false h.2.1, nmR_K r true h.2.2⟩
  | .sub _ _, _, _ => trivial
  | .neg _, _, _ => trivial
  | .mulR _ _, _, _ => trivial
theorem nmR_B {B : bM} {s : Nat → pE} (hR : Res B s) (hB : ∀ x t, B x = some t → nmR t) : ∀ x, nmR (s x) := by
  refine hR.ind (fun x ih => ?_)
  cases h : B x with
  | none =>
    rw [(hR x).1 h]
    exact trivial
  | some t =>
    rw [((hR x).2 t h).1]
    exact nmR_sb t (hB x t h) (ih t h)
theorem ev0_r : ∀ (t : pE) (v : Int), nmR t → ev0 t = some v → hy_r 0 v := by
  intro t
  unfold ev0
  intro v hn h
  split at h
  · injection h with h
    rw [← h]
    exact hn
  · split at h
    · cases h
    · split at h
      · injection h with h
        rw [← h]
        exact iI_r _
      · cases h
  · cases h
theorem eAr_L (s : Nat → pE) : ∀ (b : pE) (j : Nat), isL b → j < eN b → eAr (sb s b) j = sb s (eAr b j)
  | .num _, j, _, h => absurd h (Nat.not_lt_zero _)
  | .add x r, 0, _, _ => rfl
  | .add x r, j + 1, hl, hj => eAr_L s r j hl (Nat.lt_of_succ_lt_succ hj)
  | .var _, _, h, _ => h.elim
  | .mulL _ _, _, h, _ => h.elim
  | .sub _ _, _, h, _ => h.elim
  | .neg _, _, h, _ => h.elim
  | .mulR _ _, _, h, _ => h.elim
theorem eCa_sb {t : pE} (s : Nat → pE) (hn : ∀ w : Nat, t ≠ .var w) : eCa (sb s t) = eCa t := by
  cases t with
  | var w => exact absurd rfl (hn w)
  | _ => rfl
section MP
variable {E : qE} {ss : List Nat} {m m' : hy_m} {T : List Nat} {B B' : bM} {s s' : Nat → pE} {A A' : qA} {Q : Int → hy_m → Prop} {N K R : Nat} {x k : Int} {b : pE}
theorem mTm_nmR {G : Nat → Nat → Prop} {t : pE} (h : mTm G m x t) : nmR t := by
  rcases h with ⟨v, hv, rfl, rfl⟩ | ⟨i, hi, rfl, rfl⟩ | ⟨n, p, nv, u, rfl, hn, hnv, hp, hr, hk, rfl, hG⟩
  · exact trivial
  · exact hi
  · exact nmR_sb u (nmR_K u false hk) (fun _ _ => trivial)
theorem mBd_nmR {G : Nat → Nat → Prop} {D : Nat → Prop} (hB : mBd G m D B) (hR : Res B s) : ∀ x, nmR (s x) := by
  refine nmR_B hR (fun x t e => ?_)
  by_cases c : D x
  · rcases ((hB x).1 c).2 with ⟨q, -⟩ | ⟨t', q1, q2, q3, q4⟩
    · rw [e] at q
      cases q
    · rw [e] at q1
      injection q1 with q1
      rw [q1]
      exact mTm_nmR q3
  · rw [(hB x).2 c] at e
    cases e
/-- mayCall -/
theorem sp_261 {G : Nat → Nat → Prop} {t : pE} (h : mTm G m x t) (hq : Q (if eCa t = true then 1 else 0) m) : wq_261 x m Q := by
  unfold wq_261
  refine sp_238 h ?_
  cases t with
  | mulL k b =>
    obtain ⟨n, p, rfl, hn, h77, h78⟩ := mTm_mul h
    obtain ⟨-, n1, n2⟩ := mTm_nm h
    have ek : eKd (.mulL k b) = if eN b = 0 then 3 else 4 := rfl
    have ec : eCa (.mulL k b) = (decide (k ≠ 1) && decide (k ≠ 2)) := rfl
    rw [ec] at hq
    rw [ek]
    by_cases c : eN b = 0
    · rw [if_pos c]
      refine ⟨fun _ => sp_238 h ?_, fun q => absurd q (by decide)⟩
      rw [ek, if_pos c]
      refine ⟨fun q => absurd rfl q, fun _ => sp_232Q hn ⟨by omega, by omega, ?_⟩⟩
      rw [h77]
      have k2 : k ≠ 2 := fun q => by have := n2 q; omega
      rw [decide_eq_true k2, Bool.and_true] at hq
      refine ⟨fun q => ?_, fun q => ?_⟩
      · rw [decide_eq_false (fun z => z q), if_neg (by decide)] at hq
        exact hq
      · rw [decide_eq_true q, if_pos rfl] at hq
        exact hq
    · rw [if_neg c]
      refine ⟨fun q => absurd rfl q, fun _ => sp_232Q hn ⟨by omega, by omega, ?_⟩⟩
      rw [h77]
      have k1 : k ≠ 1 := fun q => c (n1 q)
      rw [decide_eq_true k1, Bool.true_and] at hq
      refine ⟨fun q => ?_, fun q => ?_⟩
      · rw [decide_eq_false (fun z => z q), if_neg (by decide)] at hq
        exact hq
      · rw [decide_eq_true q, if_pos rfl] at hq
        exact hq
  | var w => exact ⟨fun _ => sp_238 h ⟨fun _ => hq, fun q => absurd q (by show ¬ ((1 : Int) = 3); decide)⟩, fun q => absurd q (by show ¬ ((1 : Int) = 4); decide)⟩
  | num i => exact ⟨fun _ => sp_238 h ⟨fun _ => hq, fun q => absurd q (by show ¬ ((2 : Int) = 3); decide)⟩, fun q => absurd q (by show ¬ ((2 : Int) = 4); decide)⟩
  | add a r => exact (mTm_nadd h).elim
  | sub a r => exact (mTm_nsub h trivial).elim
  | neg a => exact (mTm_nsub h trivial).elim
  | mulR a k => exact (mTm_nsub h trivial).elim
/-- callsUser -/
theorem sp_260 (hK : K + 14472000 < 4294967295) (hR : R + 18020 < 999999990) (h01 : qn A 0 = 1) (hO : qOJ E A 1) (hS : mSe E ss m A) (ht : mTm (mG E ss m (qi A)) m x (.mulL k b)) (hv : ∀ w, vIn w (.mulL k b) → w < tot E (qi A)) (hc : eCa (.mulL k b) = true) (hM : mRd m (K + 2411 * qn A 4) (R + 3 * qn A 4)) (h : mOut E ss m (qusr E A k (sb (qs A) b)) K R Q) : wq_260 x m Q := by
  have hS' := hS
  obtain ⟨hP, hN, ⟨h42, h51, hch⟩, B, T, hD, hRes, hTl⟩ := hS
  have h20 := hO.2.2.2.2.2.2.2.2
  have hl : lOK E (qi A) := hO.2.2.1
  obtain ⟨hln, hlc, h4, h8⟩ := hO.len
  have hLL := mTm_L ht
  have h59 := hD.2.2.2.2.2
  unfold wq_260
  refine sp_259 hP h20 (mG_C hP hl) hD.1 hRes ht hv (fun y hb => ⟨fun hne => ?_, fun h0 => ?_⟩)
  · cases hcl : qcand E (.mulL k (sb (qs A) b)) with
    | nil =>
      rw [hcl] at hb
      exact absurd ((bS_z hb).mpr (fun v _ => decide_eq_false (fun q => by cases q))) hne
    | cons c L =>
      have e : qusr E A k (sb (qs A) b) = qbk E (qadd A (some (.mulL k (sb (qs A) b))) (c :: L)) := by unfold qusr; rw [hcl]
      rw [e] at h
      have hpw := qcand_p (E := E) (g := .mulL k (sb (qs A) b))
      have hlt := qcand_l (E := E) (g := .mulL k (sb (qs A) b))
      have hnn := qcand_n (E := E) (g := .mulL k (sb (qs A) b))
      rw [hcl] at hpw hlt hnn hb
      obtain ⟨b1, b2, b3⟩ := bS_hd hb hpw (fun v q => by have := hlt v q; omega)
      obtain ⟨a1, a2, a3⟩ := qadd_fl (g := some (.mulL k (sb (qs A) b))) (L := c :: L) hO ⟨(fun q => by cases q), (fun q => by cases q)⟩ hpw hlt (by omega)
      have hF2 : qFl E (qadd A (some (.mulL k (sb (qs A) b))) (c :: L)) := ⟨a1, hO.2.2.1, a2, a3, hO.2.2.2.2.2.2.2.1, h20, hO.fl.2.2.2.2.2.2⟩
      have heq : qh (qadd A (some (.mulL k (sb (qs A) b))) (c :: L)) = (some (.mulL k (sb (qs A) b)), c :: L, qp A, ((qi A).length, qn A 7, qn A 8), qs A) :: qh A := rfl
      obtain ⟨hpr, hc0⟩ := qrest_pr (g := .mulL k (sb (qs A) b)) hF2 heq rfl
      have hbt := qback_try (E := E) (n := qpot (qadd A (some (.mulL k (sb (qs A) b))) (c :: L))) heq rfl rfl
      rw [qrest_add] at hpr hbt
      have hkeys : ∀ z ∈ c :: L, ∃ cl, E.1[z]? = some cl ∧ eKy cl.1 = eKy (.mulL k (sb (qs A) b)) := by
        intro z hz
        rw [← hcl] at hz
        unfold qcand at hz
        have hz2 := (List.mem_filter.mp hz).2
        unfold cdB at hz2
        split at hz2
        · rename_i cl hcl2
          rw [Bool.and_eq_true, decide_eq_true_eq] at hz2
          exact ⟨cl, hcl2, hz2.1⟩
        · cases hz2
      have hky : eKy E.1[c].1 = eKy (.mulL k (sb (qs A) b)) := by
        obtain ⟨cl, q1, q2⟩ := hkeys c (List.mem_cons_self ..)
        rw [List.getElem?_eq_getElem hc0] at q1
        injection q1 with q1
        rw [q1]
        exact q2
      have hmf : mFg E ss m (qi A) (qs A) x (.mulL k (sb (qs A) b)) := by
        refine ⟨.mulL k b, ht, hv, ⟨hc, ?_⟩, fun v q => ?_⟩
        · show kC k (eN b) = kC k (eN (sb (qs A) b))
          rw [(isL_sbL (qs A) b hLL.1).2]
        · have := SolS_t q (.mulL k b)
          exact this.symm
      -- behind the new choice, if there is one
      have go : ∀ m3 : hy_m, sFr m m3 → mRd m3 (K + 2411 * qn A 4) (R + 3 * qn A 4) → mSe E ss m3 (qcs A (qmore (some (.mulL k (sb (qs A) b)), c :: L, qp A, ((qi A).length, qn A 7, qn A 8), qs A) L (qh A))) → wq_260_51 x (m 74 59) (c : Int) m3 Q := by
        intro m3 hs3 hM3 hse3
        have e4 := qtry_4 (E := E) (A := qcs A (qmore (some (.mulL k (sb (qs A) b)), c :: L, qp A, ((qi A).length, qn A 7, qn A 8), qs A) L (qh A))) (c := c) (g := .mulL k (sb (qs A) b)) (cut := (qh A).length)
        have ho := qtry_ok (g := .mulL k (sb (qs A) b)) hpr hc0
        have hh := qtry_h (E := E) (A := qcs A (qmore (some (.mulL k (sb (qs A) b)), c :: L, qp A, ((qi A).length, qn A 7, qn A 8), qs A) L (qh A))) (c := c) (g := .mulL k (sb (qs A) b)) (cut := (qh A).length)
        unfold wq_260_51
        rw [h59]
        refine sp_255 hpr hc0 hse3 (mFg_rw hs3.rw hmf) hky hM3 (by omega) (by omega) (fun m4 q1 q2 q3 q4 => ⟨fun _ => ?_, fun q => absurd q (by decide)⟩) (fun m4 q1 q2 q3 q4 => ⟨fun q => absurd rfl q, fun _ => ?_⟩)
        · rw [q3, if_pos rfl] at hbt
          have e2 : qbk E (qadd A (some (.mulL k (sb (qs A) b))) (c :: L)) = _ := hbt
          rw [e2] at h
          refine h.1 m4 (hs3.tr q1).s2 (hs3.tr q1).e33 (qtry_0.trans h01) q2 (mRd_le q4 ?_ ?_)
          · rw [e4]; show _ ≤ K + 2411 * (qn A 4 + 1); omega
          · rw [e4]; show _ ≤ R + 3 * (qn A 4 + 1); omega
        · rw [q3, if_neg (by decide)] at hbt
          have e2 : qbk E (qadd A (some (.mulL k (sb (qs A) b))) (c :: L)) = _ := hbt
          rw [e2] at h
          have h2 := (h.tr (hs3.tr q1)).both
          refine sp_257 hK hR ho.fl ?_ q2 (mRd_le q4 ?_ ?_) (fun m' y1 y0 y2 y3 => h2.1 m' y1.s2 y1.e33 (y0.trans (qtry_0.trans h01)) y2 y3) (fun m' A' y1 y2 y3 y4 => h2.2 m' A' 0 y1.s2 y2 (fun _ => y1.e33) (fun q => absurd rfl q) y3 y4)
          · rw [hh]
            exact qpt_more rfl
          · rw [e4]; show _ ≤ K + 2411 * (qn A 4 + 1); omega
          · rw [e4]; show _ ≤ R + 3 * (qn A 4 + 1); omega
      refine b1 _ _ ⟨fun hz => ?_, fun hz => ?_⟩
      · have hL := b3.mp hz
        subst hL
        exact go m sFr.rfl' hM hS'
      · refine sp_253 (p := (qh A).length) h59 (by omega) (fun m3 g1 g2 g3 g4 g5 g6 g7 g8 => go m3 (fun a e q1 q2 => g1 a e (by omega) (by omega)) (mRd_fr hM (g1 _ _ (by omega) (by omega)) (fun e => g1 _ _ (by omega) (by omega)) (g1 _ _ (by omega) (by omega)) (fun e => g1 _ _ (by omega) (by omega))) ?_)
        have hse := add_se (og := some (.mulL k (sb (qs A) b))) (L := L) hO.1 rfl hS' g1 g4 g5 g6 g7 g8 (by
          show bS (m3 106 ((qh A).length : Int)) (fun v => decide (v ∈ L)) ∧ mFg E ss m (qi A) (qs A) (m3 105 ((qh A).length : Int)) (.mulL k (sb (qs A) b)) ∧ _
          rw [g2, g3]
          exact ⟨b2, hmf, fun z hz => hkeys z (List.mem_cons_of_mem _ hz)⟩)
        cases L with
        | nil => exact absurd (b3.mpr rfl) hz
        | cons y L => exact hse
  · have hcl : qcand E (.mulL k (sb (qs A) b)) = [] := by
      cases hcl : qcand E (.mulL k (sb (qs A) b)) with
      | nil => rfl
      | cons c L =>
        have hlt := qcand_l (E := E) (g := .mulL k (sb (qs A) b))
        rw [hcl] at hb hlt
        have := (bS_z hb).mp h0 c (by have := hlt c (List.mem_cons_self ..); omega)
        rw [decide_eq_true (List.mem_cons_self ..)] at this
        cases this
    have e : qusr E A k (sb (qs A) b) = qbk E A := by unfold qusr; rw [hcl]
    rw [e] at h
    exact sp_bk hK hR h01 hO.fl hS'.fl hM h
end MP
