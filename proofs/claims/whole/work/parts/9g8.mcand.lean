/-! THE MODEL'S CANDIDATES -/
section ML
variable {E : qE} {ss : List Nat} {m m' : hy_m} {T : List Nat} {B B' : bM} {s s' : Nat → pE} {A : qA} {Q : Int → hy_m → Prop} {N : Nat}
/-- kinds and keys are those of the resolved tree -/
theorem eK_sb {t : pE} (s : Nat → pE) (hn : ∀ w : Nat, t ≠ .var w) (hl : ∀ k b, t = .mulL k b → isL b) : eKd (sb s t) = eKd t ∧ eKy (sb s t) = eKy t := by
  cases t with
  | var w => exact absurd rfl (hn w)
  | num i => exact ⟨rfl, rfl⟩
  | mulL k b =>
    have h := (isL_sbL s b (hl k b rfl)).2
    refine ⟨?_, ?_⟩
    · show (if eN (sb s b) = 0 then (3 : Int) else 4) = if eN b = 0 then 3 else 4
      rw [h]
    · show kC k (eN (sb s b)) = kC k (eN b)
      rw [h]
  | add a r => exact ⟨rfl, rfl⟩
  | sub a r => exact ⟨rfl, rfl⟩
  | neg a => exact ⟨rfl, rfl⟩
  | mulR a k => exact ⟨rfl, rfl⟩
/-- what the first argument of a goal comes to: kind and key -/
def fst1 (b t' : pE) (z : Int × Int) : Prop := (eN b = 0 ∧ z = (0, 0)) ∨ (0 < eN b ∧ z = (eKd t', eKy t'))
theorem fk_first {k : Int} {b : pE} (hl : isL b) (hn : eN b ≠ 0) : fk (.mulL k b) = eKd (eAr b 0) ∧ fy (.mulL k b) = eKy (eAr b 0) := by
  cases b with
  | num i => exact absurd rfl hn
  | add x r => exact ⟨rfl, rfl⟩
  | var v => exact hl.elim
  | mulL k a => exact hl.elim
  | sub a r => exact hl.elim
  | neg a => exact hl.elim
  | mulR a k => exact hl.elim
theorem fk_none {k : Int} {b : pE} (hl : isL b) (hn : eN b = 0) : fk (.mulL k b) = 0 ∧ fy (.mulL k b) = 0 := by
  cases b with
  | num i => exact ⟨rfl, rfl⟩
  | add x r => exact absurd hn (Nat.succ_ne_zero _)
  | var v => exact hl.elim
  | mulL k a => exact hl.elim
  | sub a r => exact hl.elim
  | neg a => exact hl.elim
  | mulR a k => exact hl.elim
theorem eSim_iff {G : Nat → Nat → Prop} {x y : Int} {t u : pE} (ht : mTm G m x t) (hu : mTm G m y u) (n1 : ∀ w : Nat, t ≠ .var w) (n2 : ∀ w : Nat, u ≠ .var w) : eSim t u ↔ eKd t = eKd u ∧ eKy t = eKy u := by
  cases t with
  | var w => exact absurd rfl (n1 w)
  | num i =>
    cases u with
    | var w => exact absurd rfl (n2 w)
    | num j => exact ⟨fun q => ⟨rfl, q⟩, fun q => q.2⟩
    | mulL k b =>
      refine ⟨fun q => q.elim, fun q => ?_⟩
      have q1 : (2 : Int) = if eN b = 0 then 3 else 4 := q.1
      split at q1 <;> exact absurd q1 (by decide)
    | add a r => exact (mTm_nadd hu).elim
    | sub a r => exact (mTm_nsub hu trivial).elim
    | neg a => exact (mTm_nsub hu trivial).elim
    | mulR a k => exact (mTm_nsub hu trivial).elim
  | mulL k b =>
    cases u with
    | var w => exact absurd rfl (n2 w)
    | num j =>
      refine ⟨fun q => q.elim, fun q => ?_⟩
      have q1 : (if eN b = 0 then (3 : Int) else 4) = 2 := q.1
      split at q1 <;> exact absurd q1 (by decide)
    | mulL k' b' =>
      constructor
      · intro q
        obtain ⟨q1, q2⟩ := q
        refine ⟨?_, ?_⟩
        · show (if eN b = 0 then (3 : Int) else 4) = if eN b' = 0 then 3 else 4
          rw [q2]
        · show kC k (eN b) = kC k' (eN b')
          rw [q1, q2]
      · intro q
        exact kC_inj (mTm_nm ht).1 (mTm_nm hu).1 (mTm_L ht).2 (mTm_L hu).2 q.2
    | add a r => exact (mTm_nadd hu).elim
    | sub a r => exact (mTm_nsub hu trivial).elim
    | neg a => exact (mTm_nsub hu trivial).elim
    | mulR a k => exact (mTm_nsub hu trivial).elim
  | add a r => exact (mTm_nadd ht).elim
  | sub a r => exact (mTm_nsub ht trivial).elim
  | neg a => exact (mTm_nsub ht trivial).elim
  | mulR a k => exact (mTm_nsub ht trivial).elim
/-- isFitting -/
theorem sp_258 {G : Nat → Nat → Prop} {c : Nat} {x y k : Int} {b t' : pE} (hP : mPr E ss m) (h20 : E.1.length ≤ 20) (hc : c < E.1.length) (ht : mTm G m x (.mulL k b)) (hy : eN b = 0 ∧ y = mF 0 ∨ 0 < eN b ∧ mTm G m y t' ∧ ((∃ w : Nat, w < 2500 ∧ y = mF w ∧ t' = .var w) ∨ ((∀ w : Nat, t' ≠ .var w) ∧ ∀ w : Nat, w < 2500 → y ≠ mF w))) {kf zf : Int} (hf : eN b = 0 ∧ kf = 0 ∧ zf = 0 ∨ 0 < eN b ∧ kf = eKd t' ∧ zf = eKy t') (hq : Q (if cdB E.1 (kC k (eN b)) kf zf c = true then 1 else 0) m) : wq_258 (c : Int) x y m Q := by
  obtain ⟨sl, z1, z2, z3, z4, z5, z6, z7⟩ := mPr_cl hP hc
  obtain ⟨g82, g84, gg, gh⟩ := clR_g z4 (by omega)
  have hhN := gh E.1[c].1 rfl
  obtain ⟨hgo, k', a, hhd, -⟩ := z5.2.1 E.1[c].1 rfl
  rw [hhd] at hhN hgo
  have h81 := rP_A hhN
  obtain ⟨n, p, rfl, hn, hp7, hp8⟩ : ∃ n p : Nat, x = mQ n p ∧ n < 3584 ∧ m 77 (n : Int) = k ∧ m 78 (n : Int) = (eN b : Nat) := by
    rcases ht with ⟨v, hv, rfl, e⟩ | ⟨i, hi, rfl, e⟩ | ⟨n, p, nv, u, rfl, hn, hnv, hp, hr, hk, e, hG⟩
    · cases e
    · cases e
    · cases u with
      | mulL k' a =>
        have e : (.mulL k b : pE) = .mulL k' (sb (fun v => .var (p + v)) a) := e
        injection e with e1 e2
        subst e1
        subst e2
        refine ⟨n, p, rfl, hn, hr.2.2.1, ?_⟩
        rw [eN_sb _ a nv hk.2.2.2.2.2]
        exact hr.2.2.2.1
      | _ => cases e
  have hL := mTm_L ht
  have hNm := (mTm_nm ht).1
  have hE? : E.1[c]? = some E.1[c] := List.getElem?_eq_getElem hc
  have h7 : m 77 (m 81 (sl : Int)) = k' := hhN.2.2.1
  have h8 : m 78 (m 81 (sl : Int)) = (eN a : Nat) := hhN.2.2.2.1
  have hcd : cdB E.1 (kC k (eN b)) kf zf c = (decide (kC k' (eN a) = kC k (eN b)) && cm kf zf (fk (.mulL k' a)) (fy (.mulL k' a))) := by
    unfold cdB
    rw [hE?]
    dsimp only
    rw [hhd]
    rfl
  have hka := hgo.2.2.2.2.2
  have hla : isL a := by
    have := isL_sb (fun v => .var v) a _ hka
    rw [sb_var] at this
    exact this
  unfold wq_258
  refine sp_206 (by omega) z3 ⟨by omega, by omega, h81.1, h81.2, sp_232Q hn ⟨by omega, by omega, ?_⟩⟩
  rw [h7, hp7]
  refine ⟨fun hne => ?_, fun heq => ⟨h81.1, h81.2, sp_232Q hn ⟨by omega, by omega, ?_⟩⟩⟩
  · rw [hcd, decide_eq_false (fun q => hne (kC_inj hgo.2.1 hNm hgo.2.2.1 hL.2 q).1), Bool.false_and, if_neg (by decide)] at hq
    exact hq
  · rw [h8, hp8]
    refine ⟨fun h9 => ⟨h81.1, h81.2, ?_⟩, fun h9 => ?_⟩
    · have hab : eN a = eN b := by omega
      have hd : decide (kC k' (eN a) = kC k (eN b)) = true := decide_eq_true (by rw [heq, hab])
      rw [hcd, hd, Bool.true_and] at hq
      refine ⟨fun h0 => ?_, fun h0 => ?_⟩
      · have hb0 : eN b = 0 := by omega
        rcases hf with ⟨-, f1, f2⟩ | ⟨f0, -⟩
        · rw [f1] at hq
          unfold cm at hq
          rw [decide_eq_true (show (0 : Int) ≤ 1 by decide), Bool.true_or, Bool.true_or, if_pos rfl] at hq
          exact hq
        · omega
      · have hb0 : 0 < eN b := by omega
        rcases hy with ⟨q, -⟩ | ⟨-, hy1, hy2⟩
        · omega
        rcases hf with ⟨q, -⟩ | ⟨-, f1, f2⟩
        · omega
        have hfirst := fk_first (k := k') hla (by omega)
        have har := rP_ar a 0 0 _ hhN.2.2.2.2.2.2 hka (by omega)
        rw [show 3 * m 81 (sl : Int) + ((0 + 0 : Nat) : Int) = 3 * m 81 (sl : Int) by omega] at har
        have har1 := rP_A har
        have hke := (eAr_sb (fun v => .var v) a _ 0 hka (by omega)).2
        rw [hfirst.1, hfirst.2, f1, f2] at hq
        refine sp_230 hy1 (fun w hw _ e => ⟨fun _ => ?_, fun q => absurd q (by decide)⟩) (fun hnf => ⟨fun q => absurd rfl q, fun _ => ⟨by omega, by omega, har1.1, har1.2, ?_⟩⟩)
        · rw [e] at hq
          unfold cm at hq
          rw [show eKd (.var w) = 1 from rfl, decide_eq_true (show (1 : Int) ≤ 1 by decide), Bool.true_or, Bool.true_or, if_pos rfl] at hq
          exact hq
        · have hnv : ∀ w : Nat, t' ≠ .var w := by
            rcases hy2 with ⟨w, q1, q2, -⟩ | ⟨q, -⟩
            · exact absurd q2 (hnf w q1)
            · exact q
          have e76 := rP_kd har
          rw [e76]
          have hkt : 1 < eKd t' := by
            cases t' with
            | var w => exact absurd rfl (hnv w)
            | num i => show (1 : Int) < 2; decide
            | mulL k b => show (1 : Int) < if eN b = 0 then 3 else 4; split <;> decide
            | add a r => exact (mTm_nadd hy1).elim
            | sub a r => exact (mTm_nsub hy1 trivial).elim
            | neg a => exact (mTm_nsub hy1 trivial).elim
            | mulR a k => exact (mTm_nsub hy1 trivial).elim
          refine ⟨fun h1 => ⟨by omega, by omega, ?_⟩, fun h1 => ?_⟩
          · have hnv2 : ∀ w : Nat, eAr a 0 ≠ .var w := fun w q => h1 (by rw [q]; rfl)
            have hku : 1 < eKd (eAr a 0) := by
              revert h1 hke hnv2
              generalize eAr a 0 = u
              intro hke _ h1
              cases u with
              | var w => exact absurd rfl (h1 w)
              | num i => show (1 : Int) < 2; decide
              | mulL k b => show (1 : Int) < if eN b = 0 then 3 else 4; split <;> decide
              | add a r => exact absurd hke.1 (by decide)
              | sub a r => exact hke.elim
              | neg a => exact hke.elim
              | mulR a k => exact hke.elim
            have hu0 : mTm (fun _ _ => True) m (4096 * 2490 + m 79 (3 * m 81 (sl : Int))) (rn 2490 (eAr a 0)) := by
              obtain ⟨z, hz⟩ := Int.eq_ofNat_of_zero_le har1.1
              rw [hz] at har har1 ⊢
              exact Or.inr (Or.inr ⟨z, 2490, E.1[c].2.2, eAr a 0, rfl, by have := har1.2; omega, z5.1, by have := z5.1; omega, har, hke, rfl, trivial⟩)
            have hy0 : mTm (fun _ _ => True) m y t' := mTm_G (fun _ _ _ => trivial) hy1
            have hnv3 : ∀ w : Nat, rn 2490 (eAr a 0) ≠ .var w := by
              intro w
              revert hnv2
              generalize eAr a 0 = u
              intro hnv2 q
              cases u with
              | var v => exact absurd rfl (hnv2 v)
              | _ => cases q
            have hkd : eKd (rn 2490 (eAr a 0)) = eKd (eAr a 0) ∧ eKy (rn 2490 (eAr a 0)) = eKy (eAr a 0) := by
              refine eK_sb _ hnv2 (fun k b e => ?_)
              rw [e] at hke
              have := isL_sb (fun v => .var v) b _ hke.2.2.2.2.2
              rw [sb_var] at this
              exact this
            have hsim := eSim_iff hy0 hu0 hnv hnv3
            rw [hkd.1, hkd.2] at hsim
            have hcm : cm (eKd t') (eKy t') (eKd (eAr a 0)) (eKy (eAr a 0)) = decide (eKd t' = eKd (eAr a 0) ∧ eKy t' = eKy (eAr a 0)) := by
              unfold cm
              rw [decide_eq_false (by omega), decide_eq_false (by omega), Bool.false_or, Bool.false_or, Bool.decide_and]
            rw [hcm] at hq
            unfold wq_234
            refine ⟨show -9223372036854775808 ≤ _ ∧ _ < 9223372036854775808 by have := har1.1; have := har1.2; omega, sp_245 hy0 hu0 hnv hnv3 (fun q => ?_) (fun q => ?_)⟩
            · rw [decide_eq_true (hsim.mp q), if_pos rfl] at hq
              exact hq
            · rw [decide_eq_false (fun z => q (hsim.mpr z)), if_neg (by decide)] at hq
              exact hq
          · unfold cm at hq
            rw [h1, decide_eq_true (show (1 : Int) ≤ 1 by decide), Bool.or_true, Bool.true_or, if_pos rfl] at hq
            exact hq
    · rw [hcd, decide_eq_false (fun q => h9 (by have := (kC_inj hgo.2.1 hNm hgo.2.2.1 hL.2 q).2; omega)), Bool.false_and, if_neg (by decide)] at hq
      exact hq
end ML
