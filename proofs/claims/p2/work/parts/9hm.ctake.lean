/-! THE CLASS'S SEARCH: takeGoal -/
theorem bI_4k {k : Int} {n : Nat} (h : nmOK k) (hn : n ≤ 3) : kC k n = 913097613 ↔ bI k n = 4 := by
  constructor
  · intro e
    rw [← kC_call] at e
    obtain ⟨rfl, rfl⟩ := kC_inj h wOK_call hn (by decide) e
    rfl
  · intro e
    have : n = 1 ∧ k = 209221228 := by
      unfold bI at e
      split at e
      · split at e
        · exact absurd e (by decide)
        · split at e
          · exact absurd e (by decide)
          · split at e <;> exact absurd e (by decide)
      · split at e
        · rename_i q
          exact ⟨rfl, q⟩
        · split at e <;> exact absurd e (by decide)
      · split at e
        · exact absurd e (by decide)
        · split at e
          · exact absurd e (by decide)
          · split at e <;> exact absurd e (by decide)
      · exact absurd e (by decide)
    rw [this.1, this.2]
    exact kC_call
section CTG
variable {E : qE} {l l' TI TI' TL : List Nat} {F : Nat → Prop} {T T' : hy_T} {m m' m1 m2 : hy_m} {Z Z' : cZ} {N N' n u n' u' k n0 u0 K J : Nat} {A A' : qA} {B B' : bM} {s s' : Nat → pE} {Q : sQ} {X : cX} {x : Int} {t : pE}
/-- a state but for cutTo -/
theorem cSe_9 {v : Int} (hS : cSe E F Z N T m A) (hk : ∀ c ∈ qh A, c.2.2.2.1.1 ≤ (qi A).length) : cSe E F Z N T (hy_u m 36 9 v) A ∧ (∀ x t, cTm (zX Z (qi A).length N) m x t → cTm (zX Z (qi A).length N) (hy_u m 36 9 v) x t) ∧ ∀ x t, cTm (zX Z (qi A).length N) (hy_u m 36 9 v) x t → cTm (zX Z (qi A).length N) m x t := by
  have f1 : ∀ (a : Nat) (e : Int), ¬ (a = 36 ∧ e = 9) → hy_u m 36 9 v a e = m a e := fun a e q => hy_uf q
  generalize hy_u m 36 9 v = M at f1
  have hP := hS.1
  have hS2 : cSe E F Z N T M A := cSe_o hS hk (fun a e q1 _ _ => f1 a e (by omega)) rfl rfl rfl (cNm_fr (A := A) hS.2.1 (fun e _ _ => f1 _ _ (by omega)) (fun e => f1 _ _ (by omega)) (fun e => f1 _ _ (by omega)))
  have hFc : ∀ b z, F b → M b z = m b z := fun b z hb => f1 b z (by have := hP.1.2.1 b hb; omega)
  exact ⟨hS2, tE_s hP hS2.1 (Nat.le_refl _) (Nat.le_refl _) (fun _ q => q) hFc (fun _ _ => f1 _ _ (by omega)) (Nat.le_refl _), tE_s hS2.1 hP (Nat.le_refl _) (Nat.le_refl _) (fun _ q => q) (fun b z hb => (hFc b z hb).symm) (fun _ _ => (f1 _ _ (by omega)).symm) (Nat.le_refl _)⟩
/-- behind calls -/
theorem sp_90_76 {cut : Nat} {own0 : Bool} {t0 : pE} {mo : hy_m} (hk : ∀ c ∈ qh A, c.2.2.2.1.1 ≤ (qi A).length) (hso : cSe E F Z N T mo A) (hq1 : ∀ (m' : hy_m) (k : Int) (b : pE) (own' : Bool) (x' : Int), (∀ (a : Nat) (e : Int), ¬ (a = 36 ∧ e = 9) → m' a e = mo a e) → cSe E F Z N T m' A → cTm (zX Z (qi A).length N) m' x' (.mulL k b) → (∀ w, vIn w (.mulL k b) → w < tot E (qi A)) → eCa (.mulL k b) = true → bI k (eN b) ≠ 4 → qcl (sb (qs A) t0) own0 = some (.mulL k (sb (qs A) b), own') → m' 36 9 = (if own' = true then (cut : Int) else (qh A).length) → Q x' (T, n, u, m')) (hq0 : ∀ m' : hy_m, (∀ (a : Nat) (e : Int), ¬ (a = 36 ∧ e = 9) → m' a e = mo a e) → cSe E F Z N T m' A → qcl (sb (qs A) t0) own0 = none → Q (-9) (T, n, u, m')) (h9 : mo 36 9 = (if own0 = true then (cut : Int) else (qh A).length)) (ht : cTm (zX Z (qi A).length N) mo x t0) (hv : ∀ w, vIn w t0 → w < tot E (qi A)) (hc : eCa t0 = true) : wq_90_76 x 0 (T, n, u, mo) Q := by
  unfold wq_90_76
  intro P hP
  have hPr := hso.1
  have hUo := zX_uPr hPr N
  have hcap := hUo.2.1.2.2.1
  have main : ∀ (nn : Nat) (V : List Int) (own : Bool) (t : pE) (x : Int) (m : hy_m), sz (sb (qs A) t) ≤ nn → V.Nodup → (∀ y ∈ V, ∃ (k : Int) (b : pE), cTm (zX Z (qi A).length N) m y (.mulL k b) ∧ eN b ≠ 0 ∧ sz (sb (qs A) t) < sz (sb (qs A) (.mulL k b))) → (∀ (a : Nat) (e : Int), ¬ (a = 36 ∧ e = 9) → m a e = mo a e) → cSe E F Z N T m A → qcl (sb (qs A) t) own = qcl (sb (qs A) t0) own0 → m 36 9 = (if own = true then (cut : Int) else (qh A).length) → cTm (zX Z (qi A).length N) m x t → (∀ w, vIn w t → w < tot E (qi A)) → eCa t = true → P x (V.length : Int) (T, n, u, m) := by
    intro nn
    induction nn with
    | zero => exact fun V own t x m hz => absurd hz (by have := sz_pos (sb (qs A) t); omega)
    | succ nn ih =>
      intro V own t x m hz hV1 hV2 hf hS hqc h9 ht hv hc
      obtain ⟨k, b, rfl⟩ := eCa_k hc
      obtain ⟨n1, n2, n3, -, -⟩ := cTm_nm ht
      have hls := isL_sbL (qs A) b n3
      have hU := zX_uPr hS.1 N
      have hV9 := hU.2.2.2.2.2.1 V hV1 (fun y hy => by
        obtain ⟨k', b', q1, q2, -⟩ := hV2 y hy
        exact ⟨k', b', q1, q2⟩)
      have hVl : V.length ≤ 59 * 302 := Nat.le_trans hV9 (Nat.mul_le_mul_left _ hcap)
      obtain ⟨y3, y5, y8, ych⟩ := hS.2.2.1
      refine hP _ _ _ ?_
      unfold wf_90_76
      dsimp only
      refine ⟨fun q => by omega, fun _ => sp_130 hU.2.1 ht (fun z _ hz => ?_)⟩
      obtain ⟨z1, -, -⟩ := hz k b rfl
      rw [z1]
      refine ⟨fun hne => ?_, fun heq => ?_⟩
      · have h4 : bI k (eN b) ≠ 4 := fun q => hne ((bI_4k n1 n2).mpr q)
        have es : sb (qs A) (.mulL k b) = .mulL k (sb (qs A) b) := rfl
        rw [es, qcl_n hls.1 (by rw [hls.2]; exact h4)] at hqc
        exact hq1 m k b own x hf hS ht hv hc h4 hqc.symm h9
      · have h4 : bI k (eN b) = 4 := (bI_4k n1 n2).mp heq
        have hn1 : eN b = 1 := by
          have e : kC k (eN b) = kC 209221228 1 := heq.trans kC_call.symm
          exact (kC_inj n1 wOK_call n2 (by decide) e).2
        have es : sb (qs A) (.mulL k b) = .mulL k (sb (qs A) b) := rfl
        have e8 : m 36 8 = (qh A).length := by
          obtain ⟨B, TI, hD, -⟩ := hS.2.2.2
          exact hD.2.2.2.2.1
        rw [e8]
        obtain ⟨hS2, m1t, m2t⟩ := cSe_9 (v := ((qh A).length : Int)) hS hk
        have f1 : ∀ (a : Nat) (e : Int), ¬ (a = 36 ∧ e = 9) → hy_u m 36 9 ((qh A).length : Int) a e = m a e := fun a e q => hy_uf q
        have v9 : hy_u m 36 9 ((qh A).length : Int) 36 9 = (qh A).length := hy_us _ _ _ _
        generalize hy_u m 36 9 ((qh A).length : Int) = M at hS2 m1t m2t f1 v9
        have hU2 := zX_uPr hS2.1 N
        obtain ⟨B, TI, hD, hRes, hTI⟩ := hS2.2.2.2
        rw [es, qcl_c hls.1 (by rw [hls.2]; exact hn1) (by rw [hls.2]; exact h4), eAr_L (qs A) b 0 n3 (by omega)] at hqc
        refine sp_132 (j := 0) hU2.2.1 (m1t _ _ ht) (by omega) (fun y hy _ => sp_124 hU2.2.1 hU2.2.2.2.1 hD.1 hRes hy (fun w hw => (zX_dm hS2.1 N w).mpr (hv w (vIn_ar w b 0 n3 (by omega) hw))) (fun y' t' hF hso' => sp_129 hU2.2.1 hF.1 (sp_130 hU2.2.1 hF.1 (fun z _ hz => sp_24c hF.1 ?_ (fun k' a' e => (hz k' a' e).1)))))
        have e2 : sb (qs A) (eAr b 0) = sb (qs A) t' := hso' _ hRes.sol
        have ec : eCa (sb (qs A) t') = eCa t' := by
          rcases hF.2.2 with ⟨w, a2, a3⟩ | q
          · rw [a2]
            have e : sb (qs A) (.var w) = .var w := (hRes w).1 a3
            rw [e]
          · exact eCa_sb _ q
        rw [e2, ec] at hqc
        have hfM : ∀ (a : Nat) (e : Int), ¬ (a = 36 ∧ e = 9) → M a e = mo a e := fun a e q => (f1 a e q).trans (hf a e q)
        by_cases hcal : eCa t' = true
        · rw [if_pos hcal] at hqc ⊢
          have hsz : sz (sb (qs A) t') < sz (sb (qs A) (.mulL k b)) := by
            have := ar_sz (qs A) b 0 n3 (by omega)
            rw [e2] at this
            have e3 : sz (sb (qs A) (.mulL k b)) = 1 + sz (sb (qs A) b) := rfl
            omega
          refine ⟨fun _ => ⟨show -2147483648 ≤ _ ∧ _ < 2147483648 by omega, ?_⟩, fun q => absurd q (by decide)⟩
          have hxV : x ∉ V := fun q => by
            obtain ⟨k', b', q1, q2, q3⟩ := hV2 x q
            have := cTm_uq q1 ht
            rw [this] at q3
            omega
          have := ih (x :: V) false t' y' M (by omega) (List.nodup_cons.mpr ⟨hxV, hV1⟩) (fun w hw => by
            rcases List.mem_cons.mp hw with rfl | hw
            · exact ⟨k, b, m1t _ _ ht, by omega, hsz⟩
            · obtain ⟨k', b', q1, q2, q3⟩ := hV2 w hw
              exact ⟨k', b', m1t _ _ q1, q2, by omega⟩) hfM hS2 hqc (by rw [v9]; rfl) hF.1 (fun w hw => (zX_dm hS2.1 N w).mp (hF.2.1 w hw)) hcal
          have el : (((x :: V).length : Nat) : Int) = (V.length : Int) + 1 := by
            rw [List.length_cons]
            omega
          rw [el] at this
          exact this
        · rw [if_neg hcal] at hqc ⊢
          exact ⟨fun q => absurd rfl q, fun _ => hq0 M hfM hS2 hqc.symm⟩
  have := main _ [] own0 t0 x mo (Nat.le_refl _) List.nodup_nil (fun y hy => by cases hy) (fun _ _ _ => rfl) hso rfl h9 ht hv hc
  exact this
/-- takeGoal -/
theorem sp_90 {f : qF} {r : List qF} {c : Nat} (hO : qOK E A) (he : qp A = f :: r) (hi : qn A 2 < 300) (hend : qend f = false) (h6 : m 36 6 = (c : Int)) (hS : cSe E F Z N T m A) (hOk : zOk n0 u0 Z T n u) (hCt : cCt m A K 0) (hq1 : ∀ Z' T' n' u' m' (k : Int) (b : pE) (own' : Bool) (x' : Int), zSp F T m T' m' → zOk n0 u0 Z' T' n' u' → cSe E F Z' N T' m' (qdrop E (qcnt A) f r) → cCt m' (qdrop E (qcnt A) f r) K 1 → cTm (zX Z' (qi A).length N) m' x' (.mulL k b) → (∀ w, vIn w (.mulL k b) → w < tot E (qi A)) → eCa (.mulL k b) = true → bI k (eN b) ≠ 4 → qcl (sb (qs A) (qgoal E A f)) f.2.2.2.isNone = some (.mulL k (sb (qs A) b), own') → m' 36 9 = (if own' = true then (f.2.2.1 : Int) else (qh A).length) → Q x' (T', n', u', m')) (hq0 : ∀ Z' T' n' u' m', zSp F T m T' m' → zOk n0 u0 Z' T' n' u' → cSe E F Z' N T' m' (qdrop E (qcnt A) f r) → cCt m' (qdrop E (qcnt A) f r) K 1 → qcl (sb (qs A) (qgoal E A f)) f.2.2.2.isNone = none → Q (-9) (T', n', u', m')) : wq_90 (c : Int) (T, n, u, m) Q := by
  obtain ⟨hO1, hk1, eh, hk2, ei, es, hk3⟩ := qdrop_ok hO he hi
  have hOK := hO
  obtain ⟨hk, hkp, hl, hlen, h8, hC, h4, h300, h20⟩ := hO
  have hkl : ∀ c ∈ qh A, c.2.2.2.1.1 ≤ (qi A).length := fun c hc => (chK_all _ hk c hc).1
  have hP := hS.1
  have hNm := hS.2.1
  obtain ⟨y3, y5, y8, ych⟩ := hS.2.2.1
  rw [he] at ych hkp
  obtain ⟨j, c', a1, a2, a3, a4, a5, a6⟩ := ych
  have hcc : c' = c := by
    have : ((c' : Nat) : Int) = (c : Int) := a3.symm.trans h6
    omega
  subst hcc
  have hOb := hP.2.2.2.2.1
  have ht := hOb.1.2.1 j c' a1
  have hT := ht.2.1
  have e8 : m 36 8 = (qh A).length := by
    obtain ⟨B, TI, hD, -⟩ := hS.2.2.2
    exact hD.2.2.2.2.1
  obtain ⟨n1, n2, n3, n4, n5, n6⟩ := hNm
  unfold wq_90
  dsimp only
  rw [Int.toNat_natCast]
  have e4 : hy_u m 36 12 (m 36 12 + 1) c' 4 = (r.length : Int) + 1 := by rw [hy_ua (by have := ht.2.2.1; omega)]; exact a5
  rw [e4]
  refine ⟨by rw [n1]; show -2147483648 ≤ _ ∧ _ < 2147483648; omega, hT, ?_⟩
  have f1 : ∀ (a : Nat) (e : Int), ¬ (a = 36 ∧ (e = 12 ∨ e = 15 ∨ e = 16)) → hy_u (hy_u (hy_u m 36 12 (m 36 12 + 1)) 36 15 (if m 36 15 < (r.length : Int) + 1 then (r.length : Int) + 1 else m 36 15)) 36 16 (if m 36 16 < m 36 8 then m 36 8 else m 36 16) a e = m a e := fun a e q => by rw [hy_uf (by omega), hy_uf (by omega), hy_uf (by omega)]
  have v12 : hy_u (hy_u (hy_u m 36 12 (m 36 12 + 1)) 36 15 (if m 36 15 < (r.length : Int) + 1 then (r.length : Int) + 1 else m 36 15)) 36 16 (if m 36 16 < m 36 8 then m 36 8 else m 36 16) 36 12 = m 36 12 + 1 := by rw [hy_uk (by decide), hy_uk (by decide), hy_us]
  have v15 : hy_u (hy_u (hy_u m 36 12 (m 36 12 + 1)) 36 15 (if m 36 15 < (r.length : Int) + 1 then (r.length : Int) + 1 else m 36 15)) 36 16 (if m 36 16 < m 36 8 then m 36 8 else m 36 16) 36 15 = (if m 36 15 < (r.length : Int) + 1 then (r.length : Int) + 1 else m 36 15) := by rw [hy_uk (by decide), hy_us]
  have v16 : hy_u (hy_u (hy_u m 36 12 (m 36 12 + 1)) 36 15 (if m 36 15 < (r.length : Int) + 1 then (r.length : Int) + 1 else m 36 15)) 36 16 (if m 36 16 < m 36 8 then m 36 8 else m 36 16) 36 16 = (if m 36 16 < m 36 8 then m 36 8 else m 36 16) := hy_us _ _ _ _
  generalize hy_u (hy_u (hy_u m 36 12 (m 36 12 + 1)) 36 15 (if m 36 15 < (r.length : Int) + 1 then (r.length : Int) + 1 else m 36 15)) 36 16 (if m 36 16 < m 36 8 then m 36 8 else m 36 16) = M at f1 v12 v15 v16
  have hNM : cNm M (qcnt A) := by
    refine ⟨?_, ?_, ?_, ?_, ?_, fun d hd => ?_⟩
    · rw [v12, n1]; rfl
    · rw [f1 _ _ (by omega)]; exact n2
    · rw [f1 _ _ (by omega)]; exact n3
    · have e : qn (qcnt A) 5 = max (qn A 5) (qp A).length := rfl
      rw [v15, n4, e, he, List.length_cons]
      split <;> omega
    · have e : qn (qcnt A) 6 = max (qn A 6) (qh A).length := rfl
      rw [v16, n5, e8, e]
      split <;> omega
    · rw [f1 39 _ (by omega), f1 40 _ (by omega)]
      exact n6 d hd
  have hSM : cSe E F Z N T M (qcnt A) := cSe_o hS hkl (fun a e q1 _ _ => f1 a e (by omega)) rfl rfl rfl hNM
  have hFc : ∀ b z, F b → M b z = m b z := fun b z hb => f1 b z (by have := hP.1.2.1 b hb; omega)
  have hTE : tE (zX Z (qi A).length N) m (zX Z (qi A).length N) M := tE_s hP hSM.1 (Nat.le_refl _) (Nat.le_refl _) (fun _ q => q) hFc (fun _ _ => f1 _ _ (by omega)) (Nat.le_refl _)
  have hFr : ∀ (i c2 : Nat), (zF Z)[i]? = some c2 → ∀ z, M c2 z = m c2 z := fun i c2 q z => f1 c2 z (by have := (hOb.1.2.1 i c2 q).2.2.1; omega)
  have h1M : cF1 (zX Z (qi A).length N) M (tot E (qi A)) (qs A) f c' := cF1_mo hTE (Nat.le_refl _) (fun _ q => q) (hFr j c' a1) a4
  have hchM : cCh (zF Z) (zX Z (qi A).length N) M (tot E (qi A)) (qs A) j r (M c' 2) := by
    rw [hFr j c' a1]
    exact cCh_mo hTE (Nat.le_refl _) (fun _ q => q) _ _ _ (fun i c2 _ q => ⟨q, hFr i c2 q⟩) a6
  have hCtM : cCt M (qcnt A) K 1 := by
    obtain ⟨⟨b1, b2⟩, b3, b4⟩ := hCt
    have k0 : qn (qcnt A) 0 = qn A 0 := rfl
    have k1 : qn (qcnt A) 1 = qn A 1 := rfl
    have k2 : qn (qcnt A) 2 = qn A 2 + 1 := rfl
    have k4 : qn (qcnt A) 4 = qn A 4 := rfl
    refine ⟨⟨?_, ?_⟩, ?_, ?_⟩
    · rw [f1 _ _ (by omega), k0]; exact b1
    · rw [f1 _ _ (by omega), k1]; exact b2
    · rw [f1 _ _ (by omega), k2, k4]; omega
    · rw [f1 _ _ (by omega), k2]; omega
  have hsM : zSp F T m T M := ⟨fun _ _ q => q, fun a e q => f1 a e (fun z => (kFs_F hP q).2.2.2.1 z.1)⟩
  refine sp_91 (A := qcnt A) hSM.1 hkp.1 hend hT h1M (fun x t t1 t2 t3 t4 => ?_)
  have hkc : chK E (qi (qcnt A)) (qn A 2 + 1) (qh (qcnt A)) (qi (qcnt A)).length (qn (qcnt A) 7) (qn (qcnt A) 8) := chK_c (Nat.le_succ _) _ _ _ _ _ _ _ (Nat.le_refl _) (Nat.le_refl _) (Nat.le_refl _) (fun _ _ => rfl) hk
  refine sp_92 (A := qcnt A) (f := f) (r := r) (j := j) (c := c') hkc (show qn A 8 ≤ 601 by omega) hkp.1 hend hSM a2 a1 h1M hchM hOk hCtM (fun Z' T' n' u' m' g1 g2 g3 g4 g5 g6 g7 g8 => ?_)
  have hT' : T'.1 c' = some (4, 5) := g1.1 _ _ hT
  have hgoal : sb (qs A) t = sb (qs A) (qgoal E A f) := by
    obtain ⟨B, TI, hD, hRes, -⟩ := hS.2.2.2
    exact t4 _ ((SolS_B hRes _).mp hRes.sol)
  have hkl' : ∀ c ∈ qh (qdrop E (qcnt A) f r), c.2.2.2.1.1 ≤ (qi (qdrop E (qcnt A) f r)).length := by
    rw [eh, ei]; exact hkl
  have hTE2 : tE (zX Z (qi A).length N) M (zX Z' (qi A).length N) m' := by
    have hP3 := g3.1
    rw [ei] at hP3
    exact tE_s hSM.1 hP3 (Nat.le_refl _) (Nat.le_refl _) (fun e he => by rw [g6]; exact he) (fun b z hb => g1.2 b z (Or.inr (Or.inr hb))) (fun j _ => g7 _) (Nat.le_refl _)
  have c0 : m' c' 0 = m c' 0 := (g5 0).trans (hFr j c' a1 0)
  have c3 : m' c' 3 = m c' 3 := (g5 3).trans (hFr j c' a1 3)
  have go : ∀ (own : Bool) (v : Int), own = f.2.2.2.isNone → v = (if own = true then (f.2.2.1 : Int) else (qh A).length) → wq_90_76 x 0 (T', n', u', hy_u m' 36 9 v) Q := by
    intro own v hown hv
    obtain ⟨hS5, m1t, -⟩ := cSe_9 (v := v) g3 hkl'
    have w1 : ∀ (a : Nat) (e : Int), ¬ (a = 36 ∧ e = 9) → hy_u m' 36 9 v a e = m' a e := fun a e q => hy_uf q
    have w9 : hy_u m' 36 9 v 36 9 = v := hy_us _ _ _ _
    generalize hy_u m' 36 9 v = M5 at hS5 m1t w1 w9
    rw [ei] at m1t
    have hsp : ∀ m6 : hy_m, (∀ (a : Nat) (e : Int), ¬ (a = 36 ∧ e = 9) → m6 a e = M5 a e) → zSp F T m T' m6 ∧ cCt m6 (qdrop E (qcnt A) f r) K 1 := fun m6 hm6 => by
      refine ⟨hsM.tr (g1.tr ⟨fun _ _ q => q, fun a e q => ?_⟩), cCt_fr g4 ?_ ?_ ?_ ?_ rfl rfl rfl rfl⟩
      · have hn := (kFs_F hP q).2.2.2.1
        rw [hm6 a e (fun z => hn z.1), w1 a e (fun z => hn z.1)]
      · rw [hm6 _ _ (by omega), w1 _ _ (by omega)]
      · rw [hm6 _ _ (by omega), w1 _ _ (by omega)]
      · rw [hm6 _ _ (by omega), w1 _ _ (by omega)]
      · rw [hm6 _ _ (by omega), w1 _ _ (by omega)]
    refine sp_90_76 (A := qdrop E (qcnt A) f r) (cut := f.2.2.1) (own0 := own) (t0 := t) hkl' hS5 (fun m6 k b own' x' q1 q2 q3 q4 q5 q6 q7 q8 => ?_) (fun m6 q1 q2 q3 => ?_) ?_ ?_ ?_ t3
    · rw [ei] at q3 q4
      rw [es] at q7
      rw [eh] at q8
      rw [hgoal, hown] at q7
      exact hq1 Z' T' n' u' m6 k b own' x' (hsp m6 q1).1 g2 q2 (hsp m6 q1).2 q3 q4 q5 q6 q7 q8
    · rw [es, hgoal, hown] at q3
      exact hq0 Z' T' n' u' m6 (hsp m6 q1).1 g2 q2 (hsp m6 q1).2 q3
    · rw [w9, eh]; exact hv
    · rw [ei]
      exact m1t _ _ (hTE2 _ _ t1)
    · rw [ei]; exact t2
  refine ⟨hT', ?_⟩
  dsimp only
  rw [c0, c3]
  cases hf : f.2.2.2 with
  | some g =>
    have h0 : f.2.1 = 0 := by
      have hk0 := hkp.1
      unfold frK at hk0
      rw [hf] at hk0
      unfold qend at hend
      rw [hf] at hend
      have : f.2.1 ≠ 1 := fun q => by rw [q] at hend; cases hend
      have hk0 : f.2.1 ≤ 1 := hk0
      omega
    have b0 := a4.2
    rw [hf] at b0
    rw [(b0.1 h0).1]
    refine ⟨fun q => absurd rfl q, fun _ => go false _ (by rw [hf]; rfl) ?_⟩
    rw [g8, f1 _ _ (by omega), e8, if_neg (by decide)]
  | none =>
    have b0 := a4.2
    rw [hf] at b0
    have b0 : m c' 0 = f.1 ∧ m c' 1 = f.2.1 := b0
    rw [b0.1]
    refine ⟨fun _ => ⟨hT', go true _ (by rw [hf]; rfl) ?_⟩, fun q => by omega⟩
    rw [a4.1, if_pos rfl]
end CTG
