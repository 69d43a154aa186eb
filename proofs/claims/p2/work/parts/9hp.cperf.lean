/-! THE CLASS'S SEARCH: perform -/
section CPG
variable {E : qE} {l l' TI TI' TL : List Nat} {F : Nat → Prop} {T T' : hy_T} {m m' m1 m2 mo : hy_m} {Z Z' : cZ} {N N' n u n' u' k n0 u0 K J : Nat} {A A' : qA} {B B' : bM} {s s' : Nat → pE} {X : cX} {x y : Int} {t ta tb b : pE} {kk : Int} {Q : sQ}
theorem bI_n {k : Int} {n : Nat} : (bI k n = 5 → n = 1) ∧ (bI k n = 6 → n = 2) ∧ (bI k n = 7 → n = 2) ∧ (bI k n = 8 → n = 2) ∧ 0 ≤ bI k n ∧ bI k n ≤ 8 := by
  unfold bI
  split
  · split
    · exact ⟨(fun q => absurd q (by decide)), (fun q => absurd q (by decide)), (fun q => absurd q (by decide)), (fun q => absurd q (by decide)), by decide, by decide⟩
    · split
      · exact ⟨(fun q => absurd q (by decide)), (fun q => absurd q (by decide)), (fun q => absurd q (by decide)), (fun q => absurd q (by decide)), by decide, by decide⟩
      · split
        · exact ⟨(fun q => absurd q (by decide)), (fun q => absurd q (by decide)), (fun q => absurd q (by decide)), (fun q => absurd q (by decide)), by decide, by decide⟩
        · exact ⟨(fun q => absurd q (by decide)), (fun q => absurd q (by decide)), (fun q => absurd q (by decide)), (fun q => absurd q (by decide)), by decide, by decide⟩
  · split
    · exact ⟨(fun q => absurd q (by decide)), (fun q => absurd q (by decide)), (fun q => absurd q (by decide)), (fun q => absurd q (by decide)), by decide, by decide⟩
    · split
      · exact ⟨(fun _ => rfl), (fun q => absurd q (by decide)), (fun q => absurd q (by decide)), (fun q => absurd q (by decide)), by decide, by decide⟩
      · exact ⟨(fun q => absurd q (by decide)), (fun q => absurd q (by decide)), (fun q => absurd q (by decide)), (fun q => absurd q (by decide)), by decide, by decide⟩
  · split
    · exact ⟨(fun q => absurd q (by decide)), (fun _ => rfl), (fun q => absurd q (by decide)), (fun q => absurd q (by decide)), by decide, by decide⟩
    · split
      · exact ⟨(fun q => absurd q (by decide)), (fun q => absurd q (by decide)), (fun _ => rfl), (fun q => absurd q (by decide)), by decide, by decide⟩
      · split
        · exact ⟨(fun q => absurd q (by decide)), (fun q => absurd q (by decide)), (fun q => absurd q (by decide)), (fun _ => rfl), by decide, by decide⟩
        · exact ⟨(fun q => absurd q (by decide)), (fun q => absurd q (by decide)), (fun q => absurd q (by decide)), (fun q => absurd q (by decide)), by decide, by decide⟩
  · exact ⟨(fun q => absurd q (by decide)), (fun q => absurd q (by decide)), (fun q => absurd q (by decide)), (fun q => absurd q (by decide)), by decide, by decide⟩
theorem qkeep_all : qkeep A (qh A).length = A := by
  unfold qkeep
  rw [Nat.sub_self, List.drop_zero]
  rfl
/-- perform -/
theorem sp_93 {own : Bool} {cut : Nat} (hK : K + 13000 < 2147480000) (hO : qOJ E A 1) (hN : qn A 2 = N) (hS : cSe E F Z N T m A) (h1 : cTm (zX Z (qi A).length N) m x (.mulL kk b)) (v1 : ∀ w, vIn w (.mulL kk b) → w < tot E (qi A)) (hc : eCa (.mulL kk b) = true) (hn4 : bI kk (eN b) ≠ 4) (h9 : m 36 9 = (if own = true then (cut : Int) else (qh A).length)) (hcut : own = true → cut ≤ (qh A).length) (hOk : zOk n0 u0 Z T n u) (hsp : zSp F T mo T m) (hCt : cCt m A K 1) (h : cOut E F (N + 1) K n0 u0 T mo (qcall E A own cut kk (sb (qs A) b)) Q) : wq_93 x (T, n, u, m) Q := by
  have hkl := kls hO
  have hU := zX_uPr hS.1 N
  have hnm := cTm_nm h1
  have hls := isL_sbL (qs A) b hnm.2.2.1
  have eN' : eN (sb (qs A) b) = eN b := hls.2
  obtain ⟨l1, l2⟩ := lim47 hO hK hCt
  obtain ⟨i5, i6, i7, i8, i0, i9⟩ := bI_n (k := kk) (n := eN b)
  have spr : zSp F T m T m := ⟨fun _ _ q => q, fun _ _ _ => rfl⟩
  unfold qcall at h
  rw [eN'] at h
  unfold wq_93
  dsimp only
  refine sp_132x (j := 0) hU.2.1 h1 (by decide) (fun y1 hy1 => sp_132x (j := 1) hU.2.1 h1 (by decide) (fun y2 hy2 => sp_130 hU.2.1 h1 (fun z _ hz => ?_)))
  obtain ⟨z1, -, -⟩ := hz kk b rfl
  rw [z1]
  have ar0 : 1 ≤ eN b → eAr (sb (qs A) b) 0 = sb (qs A) (eAr b 0) := fun q => eAr_L (qs A) b 0 hnm.2.2.1 (by omega)
  have ar1 : 2 ≤ eN b → eAr (sb (qs A) b) 1 = sb (qs A) (eAr b 1) := fun q => eAr_L (qs A) b 1 hnm.2.2.1 (by omega)
  have vi : ∀ j, j < eN b → ∀ w, vIn w (eAr b j) → w < tot E (qi A) := fun j hj w hw => v1 w (vIn_ar w b j hnm.2.2.1 hj hw)
  refine sp_23 hnm.1 hnm.2.1 ⟨⟨fun q => ?_, fun q => ?_, fun q => ?_, fun q => ?_, fun q => ?_, fun q => ?_, fun q => ?_, fun q => ?_, trivial⟩, fun q => ?_⟩
  · rw [if_pos (show bI kk (eN b) = 1 from q)] at h
    exact h.1 1 Z T n u m (by decide) hsp hOk (cSe_N hkl (Nat.le_succ _) hS) (cCt_z hCt)
  · have q : bI kk (eN b) = 2 := q
    rw [q, if_neg (by decide), if_pos rfl] at h
    exact h.2 A Z T n u m hO.fl rfl hsp hOk (cFl_N hkl (Nat.le_succ _) hS.fl) (cCt_z hCt)
  · have q : bI kk (eN b) = 3 := q
    rw [q, if_neg (by decide), if_neg (by decide), if_pos rfl] at h
    obtain ⟨B, TI, hD, -⟩ := hS.2.2.2
    have hcl := cCc_len hD.2.2.2.1
    have hP := hS.1
    have key : ∀ kp : Nat, m 36 9 = (kp : Int) → kp ≤ (qh A).length → (if own = true then qkeep A cut else A) = qkeep A kp → wq_99 (m 36 9) T m (fun _ m5 => Q 1 (T, n, u, m5)) := by
      intro kp e1 e2 e3
      rw [e3] at h
      rw [e1]
      refine sp_99 hP.2.2.2.2.1 (Nat.le_trans e2 hcl) (fun m5 w1 w8 w70 w7 => ?_)
      have hS5 := keep_sc hkl e2 hS (m' := m5) (fun a e q1 q2 _ => w1 a e q1 q2) w8 w70 (fun j c' q1 q2 => by
        rw [w7 j c' q1 q2]
        have := (zC_tag hP.2.2.2.2.1 (List.mem_of_getElem? q2)).2.1
        exact (w1 c' 3 (by omega) (by omega)).symm)
      have hkl5 : ∀ c ∈ qh (qkeep A kp), c.2.2.2.1.1 ≤ (qi (qkeep A kp)).length := fun c hc => hkl c (List.mem_of_mem_drop hc)
      exact h.1 1 Z T n u m5 (by decide) (hsp.tr ⟨fun _ _ q => q, fun a e q => w1 a e (fun z => (kFs_F hP q).2.2.2.1 z.1) (fun z => (kFs_F hP q).2.2.2.2.2.2.2.2.1 z.1)⟩) hOk (cSe_N hkl5 (Nat.le_succ _) hS5) (cCt_0 hCt (w1 _ _ (by omega) (by omega)) (w1 _ _ (by omega) (by omega)) (by rw [w1 _ _ (by omega) (by omega)]; omega) (by rw [w1 _ _ (by omega) (by omega)]; omega) rfl rfl rfl rfl)
    cases own with
    | true => exact key cut h9 (hcut rfl) rfl
    | false => exact key (qh A).length h9 (Nat.le_refl _) qkeep_all.symm
  · exact absurd q hn4
  · have q : bI kk (eN b) = 5 := q
    have hn1 := i5 q
    rw [q, if_neg (by decide), if_neg (by decide), if_neg (by decide), if_pos rfl, ar0 (by omega)] at h
    obtain ⟨t1, t2⟩ := hy1 (by omega)
    refine sp_fnd hS t1 (vi 0 (by omega)) (fun y t' ht' hv' e1 e2 hfd => ?_)
    rw [e1] at h
    exact sp_96 hO hS ht' hv' hfd hOk hsp hCt h
  · have q : bI kk (eN b) = 6 := q
    have hn2 := i6 q
    rw [q, if_neg (by decide), if_neg (by decide), if_neg (by decide), if_neg (by decide), if_pos rfl, ar0 (by omega), ar1 (by omega), quni_c (t' := eAr b 0) (u' := eAr b 1) (fun v q => SolS_t q _) (fun v q => SolS_t q _)] at h
    obtain ⟨t1, -⟩ := hy1 (by omega)
    obtain ⟨t2, -⟩ := hy2 (by omega)
    have hSN := cSe_N hkl (Nat.le_succ N) hS
    have tN : tE (zX Z (qi A).length N) m (zX Z (qi A).length (N + 1)) m := tE_s hS.1 hS.1 (Nat.le_refl _) (Nat.le_refl _) (fun _ q => q) (fun _ _ _ => rfl) (fun _ _ => rfl) (Nat.le_succ _)
    refine sp_unc hO hSN (tN _ _ t1) (tN _ _ t2) (vi 0 (by omega)) (vi 1 (by omega)) hOk hsp (by omega) (fun m3 A3 y1 y3 k0 k1 k2 k4 => ?_) h
    exact cCt_0 hCt (y1 _ _ (Or.inl (by decide))) (y1 _ _ (Or.inl (by decide))) y3.2 (by rw [y1 53 _ (by omega)]; omega) k0 k1 k2 k4
  · have q : bI kk (eN b) = 7 := q
    have hn2 := i7 q
    rw [q, if_neg (by decide), if_neg (by decide), if_neg (by decide), if_neg (by decide), if_neg (by decide), if_pos rfl, ar0 (by omega), ar1 (by omega)] at h
    obtain ⟨t1, p1⟩ := hy1 (by omega)
    obtain ⟨t2, p2⟩ := hy2 (by omega)
    exact sp_94 hK hO hS t1 t2 p1 p2 hOk hsp hCt h
  · have q : bI kk (eN b) = 8 := q
    have hn2 := i8 q
    rw [q, if_neg (by decide), if_neg (by decide), if_neg (by decide), if_neg (by decide), if_neg (by decide), if_neg (by decide), if_pos rfl, ar0 (by omega), ar1 (by omega)] at h
    obtain ⟨t1, p1⟩ := hy1 (by omega)
    obtain ⟨t2, p2⟩ := hy2 (by omega)
    refine sp_95 hK hO hN hS t1 t2 (vi 0 (by omega)) p2 hOk hsp hCt ?_
    cases hev : ev0 (sb (qs A) (eAr b 1)) with
    | some v =>
      rw [hev] at h
      have h : cOut E F (N + 1) K n0 u0 T mo (quni E A (sb (qs A) (eAr b 0)) (.num v)) Q := h
      rw [quni_c (t' := eAr b 0) (u' := .num v) (fun v q => SolS_t q _) (fun _ _ => rfl)] at h
      exact h
    | none =>
      rw [hev] at h
      exact h
  · have q0 : bI kk (eN b) = 0 := by omega
    rw [q0, if_neg (by decide), if_neg (by decide), if_neg (by decide), if_neg (by decide), if_neg (by decide), if_neg (by decide), if_neg (by decide)] at h
    exact sp_97 hO hS h1 v1 hc hOk hsp hCt h
end CPG
