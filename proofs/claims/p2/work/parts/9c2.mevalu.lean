/-! THE MODEL'S ARITHMETIC: evaluates -/
def eFm (m0 m : hy_m) : Prop := ∀ (a : Nat) (e : Int), a ≠ 112 → a ≠ 113 → a ≠ 114 → a ≠ 116 → m a e = m0 a e
/-- what was computed so far in round K -/
def eSt (s : Nat → pE) (m0 : hy_m) (K : Nat) (m : hy_m) : Prop := eFm m0 m ∧ (∀ w : Nat, w < 2500 → ∃ j, j ≤ K ∧ m 113 (w : Int) = iW (j : Nat)) ∧ ∀ w : Nat, w < 2500 → m 113 (w : Int) = iW (K : Nat) → ∃ x, ev0 (s w) = some x ∧ m 114 (w : Int) = x
/-- a term that lies on the stack is computed -/
def eGo (G : Nat → Nat → Prop) (s : Nat → pE) (m0 : hy_m) (K : Nat) (Q : Int → hy_m → Prop) (P : Int → Int → hy_m → Prop) (f : Nat) (t : pE) (y : Int) : Prop := ∀ (many n : Nat) (m : hy_m) (pc : List Int) (pv : List Nat), eSt s m0 K m → m 112 (many : Int) = y → many ≤ 2 * pc.length + pv.length → n ≤ pc.length → pc.Nodup → pv.Nodup → (∀ c ∈ pc, ∃ k b, mTm G m0 c (.mulL k b) ∧ oI k (eN b) ≠ -9 ∧ sz (sb s t) < sz (sb s (.mulL k b))) → (∀ w ∈ pv, w < 2500 ∧ sz (sb s t) + f ≤ sz (s w)) → (∀ x m', ev0 (sb s t) = some x → eSt s m0 K m' → (∀ i : Int, 0 ≤ i → i < many → m' 112 i = m 112 i) → (∀ i : Int, 0 ≤ i → i < n → m' 116 i = m 116 i) → m' 116 (n : Int) = x → P (many : Int) ((n : Int) + 1) m') → (ev0 (sb s t) = none → ∀ m', eSt s m0 K m' → Q 0 m') → P ((many : Int) + 1) (n : Int) m
def mAW (G : Nat → Nat → Prop) (m : hy_m) : Prop := ∀ L : List Int, L.Nodup → (∀ c ∈ L, ∃ k b, mTm G m c (.mulL k b) ∧ oI k (eN b) ≠ -9) → L.length ≤ 9060
theorem ev0_n {k : Int} : ∀ b : pE, isL b → oI k (eN b) = -9 → ev0 (.mulL k b) = none
  | .num _, _, _ => rfl
  | .add a (.num _), _, _ => rfl
  | .add a (.add b c), _, h => by
    have h : oI k (eN c + 1 + 1) = -9 := h
    show (if oI k (eN c + 2) = -9 then none else _) = none
    rw [if_pos h]
  | .add a (.var _), h, _ => h.elim
  | .add a (.mulL _ _), h, _ => h.elim
  | .add a (.sub _ _), h, _ => h.elim
  | .add a (.neg _), h, _ => h.elim
  | .add a (.mulR _ _), h, _ => h.elim
theorem oI_2 {k : Int} {n : Nat} (h : oI k n ≠ -9) : n = 2 ∧ ∃ j : Nat, j < 3 ∧ oI k n = j := by
  rcases oI_c (k := k) (n := n) with q | ⟨q, ⟨-, e⟩ | ⟨-, e⟩ | ⟨-, e⟩⟩
  · exact absurd q h
  · exact ⟨q, 0, by decide, e⟩
  · exact ⟨q, 1, by decide, e⟩
  · exact ⟨q, 2, by decide, e⟩
theorem isL_sbL (s : Nat → pE) : ∀ b : pE, isL b → isL (sb s b) ∧ eN (sb s b) = eN b
  | .num _, h => ⟨h, rfl⟩
  | .add a r, h => by
    have ih := isL_sbL s r h
    exact ⟨ih.1, show eN (sb s r) + 1 = eN r + 1 by rw [ih.2]⟩
  | .var _, h => h.elim
  | .mulL _ _, h => h.elim
  | .sub _ _, h => h.elim
  | .neg _, h => h.elim
  | .mulR _ _, h => h.elim
section MEV
variable {G : Nat → Nat → Prop} {m m0 m' : hy_m} {Q : Int → hy_m → Prop} {P : Int → Int → hy_m → Prop} {D : Nat → Prop} {B : bM} {s : Nat → pE} {x y : Int} {t : pE} {K : Nat}
theorem eFm_T (h : eFm m0 m) (ht : mTm G m0 x t) : mTm G m x t := mTm_fr ht (fun a e q => h a e (by omega) (by omega) (by omega) (by omega))
theorem eFm_T' (h : eFm m0 m) (ht : mTm G m x t) : mTm G m0 x t := mTm_fr ht (fun a e q => (h a e (by omega) (by omega) (by omega) (by omega)).symm)
theorem eFm_B (h : eFm m0 m) (hb : mBd G m0 D B) : mBd G m D B := mBd_fr hb (fun a e q => h a e (by omega) (by omega) (by omega) (by omega))
theorem eSt_112 {i v : Int} (h : eSt s m0 K m) : eSt s m0 K (hy_u m 112 i v) := by
  refine ⟨fun a e q1 q2 q3 q4 => by rw [hy_ua q1]; exact h.1 a e q1 q2 q3 q4, fun w hw => by rw [hy_ua (by decide)]; exact h.2.1 w hw, fun w hw => ?_⟩
  rw [hy_ua (by decide), hy_ua (by decide)]
  exact h.2.2 w hw
theorem eSt_116 {i v : Int} (h : eSt s m0 K m) : eSt s m0 K (hy_u m 116 i v) := by
  refine ⟨fun a e q1 q2 q3 q4 => by rw [hy_ua q4]; exact h.1 a e q1 q2 q3 q4, fun w hw => by rw [hy_ua (by decide)]; exact h.2.1 w hw, fun w hw => ?_⟩
  rw [hy_ua (by decide), hy_ua (by decide)]
  exact h.2.2 w hw
theorem sp_241F {w : Nat} (hw : w < 2500) (hq : Q (-9) m) : wq_241 (mF w) m Q := by
  unfold wq_241
  exact sp_230F hw ⟨fun _ => ⟨fun _ => hq, fun q => absurd rfl q⟩, fun q => absurd q (by decide)⟩
/-- the bounds -/
theorem eBd {many n : Nat} {pc : List Int} {pv : List Nat} (hW : mAW G m0) (h1 : many ≤ 2 * pc.length + pv.length) (h2 : n ≤ pc.length) (n1 : pc.Nodup) (n2 : pv.Nodup) (hp : ∀ c ∈ pc, ∃ k b, mTm G m0 c (.mulL k b) ∧ oI k (eN b) ≠ -9 ∧ sz (sb s t) < sz (sb s (.mulL k b))) {f : Nat} (hv : ∀ w ∈ pv, w < 2500 ∧ sz (sb s t) + f ≤ sz (s w)) : many ≤ 20620 ∧ n ≤ 9060 := by
  have a1 := hW pc n1 (fun c hc => by
    obtain ⟨k, b, q1, q2, -⟩ := hp c hc
    exact ⟨k, b, q1, q2⟩)
  have a2 := nd_lt n2 (fun e he => (hv e he).1)
  omega
/-- behind the value of a term: it is applied -/
theorem eAp {many n h : Nat} {a b : Int} (hP : ∀ x3 x4 m, wf_251_22 Q P x3 x4 m → P x3 x4 m) (hm : many < 29000) (hn : n < 29000) (hh : h < 3) (h112 : m 112 (many : Int) = mA h) (ha : m 116 (n : Int) = a) (hb : m 116 ((n : Int) + 1) = b) (hq : P (many : Int) ((n : Int) + 1) (hy_u m 116 (n : Int) (cmb (h : Int) a b))) : P ((many : Int) + 1) ((n : Int) + 1 + 1) m := by
  apply hP
  unfold wf_251_22
  rw [show (many : Int) + 1 + -1 = many by omega, h112, show (n : Int) + 1 + 1 + -1 = (n : Int) + 1 by omega, show (n : Int) + 1 - 1 = n by omega]
  refine ⟨fun q => by omega, fun _ => ⟨by omega, by omega, ?_⟩⟩
  have z : 1152921504606846976 + h < 2305843009213693952 := by omega
  refine sp_250n z (fun q => ?_) (fun _ => ⟨fun q => absurd q (by decide), fun _ => sp_250n z (fun q => ?_) (fun _ => ⟨fun q => absurd q (by decide), fun _ => ⟨by omega, by omega, by omega, by omega, ?_⟩⟩)⟩)
  · have := (and5960 (by omega)).mp q
    omega
  · have := (and60 (by omega)).mp q
    omega
  · have e3 : jA (mA h) 3 = h := by
      show jA (((1152921504606846976 + h : Nat)) : Int) 3 = h
      have := jA_m (((1152921504606846976 + h : Nat)) : Int) (k := 2) (by omega)
      rw [show ((2 ^ 2 - 1 : Nat) : Int) = 3 from rfl, show ((2 ^ 2 : Nat) : Int) = 4 from rfl] at this
      rw [this]
      omega
    rw [e3, ha, hb]
    refine ⟨show -2147483648 ≤ _ ∧ _ < 2147483648 by omega, ?_⟩
    unfold wq_248
    unfold cmb at hq
    refine ⟨fun q => ⟨fun q2 => ?_, fun q2 => ?_⟩, fun q => ?_⟩
    · rw [if_neg q, if_neg q2] at hq
      exact ⟨by omega, by omega, show -2147483648 ≤ _ ∧ _ < 2147483648 by omega, show -2147483648 ≤ _ ∧ _ < 2147483648 by omega, hq⟩
    · rw [if_neg q, if_pos q2] at hq
      exact ⟨by omega, by omega, show -2147483648 ≤ _ ∧ _ < 2147483648 by omega, show -2147483648 ≤ _ ∧ _ < 2147483648 by omega, hq⟩
    · rw [if_pos q] at hq
      exact ⟨by omega, by omega, show -2147483648 ≤ _ ∧ _ < 2147483648 by omega, show -2147483648 ≤ _ ∧ _ < 2147483648 by omega, hq⟩
/-- it is kept -/
theorem eKe {many n w : Nat} (hP : ∀ x3 x4 m, wf_251_22 Q P x3 x4 m → P x3 x4 m) (hm : many < 29000) (hn : n < 29000) (hw : w < 2500) (h112 : m 112 (many : Int) = mKp w) (hq : P (many : Int) ((n : Int) + 1) (hy_u (hy_u m 114 (w : Int) (m 116 (n : Int))) 113 (w : Int) (m 74 64))) : P ((many : Int) + 1) ((n : Int) + 1) m := by
  apply hP
  unfold wf_251_22
  rw [show (many : Int) + 1 + -1 = many by omega, h112, show (n : Int) + 1 - 1 = n by omega]
  refine ⟨fun q => by omega, fun _ => ⟨by omega, by omega, ?_⟩⟩
  have z : 576460752303423488 + w < 2305843009213693952 := by omega
  refine sp_250n z (fun q => ?_) (fun _ => ⟨fun q => absurd q (by decide), fun _ => sp_250n z (fun _ => ⟨fun _ => sp_250n z (fun q => ?_) (fun _ => ⟨fun q => absurd q (by decide), fun _ => ?_⟩), fun q => absurd rfl q⟩) (fun q => absurd ((and60 (by omega)).mpr (by omega)) q)⟩)
  · have := (and5960 (by omega)).mp q
    omega
  · have := (and59 (by omega)).mp q
    omega
  · have e3 : jA (mKp w) 65535 = w := by
      show jA (((576460752303423488 + w : Nat)) : Int) 65535 = w
      have := jA_m (((576460752303423488 + w : Nat)) : Int) (k := 16) (by omega)
      rw [show ((2 ^ 16 - 1 : Nat) : Int) = 65535 from rfl, show ((2 ^ 16 : Nat) : Int) = 65536 from rfl] at this
      rw [this]
      omega
    rw [e3]
    exact ⟨by omega, by omega, by omega, by omega, by omega, by omega, show -2147483648 ≤ _ ∧ _ < 2147483648 by omega, hq⟩
set_option maxHeartbeats 4000000 in
/-- a term that isn't a variable of a clause -/
theorem ev205 (hP : ∀ x3 x4 m, wf_251_22 Q P x3 x4 m → P x3 x4 m) (hg : gC G m0) (hW : mAW G m0) (hB : mBd G m0 D B) (hR : Res B s) (ht : mTm G m0 y t) (hD : ∀ w, vIn w t → D w) (IH : ∀ t' y', mTm G m0 y' t' → (∀ w, vIn w t' → D w) → sz (sb s t') < sz (sb s t) → eGo G s m0 K Q P 1 t' y')
    {many n : Nat} {pc : List Int} {pv : List Nat} (hS : eSt s m0 K m) (h1 : many ≤ 2 * pc.length + pv.length) (h2 : n ≤ pc.length) (n1 : pc.Nodup) (n2 : pv.Nodup) (hp : ∀ c ∈ pc, ∃ k b, mTm G m0 c (.mulL k b) ∧ oI k (eN b) ≠ -9 ∧ sz (sb s t) < sz (sb s (.mulL k b))) (hv : ∀ w ∈ pv, w < 2500 ∧ sz (sb s t) + 0 ≤ sz (s w))
    (hk : ∀ x m', ev0 (sb s t) = some x → eSt s m0 K m' → (∀ i : Int, 0 ≤ i → i < many → m' 112 i = m 112 i) → (∀ i : Int, 0 ≤ i → i < n → m' 116 i = m 116 i) → m' 116 (n : Int) = x → P (many : Int) ((n : Int) + 1) m') (h0 : ev0 (sb s t) = none → ∀ m', eSt s m0 K m' → Q 0 m') : wq_251_205 P (many : Int) (n : Int) y (-9) m Q := by
  obtain ⟨b1, b2⟩ := eBd hW h1 h2 n1 n2 hp hv
  have hg' : gC G m := fun n p j hG hj => by
    rw [hS.1 78 _ (by omega) (by omega) (by omega) (by omega)] at hj
    rw [hS.1 79 _ (by omega) (by omega) (by omega) (by omega)]
    exact hg n p j hG hj
  unfold wq_251_205
  refine ⟨fun _ => sp_237 (eFm_B hS.1 hB) hR (eFm_T hS.1 ht) hD (fun y2 t2 hF hsb => ?_), fun q => absurd rfl q⟩
  have hst : sb s t = sb s t2 := hsb s hR.sol
  obtain ⟨hT2, hD2, hF2⟩ := hF
  have hT20 := eFm_T' hS.1 hT2
  refine sp_249 hT2 (sp_238 hT2 ⟨fun q => ⟨fun q2 => ?_, fun q2 => ?_⟩, fun q => ?_⟩)
  · refine h0 ?_ m hS
    rw [hst]
    rcases hF2 with ⟨w, -, rfl, hbn, -⟩ | ⟨hnv, -⟩
    · show ev0 (s w) = none
      rw [(hR w).1 hbn]
      rfl
    · cases t2 with
      | mulL k b =>
        obtain ⟨lb, -⟩ := mTm_L hT2
        have q2 : oI k (eN b) = -9 := q2
        refine ev0_n (sb s b) ?_ ?_
        · exact (isL_sbL s b lb).1
        · rw [(isL_sbL s b lb).2]
          exact q2
      | num i => exact absurd rfl q
      | var w => exact absurd rfl (hnv w)
      | add _ _ => exact (mTm_nadd hT2).elim
      | sub _ _ => rfl
      | neg _ => rfl
      | mulR _ _ => rfl
  · cases t2 with
    | mulL k b =>
      obtain ⟨lb, -⟩ := mTm_L hT2
      have q2 : oI k (eN b) ≠ -9 := q2
      obtain ⟨e2, h, hh, ho⟩ := oI_2 q2
      obtain ⟨a1, a2, rfl⟩ : ∃ a1 a2, b = .add a1 (.add a2 (.num 0)) := by
        cases b with
        | add a1 r =>
          cases r with
          | add a2 r2 =>
            have e2 : eN r2 + 1 + 1 = 2 := e2
            cases r2 with
            | num i =>
              have : i = 0 := lb
              exact ⟨a1, a2, by rw [this]⟩
            | add _ r3 =>
              have : eN r3 + 1 + 1 + 1 = 2 := e2
              omega
            | var _ => exact lb.elim
            | mulL _ _ => exact lb.elim
            | sub _ _ => exact lb.elim
            | neg _ => exact lb.elim
            | mulR _ _ => exact lb.elim
          | num _ => exact absurd (show (1 : Nat) = 2 from e2) (by decide)
          | var _ => exact lb.elim
          | mulL _ _ => exact lb.elim
          | sub _ _ => exact lb.elim
          | neg _ => exact lb.elim
          | mulR _ _ => exact lb.elim
        | num _ => exact absurd (show (0 : Nat) = 2 from e2) (by decide)
        | var _ => exact lb.elim
        | mulL _ _ => exact lb.elim
        | sub _ _ => exact lb.elim
        | neg _ => exact lb.elim
        | mulR _ _ => exact lb.elim
      show 0 ≤ (many : Int) ∧ (many : Int) < 30000 ∧ _
      rw [show oT (.mulL k (.add a1 (.add a2 (.num 0)))) = (h : Int) from ho, jO_A hh]
      refine ⟨by omega, by omega, ?_⟩
      have hev : ev0 (sb s t) = match ev0 (sb s a1), ev0 (sb s a2) with
        | some x, some y => some (cmb (h : Int) x y)
        | _, _ => none := by
        rw [hst]
        have ho' : oI k (0 + 2) = (h : Int) := ho
        show (if oI k (0 + 2) = -9 then none else match ev0 (sb s a1), ev0 (sb s a2) with
          | some x, some y => some (cmb (oI k (0 + 2)) x y)
          | _, _ => none) = _
        rw [ho', if_neg (by omega)]
      have hs1 : sz (sb s t) = 1 + sz (sb s (.add a1 (.add a2 (.num 0)))) := by rw [hst]; rfl
      have z1 := ar_sz s (.add a1 (.add a2 (.num 0))) 0 lb (by show 0 < 2; decide)
      have z2 := ar_sz s (.add a1 (.add a2 (.num 0))) 1 lb (by show 1 < 2; decide)
      have z1 : sz (sb s a1) < sz (sb s t) := by
        have : sz (sb s a1) < sz (sb s (.add a1 (.add a2 (.num 0)))) := z1
        omega
      have z2 : sz (sb s a2) < sz (sb s t) := by
        have : sz (sb s a2) < sz (sb s (.add a1 (.add a2 (.num 0)))) := z2
        omega
      have hD1 : ∀ w, vIn w a1 → D w := fun w hw => hD2 w (Or.inl hw)
      have hD2' : ∀ w, vIn w a2 → D w := fun w hw => hD2 w (Or.inr (Or.inl hw))
      have hS1 : eSt s m0 K (hy_u m 112 (many : Int) (mA h)) := eSt_112 hS
      have hg1 : gC G (hy_u m 112 (many : Int) (mA h)) := fun n p j hG hj => by
        rw [hy_ua (by decide)] at hj
        rw [hy_ua (by decide)]
        exact hg' n p j hG hj
      refine sp_236 (j := 1) hg1 (eFm_T hS1.1 hT20) (by show 1 < 2; decide) (fun y4 hy4 _ => ⟨by omega, by omega, ?_⟩)
      have hy4 : mTm G (hy_u m 112 (many : Int) (mA h)) y4 a2 := hy4
      have hS2 : eSt s m0 K (hy_u (hy_u m 112 (many : Int) (mA h)) 112 ((many : Int) + 1) y4) := eSt_112 hS1
      have hg2 : gC G (hy_u (hy_u m 112 (many : Int) (mA h)) 112 ((many : Int) + 1) y4) := fun n p j hG hj => by
        rw [hy_ua (by decide)] at hj
        rw [hy_ua (by decide)]
        exact hg1 n p j hG hj
      refine sp_236 (j := 0) hg2 (eFm_T hS2.1 hT20) (by show 0 < 2; decide) (fun y5 hy5 _ => ⟨by omega, by omega, show -2147483648 ≤ _ ∧ _ < 2147483648 by omega, ?_⟩)
      have hy5 : mTm G (hy_u (hy_u m 112 (many : Int) (mA h)) 112 ((many : Int) + 1) y4) y5 a1 := hy5
      have hS3 : eSt s m0 K (hy_u (hy_u (hy_u m 112 (many : Int) (mA h)) 112 ((many : Int) + 1) y4) 112 ((many : Int) + 2) y5) := eSt_112 hS2
      have hnin : y2 ∉ pc := fun hin => by
        obtain ⟨k', b', g1, -, g3⟩ := hp y2 hin
        have := mTm_one g1 hT20
        rw [this, ← hst] at g3
        exact absurd g3 (Nat.lt_irrefl _)
      have hpn : ∀ (u : pE), sz (sb s u) < sz (sb s t) → ∀ c ∈ y2 :: pc, ∃ k b, mTm G m0 c (.mulL k b) ∧ oI k (eN b) ≠ -9 ∧ sz (sb s u) < sz (sb s (.mulL k b)) := fun u hu c hc => by
        rcases List.mem_cons.mp hc with rfl | hc
        · exact ⟨k, _, hT20, q2, by rw [← hst]; exact hu⟩
        · obtain ⟨k', b', g1, g2, g3⟩ := hp c hc
          exact ⟨k', b', g1, g2, by omega⟩
      have hvn : ∀ (u : pE), sz (sb s u) < sz (sb s t) → ∀ w ∈ pv, w < 2500 ∧ sz (sb s u) + 1 ≤ sz (s w) := fun u hu w hw => ⟨(hv w hw).1, by have := (hv w hw).2; omega⟩
      have hlc : (y2 :: pc).length = pc.length + 1 := List.length_cons
      rw [show (many : Int) + 3 = ((many + 2 : Nat) : Int) + 1 by omega]
      refine IH a1 y5 (eFm_T' hS2.1 hy5) hD1 z1 (many + 2) n _ (y2 :: pc) pv hS3 ?_ (by omega) (by omega) (List.nodup_cons.mpr ⟨hnin, n1⟩) n2 (hpn a1 z1) (hvn a1 z1) (fun x1 m4 ex1 hS4 f4 g4 e4 => ?_) (fun en m4 hS4 => h0 (by rw [hev, en]) m4 hS4)
      · rw [show ((many + 2 : Nat) : Int) = (many : Int) + 2 by omega, hy_us]
      have k4 : ∀ i : Int, 0 ≤ i → i < many → m4 112 i = m 112 i := fun i i1 i2 => by
        rw [f4 i i1 (by omega), hy_uk (by omega), hy_uk (by omega), hy_uk (by omega)]
      have l4 : ∀ i : Int, 0 ≤ i → i < n → m4 116 i = m 116 i := fun i i1 i2 => by
        rw [g4 i i1 i2, hy_ua (by decide), hy_ua (by decide), hy_ua (by decide)]
      have t4 : m4 112 (many : Int) = mA h := by
        rw [f4 many (by omega) (by omega), hy_uk (by omega), hy_uk (by omega), hy_us]
      rw [show ((many + 2 : Nat) : Int) = ((many + 1 : Nat) : Int) + 1 by omega, show (n : Int) + 1 = ((n + 1 : Nat) : Int) by omega]
      refine IH a2 y4 (eFm_T' hS1.1 hy4) hD2' z2 (many + 1) (n + 1) m4 (y2 :: pc) pv hS4 ?_ (by omega) (by omega) (List.nodup_cons.mpr ⟨hnin, n1⟩) n2 (hpn a2 z2) (hvn a2 z2) (fun x2 m5 ex2 hS5 f5 g5 e5 => ?_) (fun en m5 hS5 => h0 (by rw [hev, ex1, en]) m5 hS5)
      · rw [f4 _ (by omega) (by omega), show ((many + 1 : Nat) : Int) = (many : Int) + 1 by omega, hy_uk (by omega), hy_us]
      rw [show ((many + 1 : Nat) : Int) = (many : Int) + 1 by omega, show ((n + 1 : Nat) : Int) = (n : Int) + 1 by omega] at *
      refine eAp (a := x1) (b := x2) hP (by omega) (by omega) hh (by rw [f5 _ (by omega) (by omega)]; exact t4) (by rw [g5 _ (by omega) (by omega)]; exact e4) e5 (hk _ _ ?_ (eSt_116 hS5) (fun i i1 i2 => ?_) (fun i i1 i2 => ?_) (hy_us ..))
      · rw [hev, ex1, ex2]
      · rw [hy_ua (by decide), f5 i i1 (by omega)]
        exact k4 i i1 i2
      · rw [hy_uk (by omega), g5 i i1 (by omega)]
        exact l4 i i1 i2
    | num i => exact absurd rfl q
    | var w => exact absurd rfl q2
    | add _ _ => exact (mTm_nadd hT2).elim
    | sub _ _ => exact absurd rfl q2
    | neg _ => exact absurd rfl q2
    | mulR _ _ => exact absurd rfl q2
  · cases t2 with
    | num i =>
      refine sp_239 hT2 (mTm_num hT2) ⟨by omega, by omega, show -2147483648 ≤ _ ∧ _ < 2147483648 by omega, hk i _ (by rw [hst]; rfl) (eSt_116 hS) (fun j j1 j2 => hy_ua (by decide)) (fun j j1 j2 => hy_uk (by omega)) (hy_us ..)⟩
    | mulL k a =>
      exfalso
      by_cases c : eN a = 0
      · exact absurd ((if_pos c).symm.trans q) (by decide)
      · exact absurd ((if_neg c).symm.trans q) (by decide)
    | var w => exact absurd (show (1 : Int) = 2 from q) (by decide)
    | add _ _ => exact (mTm_nadd hT2).elim
    | sub _ _ => exact absurd (show (0 : Int) = 2 from q) (by decide)
    | neg _ => exact absurd (show (0 : Int) = 2 from q) (by decide)
    | mulR _ _ => exact absurd (show (0 : Int) = 2 from q) (by decide)
end MEV
