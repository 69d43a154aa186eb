/-! THE CLASS WRITES A TERM: lists -/
def vLs (X : cX) (T : hy_T) (s : Nat → pE) (m0 : hy_m) (Q : Int → hy_m → Prop) (P : Int → hy_m → Prop) (a1 a2 : pE) (x : Int) : Prop := ∀ (d k : Nat) (o : List Int) (nm : List Nat) (m : hy_m), dSt X m0 m (d + 1) o nm → o.length < 120 → k ≤ o.length → m 72 (d : Int) = x → m 73 (d : Int) = 0 → (∀ m' (k' : Nat), dSt X m0 m' d (tkp o ((wM (sb s a1) 0 nm).1 ++ (wM (sb s a2) 2 (wM (sb s a1) 0 nm).2).1)) (wM (sb s a2) 2 (wM (sb s a1) 0 nm).2).2 → (∀ i : Int, i < d → m' 72 i = m 72 i ∧ m' 73 i = m 73 i) → (tkp o ((wM (sb s a1) 0 nm).1 ++ (wM (sb s a2) 2 (wM (sb s a1) 0 nm).2).1)).length < 120 → k' ≤ (tkp o ((wM (sb s a1) 0 nm).1 ++ (wM (sb s a2) 2 (wM (sb s a1) 0 nm).2).1)).length → P (k' : Int) m') → (∀ m', dFx m0 m' → cOu m' (tkp o ((wM (sb s a1) 0 nm).1 ++ (wM (sb s a2) 2 (wM (sb s a1) 0 nm).2).1)) → (tkp o ((wM (sb s a1) 0 nm).1 ++ (wM (sb s a2) 2 (wM (sb s a1) 0 nm).2).1)).length = 120 → Q 0 m') → P (k : Int) m
section CWL
variable {X : cX} {T : hy_T} {B : bM} {s : Nat → pE} {m m' m0 : hy_m} {Q : Int → hy_m → Prop} {P : Int → hy_m → Prop} {o : List Int} {nm : List Nat} {d k : Nat} {t a1 a2 : pE} {x : Int}
/-- isKeyOf -/
theorem sp_164 {key : Int} (hcw : cW X T m) (hx : cTm X m x t) (h1 : (∃ k b, t = .mulL k b ∧ kC k (eN b) = key) → Q 1 m) (h0 : (¬ ∃ k b, t = .mulL k b ∧ kC k (eN b) = key) → Q 0 m) : wq_164 x key T m Q := by
  unfold wq_164
  refine sp_129 hcw hx ⟨fun q => h0 (fun ⟨k, b, e, _⟩ => ?_), fun q => sp_130 hcw hx (fun z _ hz => ?_)⟩
  · rw [e] at q
    by_cases c : eN b = 0
    · rw [show eKd (.mulL k b) = 3 from if_pos c] at q
      exact absurd q (by decide)
    · rw [show eKd (.mulL k b) = 4 from if_neg c] at q
      exact absurd q (by decide)
  · by_cases cv : ∃ w : Nat, t = .var w
    · obtain ⟨w, rfl⟩ := cv
      exact absurd (show (3 : Int) ≤ 1 from q) (by decide)
    · rcases cTm_sh hx (fun w e => cv ⟨w, e⟩) with ⟨v, rfl⟩ | ⟨kk, b, rfl, -, -, -⟩
      · exact absurd (show (3 : Int) ≤ 2 from q) (by decide)
      · rw [(hz kk b rfl).1]
        refine ⟨fun q2 => h0 (fun ⟨k, b', e, e2⟩ => ?_), fun q2 => h1 ⟨kk, b, rfl, q2⟩⟩
        injection e with e3 e4
        rw [e3, e4] at q2
        exact q2 e2
/-- a list is closed -/
theorem vCl (hP : ∀ x2 m, (∀ P' : Int → hy_m → Prop, (∀ a c, P a c → P' a c) → wf_159_19 T Q P' x2 m) → P x2 m) {P' : Int → hy_m → Prop} (hPP : ∀ a c, P a c → P' a c) (hS : dSt X m0 m (d + 1) o nm) (hl : o.length < 120) (hk : k ≤ o.length) (hc : ∀ m' (k' : Nat), dSt X m0 m' d (tkp o [93]) nm → (∀ i : Int, m' 72 i = m 72 i ∧ m' 73 i = m 73 i) → (tkp o [93]).length < 120 → k' ≤ (tkp o [93]).length → P (k' : Int) m') (hfu : ∀ m', dFx m0 m' → cOu m' (tkp o [93]) → (tkp o [93]).length = 120 → Q 0 m') : wq_163_76 T m (fun _ m2 => hy_r 0 ((k : Int) + 1) ∧ P' ((k : Int) + 1) m2) := by
  unfold wq_163_76
  refine sp_168 (by decide) hS.2.2.1 (fun m1 f1 o1 => ?_)
  obtain ⟨s1, r1, r2⟩ := dSt_out hS f1 o1
  have hd := hS.2.2.2.2.2
  have hol : (tkp o [(93 : Int)]).length = o.length + 1 := by
    rw [tkp_1 hl, List.length_append]
    rfl
  rw [s1.2.1, show ((d + 1 : Nat) : Int) - 1 = (d : Int) by omega]
  have s2 : dSt X m0 (hy_u m1 69 7 (d : Int)) d (tkp o [(93 : Int)]) nm := dSt_k s1 (fun a e q1 q2 q3 => hy_uf q3) (hy_us ..) (by omega)
  refine ⟨show -2147483648 ≤ _ ∧ _ < 2147483648 by omega, show -2147483648 ≤ _ ∧ _ < 2147483648 by omega, hPP _ _ ?_⟩
  by_cases cf : (tkp o [(93 : Int)]).length = 120
  · exact vEx hP s2.2.2.1 cf (hfu _ s2.1 s2.2.2.1 cf)
  · have := tkp_le o [(93 : Int)]
    rw [show (k : Int) + 1 = ((k + 1 : Nat) : Int) by omega]
    exact hc _ (k + 1) s2 (fun i => ⟨by rw [hy_ua (by decide), r1], by rw [hy_ua (by decide), r2]⟩) (by omega) (by omega)
/-- what a step in a list does at first -/
theorem vLp {j : Nat} (hs : dSep X) (hO : cOr X) (hcw : cW X T m0) (hB : cBd X m0 B) (hR : Res B s) (hx : cTm X m0 x (.mulL 2 (.add a1 (.add a2 (.num 0))))) (hD : ∀ w, vIn w (.add a1 (.add a2 (.num 0))) → cDm X w) (hS : dSt X m0 m (d + 1) o nm) (hl : o.length < 120) (hj : j ≤ 2) (h73 : m 73 (d : Int) = j) {R : Int → hy_m → Prop} (h0 : j = 0 → ∀ y t' m1, cFo X m0 B y t' → sb s t' = sb s a1 → dSt X m0 m1 (d + 1) o nm → (∀ i, m1 72 i = m 72 i) → (∀ i : Int, i ≠ d → m1 73 i = m 73 i) → m1 73 (d : Int) = 1 → wq_160 y T m1 (fun _ m8 => R 0 m8)) (h1 : j = 1 → ∀ y t' m1, cFo X m0 B y t' → sb s t' = sb s a2 → dSt X m0 m1 (d + 1) o nm → (∀ i, m1 72 i = m 72 i) → (∀ i : Int, i ≠ d → m1 73 i = m 73 i) → m1 73 (d : Int) = 2 → wq_164 y 47980 T m1 (fun r3 m3 => (r3 = 0 → (wq_164 y 186 T m3 (fun r4 m4 => (r4 = 0 → (wq_168 124 m4 (fun _ m5 => wq_160 y T m5 (fun _ m6 => R 0 m6)))) ∧ (r4 ≠ 0 → (wq_168 44 m4 (fun _ m7 => 0 ≤ ((m7 69 7) - 1) ∧ ((m7 69 7) - 1) < 120 ∧ (0 ≤ ((m7 69 7) - 1) ∧ ((m7 69 7) - 1) < 120 ∧ (R 0 (hy_u (hy_u m7 72 ((m7 69 7) - 1) y) 73 ((m7 69 7) - 1) 0))))))))) ∧ (r3 ≠ 0 → (wq_163_76 T m3 R)))) (h2 : j = 2 → ∀ m1, dSt X m0 m1 (d + 1) o nm → (∀ i, m1 72 i = m 72 i) → (∀ i : Int, i ≠ d → m1 73 i = m 73 i) → wq_163_76 T m1 R) : wq_163 x T m R := by
  have hd := hS.2.2.2.2.2
  unfold wq_163
  rw [hS.2.1, show ((d + 1 : Nat) : Int) - 1 = (d : Int) by omega, h73]
  refine ⟨by omega, by omega, by omega, by omega, by omega, by omega, show -2147483648 ≤ _ ∧ _ < 2147483648 by omega, ?_⟩
  have s4 : dSt X m0 (hy_u m 73 (d : Int) ((j : Int) + 1)) (d + 1) o nm := dSt_k hS (fun a e q1 q2 q3 => hy_ua q2) (by rw [hy_ua (by decide)]; exact hS.2.1) hd
  have e72 : ∀ i, hy_u m 73 (d : Int) ((j : Int) + 1) 72 i = m 72 i := fun i => hy_ua (by decide)
  have e73 : ∀ i : Int, i ≠ d → hy_u m 73 (d : Int) ((j : Int) + 1) 73 i = m 73 i := fun i hi => hy_uk hi
  have e73d : hy_u m 73 (d : Int) ((j : Int) + 1) 73 (d : Int) = (j : Int) + 1 := hy_us ..
  generalize hy_u m 73 (d : Int) ((j : Int) + 1) = m4 at *
  have ag4 := dFx_ag hs s4.1
  have lb : isL (.add a1 (.add a2 (.num 0))) := rfl
  have ei : (if 1 < (j : Int) then (1 : Int) else (j : Int)) = (((if j = 0 then 0 else 1) : Nat) : Int) := by
    rcases (show j = 0 ∨ j = 1 ∨ j = 2 by omega) with rfl | rfl | rfl <;> rfl
  rw [ei]
  have hlt : (if j = 0 then 0 else 1) < eN (.add a1 (.add a2 (.num 0))) := by
    show (if j = 0 then 0 else 1) < 2
    split <;> decide
  refine sp_132 (cW_ag ag4 hcw) (cTm_ag ag4 hx) hlt (fun y1 hy1 _ => sp_124 (cW_ag ag4 hcw) hO (cBd_ag ag4 (dFx_b4 hs s4.1) hB) hR hy1 (fun w' hw' => hD w' (vIn_ar w' _ _ lb hlt hw')) (fun y2 t2 hF hsb => ?_))
  have hF0 : cFo X m0 B y2 t2 := ⟨cTm_ag ag4.sy hF.1, hF.2⟩
  have hst := (hsb s hR.sol).symm
  refine ⟨fun q => ⟨fun q2 => h2 (by omega) m4 s4 e72 e73, fun q2 => ?_⟩, fun q => ?_⟩
  · have ej : j = 1 := by omega
    subst ej
    exact h1 rfl y2 t2 m4 hF0 hst s4 e72 e73 e73d
  · have ej : j = 0 := by omega
    subst ej
    exact h0 rfl y2 t2 m4 hF0 hst s4 e72 e73 e73d
theorem vLi (hP : ∀ x2 m, (∀ P' : Int → hy_m → Prop, (∀ a c, P a c → P' a c) → wf_159_19 T Q P' x2 m) → P x2 m) (hs : dSep X) (hO : cOr X) (hcw : cW X T m0) (hB : cBd X m0 B) (hR : Res B s) (hx : cTm X m0 x (.mulL 2 (.add a1 (.add a2 (.num 0))))) (hD : ∀ w, vIn w (.add a1 (.add a2 (.num 0))) → cDm X w) (G1 : ∀ y t', cFo X m0 B y t' → sb s t' = sb s a1 → vGo X T s m0 Q P t' y) (G2 : ∀ y t', cFo X m0 B y t' → sb s t' = sb s a2 → vGo X T s m0 Q P t' y) (L2 : ∀ y c1 c2, cTm X m0 y (.mulL 2 (.add c1 (.add c2 (.num 0)))) → (∀ w, vIn w (.add c1 (.add c2 (.num 0))) → cDm X w) → sb s (.mulL 2 (.add c1 (.add c2 (.num 0)))) = sb s a2 → vLs X T s m0 Q P c1 c2 y) : vLs X T s m0 Q P a1 a2 x := by
  intro d k o nm m hS hl hk h72 h73 hc hfu
  -- the end, behind a bar
  have en : ∀ (k : Nat) (o : List Int) (nm : List Nat) (m : hy_m), dSt X m0 m (d + 1) o nm → o.length < 120 → k ≤ o.length → m 72 (d : Int) = x → m 73 (d : Int) = 2 → (∀ m' (k' : Nat), dSt X m0 m' d (tkp o [93]) nm → (∀ i : Int, i < d → m' 72 i = m 72 i ∧ m' 73 i = m 73 i) → (tkp o [93]).length < 120 → k' ≤ (tkp o [93]).length → P (k' : Int) m') → (∀ m', dFx m0 m' → cOu m' (tkp o [93]) → (tkp o [93]).length = 120 → Q 0 m') → P (k : Int) m := fun k o nm m hS hl hk h72 h73 hc hfu => by
    refine vHe hP hs hcw hS hl hk hx h72 (fun e => absurd rfl e) (fun _ P' hPP => ?_)
    refine vLp (j := 2) hs hO hcw hB hR hx hD hS hl (by decide) h73 (fun q => absurd q (by decide)) (fun q => absurd q (by decide)) (fun _ m1 s1 r1 r2 => ?_)
    exact vCl hP hPP s1 hl hk (fun m' k' a b c e => hc m' k' a (fun i hi => ⟨by rw [(b i).1, r1], by rw [(b i).2, r2 i (by omega)]⟩) c e) hfu
  -- the rest
  have re : ∀ (k : Nat) (o : List Int) (nm : List Nat) (m : hy_m), dSt X m0 m (d + 1) o nm → o.length < 120 → k ≤ o.length → m 72 (d : Int) = x → m 73 (d : Int) = 1 → (∀ m' (k' : Nat), dSt X m0 m' d (tkp o (wM (sb s a2) 2 nm).1) (wM (sb s a2) 2 nm).2 → (∀ i : Int, i < d → m' 72 i = m 72 i ∧ m' 73 i = m 73 i) → (tkp o (wM (sb s a2) 2 nm).1).length < 120 → k' ≤ (tkp o (wM (sb s a2) 2 nm).1).length → P (k' : Int) m') → (∀ m', dFx m0 m' → cOu m' (tkp o (wM (sb s a2) 2 nm).1) → (tkp o (wM (sb s a2) 2 nm).1).length = 120 → Q 0 m') → P (k : Int) m := fun k o nm m hS hl hk h72 h73 hc hfu => by
    refine vHe hP hs hcw hS hl hk hx h72 (fun e => absurd rfl e) (fun _ P' hPP => ?_)
    refine vLp (j := 1) hs hO hcw hB hR hx hD hS hl (by decide) h73 (fun q => absurd q (by decide)) (fun _ y t2 m1 hF hst s1 r1 r2 r3 => ?_) (fun q => absurd q (by decide))
    have ag1 := dFx_ag hs s1.1
    have hcw1 := cW_ag ag1 hcw
    have hy1 := cTm_ag ag1 hF.1
    rw [← hst] at hc hfu
    refine sp_164 hcw1 hy1 (fun ⟨kk, b, e, ek⟩ => ⟨fun q => absurd q (by decide), fun _ => ?_⟩) (fun hno => ⟨fun _ => sp_164 hcw1 hy1 (fun ⟨kk, b, e, ek⟩ => ⟨fun q => absurd q (by decide), fun _ => ?_⟩) (fun hno2 => ⟨fun _ => ?_, fun q => absurd rfl q⟩), fun q => absurd rfl q⟩)
    · subst e
      obtain ⟨hnm, h3, lb, hk1, -⟩ := cTm_nm hF.1
      have ek1 := kC_inj hnm (Or.inl rfl) h3 (by decide) (ek.trans kC_nil.symm)
      have ew : wM (sb s (.mulL kk b)) 2 nm = ([93], nm) := by
        show (if eN (sb s b) = 0 then (if kk = 1 then _ else _) else _) = _
        rw [(isL_sbL s b lb).2, if_pos ek1.2, if_pos ek1.1]
      rw [ew] at hc hfu
      exact vCl hP hPP s1 hl hk (fun m' k' a b c e => hc m' k' a (fun i hi => ⟨by rw [(b i).1, r1], by rw [(b i).2, r2 i (by omega)]⟩) c e) hfu
    · subst e
      obtain ⟨hnm, h3, lb, -, hk2⟩ := cTm_nm hF.1
      have ek2 := (kC_186 hnm h3 hk2).mp ek
      subst ek2
      obtain ⟨c1, c2, rfl⟩ := sh2 lb (hk2 rfl)
      have ew : wM (sb s (.mulL 2 (.add c1 (.add c2 (.num 0))))) 2 nm = ([44] ++ ((wM (sb s c1) 0 nm).1 ++ (wM (sb s c2) 2 (wM (sb s c1) 0 nm).2).1), (wM (sb s c2) 2 (wM (sb s c1) 0 nm).2).2) := rfl
      rw [ew] at hc hfu
      refine sp_168 (by decide) s1.2.2.1 (fun m2 f2 o2 => ?_)
      obtain ⟨s2, q1, q2⟩ := dSt_out s1 f2 o2
      have hd := hS.2.2.2.2.2
      have hol : (tkp o [(44 : Int)]).length = o.length + 1 := by
        rw [tkp_1 hl, List.length_append]
        rfl
      rw [s2.2.1, show ((d + 1 : Nat) : Int) - 1 = (d : Int) by omega]
      have s3 : dSt X m0 (hy_u (hy_u m2 72 (d : Int) y) 73 (d : Int) 0) (d + 1) (tkp o [(44 : Int)]) nm := dSt_k s2 (fun a e q1 q2 q3 => by rw [hy_ua q2, hy_ua q1]) (by rw [hy_ua (by decide), hy_ua (by decide)]; exact s2.2.1) (by omega)
      refine ⟨by omega, by omega, by omega, by omega, show -2147483648 ≤ _ ∧ _ < 2147483648 by omega, hPP _ _ ?_⟩
      by_cases cf : (tkp o [(44 : Int)]).length = 120
      · have e2 : tkp o ([44] ++ ((wM (sb s c1) 0 nm).1 ++ (wM (sb s c2) 2 (wM (sb s c1) 0 nm).2).1)) = tkp o [(44 : Int)] := tkp_up _ cf
        exact vEx hP s3.2.2.1 cf (hfu _ s3.1 (by rw [e2]; exact s3.2.2.1) (by rw [e2]; exact cf))
      · have := tkp_le o [(44 : Int)]
        rw [show (k : Int) + 1 = ((k + 1 : Nat) : Int) by omega]
        refine L2 y c1 c2 hF.1 hF.2.1 hst d (k + 1) _ nm _ s3 (by omega) (by omega) (by rw [hy_ua (by decide), hy_us]) (hy_us ..) (fun m4 k4 s4 r4 l4 g4 => hc m4 k4 ?_ (fun i hi => ⟨by rw [(r4 i hi).1, hy_ua (by decide), hy_uk (by omega), q1, r1], by rw [(r4 i hi).2, hy_uk (by omega), hy_ua (by decide), q2, r2 i (by omega)]⟩) ?_ ?_) (fun m4 f4 o4 l4 => hfu m4 f4 ?_ ?_)
        · rw [tkp_tkp] at s4
          exact s4
        · rw [tkp_tkp] at l4
          exact l4
        · rw [tkp_tkp] at g4
          exact g4
        · rw [tkp_tkp] at o4
          exact o4
        · rw [tkp_tkp] at l4
          exact l4
    · have ew : wM (sb s t2) 2 nm = (124 :: (wM (sb s t2) 0 nm).1 ++ [93], (wM (sb s t2) 0 nm).2) := by
        rcases hF.2.2 with ⟨w, rfl, hbn⟩ | hnv
        · show wM (s w) 2 nm = (124 :: (wM (s w) 0 nm).1 ++ [93], (wM (s w) 0 nm).2)
          rw [(hR w).1 hbn]
          rfl
        · rcases cTm_sh hF.1 hnv with ⟨v, rfl⟩ | ⟨kk, b, rfl, lb, h3, hnm⟩
          · rfl
          · obtain ⟨-, -, -, hk1, hk2⟩ := cTm_nm hF.1
            have eb := isL_sbL s b lb
            refine wM_2 (fun b' e => ?_) (fun b' e => ?_) (fun x r e => by cases e) (fun e => e)
            · injection e with e1 e2
              intro c0
              have c1 : eN b = 0 := hk1 e1
              exact hno ⟨kk, b, rfl, by rw [e1, c1]; exact kC_nil⟩
            · injection e with e1 e2
              exact absurd ⟨kk, b, rfl, (kC_186 hnm h3 hk2).mpr e1⟩ hno2
      rw [ew] at hc hfu
      refine sp_168 (by decide) s1.2.2.1 (fun m2 f2 o2 => ?_)
      obtain ⟨s2, q1, q2⟩ := dSt_out s1 f2 o2
      have hd := hS.2.2.2.2.2
      have hol : (tkp o [(124 : Int)]).length = o.length + 1 := by
        rw [tkp_1 hl, List.length_append]
        rfl
      refine G2 y t2 hF hst (d + 1) (k + 1) _ nm m2 _ (fun r' m3 h => ⟨show -2147483648 ≤ _ ∧ _ < 2147483648 by omega, hPP _ _ (by rw [show (k : Int) + 1 = ((k + 1 : Nat) : Int) by omega]; exact h)⟩) s2 (by omega) (fun m3 k3 s3 r3' l3 g3 => ?_) (fun m3 f3 o3 l3 => ?_)
      · refine en k3 _ _ m3 s3 l3 g3 (by rw [(r3' _ (by omega)).1, q1, r1]; exact h72) (by rw [(r3' _ (by omega)).2, q2]; exact r3) (fun m4 k4 s4 r4 l4 g4 => hc m4 k4 ?_ (fun i hi => ⟨by rw [(r4 i hi).1, (r3' i (by omega)).1, q1, r1], by rw [(r4 i hi).2, (r3' i (by omega)).2, q2, r2 i (by omega)]⟩) ?_ ?_) (fun m4 f4 o4 l4 => hfu m4 f4 ?_ ?_)
        · rw [tkp_tkp, tkp_tkp] at s4
          exact s4
        · rw [tkp_tkp, tkp_tkp] at l4
          exact l4
        · rw [tkp_tkp, tkp_tkp] at g4
          exact g4
        · rw [tkp_tkp, tkp_tkp] at o4
          exact o4
        · rw [tkp_tkp, tkp_tkp] at l4
          exact l4
      · rw [tkp_tkp] at o3 l3
        have e2 : tkp o (124 :: (wM (sb s t2) 0 nm).1 ++ [93]) = tkp o ([(124 : Int)] ++ (wM (sb s t2) 0 nm).1) := tkp_up _ l3
        exact hfu m3 f3 (by rw [e2]; exact o3) (by rw [e2]; exact l3)
  refine vHe hP hs hcw hS hl hk hx h72 (fun e => absurd rfl e) (fun _ P' hPP => ?_)
  refine vLp (j := 0) hs hO hcw hB hR hx hD hS hl (by decide) h73 (fun _ y t2 m1 hF hst s1 r1 r2 r3 => ?_) (fun q => absurd q (by decide)) (fun q => absurd q (by decide))
  refine G1 y t2 hF hst (d + 1) (k + 1) o nm m1 _ (fun r' m3 h => ⟨show -2147483648 ≤ _ ∧ _ < 2147483648 by omega, hPP _ _ (by rw [show (k : Int) + 1 = ((k + 1 : Nat) : Int) by omega]; exact h)⟩) s1 (by omega) (fun m3 k3 s3 r3' l3 g3 => ?_) (fun m3 f3 o3 l3 => ?_)
  · rw [hst] at s3 l3 g3
    refine re k3 _ _ m3 s3 l3 g3 (by rw [(r3' _ (by omega)).1, r1]; exact h72) (by rw [(r3' _ (by omega)).2]; exact r3) (fun m4 k4 s4 r4 l4 g4 => hc m4 k4 ?_ (fun i hi => ⟨by rw [(r4 i hi).1, (r3' i (by omega)).1, r1], by rw [(r4 i hi).2, (r3' i (by omega)).2, r2 i (by omega)]⟩) ?_ ?_) (fun m4 f4 o4 l4 => hfu m4 f4 ?_ ?_)
    · rw [tkp_tkp] at s4
      exact s4
    · rw [tkp_tkp] at l4
      exact l4
    · rw [tkp_tkp] at g4
      exact g4
    · rw [tkp_tkp] at o4
      exact o4
    · rw [tkp_tkp] at l4
      exact l4
  · rw [hst] at o3 l3
    have e2 : tkp o ((wM (sb s a1) 0 nm).1 ++ (wM (sb s a2) 2 (wM (sb s a1) 0 nm).2).1) = tkp o (wM (sb s a1) 0 nm).1 := tkp_up _ l3
    exact hfu m3 f3 (by rw [e2]; exact o3) (by rw [e2]; exact l3)
end CWL
