/-! THE CLASS WRITES A TERM: arguments -/
section CWD
variable {X : cX} {T : hy_T} {B : bM} {s : Nat → pE} {m m' m0 : hy_m} {Q : Int → hy_m → Prop} {P : Int → hy_m → Prop} {o : List Int} {nm : List Nat} {d k : Nat} {t b : pE} {x kk : Int}
/-- the last open compound goes on -/
theorem vHe (hP : ∀ x2 m, (∀ P' : Int → hy_m → Prop, (∀ a c, P a c → P' a c) → wf_159_19 T Q P' x2 m) → P x2 m) (hs : dSep X) (hcw : cW X T m0) (hS : dSt X m0 m (d + 1) o nm) (hl : o.length < 120) (hk : k ≤ o.length) (hx : cTm X m0 x (.mulL kk b)) (h72 : m 72 (d : Int) = x) (hc : kk ≠ 2 → ∀ P' : Int → hy_m → Prop, (∀ a c, P a c → P' a c) → wq_162 x T m (fun _ m2 => hy_r 0 ((k : Int) + 1) ∧ P' ((k : Int) + 1) m2)) (hli : kk = 2 → ∀ P' : Int → hy_m → Prop, (∀ a c, P a c → P' a c) → wq_163 x T m (fun _ m2 => hy_r 0 ((k : Int) + 1) ∧ P' ((k : Int) + 1) m2)) : P (k : Int) m := by
  have ag := dFx_ag hs hS.1
  obtain ⟨hnm, h3, lb, -, h2⟩ := cTm_nm hx
  have hd := hS.2.2.2.2.2
  refine hP _ _ (fun P' hPP => ?_)
  unfold wf_159_19
  rw [hS.2.1, hS.2.2.1.1, show ((d + 1 : Nat) : Int) - 1 = (d : Int) by omega, h72]
  refine ⟨fun q => by omega, fun _ => ⟨fun q => by omega, fun _ => ⟨fun q => by omega, fun _ => ⟨by omega, by omega, sp_130 (cW_ag ag hcw) (cTm_ag ag hx) (fun z _ hz => ?_)⟩⟩⟩⟩
  rw [(hz kk b rfl).1]
  have h186 := kC_186 hnm h3 h2
  exact ⟨fun q => hc (fun e => q (h186.mpr e)) P' hPP, fun q => hli (h186.mp q) P' hPP⟩
def txA (s : Nat → pE) (r : pE) (j : Nat) (nm : List Nat) : List Int × List Nat := if eN r = 0 then ([41], nm) else if j = 0 then wM (sb s r) 1 nm else (44 :: (wM (sb s r) 1 nm).1, (wM (sb s r) 1 nm).2)
theorem vAr (hP : ∀ x2 m, (∀ P' : Int → hy_m → Prop, (∀ a c, P a c → P' a c) → wf_159_19 T Q P' x2 m) → P x2 m) (hs : dSep X) (hO : cOr X) (hcw : cW X T m0) (hB : cBd X m0 B) (hR : Res B s) (hx : cTm X m0 x (.mulL kk b)) (hk2 : kk ≠ 2) (hD : ∀ w, vIn w b → cDm X w) : ∀ (r : pE) (j : Nat), isL r → eN b = j + eN r → (∀ i, i < eN r → eAr b (j + i) = eAr r i) → (∀ i, i < eN r → ∀ y t', cFo X m0 B y t' → sb s t' = sb s (eAr r i) → vGo X T s m0 Q P t' y) → ∀ (d k : Nat) (o : List Int) (nm : List Nat) (m : hy_m), dSt X m0 m (d + 1) o nm → o.length < 120 → k ≤ o.length → m 72 (d : Int) = x → m 73 (d : Int) = j → (∀ m' (k' : Nat), dSt X m0 m' d (tkp o (txA s r j nm).1) (txA s r j nm).2 → (∀ i : Int, i < d → m' 72 i = m 72 i ∧ m' 73 i = m 73 i) → (tkp o (txA s r j nm).1).length < 120 → k' ≤ (tkp o (txA s r j nm).1).length → P (k' : Int) m') → (∀ m', dFx m0 m' → cOu m' (tkp o (txA s r j nm).1) → (tkp o (txA s r j nm).1).length = 120 → Q 0 m') → P (k : Int) m
  | .var _, _, h, _, _, _, _, _, _, _, _, _, _, _, _, _, _, _ => h.elim
  | .mulL _ _, _, h, _, _, _, _, _, _, _, _, _, _, _, _, _, _, _ => h.elim
  | .sub _ _, _, h, _, _, _, _, _, _, _, _, _, _, _, _, _, _, _ => h.elim
  | .neg _, _, h, _, _, _, _, _, _, _, _, _, _, _, _, _, _, _ => h.elim
  | .mulR _ _, _, h, _, _, _, _, _, _, _, _, _, _, _, _, _, _, _ => h.elim
  | .num i0, j, _, hj, _, _, d, k, o, nm, m, hS, hl, hk, h72, h73, hc, hfu => by
    have hj : eN b = j := hj
    have ag := dFx_ag hs hS.1
    obtain ⟨hnm, h3, lb, -, h2⟩ := cTm_nm hx
    have hd := hS.2.2.2.2.2
    have ew : txA s (.num i0) j nm = ([41], nm) := rfl
    rw [ew] at hc hfu
    refine vHe hP hs hcw hS hl hk hx h72 (fun _ P' hPP => ?_) (fun e => absurd e hk2)
    unfold wq_162
    rw [hS.2.1, show ((d + 1 : Nat) : Int) - 1 = (d : Int) by omega, h73]
    refine ⟨by omega, by omega, sp_130 (cW_ag ag hcw) (cTm_ag ag hx) (fun z _ hz => ?_)⟩
    rw [(hz kk b rfl).1]
    refine sp_26 h3 ⟨fun q => by omega, fun _ => sp_168 (by decide) hS.2.2.1 (fun m1 f1 o1 => ?_)⟩
    obtain ⟨s1, r1, r2⟩ := dSt_out hS f1 o1
    have hol : (tkp o [(41 : Int)]).length = o.length + 1 := by
      rw [tkp_1 hl, List.length_append]
      rfl
    rw [s1.2.1, show ((d + 1 : Nat) : Int) - 1 = (d : Int) by omega]
    have s2 : dSt X m0 (hy_u m1 69 7 (d : Int)) d (tkp o [(41 : Int)]) nm := dSt_k s1 (fun a e q1 q2 q3 => hy_uf q3) (hy_us ..) (by omega)
    refine ⟨show -2147483648 ≤ _ ∧ _ < 2147483648 by omega, show -2147483648 ≤ _ ∧ _ < 2147483648 by omega, hPP _ _ ?_⟩
    by_cases cf : (tkp o [(41 : Int)]).length = 120
    · exact vEx hP s2.2.2.1 cf (hfu _ s2.1 s2.2.2.1 cf)
    · have := tkp_le o [(41 : Int)]
      rw [show (k : Int) + 1 = ((k + 1 : Nat) : Int) by omega]
      exact hc _ (k + 1) s2 (fun i hi => ⟨by rw [hy_ua (by decide), r1], by rw [hy_ua (by decide), r2]⟩) (by
        show (tkp o [(41 : Int)]).length < 120
        omega) (by
        show k + 1 ≤ (tkp o [(41 : Int)]).length
        omega)
  | .add x0 r, j, lr, hj, hea, IH, d, k, o, nm, m, hS, hl, hk, h72, h73, hc, hfu => by
    have lr : isL r := lr
    have hj : eN b = j + (eN r + 1) := hj
    have er : eN (sb s r) = eN r := (isL_sbL s r lr).2
    have ag := dFx_ag hs hS.1
    obtain ⟨hnm, h3, lb, -, h2⟩ := cTm_nm hx
    have hd := hS.2.2.2.2.2
    have hjb : eAr b j = x0 := hea 0 (by show 0 < eN r + 1; omega)
    have ww : ∀ nm, wM (sb s (.add x0 r)) 1 nm = ((wM (sb s x0) 0 nm).1 ++ (txA s r (j + 1) (wM (sb s x0) 0 nm).2).1, (txA s r (j + 1) (wM (sb s x0) 0 nm).2).2) := fun nm => by
      show (if eN (sb s r) = 0 then _ else _) = _
      unfold txA
      rw [er]
      by_cases c0 : eN r = 0
      · rw [if_pos c0, if_pos c0]
      · rw [if_neg c0, if_neg c0, if_neg (Nat.succ_ne_zero j)]
    have ew : txA s (.add x0 r) j nm = ((if j = 0 then [] else [44]) ++ ((wM (sb s x0) 0 nm).1 ++ (txA s r (j + 1) (wM (sb s x0) 0 nm).2).1), (txA s r (j + 1) (wM (sb s x0) 0 nm).2).2) := by
      have e1 : txA s (.add x0 r) j nm = if j = 0 then wM (sb s (.add x0 r)) 1 nm else (44 :: (wM (sb s (.add x0 r)) 1 nm).1, (wM (sb s (.add x0 r)) 1 nm).2) := by
        unfold txA
        rw [if_neg (show ¬ eN (.add x0 r) = 0 from Nat.succ_ne_zero _)]
      rw [e1, ww]
      by_cases c : j = 0
      · rw [if_pos c, if_pos c]
        rfl
      · rw [if_neg c, if_neg c]
        rfl
    rw [ew] at hc hfu
    refine vHe hP hs hcw hS hl hk hx h72 (fun _ P' hPP => ?_) (fun e => absurd e hk2)
    -- the argument
    have go : ∀ (w : List Int) (m3 : hy_m), w = (if j = 0 then [] else [44]) → dSt X m0 m3 (d + 1) (tkp o w) nm → (∀ i, m3 72 i = m 72 i) → (∀ i, m3 73 i = m 73 i) → wq_162_54 x (j : Int) T m3 (fun _ m2 => hy_r 0 ((k : Int) + 1) ∧ P' ((k : Int) + 1) m2) := fun w m3 hw s3 r1 r2 => by
      rw [← hw] at hc hfu
      unfold wq_162_54
      rw [s3.2.1, show ((d + 1 : Nat) : Int) - 1 = (d : Int) by omega, r2, h73]
      refine ⟨by omega, by omega, by omega, by omega, show -2147483648 ≤ _ ∧ _ < 2147483648 by omega, ?_⟩
      have s4 : dSt X m0 (hy_u m3 73 (d : Int) ((j : Int) + 1)) (d + 1) (tkp o w) nm := dSt_k s3 (fun a e q1 q2 q3 => hy_ua q2) (by rw [hy_ua (by decide)]; exact s3.2.1) s3.2.2.2.2.2
      have e72 : ∀ i, hy_u m3 73 (d : Int) ((j : Int) + 1) 72 i = m 72 i := fun i => by rw [hy_ua (by decide), r1]
      have e73 : ∀ i : Int, i ≠ d → hy_u m3 73 (d : Int) ((j : Int) + 1) 73 i = m 73 i := fun i hi => by rw [hy_uk hi, r2]
      have e73d : hy_u m3 73 (d : Int) ((j : Int) + 1) 73 (d : Int) = (j : Int) + 1 := hy_us ..
      generalize hy_u m3 73 (d : Int) ((j : Int) + 1) = m4 at *
      have ag4 := dFx_ag hs s4.1
      refine sp_132 (j := j) (cW_ag ag4 hcw) (cTm_ag ag4 hx) (by omega) (fun y1 hy1 _ => sp_124 (cW_ag ag4 hcw) hO (cBd_ag ag4 (dFx_b4 hs s4.1) hB) hR hy1 (fun w' hw' => hD w' (vIn_ar w' b j lb (by omega) hw')) (fun y2 t2 hF hsb => ?_))
      have hst : sb s t2 = sb s x0 := by
        rw [← hjb]
        exact (hsb s hR.sol).symm
      have hF0 : cFo X m0 B y2 t2 := ⟨cTm_ag ag4.sy hF.1, hF.2⟩
      have hw1 : w.length ≤ 1 := by
        rw [hw]
        split <;> decide
      have hol : o.length ≤ (tkp o w).length := by
        rw [tkp_len]
        omega
      refine IH 0 (by show 0 < eN r + 1; omega) y2 t2 hF0 hst (d + 1) (k + 1) (tkp o w) nm m4 _ (fun r' m1 h => ⟨show -2147483648 ≤ _ ∧ _ < 2147483648 by omega, hPP _ _ (by rw [show (k : Int) + 1 = ((k + 1 : Nat) : Int) by omega]; exact h)⟩) s4 (by omega) (fun m5 k5 s5 r5 l5 g5 => ?_) (fun m5 f5 o5 l5 => ?_)
      · rw [hst] at s5 l5 g5
        refine vAr hP hs hO hcw hB hR hx hk2 hD r (j + 1) lr (by omega) (fun i hi => ?_) (fun i hi y t' h1 h2 => IH (i + 1) (by show i + 1 < eN r + 1; omega) y t' h1 h2) d k5 _ _ m5 s5 l5 g5 (by rw [(r5 _ (by omega)).1, e72]; exact h72) (by rw [(r5 _ (by omega)).2, e73d]; omega) (fun m6 k6 s6 r6 l6 g6 => hc m6 k6 ?_ (fun i hi => ⟨by rw [(r6 i hi).1, (r5 i (by omega)).1, e72], by rw [(r6 i hi).2, (r5 i (by omega)).2, e73 i (by omega)]⟩) ?_ ?_) (fun m6 f6 o6 l6 => hfu m6 f6 ?_ ?_)
        · have := hea (i + 1) (by show i + 1 < eN r + 1; omega)
          rw [show j + 1 + i = j + (i + 1) by omega]
          exact this
        · rw [tkp_tkp, tkp_tkp] at s6
          exact s6
        · rw [tkp_tkp, tkp_tkp] at l6
          exact l6
        · rw [tkp_tkp, tkp_tkp] at g6
          exact g6
        · rw [tkp_tkp, tkp_tkp] at o6
          exact o6
        · rw [tkp_tkp, tkp_tkp] at l6
          exact l6
      · rw [hst, tkp_tkp] at o5 l5
        have e : tkp o (w ++ ((wM (sb s x0) 0 nm).1 ++ (txA s r (j + 1) (wM (sb s x0) 0 nm).2).1)) = tkp o (w ++ (wM (sb s x0) 0 nm).1) := by
          rw [← List.append_assoc]
          exact tkp_up _ l5
        exact hfu m5 f5 (by rw [e]; exact o5) (by rw [e]; exact l5)
    unfold wq_162
    rw [hS.2.1, show ((d + 1 : Nat) : Int) - 1 = (d : Int) by omega, h73]
    refine ⟨by omega, by omega, sp_130 (cW_ag ag hcw) (cTm_ag ag hx) (fun z _ hz => ?_)⟩
    rw [(hz kk b rfl).1]
    refine sp_26 h3 ⟨fun _ => ⟨fun q => go [] m (by rw [if_pos (by omega)]) (by rw [tkp_nil hS.2.2.1.2.1]; exact hS) (fun _ => rfl) (fun _ => rfl), fun q => sp_168 (by decide) hS.2.2.1 (fun m1 f1 o1 => ?_)⟩, fun q => by omega⟩
    obtain ⟨s1, r1, r2⟩ := dSt_out hS f1 o1
    exact go [44] m1 (by rw [if_neg (by omega)]) s1 r1 r2
end CWD
