/-! THE MODEL LISTS A CLAUSE -/
def lsG : List pE → Bool → List Nat → List Int
  | [], _, _ => []
  | g :: r, b, nm => (if b = true then [58, 45] else [44]) ++ ((wM (rn 2490 g) 0 nm).1 ++ lsG r false (wM (rn 2490 g) 0 nm).2)
def lsT (cl : pCl) : List Int := (wM (rn 2490 cl.1) 0 []).1 ++ (lsG cl.2.1 true (wM (rn 2490 cl.1) 0 []).2 ++ [46])
section NH
variable {ss : List Nat} {m m' : hy_m} {PL : List pCl} {Q : Int → hy_m → Prop} {x k : Int}
theorem rn_ge {p w nv : Nat} {t : pE} (hk : eK nv t false) (h : vIn w (rn p t)) : p ≤ w := by
  clear hk
  unfold rn at h
  revert h
  induction t with
  | var v =>
    intro h
    have h : p + (v : Nat) = w := h
    omega
  | num i => exact fun h => h.elim
  | mulL k a ih => exact fun h => ih h
  | add a r ih1 ih2 => exact fun h => h.elim ih1 ih2
  | sub a r => exact fun h => h.elim
  | neg a => exact fun h => h.elim
  | mulR a k => exact fun h => h.elim
theorem sb_rn_var (p : Nat) (t : pE) : sb (fun x => .var x) (rn p t) = rn p t := by
  unfold rn
  rw [sb_comp]
  exact sb_congr t (fun y _ => rfl)
theorem sp_296 (hL : mLo m 85 0 PL ss) (h30 : ∀ cl ∈ PL, aM cl.1 + aMs cl.2.1 ≤ 30) (h97 : ∀ e : Int, 2490 ≤ e → e < 2500 → m 97 e = -1) (h0 : ¬ (0 ≤ x ∧ x < PL.length ∧ 0 ≤ k) → Q (-1) m) (hq : ∀ (c : Nat) cl m', x = c → PL[c]? = some cl → 0 ≤ k → wFx m m' → Q (tsA (tkp [] (lsT cl)) k) m') : wq_296 x k m Q := by
  have hp := mLo_P hL
  unfold wq_296
  refine sp_205 hp (fun a1 a2 => ⟨fun q => absurd q (by decide), fun _ => ⟨fun hk => ?_, fun hk => h0 (by omega)⟩⟩) (fun q => ⟨fun _ => h0 (by omega), fun z => absurd rfl z⟩)
  obtain ⟨c, rfl⟩ : ∃ c : Nat, x = c := ⟨x.toNat, by omega⟩
  have hc : c < PL.length := by omega
  have h20 := hL.2.1
  obtain ⟨sl, y1, y2, y3, y4, y5, y6⟩ := mPo_i hp hc
  have hq := fun m' => hq c _ m' rfl (List.getElem?_eq_getElem hc) hk
  have ha := h30 _ (List.getElem_mem hc)
  generalize PL[c] = cl at y4 y5 y6 hq ha
  refine sp_206 (by omega) y3 (sp_295 (fun m1 f1 o1 n1 => ⟨by omega, by omega, ?_⟩))
  have hr1 : mRw m m1 := fun a e q1 q2 => f1 a e (by omega)
  have z4 : clR m1 sl (some cl.1) cl.2.1 cl.2.2 := clR_rw hr1 y4
  obtain ⟨b1, b2, b3, b4, b5⟩ := zNd_all z4 (by omega) y5 ha
  obtain ⟨g82, g84, gg, gh⟩ := clR_g z4 (by omega)
  have hnv := y5.1
  -- the world of the spare place
  have hG : gC (gL [(zNd (mR m1) sl (some cl.1) cl.2.1, 2490)]) m1 := gL_gC (fun q hq => by
    rw [List.mem_singleton.mp hq]
    exact b1)
  have hB : mBd (gL [(zNd (mR m1) sl (some cl.1) cl.2.1, 2490)]) m1 (fun w => 2490 ≤ w ∧ w < 2498) (fun _ => none) := fun v => ⟨fun hv => ⟨by omega, Or.inl ⟨rfl, by rw [f1 _ _ (by omega)]; exact h97 _ (by omega) (by omega)⟩⟩, fun _ => rfl⟩
  have hR : Res (fun _ => none) (fun x => (.var x : pE)) := fun x => ⟨fun _ => rfl, fun t e => by cases e⟩
  have term : ∀ (n : Int) (t : pE), n ∈ zNd (mR m1) sl (some cl.1) cl.2.1 → mN m1 t n → eK cl.2.2 t false → mTm (gL [(zNd (mR m1) sl (some cl.1) cl.2.1, 2490)]) m1 (4096 * 2490 + n) (rn 2490 t) := by
    intro n t h1 h2 h3
    have h4 := rP_A h2
    obtain ⟨i, rfl⟩ : ∃ i : Nat, n = i := ⟨n.toNat, by omega⟩
    exact Or.inr (Or.inr ⟨i, 2490, cl.2.2, t, rfl, by omega, hnv, by omega, h2, h3, rfl, _, List.mem_singleton.mpr rfl, h1, rfl⟩)
  have hvD : ∀ (t : pE), eK cl.2.2 t false → ∀ w, vIn w (rn 2490 t) → 2490 ≤ w ∧ w < 2498 := fun t h1 w h2 => ⟨rn_ge h1 h2, by have := rn_in h1 h2; omega⟩
  -- a term is put
  have put : ∀ (m2 : hy_m) (o : List Int) (nm : List Nat) (n : Int) (t : pE) (Q' : Int → hy_m → Prop), wFx m1 m2 → mOu m2 o → (o.length < 120 → mNa m2 nm ∧ nm.length ≤ o.length) → n ∈ zNd (mR m1) sl (some cl.1) cl.2.1 → mN m1 t n → eK cl.2.2 t false → (∀ m3, wFx m1 m3 → mOu m3 (tkp o (wM (rn 2490 t) 0 nm).1) → ((tkp o (wM (rn 2490 t) 0 nm).1).length < 120 → mNa m3 (wM (rn 2490 t) 0 nm).2 ∧ (wM (rn 2490 t) 0 nm).2.length ≤ (tkp o (wM (rn 2490 t) 0 nm).1).length) → Q' 0 m3) → wq_234 n 2490 m2 (fun r m3 => wq_294 r m3 Q') := by
    intro m2 o nm n t Q' f2 o2 n2 h1 h2 h3 h4
    have hA := rP_A h2
    have hr2 : mRw m1 m2 := fun a e q1 q2 => f2 a e (by omega) (by omega) (by omega) (by omega)
    refine ⟨show -9223372036854775808 ≤ _ ∧ _ < 9223372036854775808 by omega, ?_⟩
    have hG2 : gC (gL [(zNd (mR m1) sl (some cl.1) cl.2.1, 2490)]) m2 := fun n p j g1 g2 => by
      rw [hr2 78 _ (by decide) (by decide)] at g2
      rw [hr2 79 _ (by decide) (by decide)]
      exact hG n p j g1 g2
    refine sp_294f (D := fun w => 2490 ≤ w ∧ w < 2498) hG2 (mBd_fr hB (fun a e q => f2 a e (by omega) (by omega) (by omega) (by omega))) hR (mTm_fr (term n t h1 h2 h3) (fun a e q => hr2 a e (by omega) (by omega))) (hvD t h3) o2 n2 (fun m3 f3 o3 n3 => ?_)
    rw [sb_rn_var] at o3 n3
    exact h4 m3 (fun a e q1 q2 q3 q4 => (f3 a e q1 q2 q3 q4).trans (f2 a e q1 q2 q3 q4)) o3 n3
  have hhk : eK cl.2.2 cl.1 false := (y5.2.1 cl.1 rfl).1
  refine put m1 [] [] _ cl.1 _ (fun _ _ _ _ _ _ => rfl) o1 (fun _ => ⟨n1, Nat.zero_le _⟩) (b3 cl.1 rfl) (gh cl.1 rfl) hhk (fun m2 f2 o2 n2 => ?_)
  unfold wq_296_43
  intro P hP
  have key : ∀ (d i : Nat) (o : List Int) (nm : List Nat) (m3 : hy_m), i + d = cl.2.1.length → wFx m1 m3 → mOu m3 o → (o.length < 120 → mNa m3 nm ∧ nm.length ≤ o.length) → tkp [] (lsT cl) = tkp o (lsG (cl.2.1.drop i) (decide (i = 0)) nm ++ [46]) → P (i : Int) m3 := by
    intro d
    induction d with
    | zero =>
      intro i o nm m3 hi f3 o3 n3 e
      have hi : i = cl.2.1.length := by omega
      subst hi
      rw [List.drop_length] at e
      have e : tkp [] (lsT cl) = tkp o [46] := e
      refine hP _ _ ⟨by omega, by omega, fun _ => sp_286 o3 (fun m4 f4 o4 => m_out o4 hk ?_), fun q => ?_⟩
      · rw [← e]
        exact hq m4 (fun a e q1 q2 q3 q4 => (f4 a e q2 (by omega)).trans ((f3 a e q1 q2 q3 q4).trans (f1 a e (by omega))))
      · rw [f3 82 _ (by decide) (by decide) (by decide) (by omega), g82] at q
        omega
    | succ d ih =>
      intro i o nm m3 hi f3 o3 n3 e
      have hlt : i < cl.2.1.length := by omega
      rw [List.drop_eq_getElem_cons hlt] at e
      have hgk : eK cl.2.2 cl.2.1[i] false := (y5.2.2.1 _ (List.getElem_mem hlt)).1
      have h5 := y5.2.2.2.1
      -- behind the signs
      have go : ∀ (m4 : hy_m) (o4 : List Int), wFx m1 m4 → mOu m4 o4 → (o4.length < 120 → mNa m4 nm ∧ nm.length ≤ o4.length) → tkp [] (lsT cl) = tkp o4 ((wM (rn 2490 cl.2.1[i]) 0 nm).1 ++ (lsG (cl.2.1.drop (i + 1)) false (wM (rn 2490 cl.2.1[i]) 0 nm).2 ++ [46])) → wq_296_81 P k (sl : Int) (i : Int) m4 Q := by
        intro m4 o4 f4 h4 n4 e4
        unfold wq_296_81
        refine ⟨by omega, by omega, ?_⟩
        rw [f4 83 _ (by decide) (by decide) (by decide) (by omega)]
        refine put m4 o4 nm _ cl.2.1[i] _ f4 h4 n4 (b2 i hlt) (gg i hlt) hgk (fun m5 f5 o5 n5 => ⟨show -2147483648 ≤ _ ∧ _ < 2147483648 by omega, ?_⟩)
        refine ih (i + 1) _ _ m5 (by omega) f5 o5 n5 ?_
        rw [e4, tkp_tkp, decide_eq_false (Nat.succ_ne_zero i)]
      have kp : ∀ (m4 m5 : hy_m) (o4 : List Int) (ch : Int), wFm m4 m5 → mOu m4 o4 → (o4.length < 120 → mNa m4 nm ∧ nm.length ≤ o4.length) → ((tkp o4 [ch]).length < 120 → mNa m5 nm ∧ nm.length ≤ (tkp o4 [ch]).length) := by
        intro m4 m5 o4 ch f h n q
        rw [tkp_len] at q
        have h2 := h.2.1
        simp only [List.length_cons, List.length_nil] at q
        have hn := n (by omega)
        refine ⟨mNa_fm f hn.1, ?_⟩
        rw [tkp_len]
        simp only [List.length_cons, List.length_nil]
        have := hn.2
        omega
      have fx : ∀ m4 m5 : hy_m, wFx m1 m4 → wFm m4 m5 → wFx m1 m5 := fun m4 m5 f g a e q1 q2 q3 q4 => (g a e q2 (by omega)).trans (f a e q1 q2 q3 q4)
      refine hP _ _ ⟨by omega, by omega, fun q => ?_, fun _ => ⟨fun hi0 => ?_, fun hi0 => ?_⟩⟩
      · rw [f3 82 _ (by decide) (by decide) (by decide) (by omega), g82] at q
        omega
      · refine sp_286 o3 (fun m4 f4 o4 => ⟨fun _ => go m4 _ (fx _ _ f3 f4) o4 (kp _ _ _ _ f4 o3 n3) ?_, fun q => absurd q hi0⟩)
        rw [e, tkp_tkp, decide_eq_false (by omega)]
        simp only [lsG, Bool.false_eq_true, if_false, List.append_assoc]
      · refine sp_286 o3 (fun m4 f4 o4 => ⟨fun q => absurd hi0 q, fun _ => sp_286 o4 (fun m5 f5 o5 => go m5 _ (fx _ _ (fx _ _ f3 f4) f5) o5 (kp _ _ _ _ f5 o4 (kp _ _ _ _ f4 o3 n3)) ?_)⟩)
        rw [e, tkp_tkp, tkp_tkp, decide_eq_true (by omega)]
        simp only [lsG, if_true, List.append_assoc, List.cons_append, List.nil_append]
  refine key cl.2.1.length 0 _ _ m2 (Nat.zero_add _) f2 o2 n2 ?_
  rw [List.drop_zero, tkp_tkp]
  rfl
end NH
