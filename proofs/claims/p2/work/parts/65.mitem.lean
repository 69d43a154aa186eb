/-! THE MODEL'S PARSER: items and tails of lists -/
section MY
variable {m m' : hy_m} {tx : List Int} {sl c : Nat} {vs : List Int} {stk : List pF} {css : List (List Int)} {K : List (pE × Int)} {p p' : Nat} {Q : Int → hy_m → Prop} {qy : Bool} {hd : Option pE} {gs : List pE}
theorem rI_ne {A : Int → Prop} : ∀ (l : List pE) (cs : List Int), rI m A l cs → cs.length = l.length
  | [], [], _ => rfl
  | [], _ :: _, h => h.elim
  | _ :: _, [], h => h.elim
  | a :: r, c :: cs, h => by
    show cs.length + 1 = r.length + 1
    rw [rI_ne r cs h.2.2.2.2]
/-- kinds and arities of the cells of an open list -/
theorem rI_k {A : Int → Prop} : ∀ (l : List pE) (cs : List Int), rI m A l cs → ∀ x ∈ cs, m 76 x = 4
  | [], [], _, _, hx => by cases hx
  | [], _ :: _, h, _, _ => h.elim
  | _ :: _, [], h, _, _ => h.elim
  | a :: r, c :: cs, h, x, hx => by
    rcases List.mem_cons.mp hx with rfl | hx
    · exact h.1
    · exact rI_k r cs h.2.2.2.2 x hx
theorem rI_last {A : Int → Prop} : ∀ (l : List pE) (cs : List Int) (x : Int), rI m A l cs → cs.getLast? = some x → m 78 x = 1
  | [], [], _, _, hx => by cases hx
  | [], _ :: _, _, h, _ => h.elim
  | _ :: _, [], _, h, _ => h.elim
  | a :: r, c :: cs, x, h, hx => by
    cases cs with
    | nil =>
      have : c = x := by simpa using hx
      subst this
      exact h.2.2.2.1
    | cons d cs => exact rI_last r (d :: cs) x h.2.2.2.2 (by rw [List.getLast?_cons_cons] at hx; exact hx)
/-- all but the last cell have both parts -/
theorem rI_two {A : Int → Prop} : ∀ (l : List pE) (cs : List Int), rI m A l cs → ∀ i (hi : i + 1 < cs.length), m 78 cs[i] = 2
  | [], [], _, i, hi => absurd hi (by simp)
  | [], _ :: _, h, _, _ => h.elim
  | _ :: _, [], h, _, _ => h.elim
  | a :: r, c :: cs, h, i, hi => by
    cases cs with
    | nil => simp at hi
    | cons d cs =>
      cases i with
      | zero => exact h.2.2.2.1.1
      | succ i => exact rI_two r (d :: cs) h.2.2.2.2 i (by simpa using hi)
theorem rI_snoc {A B : Int → Prop} {t : pE} {cell : Int} (hAB : ∀ n, A n → B n) (hE : rEq m m' A) : ∀ (l : List pE) (cs : List Int), rI m A l cs → (∀ x ∈ cs, m' 76 x = m 76 x ∧ m' 77 x = m 77 x ∧ m' 79 (3 * x) = m 79 (3 * x)) → (∀ i (hi : i + 1 < cs.length), m' 78 cs[i] = m 78 cs[i] ∧ m' 79 (3 * cs[i] + 1) = m 79 (3 * cs[i] + 1)) → (∀ x, cs.getLast? = some x → m' 78 x = 2 ∧ m' 79 (3 * x + 1) = cell) → m' 76 cell = 4 → m' 77 cell = 2 → m' 78 cell = 1 → rP m' B t (-1) (m' 79 (3 * cell)) → rI m' B (l ++ [t]) (cs ++ [cell])
  | [], [], _, _, _, _, h6, h7, h8, h9 => ⟨h6, h7, h9, h8, trivial⟩
  | [], _ :: _, h, _, _, _, _, _, _, _ => h.elim
  | _ :: _, [], h, _, _, _, _, _, _, _ => h.elim
  | a :: r, c :: cs, h, hS, hN, hL, h6, h7, h8, h9 => by
    obtain ⟨i1, i2, i3, i4, i5⟩ := h
    obtain ⟨s1, s2, s3⟩ := hS c (List.mem_cons_self ..)
    refine ⟨by rw [s1]; exact i1, by rw [s2]; exact i2, ?_, ?_, ?_⟩
    · rw [s3]
      exact rP_mono hAB a _ _ (rP_eq hE a (-1) _ (fun q => by omega) i3)
    · cases cs with
      | nil => exact hL c rfl
      | cons d cs =>
        have g := hN 0 (by simp)
        have g1 : m' 78 c = m 78 c := g.1
        have g2 : m' 79 (3 * c + 1) = m 79 (3 * c + 1) := g.2
        show m' 78 c = 2 ∧ m' 79 (3 * c + 1) = d
        rw [g1, g2]
        exact i4
    · refine rI_snoc hAB hE r cs i5 (fun x hx => hS x (List.mem_cons_of_mem _ hx)) (fun i hi => ?_) (fun x hx => ?_) h6 h7 h8 h9
      · have := hN (i + 1) (by simp only [List.length_cons]; omega)
        simpa using this
      · cases cs with
        | nil => cases hx
        | cons d cs => exact hL x (by rw [List.getLast?_cons_cons]; exact hx)
/-- the state of an open list -/
theorem mS_list {f : Nat} {l : List pE} {cs : List Int} (hfr : f = 1 ∨ f = 2) (h : mS m tx sl c vs ((f, 2, l) :: stk) (cs :: css) K p) : rI m (nA sl c (cs :: css).flatten) l cs ∧ m 88 (stk.length : Int) = f ∧ (cs = [] → m 90 (stk.length : Int) = -9) ∧ (∀ x, cs.head? = some x → m 89 (stk.length : Int) = x) ∧ (∀ x, cs.getLast? = some x → m 90 (stk.length : Int) = x) ∧ cs.Nodup ∧ css.flatten.Nodup ∧ (∀ x ∈ cs, x ∉ css.flatten) ∧ (∀ x ∈ cs, 128 * (sl : Int) ≤ x ∧ x < 128 * (sl : Int) + c) := by
  have h5 := h.2.2.2.2.1
  have hf := h.2.2.2.2.2.1.1
  have hnd := h5.1
  rw [List.flatten_cons, List.nodup_append] at hnd
  rcases hf with ⟨a1, -⟩ | ⟨a1, a2, a3, a4, a5, a6, a7⟩
  · have : f = 0 := a1
    omega
  · exact ⟨a4, a2, a5, a6, a7, hnd.1, hnd.2.1, fun x hx hq => hnd.2.2 x hx x hq rfl, fun x hx => h5.2 x (by rw [List.flatten_cons]; exact List.mem_append_left _ hx)⟩
theorem mem_last {l : List Int} {x : Int} (h : l.getLast? = some x) : x ∈ l := by
  rw [List.getLast?_eq_some_iff] at h
  obtain ⟨r, rfl⟩ := h
  simp
theorem nodup_last {l : List Int} {x : Int} (hn : l.Nodup) (h : l.getLast? = some x) : ∀ i (hi : i + 1 < l.length), l[i] ≠ x := by
  rw [List.getLast?_eq_some_iff] at h
  obtain ⟨r, rfl⟩ := h
  intro i hi e
  have hir : i < r.length := by simpa using hi
  rw [List.getElem_append_left hir] at e
  rw [List.nodup_append] at hn
  exact hn.2.2 _ (List.getElem_mem hir) x (by simp) e
/-- a list is closed: the last cell got its tail -/
theorem mS_closeI {f : Nat} {l : List pE} {cs : List Int} {t : pE} {r x : Int} (hfr : f = 1 ∨ f = 2) (hl : l ≠ []) (h : mS m tx sl c vs ((f, 2, l) :: stk) (cs :: css) ((t, r) :: K) p) (hx : cs.getLast? = some x) (h1 : mCu m' tx p') (h2 : mTx m' tx) (hf : ∀ a e, ¬ (a = 74 ∧ (e = 14 ∨ e = 15 ∨ e = 16 ∨ e = 17 ∨ e = 25)) → m' a e = mGv m x 1 r a e) (h25 : m' 74 25 = stk.length) : mS m' tx sl c vs stk css ((eI t l, m 89 (stk.length : Int)) :: K) p' := by
  obtain ⟨b1, b2, b3, b4, b5, b6, b7, b8, b9⟩ := mS_list hfr h
  have hxm := mem_last hx
  have hg := mGv_r m x 1 r
  have hv := mGv_v m x 1 r
  have h5 := h.2.2.2.2.1
  have hl2 := mS_lowc (m1 := mGv m x 1 r) h h1 h2 (fun a e q1 q2 q3 => hg a e (by omega) (by omega)) hf h25
  have hAB : ∀ n, nA sl c (cs :: css).flatten n → nA sl c css.flatten n := fun n hn => ⟨hn.1, hn.2.1, fun q => hn.2.2 (by rw [List.flatten_cons]; exact List.mem_append_right _ q)⟩
  have hgo : ∀ a e, ¬ (a = 79 ∧ e = 3 * x + 1) → ¬ ((a = 78 ∨ a = 76) ∧ e = x) → a ≠ 74 → m' a e = m a e := fun a e q1 q2 q3 => (hf a e (by omega)).trans (hg a e (by omega) q2)
  have hE : rEq m m' (nA sl c (cs :: css).flatten) := by
    intro n hn
    have hne : n ≠ x := fun q => hn.2.2 (by rw [List.flatten_cons, q]; exact List.mem_append_left _ hxm)
    exact ⟨hgo _ _ (by omega) (by omega) (by omega), hgo _ _ (by omega) (by omega) (by omega), hgo _ _ (by omega) (by omega) (by omega), fun j _ _ => hgo _ _ (by omega) (by omega) (by omega)⟩
  have hEO : rEq m m' (fun n => n ∈ css.flatten) := by
    intro n hn
    have hne : n ≠ x := fun q => b8 x hxm (by rw [← q]; exact hn)
    exact ⟨hgo _ _ (by omega) (by omega) (by omega), hgo _ _ (by omega) (by omega) (by omega), hgo _ _ (by omega) (by omega) (by omega), fun j _ _ => hgo _ _ (by omega) (by omega) (by omega)⟩
  have hrest := h.2.2.2.2.2.1.2
  have hK := h.2.2.2.2.2.2
  have hne : cs ≠ [] := fun q => by rw [q] at hx; cases hx
  obtain ⟨c0, cs', hcs⟩ := List.exists_cons_of_ne_nil hne
  have hc0 : cs.head? = some c0 := by rw [hcs]; rfl
  refine ⟨hl2.1, hl2.2.1, hl2.2.2.1, hl2.2.2.2, ⟨b7, fun n hn => h5.2 n (by rw [List.flatten_cons]; exact List.mem_append_right _ hn)⟩, ?_, fun q hq => ?_⟩
  · exact sR_eq hAB hE stk css hEO (fun i _ => ⟨hgo _ _ (by omega) (by omega) (by omega), hgo _ _ (by omega) (by omega) (by omega), hgo _ _ (by omega) (by omega) (by omega)⟩) hrest
  · rcases List.mem_cons.mp hq with rfl | hq
    · rw [b4 c0 hc0]
      refine rI_close hAB hE l cs c0 hl b1 (fun y hy => ⟨(b9 y hy).1, (b9 y hy).2, b8 y hy⟩) (fun y hy => ⟨?_, hgo _ _ (by omega) (by omega) (by omega), hgo _ _ (by omega) (by omega) (by omega)⟩) (fun y hy => ?_) (fun i hi => ?_) (fun y hy => ?_) hc0
      · by_cases e : y = x
        · subst e
          rw [hf _ _ (by omega), hv.2.2, rI_k l cs b1 y hy]
        · exact hgo _ _ (by omega) (by omega) (by omega)
      · by_cases e : y = x
        · subst e
          rw [hf _ _ (by omega), hv.2.1]
          rfl
        · obtain ⟨i, hi, rfl⟩ := List.getElem_of_mem hy
          rw [hgo _ _ (by omega) (by omega) (by omega)]
          refine rI_two l cs b1 i ?_
          rw [List.getLast?_eq_getElem?] at hx
          by_cases q : i + 1 < cs.length
          · exact q
          · have : i = cs.length - 1 := by omega
            subst this
            rw [List.getElem?_eq_getElem hi] at hx
            exact absurd (by simpa using hx) e
      · have := nodup_last b6 hx i hi
        exact hgo _ _ (by omega) (by omega) (by omega)
      · have : y = x := by rw [hx] at hy; simpa using hy.symm
        subst this
        rw [hf _ _ (by omega), show (3 * y + 1) = 3 * y + ((1 : Nat) : Int) by omega, hv.1]
        exact rP_mono hAB _ _ _ (rP_eq hE _ (-1) _ (fun z => by omega) (hK (t, r) (List.mem_cons_self ..)))
    · exact rP_mono hAB _ _ _ (rP_eq hE _ (-1) _ (fun z => by omega) (hK q (List.mem_cons_of_mem _ hq)))
/-- the tail of a list -/
theorem sp_191 {l : List pE} {cs : List Int} {t : pE} {r : Int} {nm : Bool} (hl : l ≠ []) (h : mS m tx sl c vs ((2, 2, l) :: stk) (cs :: css) ((t, r) :: K) p) (hU : mU m sl c ((t, r) :: K) ((2, 2, l) :: stk)) (hnm : nm = true → pk1 tx p ≠ 6) (hcr : c + fCn ((2, 2, l) :: stk) ≤ p) (hdp : stk.length + 1 ≤ p) (hq : ∀ r' m', tO m m' tx qy sl (3, vs, hd, gs, t, nm, (2, 2, l) :: stk, p) hd gs K p r' → Q r' m') : wq_191 r m Q := by
  have hT := h.1
  have hC := h.2.1
  have hpl : p ≤ 120 := Nat.le_trans hC.1 hT.2.1
  have hcr0 : c + fCn stk ≤ p := by
    have : c + ((if (2 : Nat) = 1 then 1 else 0) + fCn stk) ≤ p := hcr
    rw [if_neg (by decide)] at this
    omega
  have hrA := rP_A (h.2.2.2.2.2.2 (t, r) (List.mem_cons_self ..))
  have hsl := h.2.2.2.1.2.2.1
  obtain ⟨b1, b2, b3, b4, b5, b6, b7, b8, b9⟩ := mS_list (Or.inr rfl) h
  have hlen := rI_ne l cs b1
  have hne : cs ≠ [] := fun q => hl (List.length_eq_zero_iff.mp (by rw [← hlen, q]; rfl))
  obtain ⟨x, hx⟩ : ∃ x, cs.getLast? = some x := ⟨_, List.getLast?_eq_some_getLast hne⟩
  have hxm := mem_last hx
  have hxr := b9 x hxm
  have h25 : m 74 25 = (stk.length : Int) + 1 := by
    have := h.2.2.2.1.2.2.2.2
    simpa using this
  have hd1 : m 74 25 - 1 = (stk.length : Int) := by omega
  have hg := mGv_r m x 1 r
  have hfr := pFr_gv (m := m) (sl := sl) (c := c) (b := x) (a := 1) (x := r) hxr (by omega) (by omega)
  have hU1 : mU (mGv m x 1 r) sl c ((t, r) :: K) ((2, 2, l) :: stk) := mU_gv (a := 1) hU (by rw [rI_k l cs b1 x hxm]; decide) ⟨by have := hrA.1; omega, by have := hrA.2.1; omega⟩
  have h15 : mGv m x 1 r 74 15 = pk1 tx p := by
    rw [hg _ _ (by omega) (by omega)]
    exact hC.2.2.1
  have hlow := mS_low (m' := mGv m x 1 r) h (fun a e q1 q2 q3 q4 q5 q6 q7 q8 q9 => hg _ _ (by omega) (by omega))
  have hst : pSt tx qy (3, vs, hd, gs, t, nm, (2, 2, l) :: stk, p) = (if pk1 tx p = 9 then .inl (3, vs, hd, gs, eI t l, false, stk, pnx tx p) else .inr (.inl p)) := by
    unfold pSt
    dsimp only
    rw [if_neg (by decide), if_neg (by decide), if_neg (by decide), if_neg (fun q => hnm q.1 q.2), if_neg (by decide), if_neg (by decide)]
  unfold wq_191
  rw [hd1, b5 x hx]
  refine ⟨by omega, by omega, sp_182 (a := 1) (by omega) (rI_last l cs x b1 hx) (by omega) ?_⟩
  rw [h15]
  refine ⟨fun n9 => sp_180 (p := p) ?_ (hq _ _ ⟨hfr.trans (pFr_18 _ _ _), Or.inr (Or.inr ⟨p, hy_us _ _ _ _, pRun_e tx qy (by rw [hst, if_neg n9]), mPg_fr hU1.2 (fun e => hy_ua (by decide))⟩)⟩), fun h9 => ?_⟩
  · rw [hg _ _ (by omega) (by omega)]
    exact hC.2.1
  have hp1 := pk_pos hC.1 (by rw [h9]; decide)
  refine sp_188 (d := stk.length + 1) hlow.1 hlow.2.1 (by rw [hg _ _ (by omega) (by omega), h25]; omega) (by omega) (fun m4 g1 g2 g3 g4 => ?_)
  have hS4 := mS_closeI (Or.inr rfl) hl h hx g1 g2 g3 (by rw [g4]; simp)
  rw [show ((stk.length + 1 - 1 : Nat) : Int) = (stk.length : Int) by omega, hg 89 _ (by omega) (by omega)]
  have hnn : m 89 (stk.length : Int) ≠ -9 := by
    have := (rP_A (hS4.2.2.2.2.2.2 (eI t l, _) (List.mem_cons_self ..))).1
    dsimp only at this
    omega
  refine hq _ _ ⟨hfr.trans (pFr_cl g3), Or.inl ⟨c, vs, stk, css, eI t l, false, pnx tx p, hnn, hS4, ?_, (fun q => by cases q), fun R => pRun_s tx qy (by rw [hst, if_pos h9]) R, by omega, by omega, hp1⟩⟩
  have g := mU_fr hU1 (m' := m4) (fun a e q => g3 a e (by omega))
  refine ⟨fun v => (g.1 v).trans ?_, g.2⟩
  show oE t v + oK K v + (oL l v + oF stk v) = oE (eI t l) v + oK K v + oF stk v
  rw [oE_I]
  omega
end MY
