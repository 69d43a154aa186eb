/-! THE MODEL'S SEARCH: what its rows show -/
def clN (E : qE) (ss : List Nat) (R : (Int → Int) × (Int → Int) × (Int → Int)) (c : Nat) : List Int := match E.1[c]? with
  | some cl => zNd R (ss.getD c 0) (some cl.1) cl.2.1
  | none => []
def mIs (E : qE) (ss : List Nat) (R : (Int → Int) × (Int → Int) × (Int → Int)) (l : List Nat) : List (List Int × Nat) := (zNd R 26 none E.2.1, 0) :: (List.range l.length).map (fun j => (clN E ss R (l.getD j 0), tot E (l.take j)))
def mG (E : qE) (ss : List Nat) (m : hy_m) (l : List Nat) : Nat → Nat → Prop := gL (mIs E ss (mR m) l)
/-- program and query -/
def mPr (E : qE) (ss : List Nat) (m : hy_m) : Prop := mLo m 85 0 E.1 ss ∧ clR m 26 none E.2.1 E.2.2 ∧ kOK none E.2.1 E.2.2 ∧ aMs E.2.1 ≤ 30 ∧ ∀ cl ∈ E.1, aM cl.1 + aMs cl.2.1 ≤ 30
def lOK (E : qE) (l : List Nat) : Prop := ∀ c ∈ l, c < E.1.length
section MG
variable {E : qE} {ss : List Nat} {m m' : hy_m} {l l' : List Nat}
theorem pfx_at (h : l <+: l') {j : Nat} (hj : j < l.length) : l'[j]? = l[j]? ∧ l'.take j = l.take j ∧ l'.getD j 0 = l.getD j 0 := by
  obtain ⟨r, rfl⟩ := h
  refine ⟨List.getElem?_append_left hj, ?_, ?_⟩
  · rw [List.take_append_of_le_length (by omega)]
  · rw [List.getD_eq_getElem?_getD, List.getD_eq_getElem?_getD, List.getElem?_append_left hj]
theorem mG_pre (h : l <+: l') {n p : Nat} (hg : mG E ss m l n p) : mG E ss m l' n p := by
  obtain ⟨q, hq, h1, h2⟩ := hg
  refine ⟨q, ?_, h1, h2⟩
  rcases List.mem_cons.mp hq with rfl | hq
  · exact List.mem_cons_self ..
  · obtain ⟨j, hj, rfl⟩ := List.mem_map.mp hq
    have hj := List.mem_range.mp hj
    obtain ⟨-, e1, e2⟩ := pfx_at h hj
    refine List.mem_cons_of_mem _ (List.mem_map.mpr ⟨j, List.mem_range.mpr (Nat.lt_of_lt_of_le hj h.length_le), ?_⟩)
    rw [e1, e2]
theorem mG_rw (h : mRw m m') : mG E ss m' l = mG E ss m l := by
  have e : mR m' = mR m := by
    unfold mR
    rw [show m' 79 = m 79 from funext fun e => h 79 e (by decide) (by decide), show m' 81 = m 81 from funext fun e => h 81 e (by decide) (by decide), show m' 83 = m 83 from funext fun e => h 83 e (by decide) (by decide)]
  unfold mG
  rw [e]
theorem mTm_G {G G' : Nat → Nat → Prop} {x : Int} {t : pE} (h : ∀ n p, G n p → G' n p) (ht : mTm G m x t) : mTm G' m x t := by
  rcases ht with ht | ht | ⟨n, p, nv, u, a1, a2, a3, a4, a5, a6, a7, a8⟩
  · exact Or.inl ht
  · exact Or.inr (Or.inl ht)
  · exact Or.inr (Or.inr ⟨n, p, nv, u, a1, a2, a3, a4, a5, a6, a7, h _ _ a8⟩)
theorem mTm_pre (h : l <+: l') {x : Int} {t : pE} (ht : mTm (mG E ss m l) m x t) : mTm (mG E ss m l') m x t := mTm_G (fun _ _ => mG_pre h) ht
theorem mTm_rw (h : mRw m m') {x : Int} {t : pE} (ht : mTm (mG E ss m l) m x t) : mTm (mG E ss m' l) m' x t := by
  rw [mG_rw h]
  exact mTm_fr ht (fun a e q => h a e (by omega) (by omega))
theorem mPr_rw (h : mRw m m') (h85 : ∀ e, m' 85 e = m 85 e) (hp : mPr E ss m) : mPr E ss m' := by
  obtain ⟨h1, h2, h3⟩ := hp
  exact ⟨mLo_fr h1 h (fun k _ _ => h85 _), clR_rw h h2, h3⟩
theorem mPr_cl (hp : mPr E ss m) {c : Nat} (hc : c < E.1.length) : ∃ s : Nat, ss.getD c 0 = s ∧ s ≤ 25 ∧ m 85 (1 + (c : Int)) = s ∧ clR m s (some E.1[c].1) E.1[c].2.1 E.1[c].2.2 ∧ kOK (some E.1[c].1) E.1[c].2.1 E.1[c].2.2 ∧ nB E.1[c].1 ∧ aM E.1[c].1 + aMs E.1[c].2.1 ≤ 30 := by
  obtain ⟨s, h1, h2, h3, h4, h5, h6⟩ := mPo_i (mLo_P hp.1) hc
  exact ⟨s, by rw [List.getD_eq_getElem?_getD, h1]; rfl, h2, h3, h4, h5, h6, hp.2.2.2.2 _ (List.getElem_mem hc)⟩
theorem clN_c {R : (Int → Int) × (Int → Int) × (Int → Int)} {c : Nat} (hc : c < E.1.length) : clN E ss R c = zNd R (ss.getD c 0) (some E.1[c].1) E.1[c].2.1 := by
  unfold clN
  rw [List.getElem?_eq_getElem hc]
theorem mIs_all (hp : mPr E ss m) (hl : lOK E l) : ∀ q ∈ mIs E ss (mR m) l, (∀ x ∈ q.1, (0 ≤ x ∧ x < 3584) ∧ ∀ j : Int, 0 ≤ j → j < m 78 x → m 79 (3 * x + j) ∈ q.1) ∧ (q.1.map (fAr m)).sum ≤ 59 ∧ (q.1.map (fOp m)).sum ≤ 30 := by
  intro q hq
  rcases List.mem_cons.mp hq with rfl | hq
  · obtain ⟨a1, a2, a3, a4, a5⟩ := zNd_all (sl := 26) hp.2.1 (by decide) hp.2.2.1 (by have := hp.2.2.2.1; show 0 + _ ≤ _; omega)
    exact ⟨a1, a4, a5⟩
  · obtain ⟨j, hj, rfl⟩ := List.mem_map.mp hq
    have hj := List.mem_range.mp hj
    have hc : l.getD j 0 < E.1.length := by
      rw [List.getD_eq_getElem?_getD, List.getElem?_eq_getElem hj]
      exact hl _ (List.getElem_mem hj)
    obtain ⟨s, h1, h2, h3, h4, h5, h6, h7⟩ := mPr_cl hp hc
    rw [← h1] at h2 h4
    obtain ⟨a1, a2, a3, a4, a5⟩ := zNd_all h4 (by omega) h5 h7
    show (∀ x ∈ clN E ss (mR m) (l.getD j 0), _) ∧ _
    rw [clN_c hc]
    exact ⟨a1, a4, a5⟩
theorem mIs_len {R : (Int → Int) × (Int → Int) × (Int → Int)} : (mIs E ss R l).length = l.length + 1 := by
  unfold mIs
  rw [List.length_cons, List.length_map, List.length_range]
theorem mG_C (hp : mPr E ss m) (hl : lOK E l) : gC (mG E ss m l) m := gL_gC (fun q hq => (mIs_all hp hl q hq).1)
theorem mG_W (hp : mPr E ss m) (hl : lOK E l) : mGW (mG E ss m l) m (59 * (l.length + 1)) := by
  have := gL_W (m := m) (I := mIs E ss (mR m) l) (fun q hq => ⟨fun x hx => ((mIs_all hp hl q hq).1 x hx).1, (mIs_all hp hl q hq).2.1⟩)
  rw [mIs_len] at this
  exact this
theorem mG_A (hp : mPr E ss m) (hl : lOK E l) (hn : l.length ≤ 301) : mAW (mG E ss m l) m := gL_A (fun q hq => ⟨fun x hx => ((mIs_all hp hl q hq).1 x hx).1, (mIs_all hp hl q hq).2.2⟩) (by rw [mIs_len]; omega)
/-- places -/
theorem tot_pre (h : l <+: l') : tot E l ≤ tot E l' := by
  obtain ⟨r, rfl⟩ := h
  unfold tot
  rw [List.map_append, List.sum_append]
  omega
theorem tot_app {c : Nat} : tot E (l ++ [c]) = tot E l + nvO E c := by
  unfold tot
  rw [List.map_append, List.sum_append]
  show _ + (_ + (nvO E c + 0)) = _
  omega
theorem nvO_c {c : Nat} (hc : c < E.1.length) : nvO E c = E.1[c].2.2 := by
  unfold nvO
  rw [List.getElem?_eq_getElem hc]
theorem tot_le (h8 : E.2.2 ≤ 8) (hv : ∀ c, c < E.1.length → nvO E c ≤ 8) : ∀ l : List Nat, lOK E l → tot E l ≤ 8 + 8 * l.length
  | [], _ => by unfold tot; simp only [List.map_nil, List.sum_nil, List.length_nil]; omega
  | c :: l, hl => by
    have h1 := tot_le h8 hv l (fun x hx => hl x (List.mem_cons_of_mem _ hx))
    have h2 := hv c (hl c (List.mem_cons_self ..))
    have e : tot E (c :: l) = nvO E c + tot E l := by unfold tot; simp only [List.map_cons, List.sum_cons]; omega
    rw [e, List.length_cons]
    omega
theorem mPr_tot (hp : mPr E ss m) (hl : lOK E l) (hn : l.length ≤ 300) : tot E l ≤ 2408 := by
  have := tot_le (E := E) hp.2.2.1.1 (fun c hc => by
    obtain ⟨s, -, -, -, -, h5, -⟩ := mPr_cl hp hc
    rw [nvO_c hc]
    exact h5.1) l hl
  omega
/-- nodes of an instance as terms -/
theorem mT_j (hp : mPr E ss m) (hl : lOK E l) (hn : l.length ≤ 300) {j c : Nat} (hj : l[j]? = some c) {x : Int} {t : pE} (hx : x ∈ clN E ss (mR m) c) (hr : rP m (fun z => 0 ≤ z ∧ z < 3584) t (-1) x) (hk : eK (nvO E c) t false) : mTm (mG E ss m l) m (4096 * (tot E (l.take j) : Int) + x) (rn (tot E (l.take j)) t) := by
  obtain ⟨hj2, he⟩ := List.getElem?_eq_some_iff.mp hj
  have hc : c < E.1.length := by rw [← he]; exact hl _ (List.getElem_mem hj2)
  have h0 := rP_A hr
  obtain ⟨n, hn2⟩ := Int.eq_ofNat_of_zero_le h0.1
  rw [hn2] at h0 hr hx ⊢
  have h8 : nvO E c ≤ 8 := by
    obtain ⟨s, -, -, -, -, h5, -⟩ := mPr_cl hp hc
    rw [nvO_c hc]
    exact h5.1
  have ht : tot E (l.take j) + nvO E c ≤ 2500 := by
    have h1 : l.take j ++ [c] <+: l := by
      rw [← he, List.take_append_getElem hj2]
      exact List.take_prefix _ _
    have h2 := tot_pre (E := E) h1
    rw [tot_app] at h2
    have := mPr_tot hp hl hn
    omega
  refine Or.inr (Or.inr ⟨n, tot E (l.take j), nvO E c, t, rfl, ?_, h8, ht, hr, hk, rfl, ?_⟩)
  · have := h0.2
    omega
  · refine ⟨(clN E ss (mR m) (l.getD j 0), tot E (l.take j)), List.mem_cons_of_mem _ (List.mem_map.mpr ⟨j, List.mem_range.mpr hj2, rfl⟩), ?_, rfl⟩
    rw [List.getD_eq_getElem?_getD, hj]
    exact hx
theorem rn_in {p w nv : Nat} {t : pE} (hk : eK nv t false) (h : vIn w (rn p t)) : w < p + nv := by
  obtain ⟨x, h1, h2⟩ : ∃ x, vIn x t ∧ w = p + x := by
    clear hk
    unfold rn at h
    revert h
    induction t with
    | var v => exact fun h => ⟨v, rfl, h.symm⟩
    | num i => exact fun h => h.elim
    | mulL k a ih => exact fun h => ih h
    | add a r ih1 ih2 =>
      intro h
      rcases h with h | h
      · obtain ⟨x, a1, a2⟩ := ih1 h
        exact ⟨x, Or.inl a1, a2⟩
      · obtain ⟨x, a1, a2⟩ := ih2 h
        exact ⟨x, Or.inr a1, a2⟩
    | sub a r => exact fun h => h.elim
    | neg a => exact fun h => h.elim
    | mulR a k => exact fun h => h.elim
  have h3 : ∀ (t : pE) (b : Bool), eK nv t b → vIn x t → x < nv := by
    intro t
    induction t with
    | var v =>
      intro b hk h
      have h : (v : Nat) = x := h
      rw [← h]
      exact hk.2
    | num i => exact fun b hk h => h.elim
    | mulL k a ih => exact fun b hk h => ih true hk.2.2.2.2.2 h
    | add a r ih1 ih2 =>
      intro b hk h
      rcases h with h | h
      · exact ih1 false hk.2.1 h
      · exact ih2 true hk.2.2 h
    | sub a r => exact fun b hk h => h.elim
    | neg a => exact fun b hk h => h.elim
    | mulR a k => exact fun b hk h => h.elim
  have := h3 t false hk h1
  omega
end MG
/-- slot of an instance -/
def sO (ss l : List Nat) (i : Nat) : Nat := if i = 0 then 26 else ss.getD (l.getD (i - 2) 0) 0
/-- bindings of a choice: what is trailed behind it, and later variables, are left out -/
def bRs (B : bM) (T : List Nat) (k P : Nat) : bM := fun v => if v < P ∧ v ∉ T.drop k then B v else none
/-- a goal -/
def mFg (E : qE) (ss : List Nat) (m : hy_m) (l : List Nat) (s : Nat → pE) (x : Int) (g : pE) : Prop := ∃ t, mTm (mG E ss m l) m x t ∧ (∀ w, vIn w t → w < tot E l) ∧ (eCa t = true ∧ eKy t = eKy g) ∧ ∀ v, SolS s v → sb v t = sb v g
/-- a frame -/
def mF1 (E : qE) (ss : List Nat) (m : hy_m) (l : List Nat) (s : Nat → pE) (f : qF) (j : Nat) : Prop := m 100 (j : Int) = f.2.1 ∧ m 103 (j : Int) = f.2.2.1 ∧ match f.2.2.2 with
  | none => m 99 (j : Int) = sO ss l f.1 ∧ m 101 (j : Int) = plc E l f.1
  | some g => m 99 (j : Int) = -9 ∧ (f.2.1 = 0 → mFg E ss m l s (m 104 (j : Int)) g)
def mCh (E : qE) (ss : List Nat) (m : hy_m) (l : List Nat) (s : Nat → pE) : Nat → List qF → Int → Prop
  | _, [], x => x = -9
  | N, f :: r, x => ∃ j : Nat, x = j ∧ j < N ∧ mF1 E ss m l s f j ∧ mCh E ss m l s j r (m 102 (j : Int))
/-- the choices -/
def mCc (E : qE) (ss : List Nat) (m : hy_m) (l T : List Nat) (B : bM) : List qC → Prop
  | [] => True
  | c :: r => (m 108 (r.length : Int) = c.2.2.2.1.2.1 ∧ m 109 (r.length : Int) = tot E (l.take c.2.2.2.1.1) ∧ m 110 (r.length : Int) = c.2.2.2.1.2.2) ∧ (c.2.2.2.1.2.1 ≤ T.length ∧ ∀ w ∈ T.take c.2.2.2.1.2.1, w < tot E (l.take c.2.2.2.1.1)) ∧ (match c.1 with
    | none => m 106 (r.length : Int) = -9
    | some g => bS (m 106 (r.length : Int)) (fun v => decide (v ∈ c.2.1)) ∧ mFg E ss m (l.take c.2.2.2.1.1) c.2.2.2.2 (m 105 (r.length : Int)) g ∧ ∀ x ∈ c.2.1, ∃ cl, E.1[x]? = some cl ∧ eKy cl.1 = eKy g) ∧ mCh E ss m (l.take c.2.2.2.1.1) c.2.2.2.2 c.2.2.2.1.2.2 c.2.2.1 (m 107 (r.length : Int)) ∧ Res (bRs B T c.2.2.2.1.2.1 (tot E (l.take c.2.2.2.1.1))) c.2.2.2.2 ∧ (∀ v t, bRs B T c.2.2.2.1.2.1 (tot E (l.take c.2.2.2.1.1)) v = some t → mTm (mG E ss m (l.take c.2.2.2.1.1)) m (m 97 (v : Int)) t ∧ ∀ w, vIn w t → w < tot E (l.take c.2.2.2.1.1)) ∧ mCc E ss m l T B r
/-- numbers -/
def mNm (m : hy_m) (A : qA) : Prop := m 74 34 = qn A 2 ∧ m 74 35 = qn A 3 ∧ m 74 36 = qn A 4 ∧ m 74 37 = qn A 5 ∧ m 74 38 = qn A 6 ∧ ∀ c : Nat, c < 20 → m 95 (c : Int) = qt A c ∧ m 96 (c : Int) = qu A c ∧ qt A c ≤ qn A 4 ∧ qu A c ≤ qn A 4
/-- bindings, trail, choices -/
def mDy (E : qE) (ss : List Nat) (m : hy_m) (A : qA) (B : bM) (T : List Nat) : Prop := mBd (mG E ss m (qi A)) m (fun w => w < tot E (qi A)) B ∧ tR m T ∧ T.Nodup ∧ (∀ w ∈ T, B w ≠ none) ∧ mCc E ss m (qi A) T B (qh A) ∧ m 74 59 = (qh A).length
/-- rounds: k0, r0 when the query began -/
def mRd (m : hy_m) (K R : Nat) : Prop := (∃ k, rOK m k ∧ k ≤ K) ∧ ∃ r, tOK m r ∧ r ≤ R
/-- where a goal has failed -/
def mFl (E : qE) (ss : List Nat) (m : hy_m) (A : qA) : Prop := mPr E ss m ∧ mNm m A ∧ ∃ B T, mDy E ss m A B T
/-- a state of the search; status and error are left out -/
def mSe (E : qE) (ss : List Nat) (m : hy_m) (A : qA) : Prop := mPr E ss m ∧ mNm m A ∧ (m 74 42 = tot E (qi A) ∧ m 74 51 = qn A 8 ∧ mCh E ss m (qi A) (qs A) (qn A 8) (qp A) (m 74 52)) ∧ ∃ B T, mDy E ss m A B T ∧ Res B (qs A) ∧ T.length = qn A 7
theorem mSe.fl {E : qE} {ss : List Nat} {m : hy_m} {A : qA} (h : mSe E ss m A) : mFl E ss m A := by
  obtain ⟨h1, h2, -, B, T, h3, -⟩ := h
  exact ⟨h1, h2, B, T, h3⟩
