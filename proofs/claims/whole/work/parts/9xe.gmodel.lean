/-! BOTH SIDES TOGETHER: the model between two calls -/
section JE
variable {E : qE} {ss : List Nat} {m m' : hy_m} {B : qA} {A' : Int → Prop} {S : Int → Prop}
/-- nodes of a closed list, under another memory -/
theorem rP_cl {A : Int → Prop} {L : List Int} (hL : ∀ x ∈ L, ∀ j : Int, 0 ≤ j → j < m 78 x → m 79 (3 * x + j) ∈ L) (he : rEq m m' (fun x => x ∈ L)) : ∀ (t : pE) (j n : Int), n ∈ L → (0 ≤ j → j + (eN t : Nat) = m 78 n) → rP m A t j n → rP m' A t j n
  | .var v, j, n, hn, _, hr => by
    have g := he n hn
    exact ⟨hr.1, hr.2.1, by rw [g.1]; exact hr.2.2.1, by rw [g.2.1]; exact hr.2.2.2.1, by rw [g.2.2.1]; exact hr.2.2.2.2⟩
  | .num i, j, n, hn, _, hr => by
    rcases hr with hr | hr
    · have g := he n hn
      exact Or.inl ⟨hr.1, hr.2.1, by rw [g.1]; exact hr.2.2.1, by rw [g.2.1]; exact hr.2.2.2.1, by rw [g.2.2.1]; exact hr.2.2.2.2⟩
    · exact Or.inr hr
  | .mulL k a, j, n, hn, _, hr => by
    have g := he n hn
    exact ⟨hr.1, hr.2.1, by rw [g.2.1]; exact hr.2.2.1, by rw [g.2.2.1]; exact hr.2.2.2.1, by rw [g.1]; exact hr.2.2.2.2.1, hr.2.2.2.2.2.1, rP_cl hL he a 0 n hn (fun _ => by rw [hr.2.2.2.1]; omega) hr.2.2.2.2.2.2⟩
  | .add a r, j, n, hn, hj, hr => by
    have g := he n hn
    have hj := hj hr.1
    have e : (eN (.add a r) : Nat) = eN r + 1 := rfl
    rw [e] at hj
    refine ⟨hr.1, hr.2.1, ?_, rP_cl hL he r (j + 1) n hn (fun _ => by omega) hr.2.2.2⟩
    rw [g.2.2.2 j hr.1 hr.2.1]
    exact rP_cl hL he a (-1) _ (hL n hn j hr.1 (by omega)) (fun q => by omega) hr.2.2.1
  | .sub _ _, _, _, _, _, hr => hr.elim
  | .neg _, _, _, _, _, hr => hr.elim
  | .mulR _ _, _, _, _, _, hr => hr.elim
theorem nds_e {A : Int → Prop} (he : ∀ x, A x → ∀ i : Int, 0 ≤ i → i < 3 → m' 79 (3 * x + i) = m 79 (3 * x + i)) : ∀ (t : pE) (j n : Int), (0 ≤ j → A n) → rP m A t j n → nds (m' 79) t j n = nds (m 79) t j n
  | .var _, _, _, _, _ => rfl
  | .num _, _, _, _, _ => rfl
  | .mulL k a, j, n, _, hr => by
    show n :: nds (m' 79) a 0 n = n :: nds (m 79) a 0 n
    rw [nds_e he a 0 n (fun _ => hr.2.1) hr.2.2.2.2.2.2]
  | .add a r, j, n, hA, hr => by
    show nds (m' 79) a (-1) (m' 79 (3 * n + j)) ++ nds (m' 79) r (j + 1) n = nds (m 79) a (-1) (m 79 (3 * n + j)) ++ nds (m 79) r (j + 1) n
    rw [he n (hA hr.1) j hr.1 hr.2.1, nds_e he a (-1) _ (fun q => by omega) hr.2.2.1, nds_e he r (j + 1) n (fun _ => hA hr.1) hr.2.2.2]
  | .sub _ _, _, _, _, _ => rfl
  | .neg _, _, _, _, _ => rfl
  | .mulR _ _, _, _, _, _ => rfl
theorem ndG_e {A : Int → Prop} (he : ∀ x, A x → ∀ i : Int, 0 ≤ i → i < 3 → m' 79 (3 * x + i) = m 79 (3 * x + i)) : ∀ (gs : List pE) (i : Int), (∀ k (hk : k < gs.length), m' 83 (i + (k : Int)) = m 83 (i + (k : Int)) ∧ rP m A gs[k] (-1) (m 83 (i + (k : Int)))) → ndG (m' 79) (m' 83) gs i = ndG (m 79) (m 83) gs i
  | [], _, _ => rfl
  | g :: r, i, h => by
    have h0 := h 0 (Nat.succ_pos _)
    rw [show i + ((0 : Nat) : Int) = i by omega] at h0
    show nds (m' 79) g (-1) (m' 83 i) ++ ndG (m' 79) (m' 83) r (i + 1) = nds (m 79) g (-1) (m 83 i) ++ ndG (m 79) (m 83) r (i + 1)
    rw [h0.1, nds_e he g (-1) _ (fun q => by omega) h0.2, ndG_e he r (i + 1) (fun k hk => by
      have := h (k + 1) (by simp only [List.length_cons]; omega)
      rw [show i + ((k + 1 : Nat) : Int) = i + 1 + (k : Int) by omega] at this
      exact this)]
/-- rows of a slot that isn't written -/
theorem zFr_sl {sl : Nat} (hz : zFr m m' S) (hS : ¬ S (sl : Int)) : (∀ (a : Nat) (e : Int), (a = 76 ∨ a = 77 ∨ a = 78) → 128 * (sl : Int) ≤ e → e < 128 * (sl : Int) + 128 → m' a e = m a e) ∧ (∀ e : Int, 384 * (sl : Int) ≤ e → e < 384 * (sl : Int) + 384 → m' 79 e = m 79 e) ∧ m' 81 (sl : Int) = m 81 (sl : Int) ∧ ∀ e : Int, 5 * (sl : Int) ≤ e → e < 5 * (sl : Int) + 5 → m' 83 e = m 83 e := by
  refine ⟨fun a e h1 h2 h3 => ?_, fun e h2 h3 => ?_, ?_, fun e h2 h3 => ?_⟩
  · have q : e / 128 = (sl : Int) := by omega
    exact hz a e (by omega) (fun z => hS (q ▸ z.2)) (fun z => by omega) (fun z => by omega) (fun z => by omega) (by omega) (by omega) (by omega) (by omega) (by omega)
  · have q : e / 384 = (sl : Int) := by omega
    exact hz 79 e (by omega) (fun z => by omega) (fun z => hS (q ▸ z.2)) (fun z => by omega) (fun z => by omega) (by omega) (by omega) (by omega) (by omega) (by omega)
  · exact hz 81 _ (by omega) (fun z => by omega) (fun z => by omega) (fun z => hS z.2) (fun z => by omega) (by omega) (by omega) (by omega) (by omega) (by omega)
  · have q : e / 5 = (sl : Int) := by omega
    exact hz 83 e (by omega) (fun z => by omega) (fun z => by omega) (fun z => by omega) (fun z => hS (q ▸ z.2)) (by omega) (by omega) (by omega) (by omega) (by omega)
theorem zNd_z {sl nv : Nat} {hd : Option pE} {gs : List pE} (h : clR m sl hd gs nv) (hz : zFr m m' S) (hS : ¬ S (sl : Int)) : zNd (mR m') sl hd gs = zNd (mR m) sl hd gs ∧ rEq m m' (fun x => x ∈ zNd (mR m) sl hd gs) := by
  obtain ⟨c, hc, -, -, h5, -, -, hg, hh, -⟩ := h
  obtain ⟨r1, r2, r3, r4⟩ := zFr_sl hz hS
  have he : ∀ x, nA sl c [] x → ∀ i : Int, 0 ≤ i → i < 3 → m' 79 (3 * x + i) = m 79 (3 * x + i) := fun x hx i i1 i2 => r2 _ (by have := hx.1; omega) (by have := hx.2.1; omega)
  have eG : ndG (m' 79) (m' 83) gs (5 * (sl : Int)) = ndG (m 79) (m 83) gs (5 * (sl : Int)) := ndG_e he gs _ (fun k hk => ⟨r4 _ (by omega) (by omega), hg k hk⟩)
  have nG := (ndG_all gs (5 * (sl : Int)) hg).1
  have hq : ∀ x, nA sl c [] x → m' 76 x = m 76 x ∧ m' 77 x = m 77 x ∧ m' 78 x = m 78 x ∧ ∀ j : Int, 0 ≤ j → j < 3 → m' 79 (3 * x + j) = m 79 (3 * x + j) := fun x hx => by
    have h1 := hx.1
    have h2 := hx.2.1
    exact ⟨r1 76 x (by omega) h1 (by omega), r1 77 x (by omega) h1 (by omega), r1 78 x (by omega) h1 (by omega), he x hx⟩
  cases hd with
  | none => exact ⟨eG, fun x hx => hq x (nG x hx).1⟩
  | some t =>
    have ht := hh t rfl
    refine ⟨?_, fun x hx => hq x ?_⟩
    · show nds (m' 79) t (-1) (m' 81 (sl : Int)) ++ ndG (m' 79) (m' 83) gs (5 * (sl : Int)) = nds (m 79) t (-1) (m 81 (sl : Int)) ++ ndG (m 79) (m 83) gs (5 * (sl : Int))
      rw [r3, eG, nds_e he t (-1) _ (fun q => by omega) ht]
    · rcases List.mem_append.mp hx with q | q
      · exact nds_A t _ _ ht x q
      · exact (nG x q).1
/-- terms of a query stay -/
theorem mTm_z (hp : mPr E ss m) (hz : zFr m m' S) (h26 : ¬ S 26) (hS : ∀ s ∈ ss, ¬ S ((s : Nat) : Int)) {l : List Nat} (hl : lOK E l) {x : Int} {t : pE} (ht : mTm (mG E ss m l) m x t) : mTm (mG E ss m' l) m' x t := by
  have cl : ∀ c, c < E.1.length → clN E ss (mR m') c = clN E ss (mR m) c ∧ rEq m m' (fun x => x ∈ clN E ss (mR m) c) := fun c hc => by
    obtain ⟨s, h1, h2, h3, h4, h5, h6, h7⟩ := mPr_cl hp hc
    rw [clN_c hc, clN_c hc, h1]
    refine zNd_z h4 hz (hS s ?_)
    have hlen := hp.1.2.2.1
    rw [List.getD_eq_getElem?_getD, List.getElem?_eq_getElem (by omega)] at h1
    have h1 : ss[c] = s := h1
    rw [← h1]
    exact List.getElem_mem _
  have lc : ∀ j, j < l.length → l.getD j 0 < E.1.length := fun j hj => by
    rw [List.getD_eq_getElem?_getD, List.getElem?_eq_getElem hj]
    exact hl _ (List.getElem_mem hj)
  have z26 := zNd_z hp.2.1 hz h26
  have eI : mIs E ss (mR m') l = mIs E ss (mR m) l := by
    unfold mIs
    rw [z26.1]
    congr 1
    refine List.map_congr_left (fun j hj => ?_)
    rw [(cl _ (lc j (List.mem_range.mp hj))).1]
  have eG : mG E ss m' l = mG E ss m l := by
    unfold mG
    rw [eI]
  rw [eG]
  rcases ht with ht | ht | ⟨n, p, nv, u, a1, a2, a3, a4, a5, a6, a7, a8⟩
  · exact Or.inl ht
  · exact Or.inr (Or.inl ht)
  · refine Or.inr (Or.inr ⟨n, p, nv, u, a1, a2, a3, a4, ?_, a6, a7, a8⟩)
    obtain ⟨q, hq, hn, -⟩ := a8
    have hcl := (mIs_all hp hl q hq).1
    refine rP_cl (fun x hx => (hcl x hx).2) ?_ u (-1) _ hn (fun z => by omega) a5
    rcases List.mem_cons.mp hq with rfl | hq
    · exact z26.2
    · obtain ⟨j, hj, rfl⟩ := List.mem_map.mp hq
      exact (cl _ (lc j (List.mem_range.mp hj))).2
end JE
/-- rows and registers of search and program -/
def jMf (m m' : hy_m) : Prop := (∀ (a : Nat) (e : Int), (a = 85 ∨ a = 86 ∨ (95 ≤ a ∧ a ≤ 111) ∨ (113 ≤ a ∧ a ≤ 116)) → m' a e = m a e) ∧ ∀ e : Int, (e = 13 ∨ (32 ≤ e ∧ e ≤ 68)) → m' 74 e = m 74 e
section JM
variable {E : qE} {ss : List Nat} {m m' : hy_m} {B : qA} {S : Int → Prop} {l T : List Nat} {s : Nat → pE} {Bm : bM}
theorem mFg_T (hT : ∀ x t, mTm (mG E ss m l) m x t → mTm (mG E ss m' l) m' x t) {x : Int} {g : pE} (h : mFg E ss m l s x g) : mFg E ss m' l s x g := by
  obtain ⟨t, h1, h2⟩ := h
  exact ⟨t, hT _ _ h1, h2⟩
theorem mCh_T (hT : ∀ x t, mTm (mG E ss m l) m x t → mTm (mG E ss m' l) m' x t) (hf : jMf m m') : ∀ (L : List qF) (N : Nat) (x : Int), mCh E ss m l s N L x → mCh E ss m' l s N L x := by
  intro L
  induction L with
  | nil => exact fun _ x h1 => h1
  | cons f r ih =>
    rintro N x ⟨j, h1, h2, ⟨a1, a2, a3⟩, h4⟩
    refine ⟨j, h1, h2, ⟨by rw [hf.1 100 _ (by omega)]; exact a1, by rw [hf.1 103 _ (by omega)]; exact a2, ?_⟩, by rw [hf.1 102 _ (by omega)]; exact ih _ _ h4⟩
    split at a3
    · rw [hf.1 99 _ (by omega), hf.1 101 _ (by omega)]
      exact a3
    · rw [hf.1 99 _ (by omega), hf.1 104 _ (by omega)]
      exact ⟨a3.1, fun q => mFg_T hT (a3.2 q)⟩
theorem mCc_TT (hT : ∀ l, lOK E l → ∀ x t, mTm (mG E ss m l) m x t → mTm (mG E ss m' l) m' x t) (hl : lOK E l) (hf : jMf m m') : ∀ C : List qC, mCc E ss m l T Bm C → mCc E ss m' l T Bm C
  | [], _ => trivial
  | c :: r, h => by
    obtain ⟨⟨a1, a2, a3⟩, b, c1, d, e, f, g⟩ := h
    have hl' : lOK E (l.take c.2.2.2.1.1) := fun x hx => hl x (List.mem_of_mem_take hx)
    refine ⟨⟨by rw [hf.1 108 _ (by omega)]; exact a1, by rw [hf.1 109 _ (by omega)]; exact a2, by rw [hf.1 110 _ (by omega)]; exact a3⟩, b, ?_, by rw [hf.1 107 _ (by omega)]; exact mCh_T (hT _ hl') hf _ _ _ d, e, fun v t hv => ?_, mCc_TT hT hl hf r g⟩
    · split at c1
      · rw [hf.1 106 _ (by omega)]
        exact c1
      · rw [hf.1 106 _ (by omega), hf.1 105 _ (by omega)]
        exact ⟨c1.1, mFg_T (hT _ hl') c1.2.1, c1.2.2⟩
    · rw [hf.1 97 _ (by omega)]
      exact ⟨hT _ hl' _ _ (f v t hv).1, (f v t hv).2⟩
theorem mSe_T (hT : ∀ l, lOK E l → ∀ x t, mTm (mG E ss m l) m x t → mTm (mG E ss m' l) m' x t) (hl : lOK E (qi B)) (hf : jMf m m') (hP : mPr E ss m') (h : mSe E ss m B) : mSe E ss m' B := by
  obtain ⟨-, n, ⟨q1, q2, q3⟩, Bm, T, ⟨d1, d2, d3, d4, d5, d6⟩, r1, r2⟩ := h
  refine ⟨hP, mNm_fr n (fun e e1 e2 => hf.2 e (by omega)) (fun e => hf.1 95 e (by omega)) (fun e => hf.1 96 e (by omega)), ⟨by rw [hf.2 _ (by omega)]; exact q1, by rw [hf.2 _ (by omega)]; exact q2, by rw [hf.2 52 (by omega)]; exact mCh_T (hT _ hl) hf _ _ _ q3⟩, Bm, T, ⟨fun v => ⟨fun hv => ?_, (d1 v).2⟩, ⟨by rw [hf.2 _ (by omega)]; exact d2.1, fun i hi => by rw [hf.1 98 _ (by omega)]; exact d2.2 i hi⟩, d3, d4, mCc_TT hT hl hf _ d5, by rw [hf.2 _ (by omega)]; exact d6⟩, r1, r2⟩
  obtain ⟨g1, g2⟩ := (d1 v).1 hv
  rw [hf.1 97 _ (by omega)]
  refine ⟨g1, g2.imp id (fun ⟨t, t1, t2, t3, t4⟩ => ⟨t, t1, t2, hT _ hl _ _ t3, t4⟩)⟩
theorem usF_25 {PL : List pCl} {PH : List (List pCl)} {HS : List (List Nat)} {j : Nat} (h : mPz m PL ss PH HS) (hj : usF HS ss j = true) : j ≤ 25 := by
  have ml : ∀ {a : Nat} {o : Int} {X : List pCl} {s : List Nat}, mLo m a o X s → j ∈ s → j ≤ 25 := fun h hs => by
    obtain ⟨i, hi⟩ := List.getElem?_of_mem hs
    have hil := (List.getElem?_eq_some_iff.mp hi).1
    have := h.2.2.1
    exact (h.2.2.2.2 i _ j (List.getElem?_eq_getElem (by omega)) hi).1
  obtain ⟨p1, p2, p3, p4, p5, p6⟩ := h
  rcases usF_t.mp hj with q | ⟨s, q1, q2⟩
  · exact ml p1 q
  · obtain ⟨i, hi⟩ := List.getElem?_of_mem q1
    have hil := (List.getElem?_eq_some_iff.mp hi).1
    exact ml (p6 i _ s (List.getElem?_eq_getElem (by omega)) hi) q2
end JM
/-- the query, or none; rounds -/
def jMq (k : Nat) (A : jst) (ss : List Nat) (m : hy_m) (K0 R0 : Nat) : Prop := (A.2.2.2 = none → cVal m ∧ mRd m K0 R0 ∧ 2 * K0 ≤ 15195300 * k) ∧ ∀ q : qE × qA, A.2.2.2 = some q → mAl q.1 ss m q.2 ∧ mRd m (K0 + 2411 * (qn q.2 4 + qn q.2 2)) (R0 + 3 * (qn q.2 4 + qn q.2 2)) ∧ (2 * K0 + 30390600 ≤ 15195300 * k ∨ (2 * K0 + 15195300 ≤ 15195300 * k ∧ qn q.2 4 + qn q.2 2 = 0))
def jMx (k : Nat) (A : jst) (m : hy_m) (ss : List Nat) (HS : List (List Nat)) (K0 R0 : Nat) : Prop := mPz m A.2.1 ss A.2.2.1 HS ∧ R0 ≤ 19000 * k ∧ jMq k A ss m K0 R0
def jM (k : Nat) (A : jst) (m : hy_m) : Prop := mTx m A.1 ∧ aPg m ∧ (∀ e : Int, 2490 ≤ e → e < 2500 → m 97 e = -1) ∧ ∃ (ss : List Nat) (HS : List (List Nat)) (K0 R0 : Nat), jMx k A m ss HS K0 R0
section JN
variable {A A' : jst} {ss : List Nat} {HS : List (List Nat)} {K0 R0 k : Nat} {m m' m1 : hy_m} {tx : List Int} {S : Int → Prop} {PL' : List pCl} {PH' : List (List pCl)} {ss' : List Nat} {HS' : List (List Nat)}
theorem mRd_f {K R : Nat} (h : mRd m K R) (hf : jMf m m') : mRd m' K R := mRd_fr h (hf.2 _ (by omega)) (fun e => hf.1 _ _ (by omega)) (hf.2 _ (by omega)) (fun e => hf.1 _ _ (by omega))
theorem cVal_f (h : cVal m) (hf : jMf m m') : cVal m' := by
  obtain ⟨h1, h2, h3, h4⟩ := h
  exact ⟨fun e he => by rw [hf.2 e (by omega)]; exact h1 e he, by rw [hf.2 _ (by omega)]; exact h2, fun e e1 e2 => by rw [hf.1 95 e (by omega), hf.1 96 e (by omega)]; exact h3 e e1 e2, fun e e1 e2 => by rw [hf.1 97 e (by omega)]; exact h4 e e1 e2⟩
theorem jMx_T (hV : jV k A) (h : jMx k A m ss HS K0 R0) (hf : jMf m m') (hP : mPz m' A.2.1 ss A.2.2.1 HS) (h26 : ∀ gs nv, clR m 26 none gs nv → clR m' 26 none gs nv) (hT : ∀ E : qE, mPr E ss m → ∀ l, lOK E l → ∀ x t, mTm (mG E ss m l) m x t → mTm (mG E ss m' l) m' x t) : jMx (k + 1) (tx, A.2) m' ss HS K0 R0 := by
  obtain ⟨-, h2, h3, h4⟩ := h
  refine ⟨hP, by omega, fun q => ?_, fun q hq => ?_⟩
  · obtain ⟨i1, i2, i3⟩ := h3 q
    exact ⟨cVal_f i1 hf, mRd_f i2 hf, by omega⟩
  · obtain ⟨⟨i1, i2, i3⟩, i4, i5⟩ := h4 q hq
    obtain ⟨g1, g2, g3, g4⟩ := hV.2.2 q.1 q.2 hq
    obtain ⟨p1, p2, p3⟩ := i1.1
    refine ⟨⟨mSe_T (hT q.1 i1.1) g2.1.2.2.1 hf ⟨by rw [g1]; exact hP.1, h26 _ _ p2, p3⟩ i1, by rw [hf.2 _ (by omega)]; exact i2, by rw [hf.2 _ (by omega)]; exact i3⟩, mRd_f i4 hf, ?_⟩
    rcases i5 with i5 | i5
    · exact Or.inl (by omega)
    · exact Or.inr ⟨by omega, i5.2⟩
/-- rows of terms are left alone -/
theorem jMx_w (hV : jV k A) (h : jMx k A m ss HS K0 R0) (hf : jMf m m') (hr : mRw m m') : jMx (k + 1) (tx, A.2) m' ss HS K0 R0 := jMx_T hV h hf (mPz_fr h.1 hr (fun e => hf.1 85 e (by omega)) (fun e => hf.1 86 e (by omega)) (hf.2 13 (by omega))) (fun gs nv q => clR_rw hr q) (fun E _ l _ x t q => mTm_rw hr q)
/-- terms that nobody uses were read -/
theorem jMx_z (hV : jV k A) (h : jMx k A m ss HS K0 R0) (hz : zFr m m' S) (h26 : ¬ S 26) (hS : ∀ sl : Nat, usF HS ss sl = true → ¬ S (sl : Int)) : jMx (k + 1) (tx, A.2) m' ss HS K0 R0 := by
  have hf : jMf m m' := ⟨fun a e q => hz a e (by omega) (fun z => by omega) (fun z => by omega) (fun z => by omega) (fun z => by omega) (by omega) (by omega) (by omega) (by omega) (by omega), fun e q => hz 74 e (by omega) (fun z => by omega) (fun z => by omega) (fun z => by omega) (fun z => by omega) (by omega) (by omega) (by omega) (by omega) (by omega)⟩
  exact jMx_T hV h hf (mPz_z h.1 hz hS) (fun gs nv q => clR_z (sl := 26) q hz h26) (fun E hp l hl x t q => mTm_z hp hz h26 (fun s hs => hS s (usF_t.mpr (Or.inl hs))) hl q)
theorem mTx_f (hT : mTx m tx) (h1 : m' 74 1 = m 74 1) (h75 : ∀ e, m' 75 e = m 75 e) : mTx m' tx := by
  obtain ⟨t1, t2, t3, t4⟩ := hT
  exact ⟨by rw [h1]; exact t1, t2, fun i hi => by rw [h75]; exact t3 i hi, t4⟩
theorem aPg_f (h : aPg m) (h79 : ∀ e, m' 79 e = m 79 e) (h83 : ∀ e, m' 83 e = m 83 e) : aPg m' := by
  intro s hs h6
  obtain ⟨h1, h2⟩ := h s hs h6
  exact ⟨fun e q1 q2 => by rw [h79]; exact h1 e q1 q2, fun e q1 q2 => by rw [h83]; exact h2 e q1 q2⟩
theorem jM_w (hV : jV k A) (h : jM k A m) (hf : jMf m m') (hr : mRw m m') (hT : mTx m' tx) : jM (k + 1) (tx, A.2) m' := by
  obtain ⟨-, c2, c3, ss, HS, K0, R0, d⟩ := h
  exact ⟨hT, aPg_f c2 (fun e => hr 79 e (by omega) (by omega)) (fun e => hr 83 e (by omega) (by omega)), fun e e1 e2 => by rw [hf.1 97 e (by omega)]; exact c3 e e1 e2, ss, HS, K0, R0, jMx_w hV d hf hr⟩
theorem jM_s (hV : jV k A) (h : jM k A m) : jM (k + 1) A m := jM_w hV h ⟨fun _ _ _ => rfl, fun _ _ => rfl⟩ (fun _ _ _ _ => rfl) h.1
/-- cells for what is shown -/
theorem jM_v (hV : jV k A) (h : jM k A m) (hf : ∀ (a : Nat) (e : Int), ¬ (92 ≤ a ∧ a ≤ 94) → a ≠ 112 → a ≠ 117 → a ≠ 118 → ¬ (a = 74 ∧ (e = 29 ∨ e = 70 ∨ e = 72 ∨ e = 73)) → m' a e = m a e) : jM (k + 1) A m' := jM_w hV h ⟨fun a e q => hf a e (by omega) (by omega) (by omega) (by omega) (by omega), fun e q => hf _ e (by omega) (by omega) (by omega) (by omega) (by omega)⟩ (fun a e q1 q2 => hf a e (by omega) (by omega) (by omega) (by omega) (by omega)) (mTx_f h.1 (hf _ _ (by omega) (by omega) (by omega) (by omega) (by omega)) (fun e => hf _ _ (by omega) (by omega) (by omega) (by omega) (by omega)))
/-- what was read isn't used -/
theorem jM_z (hV : jV k A) (hT : mTx m A.1) (c3 : ∀ e : Int, 2490 ≤ e → e < 2500 → m 97 e = -1) (d : jMx k A m ss HS K0 R0) (hz : zFr m m' S) (h26 : ¬ S 26) (hS : ∀ sl : Nat, usF HS ss sl = true → ¬ S (sl : Int)) (hPg : aPg m') : jM (k + 1) A m' := by
  have o : ∀ (a : Nat) (e : Int), (a = 75 ∨ a = 97 ∨ (a = 74 ∧ e = 1)) → m' a e = m a e := fun a e q => hz a e (by omega) (fun z => by omega) (fun z => by omega) (fun z => by omega) (fun z => by omega) (by omega) (by omega) (by omega) (by omega) (by omega)
  exact ⟨mTx_f hT (o _ _ (by omega)) (fun e => o _ _ (by omega)), hPg, fun e e1 e2 => by rw [o 97 e (by omega)]; exact c3 e e1 e2, ss, HS, K0, R0, jMx_z hV d hz h26 hS⟩
/-- rounds when a query is left -/
theorem jMx_R (hV : jV k A) (h : jMx k A m ss HS K0 R0) : ∃ K R, mRd m K R ∧ 2 * K ≤ 15195300 * k ∧ R ≤ 19000 * k + 19000 := by
  obtain ⟨-, h2, h3, h4⟩ := h
  cases e : A.2.2.2 with
  | none =>
    obtain ⟨i1, i2, i3⟩ := h3 e
    exact ⟨K0, R0, i2, i3, by omega⟩
  | some q =>
    obtain ⟨-, i4, i5⟩ := h4 q e
    obtain ⟨g1, g2, g3, g4⟩ := hV.2.2 q.1 q.2 e
    have b1 := g2.1.2.2.2.2.2.2.1
    have b2 := g2.1.2.2.2.2.2.2.2.1
    refine ⟨_, _, i4, ?_, ?_⟩
    · rcases i5 with i5 | i5 <;> omega
    · omega
end JN
