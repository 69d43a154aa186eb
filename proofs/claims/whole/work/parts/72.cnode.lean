/-! THE CLASS'S READER: nodes -/
def mAd (m : hy_m) (c : Nat) (k w : Int) : hy_m := hy_u (hy_u (hy_u m 5 (c : Int) k) 6 (c : Int) w) 4 4 ((c : Int) + 1)
def mAc (m : hy_m) (o k : Int) (a : Nat) (y : Int) : hy_m := hy_u (hy_u (hy_u m 5 o 4) 7 (o * 3 + (a : Int)) y) 6 o (kC k (a + 1))
def mOp (m : hy_m) (d : Nat) (n md : Int) : hy_m := hy_u (hy_u (hy_u m 12 (d : Int) n) 13 (d : Int) md) 4 14 ((d : Int) + 1)
theorem mAd_r (m : hy_m) (c : Nat) (k w : Int) (a : Nat) (e : Int) (h1 : ¬ ((a = 5 ∨ a = 6) ∧ e = c)) (h2 : ¬ (a = 4 ∧ e = 4)) : mAd m c k w a e = m a e := by
  unfold mAd hy_u
  rw [if_neg (by omega), if_neg (by omega), if_neg (by omega)]
theorem mAd_v (m : hy_m) (c : Nat) (k w : Int) : mAd m c k w 5 (c : Int) = k ∧ mAd m c k w 6 (c : Int) = w ∧ mAd m c k w 4 4 = (c : Int) + 1 := by
  unfold mAd
  refine ⟨?_, ?_, ?_⟩
  · rw [hy_ua (by decide), hy_ua (by decide), hy_us]
  · rw [hy_ua (by decide), hy_us]
  · rw [hy_us]
theorem mAc_r (m : hy_m) (o k : Int) (a : Nat) (y : Int) (b : Nat) (e : Int) (h1 : ¬ ((b = 5 ∨ b = 6) ∧ e = o)) (h2 : ¬ (b = 7 ∧ e = 3 * o + a)) : mAc m o k a y b e = m b e := by
  unfold mAc hy_u
  rw [if_neg (by omega), if_neg (by omega), if_neg (by omega)]
theorem mAc_v (m : hy_m) (o k : Int) (a : Nat) (y : Int) : mAc m o k a y 5 o = 4 ∧ mAc m o k a y 6 o = kC k (a + 1) ∧ mAc m o k a y 7 (3 * o + (a : Int)) = y := by
  unfold mAc
  refine ⟨?_, ?_, ?_⟩
  · rw [hy_ua (by decide), hy_ua (by decide), hy_us]
  · rw [hy_us]
  · rw [hy_ua (by decide), show 3 * o + (a : Int) = o * 3 + (a : Int) by omega, hy_us]
theorem mOp_r (m : hy_m) (d : Nat) (n md : Int) (a : Nat) (e : Int) (h1 : ¬ ((a = 12 ∨ a = 13) ∧ e = d)) (h2 : ¬ (a = 4 ∧ e = 14)) : mOp m d n md a e = m a e := by
  unfold mOp hy_u
  rw [if_neg (by omega), if_neg (by omega), if_neg (by omega)]
theorem mOp_v (m : hy_m) (d : Nat) (n md : Int) : mOp m d n md 12 (d : Int) = n ∧ mOp m d n md 13 (d : Int) = md ∧ mOp m d n md 4 14 = (d : Int) + 1 := by
  unfold mOp
  refine ⟨?_, ?_, ?_⟩
  · rw [hy_ua (by decide), hy_ua (by decide), hy_us]
  · rw [hy_ua (by decide), hy_us]
  · rw [hy_us]
theorem kC_s (k : Int) (a : Nat) : kC k a + 1 = kC k (a + 1) := by
  unfold kC
  omega
section CB
variable {m m' : hy_m} {Q : Int → hy_m → Prop} {y0 y o k : Int} {f : pF} {stk : List pF} {cs : List Int} {css : List (List Int)} {x : Option Int} {c a d : Nat} {K : List (pE × Int)} {as l : List pE} {t : pE} {n : Int}
theorem sp_81 {k w : Int} (h : m 4 4 = c) (hc : c < 128) (hq : Q (c : Int) (mAd m c k w)) : wq_81 k w m Q := by
  unfold wq_81
  rw [h, if_neg (show ¬ (127 : Int) < c by omega)]
  exact ⟨by omega, by omega, by omega, by omega, show -2147483648 ≤ _ ∧ _ < 2147483648 by omega, hq⟩
theorem sp_82 (hd : m 4 14 = (d : Int) + 1) (hd2 : d < 120) (ho : m 12 (d : Int) = o) (hor : 0 ≤ o ∧ o < 128) (hk : nmOK k) (h6 : m 6 o = kC k a) (ha : a ≤ 2) (hq : Q 0 (mAc m o k a y)) : wq_82 y m Q := by
  have hr := kC_r (n := a) hk (by omega)
  unfold wq_82
  rw [hd, show (d : Int) + 1 - 1 = (d : Int) by omega, ho]
  refine ⟨fun _ => ⟨by omega, by omega, hor.1, hor.2, ?_⟩, fun q => by omega⟩
  rw [h6]
  refine sp_26 (by omega) ⟨fun q => by omega, fun _ => ⟨hor.1, hor.2, by omega, by omega, hor.1, hor.2, hor.1, hor.2, ?_⟩⟩
  rw [h6, kC_s]
  have hr2 := kC_r (n := a + 1) hk (by omega)
  exact ⟨show -9223372036854775808 ≤ _ ∧ _ < 9223372036854775808 by omega, hq⟩
theorem sp_82z (hd : m 4 14 = 0) (hq : Q 0 m) : wq_82 y m Q := by
  unfold wq_82
  rw [hd]
  exact ⟨fun q => by omega, fun _ => hq⟩
theorem sp_80 {md : Int} (hd : m 4 14 = (d : Int)) (hd2 : d < 120) (hq : Q 0 (mOp m d n md)) : wq_80 n md m Q := by
  unfold wq_80
  rw [hd]
  exact ⟨fun q => by omega, fun _ => ⟨by omega, by omega, by omega, by omega, show -2147483648 ≤ _ ∧ _ < 2147483648 by omega, hq⟩⟩
theorem nodup_dl {l : List Int} {o : Int} (hn : l.Nodup) (h : l.getLast? = some o) : ∀ z, z ∈ l.dropLast → z ≠ o := by
  rw [List.getLast?_eq_some_iff] at h
  obtain ⟨r, rfl⟩ := h
  intro z hz e
  rw [List.dropLast_concat] at hz
  rw [List.nodup_append] at hn
  exact hn.2.2 z hz o (by simp) e
/-- the node that waits in the newest open compound -/
theorem cF_o {A : Int → Prop} {i : Nat} (h : cF m A i f cs x) : ∃ o k a, m 12 (i : Int) = o ∧ o ∈ cs ∧ nmOK k ∧ m 6 o = kC k (a + xn x) ∧ a ≤ 2 ∧ pend m o a x := by
  rcases h with ⟨a1, a2, a3, b, rfl, a4, a5, a6, a7, a8, a9⟩ | ⟨a1, a2, a3, o, a4, a5, a6, a7, a8, a9⟩ | ⟨a1, a2, l, a, a3, a4, o, a5, a6, a7, a8, a9, a10, a11⟩
  · exact ⟨b, f.2.1, f.2.2.length, a8, List.mem_cons_self .., a3, a4, a2, a7⟩
  · exact ⟨o, 2, 0, a8, mem_last a4, Or.inr (Or.inl rfl), a5, by omega, a7⟩
  · exact ⟨o, 2, 1, a10, mem_last a5, Or.inr (Or.inl rfl), a6, by omega, a9⟩
theorem cF_att {A : Int → Prop} {i : Nat} (hnd : cs.Nodup) (hA : ∀ z, A z → z ∉ cs) (h : cF m A i f cs none) (ho : m 12 (i : Int) = o) (hk : nmOK k) (h6 : m 6 o = kC k a) (ha : a ≤ 2) : cF (mAc m o k a y) A i f cs (some y) := by
  have hr := mAc_r m o k a y
  have hv := mAc_v m o k a y
  have hom : o ∈ cs := by
    obtain ⟨o', -, -, e1, e2, -⟩ := cF_o h
    rw [← ho, e1]
    exact e2
  have hE : cE m (mAc m o k a y) A := by
    intro z hz
    have hne : z ≠ o := fun q => hA z hz (by rw [q]; exact hom)
    exact ⟨hr _ _ (by omega) (by omega), hr _ _ (by omega) (by omega), fun j _ _ => hr _ _ (by omega) (by omega)⟩
  have hI : ∀ z ∈ cs.dropLast, cs.getLast? = some o → mAc m o k a y 5 z = m 5 z ∧ mAc m o k a y 6 z = m 6 z ∧ mAc m o k a y 7 (3 * z) = m 7 (3 * z) ∧ mAc m o k a y 7 (3 * z + 1) = m 7 (3 * z + 1) := by
    intro z hz hl
    have hne := nodup_dl hnd hl z hz
    exact ⟨hr _ _ (by omega) (by omega), hr _ _ (by omega) (by omega), hr _ _ (by omega) (by omega), hr _ _ (by omega) (by omega)⟩
  rcases h with ⟨a1, a2, a3, b, rfl, a4, a5, a6, a7, a8, a9⟩ | ⟨a1, a2, a3, o', a4, a5, a6, a7, a8, a9⟩ | ⟨a1, a2, l, a0, a3, a4, o', a5, a6, a7, a8, a9, a10, a11⟩
  · have hb : b = o := a8.symm.trans ho
    subst hb
    obtain ⟨e1, e2⟩ := kC_inj a3 hk (by show f.2.2.length + 0 ≤ 3; omega) (by omega) (a4.symm.trans h6)
    have e2 : f.2.2.length + 0 = a := e2
    rw [← e1] at hv hr ⊢
    rw [show a = f.2.2.length by omega] at hv hr ⊢
    refine Or.inl ⟨a1, a2, a3, b, rfl, hv.2.1, ?_, fun j hj => ?_, fun z hz => ?_, ?_, ?_⟩
    · rw [hv.1]
      show _ = if f.2.2.length + 1 = 0 then (3 : Int) else 4
      rw [if_neg (by omega)]
    · rw [hr _ _ (by omega) (by omega)]
      exact cT_up (fun n hn => hn) (by rw [show a = f.2.2.length by omega, ← e1] at hE; exact hE) (a6 j hj)
    · cases hz
      exact hv.2.2
    · rw [hr _ _ (by omega) (by omega)]; exact a8
    · rw [hr _ _ (by omega) (by omega)]; exact a9
  · have hb : o' = o := a8.symm.trans ho
    subst hb
    obtain ⟨e1, e2⟩ := kC_inj (Or.inr (Or.inl rfl)) hk (by show 0 + 0 ≤ 3; omega) (by omega) (a5.symm.trans h6)
    have e2 : 0 + 0 = a := e2
    subst e1
    subst e2
    refine Or.inr (Or.inl ⟨a1, a2, cI_eq (fun n hn => hn) hE _ _ (fun z hz => hI z hz a4) a3, o', a4, hv.2.1, hv.1, fun z hz => ?_, ?_, ?_⟩)
    · cases hz
      exact hv.2.2
    · rw [hr _ _ (by omega) (by omega)]; exact a8
    · rw [hr _ _ (by omega) (by omega)]; exact a9
  · have hb : o' = o := a10.symm.trans ho
    subst hb
    obtain ⟨e1, e2⟩ := kC_inj (Or.inr (Or.inl rfl)) hk (by show 1 + 0 ≤ 3; omega) (by omega) (a6.symm.trans h6)
    have e2 : 1 + 0 = a := e2
    subst e1
    subst e2
    refine Or.inr (Or.inr ⟨a1, a2, l, a0, a3, cI_eq (fun n hn => hn) hE _ _ (fun z hz => hI z hz a5) a4, o', a5, hv.2.1, hv.1, ?_, fun z hz => ?_, ?_, ?_⟩)
    · rw [hr _ _ (by omega) (by omega)]
      exact cT_up (fun n hn => hn) hE a8
    · cases hz
      exact hv.2.2
    · rw [hr _ _ (by omega) (by omega)]; exact a10
    · rw [hr _ _ (by omega) (by omega)]; exact a11
theorem cA_out {O : List Int} {z : Int} (h : ∀ n ∈ O, 8 ≤ n ∧ n < c) (hz : cA c O z) : z ∉ O := by
  intro q
  rcases hz with hz | hz
  · have := (h z q).1
    omega
  · exact hz.2.2 q
theorem cN_att (h : cN m y0 (f :: stk) (cs :: css) none c K) (ho : m 12 (stk.length : Int) = o) (hk : nmOK k) (h6 : m 6 o = kC k a) (ha : a ≤ 2) : cN (mAc m o k a y) y0 (f :: stk) (cs :: css) (some y) c K := by
  obtain ⟨n1, n2, n3, n4, n5⟩ := h
  obtain ⟨s1, h0, s2, s3⟩ := n3
  have hnd := n2.1
  rw [List.flatten_cons, List.nodup_append] at hnd
  have hr := mAc_r m o k a y
  have hom : o ∈ cs := by
    obtain ⟨o', -, -, e1, e2, -⟩ := cF_o s1
    rw [← ho, e1]
    exact e2
  have ho8 := (n2.2 o (by rw [List.flatten_cons]; exact List.mem_append_left _ hom)).1
  have hAo : ∀ z, cA c (cs :: css).flatten z → z ∉ cs := fun z hz q => cA_out n2.2 hz (by rw [List.flatten_cons]; exact List.mem_append_left _ q)
  have hE : cE m (mAc m o k a y) (cA c (cs :: css).flatten) := by
    intro z hz
    have hne : z ≠ o := fun q => hAo z hz (by rw [q]; exact hom)
    exact ⟨hr _ _ (by omega) (by omega), hr _ _ (by omega) (by omega), fun j _ _ => hr _ _ (by omega) (by omega)⟩
  refine ⟨fun i h1 h2 => ?_, n2, ⟨cF_att hnd.1 hAo s1 ho hk h6 ha, h0, s2, sC_eq (fun n hn => hn) hE stk css _ (fun z hz => ?_) (fun i _ => ⟨hr _ _ (by omega) (by omega), hr _ _ (by omega) (by omega)⟩) s3⟩, fun q hq => cT_up (fun n hn => hn) hE (n4 q hq), n5⟩
  · rw [hr _ _ (by omega) (by omega)]
    exact n1 i h1 h2
  · have hne : z ≠ o := fun q => hnd.2.2 o hom z hz q.symm
    exact ⟨hr _ _ (by omega) (by omega), hr _ _ (by omega) (by omega), fun j _ _ => hr _ _ (by omega) (by omega)⟩
theorem cN_ad {k w : Int} (h : cN m y0 stk css x c K) : cN (mAd m c k w) y0 stk css x c K := by
  obtain ⟨n1, n2, n3, n4, n5⟩ := h
  have hr := mAd_r m c k w
  have hE : cE m (mAd m c k w) (cA c css.flatten) := by
    intro z hz
    have hne : z ≠ c := by
      rcases hz with hz | hz <;> omega
    exact ⟨hr _ _ (by omega) (by omega), hr _ _ (by omega) (by omega), fun j _ _ => hr _ _ (by omega) (by omega)⟩
  refine ⟨fun i h1 h2 => ?_, n2, sC_eq (fun n hn => hn) hE stk css _ (fun z hz => ?_) (fun i _ => ⟨hr _ _ (by omega) (by omega), hr _ _ (by omega) (by omega)⟩) n3, fun q hq => cT_up (fun n hn => hn) hE (n4 q hq), n5⟩
  · rw [hr _ _ (by omega) (by omega)]
    exact n1 i h1 h2
  · have := n2.2 z hz
    exact ⟨hr _ _ (by omega) (by omega), hr _ _ (by omega) (by omega), fun j _ _ => hr _ _ (by omega) (by omega)⟩
theorem cE_refl (m : hy_m) (A : Int → Prop) : cE m m A := fun _ _ => ⟨rfl, rfl, fun _ _ _ => rfl⟩
theorem cA_up {O : List Int} (z : Int) (h : cA c O z) : cA (c + 1) O z := by
  rcases h with h | h
  · exact Or.inl h
  · exact Or.inr ⟨h.1, by omega, h.2.2⟩
theorem cN_up (h : cN m y0 stk css x c K) : cN m y0 stk css x (c + 1) K := by
  obtain ⟨n1, n2, n3, n4, n5⟩ := h
  exact ⟨n1, ⟨n2.1, fun z hz => by have := n2.2 z hz; omega⟩, sC_eq cA_up (cE_refl _ _) stk css _ (cE_refl _ _) (fun i _ => ⟨rfl, rfl⟩) n3, fun q hq => cP_mono cA_up _ _ _ (n4 q hq), by omega⟩
/-- the newest node becomes an open compound -/
theorem cN_open (h : cN m y0 stk css (some (c : Int)) c K) (hf : ∀ (a : Nat) (e : Int), a = 5 ∨ a = 6 ∨ a = 7 ∨ ((a = 12 ∨ a = 13) ∧ e ≠ stk.length) → m' a e = m a e) (hF : ∀ A : Int → Prop, cF m' A stk.length f [(c : Int)] none) : cN m' y0 (f :: stk) ([(c : Int)] :: css) none (c + 1) K := by
  obtain ⟨n1, n2, n3, n4, n5⟩ := h
  have hE : ∀ A : Int → Prop, cE m m' A := fun A n _ => ⟨hf _ _ (by omega), hf _ _ (by omega), fun j _ _ => hf _ _ (by omega)⟩
  have hAB : ∀ z, cA c css.flatten z → cA (c + 1) ([(c : Int)] :: css).flatten z := by
    intro z hz
    rcases hz with hz | hz
    · exact Or.inl hz
    · refine Or.inr ⟨hz.1, by omega, fun q => ?_⟩
      rw [List.flatten_cons, List.singleton_append] at q
      rcases List.mem_cons.mp q with q | q
      · omega
      · exact hz.2.2 q
  refine ⟨fun i h1 h2 => ?_, ⟨?_, fun z hz => ?_⟩, ⟨hF _, (c : Int), rfl, sC_eq hAB (hE _) stk css _ (hE _) (fun i hi => ⟨hf _ _ (by omega), hf _ _ (by omega)⟩) n3⟩, fun q hq => cT_up hAB (hE _) (n4 q hq), by omega⟩
  · rw [hf _ _ (by omega)]
    exact n1 i h1 h2
  · rw [List.flatten_cons, List.singleton_append, List.nodup_cons]
    exact ⟨fun q => by have := n2.2 _ q; omega, n2.1⟩
  · rw [List.flatten_cons, List.singleton_append] at hz
    rcases List.mem_cons.mp hz with rfl | hz
    · omega
    · have := n2.2 z hz
      omega
theorem cA_pop {z : Int} (h : cA c (cs :: css).flatten z) : cA c css.flatten z := by
  rcases h with h | h
  · exact Or.inl h
  · exact Or.inr ⟨h.1, h.2.1, fun q => h.2.2 (by rw [List.flatten_cons]; exact List.mem_append_right _ q)⟩
/-- arguments: closed -/
theorem cN_closeA (h : cN m y0 ((0, k, as) :: stk) (cs :: css) (some n) c K) (ht : cT m (cA c (cs :: css).flatten) t n) : ∃ b, cs = [b] ∧ cN m y0 stk css (some b) c K ∧ cT m (cA c css.flatten) (eC k (as ++ [t])) b ∧ m 12 (stk.length : Int) = b ∧ m 13 (stk.length : Int) = 0 ∧ nmOK k ∧ m 6 b = kC k (as.length + 1) ∧ as.length ≤ 2 := by
  obtain ⟨n1, n2, n3, n4, n5⟩ := h
  obtain ⟨s1, h0, s2, s3⟩ := n3
  have hnd := n2.1
  rw [List.flatten_cons, List.nodup_append] at hnd
  rcases s1 with ⟨a1, a2, a3, b, rfl, a4, a5, a6, a7, a8, a9⟩ | ⟨a1, -⟩ | ⟨a1, -⟩
  · have e0 : b = h0 := by simpa using s2
    subst e0
    have hb := n2.2 b (by rw [List.flatten_cons]; exact List.mem_append_left _ (List.mem_cons_self ..))
    have a2 : as.length ≤ 2 := a2
    refine ⟨b, rfl, ⟨n1, ⟨hnd.2.1, fun z hz => n2.2 z (by rw [List.flatten_cons]; exact List.mem_append_right _ hz)⟩, sC_eq (fun z hz => cA_pop hz) (cE_refl _ _) stk css _ (cE_refl _ _) (fun i _ => ⟨rfl, rfl⟩) s3, fun q hq => cP_mono (fun z hz => cA_pop hz) _ _ _ (n4 q hq), n5⟩, ?_, a8, a9, a3, a4, a2⟩
    refine cP_C (Or.inr ⟨hb.1, hb.2, fun q => hnd.2.2 b (List.mem_cons_self ..) b q rfl⟩) hb.1 a3 ?_ ?_ ?_ (fun i hi => ?_)
    · rw [a4]
      show kC k (as.length + 1) = _
      rw [List.length_append]
      rfl
    · rw [a5, if_neg (by show ¬ as.length + 1 = 0; omega), if_neg (by simp)]
    · simp only [List.length_append, List.length_cons, List.length_nil]
      omega
    · by_cases e : i = as.length
      · subst e
        have e7 : m 7 (3 * b + (as.length : Int)) = n := a7 n rfl
        rw [e7]
        have := cP_mono (fun z hz => cA_pop hz) _ _ _ ht
        simpa using this
      · have hi' : i < as.length := by simp at hi; omega
        rw [List.getElem_append_left hi']
        exact cP_mono (fun z hz => cA_pop hz) _ _ _ (a6 i hi')
  · exact absurd (show (0 : Nat) = 1 from a1) (by decide)
  · exact absurd (show (0 : Nat) = 2 from a1) (by decide)
/-- arguments: one more is wanted -/
theorem cN_moreA (h : cN m y0 ((0, k, as) :: stk) (cs :: css) (some n) c K) (ht : cT m (cA c (cs :: css).flatten) t n) (hl : as.length + 1 ≤ 2) : cN m y0 ((0, k, as ++ [t]) :: stk) (cs :: css) none c K := by
  obtain ⟨n1, n2, n3, n4, n5⟩ := h
  obtain ⟨s1, h0, s2, s3⟩ := n3
  refine ⟨n1, n2, ⟨?_, h0, s2, s3⟩, n4, n5⟩
  rcases s1 with ⟨a1, a2, a3, b, rfl, a4, a5, a6, a7, a8, a9⟩ | ⟨a1, -⟩ | ⟨a1, -⟩
  · refine Or.inl ⟨rfl, by show (as ++ [t]).length ≤ 2; simp; omega, a3, b, rfl, ?_, ?_, fun j hj => ?_, (fun z hz => by cases hz), a8, a9⟩
    · rw [a4]
      show kC k (as.length + 1) = kC k ((as ++ [t]).length + 0)
      rw [List.length_append]
      rfl
    · rw [a5]
      show (if as.length + 1 = 0 then (3 : Int) else 4) = if (as ++ [t]).length + 0 = 0 then 3 else 4
      rw [if_neg (by omega), if_neg (by simp)]
    · show cT m _ (as ++ [t])[j] _
      by_cases e : j = as.length
      · subst e
        have e7 : m 7 (3 * b + (as.length : Int)) = n := a7 n rfl
        rw [e7]
        simpa using ht
      · have hj' : j < as.length := by
          have hj : j < (as ++ [t]).length := hj
          simp at hj
          omega
        rw [List.getElem_append_left hj']
        exact a6 j hj'
  · exact absurd (show (0 : Nat) = 1 from a1) (by decide)
  · exact absurd (show (0 : Nat) = 2 from a1) (by decide)
/-- the waiting cell of a list of items -/
theorem cN_item (h : cN m y0 ((1, 2, l) :: stk) (cs :: css) (some n) c K) : ∃ o, cs.getLast? = some o ∧ cI m (cA c (cs :: css).flatten) l cs ∧ m 6 o = kC 2 1 ∧ m 5 o = 4 ∧ m 7 (3 * o) = n ∧ m 12 (stk.length : Int) = o ∧ m 13 (stk.length : Int) = 1 ∧ 8 ≤ o ∧ o < c := by
  obtain ⟨n1, n2, n3, n4, n5⟩ := h
  obtain ⟨s1, h0, s2, s3⟩ := n3
  rcases s1 with ⟨a1, -⟩ | ⟨a1, a2, a3, o, a4, a5, a6, a7, a8, a9⟩ | ⟨a1, -⟩
  · exact absurd (show (1 : Nat) = 0 from a1) (by decide)
  · have hb := n2.2 o (by rw [List.flatten_cons]; exact List.mem_append_left _ (mem_last a4))
    have a7 := a7 n rfl
    rw [show 3 * o + ((0 : Nat) : Int) = 3 * o by omega] at a7
    exact ⟨o, a4, a3, a5, a6, a7, a8, a9, hb⟩
  · exact absurd (show (1 : Nat) = 2 from a1) (by decide)
/-- items: one more cell -/
theorem cN_moreI (h : cN m y0 ((1, 2, l) :: stk) (cs :: css) (some n) c K) (ht : cT m (cA c (cs :: css).flatten) t n) (ho : m 12 (stk.length : Int) = o) : cN (hy_u (mAc (mAd m c 4 184) o 2 1 (c : Int)) 12 (stk.length : Int) (c : Int)) y0 ((1, 2, l ++ [t]) :: stk) ((cs ++ [(c : Int)]) :: css) none (c + 1) K := by
  obtain ⟨o', e1, e2, e3, e4, e5, e6, e7, e8, e9⟩ := cN_item h
  have : o' = o := e6.symm.trans ho
  subst this
  obtain ⟨n1, n2, n3, n4, n5⟩ := h
  obtain ⟨-, h0, s2, s3⟩ := n3
  have hnd := n2.1
  rw [List.flatten_cons, List.nodup_append] at hnd
  have hr1 := mAd_r m c 4 184
  have hv1 := mAd_v m c 4 184
  have hr2 := mAc_r (mAd m c 4 184) o' 2 1 (c : Int)
  have hv2 := mAc_v (mAd m c 4 184) o' 2 1 (c : Int)
  have hM : ∀ (b : Nat) (e : Int), ¬ ((b = 5 ∨ b = 6) ∧ e = o') → ¬ (b = 7 ∧ e = 3 * o' + 1) → ¬ ((b = 5 ∨ b = 6) ∧ e = c) → ¬ (b = 4 ∧ e = 4) → ¬ (b = 12 ∧ e = stk.length) → hy_u (mAc (mAd m c 4 184) o' 2 1 (c : Int)) 12 (stk.length : Int) (c : Int) b e = m b e := by
    intro b e q1 q2 q3 q4 q5
    rw [show hy_u (mAc (mAd m c 4 184) o' 2 1 (c : Int)) 12 (stk.length : Int) (c : Int) b e = mAc (mAd m c 4 184) o' 2 1 (c : Int) b e from if_neg q5, hr2 _ _ q1 (by omega), hr1 _ _ q3 q4]
  have M5o : hy_u (mAc (mAd m c 4 184) o' 2 1 (c : Int)) 12 (stk.length : Int) (c : Int) 5 o' = 4 := by rw [hy_ua (by decide)]; exact hv2.1
  have M6o : hy_u (mAc (mAd m c 4 184) o' 2 1 (c : Int)) 12 (stk.length : Int) (c : Int) 6 o' = 186 := by rw [hy_ua (by decide), hv2.2.1]; decide
  have M7o : hy_u (mAc (mAd m c 4 184) o' 2 1 (c : Int)) 12 (stk.length : Int) (c : Int) 7 (3 * o' + 1) = c := by rw [hy_ua (by decide)]; exact hv2.2.2
  have M5c : hy_u (mAc (mAd m c 4 184) o' 2 1 (c : Int)) 12 (stk.length : Int) (c : Int) 5 (c : Int) = 4 := by rw [hy_ua (by decide), hr2 _ _ (by omega) (by omega)]; exact hv1.1
  have M6c : hy_u (mAc (mAd m c 4 184) o' 2 1 (c : Int)) 12 (stk.length : Int) (c : Int) 6 (c : Int) = 184 := by rw [hy_ua (by decide), hr2 _ _ (by omega) (by omega)]; exact hv1.2.1
  have M12 : hy_u (mAc (mAd m c 4 184) o' 2 1 (c : Int)) 12 (stk.length : Int) (c : Int) 12 (stk.length : Int) = c := hy_us _ _ _ _
  generalize hy_u (mAc (mAd m c 4 184) o' 2 1 (c : Int)) 12 (stk.length : Int) (c : Int) = M at hM M5o M6o M7o M5c M6c M12
  have hom := mem_last e1
  have hAo : ∀ z, cA c (cs :: css).flatten z → z ≠ o' := fun z hz q => cA_out n2.2 hz (by rw [List.flatten_cons, q]; exact List.mem_append_left _ hom)
  have hlt : ∀ z, cA c (cs :: css).flatten z → z < c := fun z hz => by rcases hz with hz | hz <;> omega
  have hE : cE m M (cA c (cs :: css).flatten) := by
    intro z hz
    have h1 := hAo z hz
    have h2 := hlt z hz
    exact ⟨hM _ _ (by omega) (by omega) (by omega) (by omega) (by omega), hM _ _ (by omega) (by omega) (by omega) (by omega) (by omega), fun j _ _ => hM _ _ (by omega) (by omega) (by omega) (by omega) (by omega)⟩
  have hAB : ∀ z, cA c (cs :: css).flatten z → cA (c + 1) ((cs ++ [(c : Int)]) :: css).flatten z := by
    intro z hz
    rcases hz with hz | hz
    · exact Or.inl hz
    · refine Or.inr ⟨hz.1, by omega, fun q => ?_⟩
      rw [List.flatten_cons] at q
      rcases List.mem_append.mp q with q | q
      · rcases List.mem_append.mp q with q | q
        · exact hz.2.2 (by rw [List.flatten_cons]; exact List.mem_append_left _ q)
        · have : z = c := by simpa using q
          omega
      · exact hz.2.2 (by rw [List.flatten_cons]; exact List.mem_append_right _ q)
  have hcell : ∀ z ∈ cs, z < c := fun z hz => (n2.2 z (by rw [List.flatten_cons]; exact List.mem_append_left _ hz)).2
  refine ⟨fun i h1 h2 => ?_, ⟨?_, fun z hz => ?_⟩, ⟨Or.inr (Or.inl ⟨rfl, rfl, ?_, (c : Int), by simp, ?_, M5c, (fun z hz => by cases hz), M12, ?_⟩), h0, ?_, sC_eq hAB hE stk css _ (fun z hz => ?_) (fun i hi => ⟨hM _ _ (by omega) (by omega) (by omega) (by omega) (by omega), hM _ _ (by omega) (by omega) (by omega) (by omega) (by omega)⟩) s3⟩, fun q hq => cT_up hAB hE (n4 q hq), by omega⟩
  · rw [hM _ _ (by omega) (by omega) (by omega) (by omega) (by omega)]
    exact n1 i h1 h2
  · rw [List.flatten_cons, List.nodup_append]
    refine ⟨?_, hnd.2.1, fun z hz w hw e => ?_⟩
    · rw [List.nodup_append]
      refine ⟨hnd.1, by simp, fun z hz w hw e => ?_⟩
      have : w = c := by simpa using hw
      have := hcell z hz
      omega
    · rcases List.mem_append.mp hz with hz | hz
      · exact hnd.2.2 z hz w hw e
      · have : z = c := by simpa using hz
        have := (n2.2 w (by rw [List.flatten_cons]; exact List.mem_append_right _ hw)).2
        omega
  · rw [List.flatten_cons] at hz
    rcases List.mem_append.mp hz with hz | hz
    · rcases List.mem_append.mp hz with hz | hz
      · have := n2.2 z (by rw [List.flatten_cons]; exact List.mem_append_left _ hz)
        omega
      · have : z = c := by simpa using hz
        omega
    · have := n2.2 z (by rw [List.flatten_cons]; exact List.mem_append_right _ hz)
      omega
  · refine cI_snoc hAB hE l cs (fun z hz => ?_) e2 e1 M5o M6o ?_ M7o
    · have h1 := nodup_dl hnd.1 e1 z hz
      have h2 := hcell z (mem_dl _ _ hz)
      exact ⟨hM _ _ (by omega) (by omega) (by omega) (by omega) (by omega), hM _ _ (by omega) (by omega) (by omega) (by omega) (by omega), hM _ _ (by omega) (by omega) (by omega) (by omega) (by omega), hM _ _ (by omega) (by omega) (by omega) (by omega) (by omega)⟩
    · rw [hM _ _ (by omega) (by omega) (by omega) (by omega) (by omega), e5]
      exact cT_up hAB hE ht
  · rw [M6c]
    decide
  · rw [hM _ _ (by omega) (by omega) (by omega) (by omega) (by omega)]
    exact e7
  · obtain ⟨z, r, rfl⟩ := List.exists_cons_of_ne_nil (show cs ≠ [] from fun q => by rw [q] at s2; cases s2)
    exact s2
  · have h1 : z ≠ o' := fun q => hnd.2.2 o' hom z hz q.symm
    have h2 := (n2.2 z (by rw [List.flatten_cons]; exact List.mem_append_right _ hz)).2
    exact ⟨hM _ _ (by omega) (by omega) (by omega) (by omega) (by omega), hM _ _ (by omega) (by omega) (by omega) (by omega) (by omega), fun j _ _ => hM _ _ (by omega) (by omega) (by omega) (by omega) (by omega)⟩
/-- items: the bar -/
theorem cN_bar (h : cN m y0 ((1, 2, l) :: stk) (cs :: css) (some n) c K) (ht : cT m (cA c (cs :: css).flatten) t n) : cN (hy_u m 13 (stk.length : Int) 2) y0 ((2, 2, l ++ [t]) :: stk) (cs :: css) none c K := by
  obtain ⟨o, e1, e2, e3, e4, e5, e6, e7, e8, e9⟩ := cN_item h
  obtain ⟨n1, n2, n3, n4, n5⟩ := h
  obtain ⟨-, h0, s2, s3⟩ := n3
  have hf : ∀ (b : Nat) (e : Int), ¬ (b = 13 ∧ e = stk.length) → hy_u m 13 (stk.length : Int) 2 b e = m b e := fun b e q => if_neg q
  have hE : ∀ A : Int → Prop, cE m (hy_u m 13 (stk.length : Int) 2) A := fun A z _ => ⟨hf _ _ (by omega), hf _ _ (by omega), fun j _ _ => hf _ _ (by omega)⟩
  refine ⟨fun i h1 h2 => by rw [hf _ _ (by omega)]; exact n1 i h1 h2, n2, ⟨Or.inr (Or.inr ⟨rfl, rfl, l, t, rfl, cI_eq (fun n hn => hn) (hE _) _ _ (fun z hz => ⟨hf _ _ (by omega), hf _ _ (by omega), hf _ _ (by omega), hf _ _ (by omega)⟩) e2, o, e1, by rw [hf _ _ (by omega)]; exact e3, by rw [hf _ _ (by omega)]; exact e4, ?_, (fun z hz => by cases hz), by rw [hf _ _ (by omega)]; exact e6, hy_us _ _ _ _⟩), h0, s2, sC_eq (fun n hn => hn) (hE _) stk css _ (hE _) (fun i hi => ⟨hf _ _ (by omega), hf _ _ (by omega)⟩) s3⟩, fun q hq => cT_up (fun n hn => hn) (hE _) (n4 q hq), n5⟩
  rw [hf _ _ (by omega), e5]
  exact cT_up (fun n hn => hn) (hE _) ht
/-- a list is closed: its last cell has both parts -/
theorem cN_closeI {h0 : Int} {l' : List pE} {a0 : pE} (h : cN m y0 (f :: stk) (cs :: css) x c K) (hI : cI m (cA c (cs :: css).flatten) l' cs) (hl : cs.getLast? = some o) (h5 : m 5 o = 4) (h6 : m 6 o = kC 2 2) (ha : cT m (cA c (cs :: css).flatten) a0 (m 7 (3 * o))) (ht : cT m (cA c (cs :: css).flatten) t (m 7 (3 * o + 1))) (hh : cs.head? = some h0) : cN m y0 stk css (some h0) c K ∧ cT m (cA c css.flatten) (eI t (l' ++ [a0])) h0 := by
  obtain ⟨n1, n2, n3, n4, n5⟩ := h
  obtain ⟨-, h0', s2, s3⟩ := n3
  have e0 : h0' = h0 := by rw [hh] at s2; simpa using s2.symm
  subst e0
  have hnd := n2.1
  rw [List.flatten_cons, List.nodup_append] at hnd
  refine ⟨⟨n1, ⟨hnd.2.1, fun z hz => n2.2 z (by rw [List.flatten_cons]; exact List.mem_append_right _ hz)⟩, sC_eq (fun z hz => cA_pop hz) (cE_refl _ _) stk css _ (cE_refl _ _) (fun i _ => ⟨rfl, rfl⟩) s3, fun q hq => cP_mono (fun z hz => cA_pop hz) _ _ _ (n4 q hq), n5⟩, ?_⟩
  refine cI_close (fun z hz => cA_pop hz) l' cs h0' hI (fun z hz => ?_) hl h5 (by rw [h6]; decide) (cP_mono (fun z hz => cA_pop hz) _ _ _ ha) (cP_mono (fun z hz => cA_pop hz) _ _ _ ht) hh
  have hb := n2.2 z (by rw [List.flatten_cons]; exact List.mem_append_left _ hz)
  exact ⟨Or.inr ⟨hb.1, hb.2, fun q => hnd.2.2 z hz z q rfl⟩, hb.1⟩
end CB
