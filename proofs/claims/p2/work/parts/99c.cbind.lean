/-! BINDINGS OF THE CLASS -/
/-- the trail: different variables, all of them bound -/
def cTr (X : cX) (U : uX) (m : hy_m) (l : List Nat) : Prop := m 41 6 = l.length ∧ (∀ i (hi : i < l.length), m (yt U) (i : Int) = ((l[i] : Nat) : Int)) ∧ l.Nodup ∧ ∀ e ∈ l, e < 8 * xcap X ∧ m (xb4 X) (e : Int) ≠ -1
def cBi (X : cX) (U : uX) (m : hy_m) (i n : Nat) (y : Int) : hy_m := if (i : Int) < m 41 7 then hy_u (hy_u (hy_u m (xb4 X) (8 * (i : Int) + (n : Int)) y) (yt U) (m 41 6) (8 * (i : Int) + (n : Int))) 41 6 (m 41 6 + 1) else hy_u m (xb4 X) (8 * (i : Int) + (n : Int)) y
theorem nd_lt {l : List Nat} {k : Nat} (h : l.Nodup) (hk : ∀ e ∈ l, e < k) : l.length ≤ k := by
  have := h.length_le_of_subset (l₂ := List.range k) (fun e he => List.mem_range.mpr (hk e he))
  rw [List.length_range] at this
  exact this
theorem nd_snoc {α : Type} {l : List α} {e : α} (h : l.Nodup) (he : e ∉ l) : (l ++ [e]).Nodup := by
  refine List.nodup_append.mpr ⟨h, List.nodup_cons.mpr ⟨List.not_mem_nil, List.nodup_nil⟩, fun a ha b hb => ?_⟩
  rw [List.mem_singleton.mp hb]
  exact fun q => he (q ▸ ha)
section CBI
variable {X : cX} {U : uX} {T : hy_T} {m m' : hy_m} {Q : Int → hy_m → Prop} {x y : Int} {t : pE} {B : bM} {i n : Nat} {l : List Nat}
theorem uSep.b41 (h : uSep X U) : xb4 X ≠ 41 := fun q => h.1.1 (by unfold uRw; rw [q]; simp)
theorem uSep.t41 (h : uSep X U) : yt U ≠ 41 := fun q => h.1.1 (by unfold uRw; rw [q]; simp)
theorem uSep.bt (h : uSep X U) : xb4 X ≠ yt U := by
  have := h.2.2.2
  simp only [List.nodup_cons, List.mem_cons, not_or] at this
  exact fun q => this.2.2.2.2.2.1.1 q.symm
theorem sp_125v (h : cW X T m) (hi : xL X i) (hn : n < xV X i) (hq : Q (8 * (i : Int) + (n : Int)) m) : wq_125 (128 * (i : Int) + (n : Int)) T m Q := by
  have hcap := h.2.2.1
  obtain ⟨g1, g2, g3, g4, g5⟩ := h.2.2.2.2.2 i hi
  obtain ⟨e1, e2, -⟩ := r128 (i := i) (n := n) (by omega) (by omega)
  have T4 := h.2.2.2.2.1
  unfold wq_125
  rw [e1, e2, h.2.2.2.1, Int.toNat_natCast, show (i : Int) * 8 + (n : Int) = 8 * (i : Int) + (n : Int) by omega]
  exact ⟨fun q => by omega, fun _ => ⟨fun q => by omega, fun _ => ⟨100, _, T4, by omega, show -2147483648 ≤ _ ∧ _ < 2147483648 by omega, fun _ => ⟨show -2147483648 ≤ _ ∧ _ < 2147483648 by omega, hq⟩, fun q => by omega⟩⟩⟩
theorem sp_125n (h : cW X T m) (hx : cTm X m x t) (hn : ∀ w : Nat, t ≠ .var w) (hq : Q (-9) m) : wq_125 x T m Q := by
  have hcap := h.2.2.1
  unfold wq_125
  rcases cTm_n hx hn with hneg | ⟨i, n, hi, rfl, h8, h128⟩
  · exact ⟨fun _ => hq, fun q => by omega⟩
  · obtain ⟨g1, -⟩ := h.2.2.2.2.2 i hi
    obtain ⟨e1, e2, -⟩ := r128 (i := i) (n := n) (by omega) h128
    rw [e1]
    exact ⟨fun q => by omega, fun _ => ⟨fun _ => hq, fun q => by omega⟩⟩
/-- bind -/
theorem sp_122 (h : cW X T m) (hU : uW X U T m) (hs : uSep X U) (ht : cTr X U m l) (hi : xL X i) (hn : n < xV X i) (hf : m (xb4 X) (8 * (i : Int) + (n : Int)) = -1) (hq : Q 0 (cBi X U m i n y)) : wq_122 (128 * (i : Int) + (n : Int)) y T m Q := by
  have hcap := h.2.2.1
  obtain ⟨g1, g2, g3, g4, g5⟩ := h.2.2.2.2.2 i hi
  obtain ⟨e1, e2, -⟩ := r128 (i := i) (n := n) (by omega) (by omega)
  have T4 := h.2.2.2.2.1
  have hlen : l.length < 8 * xcap X := by
    have hnm : 8 * i + n ∉ l := fun q => (ht.2.2.2 _ q).2 (by rw [show ((8 * i + n : Nat) : Int) = 8 * (i : Int) + (n : Int) by omega]; exact hf)
    have := nd_lt (k := 8 * xcap X) (nd_snoc ht.2.2.1 hnm) (fun e he => by
      rcases List.mem_append.mp he with he | he
      · exact (ht.2.2.2 e he).1
      · rw [List.mem_singleton.mp he]
        omega)
    rw [List.length_append, List.length_singleton] at this
    omega
  unfold wq_122
  refine sp_125v h hi hn ⟨fun _ => ?_, fun q => by omega⟩
  rw [e2, h.2.2.2.1, Int.toNat_natCast]
  have c1 : (hy_u m (xb4 X) (8 * (i : Int) + (n : Int)) y) 41 7 = m 41 7 := hy_ua (fun q => hs.b41 q.symm)
  have c2 : (hy_u m (xb4 X) (8 * (i : Int) + (n : Int)) y) 41 5 = yt U := by rw [hy_ua (fun q => hs.b41 q.symm)]; exact hU.2.2.2.2.2.1
  have c3 : (hy_u m (xb4 X) (8 * (i : Int) + (n : Int)) y) 41 6 = m 41 6 := hy_ua (fun q => hs.b41 q.symm)
  rw [c1, c2, c3, Int.toNat_natCast]
  have c4 : hy_u (hy_u m (xb4 X) (8 * (i : Int) + (n : Int)) y) (yt U) (m 41 6) (8 * (i : Int) + (n : Int)) 41 6 = m 41 6 := by rw [hy_ua (fun q => hs.t41 q.symm)]; exact c3
  rw [c4]
  have T5 := hU.2.2.2.2.2.2
  have h6 := ht.1
  unfold cBi at hq
  refine ⟨_, T4, by omega, by omega, fun q => ?_, fun q => ⟨100, _, T5, by omega, fun q => by omega, fun _ => ⟨_, T5, by omega, by omega, show -2147483648 ≤ _ ∧ _ < 2147483648 by omega, ?_⟩⟩⟩
  · rw [if_neg (by omega)] at hq
    exact hq
  · rw [if_pos q] at hq
    exact hq
theorem cBi_fx : uFx X U m (cBi X U m i n y) := by
  have hb : uRw X U (xb4 X) := by unfold uRw; simp
  have ht : uRw X U (yt U) := by unfold uRw; simp
  unfold cBi
  split
  · exact ((uFx.row hb).tr (uFx.row ht)).tr uFx.f41
  · exact uFx.row hb
theorem cBi_o {a : Nat} (h1 : a ≠ xb4 X) (h2 : a ≠ yt U) (h3 : a ≠ 41) : cBi X U m i n y a = m a := by
  funext e
  unfold cBi
  split
  · rw [hy_ua h3, hy_ua h2, hy_ua h1]
  · rw [hy_ua h1]
theorem cBi_b (hs : uSep X U) (e : Int) : cBi X U m i n y (xb4 X) e = if e = 8 * (i : Int) + (n : Int) then y else m (xb4 X) e := by
  unfold cBi
  have : ∀ e, hy_u m (xb4 X) (8 * (i : Int) + (n : Int)) y (xb4 X) e = if e = 8 * (i : Int) + (n : Int) then y else m (xb4 X) e := by
    intro e
    by_cases q : e = 8 * (i : Int) + (n : Int)
    · rw [if_pos q, q, hy_us]
    · rw [if_neg q, hy_uk q]
  split
  · rw [hy_ua hs.b41, hy_ua hs.bt]
    exact this e
  · exact this e
theorem cBi_7 (hs : uSep X U) : cBi X U m i n y 41 7 = m 41 7 := cBi_fx (U := U) 41 7 hs.1.1 (fun q => absurd q.2 (by decide)) (fun q => absurd q.1 (by decide))
theorem cBi_tr (hs : uSep X U) (ht : cTr X U m l) (hi : i < xcap X) (hn : n < 8) (hf : m (xb4 X) (8 * (i : Int) + (n : Int)) = -1) (hy : y ≠ -1) : cTr X U (cBi X U m i n y) (if (i : Int) < m 41 7 then l ++ [8 * i + n] else l) := by
  have hb : ∀ e : Nat, m (xb4 X) (e : Int) ≠ -1 → cBi X U m i n y (xb4 X) (e : Int) ≠ -1 := by
    intro e he
    rw [cBi_b hs]
    split
    · exact hy
    · exact he
  by_cases c : (i : Int) < m 41 7
  · rw [if_pos c]
    have e : cBi X U m i n y = hy_u (hy_u (hy_u m (xb4 X) (8 * (i : Int) + (n : Int)) y) (yt U) (m 41 6) (8 * (i : Int) + (n : Int))) 41 6 (m 41 6 + 1) := if_pos c
    refine ⟨?_, fun z hz => ?_, ?_, fun z hz => ?_⟩
    · rw [e, hy_us, ht.1, List.length_append, List.length_singleton]
      omega
    · rw [e, hy_ua hs.t41]
      rw [List.length_append, List.length_singleton] at hz
      by_cases q : z = l.length
      · subst q
        rw [ht.1, hy_us, List.getElem_concat_length rfl]
        omega
      · have hz' : z < l.length := by omega
        rw [ht.1, hy_uk (by omega), hy_ua (fun q => hs.bt q.symm), ht.2.1 z hz', List.getElem_append_left hz']
    · refine nd_snoc ht.2.2.1 (fun q => (ht.2.2.2 _ q).2 ?_)
      rw [show ((8 * i + n : Nat) : Int) = 8 * (i : Int) + (n : Int) by omega]
      exact hf
    · rcases List.mem_append.mp hz with hz | hz
      · exact ⟨(ht.2.2.2 z hz).1, hb z (ht.2.2.2 z hz).2⟩
      · rw [List.mem_singleton.mp hz]
        refine ⟨by omega, ?_⟩
        rw [cBi_b hs, if_pos (by omega)]
        exact hy
  · rw [if_neg c]
    have e : cBi X U m i n y = hy_u m (xb4 X) (8 * (i : Int) + (n : Int)) y := if_neg c
    refine ⟨?_, fun z hz => ?_, ht.2.2.1, fun z hz => ⟨(ht.2.2.2 z hz).1, hb z (ht.2.2.2 z hz).2⟩⟩
    · rw [e, hy_ua (fun q => hs.b41 q.symm)]
      exact ht.1
    · rw [e, hy_ua (fun q => hs.bt q.symm)]
      exact ht.2.1 z hz
theorem cTm_ne (h : cTm X m x t) : x ≠ -1 := by
  rcases h with ⟨j, hj, e, -⟩ | ⟨i, n, u, hi, e, -⟩ <;> omega
/-- different places, different variables -/
theorem cOr_uq (hO : cOr X) {i j a b : Nat} (hi : xL X i) (hj : xL X j) (ha : a < xV X i) (hb : b < xV X j) (e : xP X i + a = xP X j + b) : i = j ∧ a = b := by
  by_cases c1 : i < j
  · have := hO i j hi hj c1
    omega
  · by_cases c2 : j < i
    · have := hO j i hj hi c2
      omega
    · have c : i = j := by omega
      subst c
      exact ⟨rfl, by omega⟩
theorem cBi_bd (hs : uSep X U) (hO : cOr X) (h8 : ∀ j, xL X j → xV X j ≤ 8) (hB : cBd X m B) (hi : xL X i) (hn : n < xV X i) (hy : cTm X m y t) (hD : ∀ w, vIn w t → cDm X w) : cBd X (cBi X U m i n y) (bU B (xP X i + n) t) := by
  refine ⟨fun j k hj hk => ?_, fun v hv => ?_⟩
  · have w1 := h8 i hi
    have w2 := h8 j hj
    by_cases c : j = i ∧ k = n
    · obtain ⟨rfl, rfl⟩ := c
      rw [cBi_b hs, if_pos rfl]
      exact Or.inr ⟨t, bU_s, cTm_ne hy, cTm_fx hs cBi_fx hy, hD⟩
    · have ne : xP X j + k ≠ xP X i + n := fun q => c (cOr_uq hO hj hi hk hn q)
      rw [cBi_b hs, if_neg (by omega), bU_o ne]
      rcases hB.1 j k hj hk with q | ⟨u, q1, q2, q3, q4⟩
      · exact Or.inl q
      · exact Or.inr ⟨u, q1, q2, cTm_fx hs cBi_fx q3, q4⟩
  · rw [bU_o (fun q => hv ⟨i, n, hi, hn, q⟩)]
    exact hB.2 v hv
/-- steps stay -/
theorem cBi_st (hs : uSep X U) (hf : m (xb4 X) (8 * (i : Int) + (n : Int)) = -1) {a b : Int} (h : cBs X (m (xb4 X)) a b) : cBs X (cBi X U m i n y (xb4 X)) a b := by
  obtain ⟨j, k, h1, h2, h3, h4, h5⟩ := h
  refine ⟨j, k, h1, h2, h3, ?_, h5⟩
  rw [cBi_b hs]
  split
  · rename_i q
    rw [q, hf] at h4
    exact absurd h4 h5
  · exact h4
end CBI
