/-! THE CLASS'S UNIFICATION -/
/-- what the search for loops leaves alone -/
def lFx (U : uX) (m m' : hy_m) : Prop := (∀ (a : Nat) (e : Int), a ≠ yp U → a ≠ ym U → ¬ (a = 47 ∧ (e = 7 ∨ e = 9 ∨ e = 10)) → m' a e = m a e) ∧ m' 47 10 = m 47 10 + 2 ∧ ∀ z : Int, m' (ym U) z ≤ m' 47 10
/-- refs of variables -/
def cVr (X : cX) (m : hy_m) : Prop := ∀ i n : Nat, xL X i → n < xV X i → cTm X m (128 * (i : Int) + (n : Int)) (.var (xP X i + n))
def cNd (X : cX) (m : hy_m) : Prop := ∀ x t, cTm X m x t → nd t ≤ 360
section CUF
variable {X : cX} {U : uX} {T : hy_T} {m0 m m' : hy_m} {B B0 : bM} {f : Int} {SL : List Int} {Q : Int → hy_m → Prop}
theorem cGW_fx (hs : uSep X U) (h : uFx X U m m') (hg : cGW X m) : cGW X m' := fun ps h1 h2 => hg ps h1 (fun q hq => ⟨cTm_fx hs h.sy (h2 q hq).1, (h2 q hq).2⟩)
theorem cVr_fx (hs : uSep X U) (h : uFx X U m m') (hg : cVr X m) : cVr X m' := fun i n h1 h2 => cTm_fx hs h (hg i n h1 h2)
theorem cNd_fx (hs : uSep X U) (h : uFx X U m m') (hg : cNd X m) : cNd X m' := fun x t h1 => hg x t (cTm_fx hs h.sy h1)
theorem cCn_fx (hs : uSep X U) (h : uFx X U m m') (hg : cCn X m) : cCn X m' := fun L h1 h2 => hg L h1 (fun x hx => by
  obtain ⟨k, a, g1, g2⟩ := h2 x hx
  exact ⟨k, a, cTm_fx hs h.sy g1, g2⟩)
theorem wgR_var {C : Int → pE → Prop} : ∀ S : List Int, (∀ e ∈ S, ∃ w : Nat, C e (.var w)) → wgR C S S.length
  | [], _ => rfl
  | e :: S, h => by
    obtain ⟨w, hw⟩ := h e (List.mem_cons_self ..)
    exact ⟨_, S.length, hw, wgR_var S (fun e' he' => h e' (List.mem_cons_of_mem _ he')), by rw [List.length_cons]; exact Nat.add_comm _ _⟩
theorem SL_le (hw : cW X T m0) (hq : uQ X U f B0 m B SL) : SL.length ≤ 8 * xcap X := by
  have h1 : (SL.map (fun x : Int => (8 * (x / 128) + x % 128).toNat)).Nodup := by
    have hn := hq.2.2.1
    have hm := hq.2.2.2.1
    clear hq
    induction SL with
    | nil => exact List.nodup_nil
    | cons e SL ih =>
      rw [List.map_cons, List.nodup_cons]
      rw [List.nodup_cons] at hn
      refine ⟨fun q => ?_, ih hn.2 (fun x hx => hm x (List.mem_cons_of_mem _ hx))⟩
      obtain ⟨e', g1, g2⟩ := List.mem_map.mp q
      obtain ⟨i, n, a1, a2, a3, -⟩ := hm e (List.mem_cons_self ..)
      obtain ⟨i', n', b1, b2, b3, -⟩ := hm e' (List.mem_cons_of_mem _ g1)
      have := (hw.2.2.2.2.2 i a1).2.2.2.1
      have := (hw.2.2.2.2.2 i' b1).2.2.2.1
      have : e = e' := by omega
      exact hn.1 (this ▸ g1)
  have h2 : ∀ e ∈ SL.map (fun x : Int => (8 * (x / 128) + x % 128).toNat), e < 8 * xcap X := by
    intro e he
    obtain ⟨x, g1, g2⟩ := List.mem_map.mp he
    obtain ⟨i, n, a1, a2, a3, -⟩ := hq.2.2.2.1 x g1
    have := (hw.2.2.2.2.2 i a1).2.2.2.1
    have := (hw.2.2.2.2.2 i a1).1
    omega
  have := nd_lt h1 h2
  rw [List.length_map] at this
  exact this
/-- hasLoop -/
theorem sp_151 (hs : uSep X U) (hw : cW X T m) (hU : uW X U T m) (hO : cOr X) (hG : cGW X m) (h4 : 4 ≤ xcap X) (hN : cNd X m) (hV : cVr X m) (hB : cBd X m B) (ho : ∀ w y : Nat, B w = some (.var y) → y < w) (hq : uQ X U f B0 m B SL) (hm : ∀ z : Int, m (ym U) z ≤ m 47 10) (hm0 : 0 ≤ m 47 10) (hm1 : m 47 10 < 2147483000) (hQ0 : ∀ m', lFx U m m' → (∀ i n : Nat, xL X i → n < xV X i → 128 * (i : Int) + (n : Int) ∈ SL → Acc (bEd B) (xP X i + n)) → Q 0 m') (hQ1 : ∀ m', lFx U m m' → (∀ v, ¬ Sol B v) → Q 1 m') : wq_151 T m Q := by
  have hn47 := hs.n47
  have hne := hs.ne
  have hl := SL_le hw hq
  have hcap := hw.2.2.1
  unfold wq_151
  refine ⟨show -2147483648 ≤ _ ∧ _ < 2147483648 by omega, show -2147483648 ≤ _ ∧ _ < 2147483648 by omega, ?_⟩
  generalize hmm : hy_u (hy_u (hy_u m 47 9 (m 47 10 + 1)) 47 10 (m 47 10 + 1 + 1)) 47 7 0 = mm
  have fx : uFx X U m mm := by
    rw [← hmm]
    exact ((uFx.f47 (by simp)).tr (uFx.f47 (by simp))).tr (uFx.f47 (by simp))
  have o47 : ∀ a, a ≠ 47 → mm a = m a := fun a ha => by
    rw [← hmm]
    funext e
    rw [hy_ua ha, hy_ua ha, hy_ua ha]
  have f47 : ∀ e : Int, ¬ (e = 7 ∨ e = 9 ∨ e = 10) → mm 47 e = m 47 e := fun e he => by
    rw [← hmm, hy_uk (fun q => he (Or.inl q)), hy_uk (fun q => he (Or.inr (Or.inr q))), hy_uk (fun q => he (Or.inr (Or.inl q)))]
  have e9 : mm 47 9 = m 47 10 + 1 := by
    rw [← hmm, hy_uk (by decide), hy_uk (by decide), hy_us]
  have e10 : mm 47 10 = m 47 10 + 1 + 1 := by
    rw [← hmm, hy_uk (by decide), hy_us]
  have e7 : mm 47 7 = 0 := by
    rw [← hmm, hy_us]
  clear hmm
  have hw' := cW_fx hs fx hw
  have hU' := uW_fx hs fx hU
  have hq' := uQ_k (m' := mm) (f47 5 (by decide)) (o47 _ hn47.2.2.1) (o47 _ hn47.2.2.2.2.2.2) hq
  have hV' := cVr_fx hs fx hV
  have hmy : mm (ym U) = m (ym U) := o47 _ hn47.2.2.2.2.1
  have hp : lPr X U T mm B (m 47 10 + 1) (m 47 10 + 1 + 1) := ⟨hs, hw', hU', hO, cGW_fx hs fx hG, h4, cNd_fx hs fx hN, cBd_fx hs fx (o47 _ hn47.2.2.2.2.2.2) hB, ho, e9, e10, by omega⟩
  refine sp_151_27 hs hcap hU' hq'.1 hq'.2.1 hl ⟨e7, fun k e h => absurd h (by simp)⟩ (fun m1 g1 g2 => ?_)
  have hmy1 : m1 (ym U) = m (ym U) := by
    funext z
    rw [g1 _ _ (fun q => hne.2.2.2.1.2.2.2.1 q.symm) (fun q => hn47.2.2.2.2.1 q.1), hmy]
  have up : ∀ m', lFr U mm (m 47 10 + 1 + 1) m' → lFx U m m' := by
    intro m' h
    have e10' : m' 47 10 = m 47 10 + 1 + 1 := by rw [lFr_47 hs h (by decide), e10]
    refine ⟨fun a e q1 q2 q3 => ?_, by omega, fun z => by have := h.2 z; omega⟩
    rw [h.1 a e q1 q2 (fun q => q3 ⟨q.1, Or.inl q.2⟩)]
    by_cases c : a = 47
    · subst c
      exact f47 e (fun q => q3 ⟨rfl, q⟩)
    · rw [o47 a c]
  have hsl : ∀ e ∈ SL.reverse, ∃ i n : Nat, xL X i ∧ n < xV X i ∧ e = 128 * (i : Int) + (n : Int) := fun e he => by
    obtain ⟨i, n, a1, a2, a3, -⟩ := hq.2.2.2.1 e (List.mem_reverse.mp he)
    exact ⟨i, n, a1, a2, a3⟩
  have hse : ∀ e ∈ SL.reverse, 0 ≤ e ∧ ∃ w : Nat, eTm X mm e (.var w) := fun e he => by
    obtain ⟨i, n, a1, a2, rfl⟩ := hsl e he
    exact ⟨by omega, xP X i + n, Or.inl ⟨by omega, hV' i n a1 a2, fun a (q : xP X i + n = a) => ⟨i, n, a1, a2, q.symm⟩⟩⟩
  have hll : SL.reverse.length = SL.length := List.length_reverse
  refine sp_151_53 (sus := fun w => ∃ i n : Nat, xL X i ∧ n < xV X i ∧ w = xP X i + n ∧ 128 * (i : Int) + (n : Int) ∈ SL) hp ⟨SL.reverse, SL.reverse.length, fun a e q1 q2 q3 => g1 a e q1 q3, g2, by omega, fun e he => ⟨_, (hse e he).2.choose_spec⟩, ⟨fun w ⟨z, h1, h2⟩ => ?_, fun ab s be h => ?_, fun w ⟨i, n, a1, a2, a3, a4⟩ => Or.inr ?_, fun v _ ab s be h => ?_⟩, fun z w _ h => ?_, fun v _ => ⟨[], SL.reverse, ?_, trivial, by omega⟩, wgR_var _ (fun e he => (hse e he).2), Int.le_refl 0, ?_⟩ (fun z => ?_) (fun m' h1 h2 => hQ0 m' (up m' h1) (fun i n a1 a2 a3 => h2 _ ⟨i, n, a1, a2, rfl, a3⟩)) (fun m' h1 h2 => hQ1 m' (up m' h1) h2)
  · rw [hmy1] at h2
    have := hm z
    omega
  · have := (hse (mkf X s) (by rw [h]; simp)).1
    have := mkf_neg (X := X) s
    omega
  · exact ⟨_, List.mem_reverse.mpr a4, .var w, Or.inl ⟨by omega, a3 ▸ hV' i n a1 a2, fun a (q : w = a) => ⟨i, n, a1, a2, q.symm.trans a3⟩⟩, rfl⟩
  · have := (hse (mkf X s) (by rw [h]; simp)).1
    have := mkf_neg (X := X) s
    omega
  · rw [hmy1] at h
    have := hm z
    omega
  · show List.filter _ _ = SL.reverse
    exact List.filter_eq_self.mpr (fun e he => by simpa using (hse e he).1)
  · have := slS_le (g := fun z => if m1 (ym U) (z : Int) = m 47 10 + 1 ∨ m1 (ym U) (z : Int) = m 47 10 + 1 + 1 then 0 else 363) (K := 363) (8 * xcap X) (fun e => by
      show (if _ then 0 else 363) ≤ 363
      split
      · exact Nat.zero_le _
      · exact Nat.le_refl _)
    omega
  · rw [hmy1]
    have := hm z
    omega
end CUF
