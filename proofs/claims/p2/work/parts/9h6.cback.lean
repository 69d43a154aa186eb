/-! THE CLASS'S SEARCH: choices are cut, bindings are undone -/
/-- cells that change while a query is searched -/
def kEx (Z : cZ) (a : Nat) (e : Int) : Prop := a = 36 ∨ a = 39 ∨ a = 40 ∨ (a = 41 ∧ (e = 3 ∨ e = 6 ∨ e = 7)) ∨ a ∈ zF Z ∨ a ∈ zC Z ∨ a = z4 Z ∨ a = yt (zU Z) ∨ a = 46
section CB
variable {E : qE} {l l' TI TI' TL : List Nat} {F : Nat → Prop} {T T' : hy_T} {m m' : hy_m} {Z Z' : cZ} {N N' : Nat} {A : qA} {B B' : bM} {s s' : Nat → pE} {P P' : Nat} {Q : Int → hy_m → Prop}
theorem zF_tag (h : cOb F T m Z) {a : Nat} (ha : a ∈ zF Z) : T.1 a = some (4, 5) ∧ 74 ≤ a ∧ ¬ F a := by
  obtain ⟨j, hj⟩ := List.getElem?_of_mem ha
  exact (h.1.2.1 j a hj).2
theorem zC_tag (h : cOb F T m Z) {a : Nat} (ha : a ∈ zC Z) : T.1 a = some (2, 6) ∧ 74 ≤ a ∧ ¬ F a := by
  obtain ⟨j, hj⟩ := List.getElem?_of_mem ha
  exact (h.2.2.1 j a hj).2
/-- what isn't one of them -/
theorem kEx_no (hR : cRo F T m Z) (hO : cOb F T m Z) {a : Nat} {e : Int} (h : (a < 74 ∧ a ≠ 36 ∧ a ≠ 39 ∧ a ≠ 40 ∧ a ≠ 46 ∧ ¬ (a = 41 ∧ (e = 3 ∨ e = 6 ∨ e = 7)) ∧ a < 42) ∨ F a ∨ a = 47 ∨ a = 53 ∨ a = z1 Z ∨ a = z2 Z ∨ a = yj (zU Z) ∨ a = yq (zU Z) ∨ a = ys (zU Z) ∨ a = yp (zU Z) ∨ a = ym (zU Z) ∨ a = (zV Z).1 ∨ a = (zV Z).2) : ¬ kEx Z a e := by
  have hR' := hR
  obtain ⟨⟨hn, hb⟩, hf, h3, h4, h5, h6, ⟨h71, h72, h73, h74, h75, h76⟩, ⟨h81, h82, h83, h84, h85⟩, -⟩ := hR
  have hb' : ∀ b, b = z1 Z ∨ b = z2 Z ∨ b = z4 Z ∨ b = yj (zU Z) ∨ b = yq (zU Z) ∨ b = ys (zU Z) ∨ b = yp (zU Z) ∨ b = ym (zU Z) ∨ b = yt (zU Z) ∨ b = (zV Z).1 ∨ b = (zV Z).2 → 42 ≤ b ∧ b ≠ 46 ∧ b ≠ 47 ∧ b ≠ 53 ∧ ¬ (69 ≤ b ∧ b ≤ 73) ∧ ¬ F b := fun b q => hb b (by
    unfold rwL
    simp only [List.mem_cons, List.not_mem_nil, or_false]
    exact q)
  unfold rwL at hn
  simp only [List.nodup_cons, List.mem_cons, List.not_mem_nil, or_false, not_or, List.nodup_nil, and_true, not_false_eq_true] at hn
  obtain ⟨⟨n1, n2, n3, n4, n5, n6, n7, n8, n9, n10⟩, ⟨p1, p2, p3, p4, p5, p6, p7, p8, p9⟩, ⟨r1, r2, r3, r4, r5, r6, r7, r8⟩, ⟨s1, s2, s3, s4, s5, s6, s7⟩, ⟨t1, t2, t3, t4, t5, t6⟩, ⟨u1, u2, u3, u4, u5⟩, ⟨v1, v2, v3, v4⟩, ⟨w1, w2, w3⟩, ⟨x1, x2⟩, y1⟩ := hn
  have b4 := hb' (z4 Z) (by simp only [true_or, or_true])
  have bt := hb' (yt (zU Z)) (by simp only [true_or, or_true])
  -- a row with a tag of its own
  have row : ∀ (b : Nat) (tg n : Nat), T.1 b = some (tg, n) → 100 ≤ tg → 42 ≤ b → b ≠ 46 → b ≠ z4 Z → b ≠ yt (zU Z) → ¬ kEx Z b e := by
    rintro b tg n q1 q2 q3 q4 q5 q6 (q | q | q | q | q | q | q | q | q)
    · omega
    · omega
    · omega
    · omega
    · have := (zF_tag hO q).1
      rw [q1] at this
      injection this with this
      injection this with this
      omega
    · have := (zC_tag hO q).1
      rw [q1] at this
      injection this with this
      injection this with this
      omega
    · exact q5 q
    · exact q6 q
    · exact q4 q
  rcases h with h | h | h | h | h | h | h | h | h | h | h | h | h
  · rintro (q | q | q | q | q | q | q | q | q)
    · exact h.2.1 q
    · exact h.2.2.1 q
    · exact h.2.2.2.1 q
    · exact h.2.2.2.2.2.1 q
    · have := (zF_tag hO q).2.1
      omega
    · have := (zC_tag hO q).2.1
      omega
    · have := b4.1
      omega
    · have := bt.1
      omega
    · exact h.2.2.2.2.1 q
  · have hf' := hf a h
    rintro (q | q | q | q | q | q | q | q | q)
    · omega
    · omega
    · omega
    · omega
    · exact (zF_tag hO q).2.2 h
    · exact (zC_tag hO q).2.2 h
    · exact b4.2.2.2.2.2 (q ▸ h)
    · exact bt.2.2.2.2.2 (q ▸ h)
    · omega
  · subst h
    rintro (q | q | q | q | q | q | q | q | q)
    · omega
    · omega
    · omega
    · omega
    · have := (zF_tag hO q).2.1
      omega
    · have := (zC_tag hO q).2.1
      omega
    · exact b4.2.2.1 q.symm
    · exact bt.2.2.1 q.symm
    · omega
  · subst h
    rintro (q | q | q | q | q | q | q | q | q)
    · omega
    · omega
    · omega
    · omega
    · have := (zF_tag hO q).2.1
      omega
    · have := (zC_tag hO q).2.1
      omega
    · exact b4.2.2.2.1 q.symm
    · exact bt.2.2.2.1 q.symm
    · omega
  · have b := hb' a (by simp only [h, true_or, or_true])
    exact row a 113 _ (h ▸ h4.2) (by decide) b.1 b.2.1 (h ▸ n2) (h ▸ n8)
  · have b := hb' a (by simp only [h, true_or, or_true])
    exact row a 100 _ (h ▸ h5.2) (by decide) b.1 b.2.1 (h ▸ p1) (h ▸ p7)
  · have b := hb' a (by simp only [h, true_or, or_true])
    exact row a 100 _ (h ▸ h71.2) (by decide) b.1 b.2.1 (h ▸ Ne.symm r1) (h ▸ s5)
  · have b := hb' a (by simp only [h, true_or, or_true])
    exact row a 100 _ (h ▸ h72.2) (by decide) b.1 b.2.1 (h ▸ Ne.symm r2) (h ▸ t4)
  · have b := hb' a (by simp only [h, true_or, or_true])
    exact row a 100 _ (h ▸ h73.2) (by decide) b.1 b.2.1 (h ▸ Ne.symm r3) (h ▸ u3)
  · have b := hb' a (by simp only [h, true_or, or_true])
    exact row a 100 _ (h ▸ h74.2) (by decide) b.1 b.2.1 (h ▸ Ne.symm r4) (h ▸ v2)
  · have b := hb' a (by simp only [h, true_or, or_true])
    exact row a 100 _ (h ▸ h75.2) (by decide) b.1 b.2.1 (h ▸ Ne.symm r5) (h ▸ w1)
  · have b := hb' a (by simp only [h, true_or, or_true])
    exact row a 100 _ (h ▸ h83.2) (by decide) b.1 b.2.1 (h ▸ Ne.symm r7) (h ▸ Ne.symm x1)
  · have b := hb' a (by simp only [h, true_or, or_true])
    exact row a 100 _ (h ▸ h85) (by decide) b.1 b.2.1 (h ▸ Ne.symm r8) (h ▸ Ne.symm x2)
theorem cPr_s (hP : cPr E F T m Z l) (hf : ∀ (a : Nat) (e : Int), ¬ kEx Z a e → m' a e = m a e) : cPr E F T m' Z l := by
  obtain ⟨hR, p2, p3, p4, p5, p6⟩ := hP
  have no : ∀ {a : Nat} {e : Int}, ((a < 74 ∧ a ≠ 36 ∧ a ≠ 39 ∧ a ≠ 40 ∧ a ≠ 46 ∧ ¬ (a = 41 ∧ (e = 3 ∨ e = 6 ∨ e = 7)) ∧ a < 42) ∨ F a ∨ a = 47 ∨ a = 53 ∨ a = z1 Z ∨ a = z2 Z ∨ a = yj (zU Z) ∨ a = yq (zU Z) ∨ a = ys (zU Z) ∨ a = yp (zU Z) ∨ a = ym (zU Z) ∨ a = (zV Z).1 ∨ a = (zV Z).2) → m' a e = m a e := fun h => hf _ _ (kEx_no hR p5 h)
  have hFc : ∀ b z, F b → m' b z = m b z := fun b z hb => no (Or.inr (Or.inl hb))
  have n41 : ∀ e : Int, ¬ (e = 3 ∨ e = 6 ∨ e = 7) → m' 41 e = m 41 e := fun e he => no (Or.inl ⟨by decide, by decide, by decide, by decide, by decide, fun q => he q.2, by decide⟩)
  have n47 : ∀ e : Int, m' 47 e = m 47 e := fun e => no (by simp)
  have n53 : ∀ e : Int, m' 53 e = m 53 e := fun e => no (by simp)
  have n37 : ∀ e, m' 37 e = m 37 e := fun e => no (Or.inl ⟨by decide, by decide, by decide, by decide, by decide, fun q => absurd q.1 (by decide), by decide⟩)
  have n38 : ∀ e, m' 38 e = m 38 e := fun e => no (Or.inl ⟨by decide, by decide, by decide, by decide, by decide, fun q => absurd q.1 (by decide), by decide⟩)
  refine ⟨?_, cPo_fr p2 (fun _ q => q) (fun _ _ q => q) (fun b e q => ?_), p3, wIs_fr p4 (fun _ _ q => q) hFc (fun z _ _ _ => no (by simp)) (fun z _ _ _ => no (by simp)), ?_, cGd_fr p6 (fun _ _ q => q) (fun e => no (by simp)) (n41 _ (by decide))⟩
  · obtain ⟨r1, r2, r3, r4, r5, r6, r7, r8, r9, r10, r11⟩ := hR
    refine ⟨r1, r2, r3, ⟨by rw [n41 _ (by decide)]; exact r4.1, r4.2⟩, ⟨by rw [n41 _ (by decide)]; exact r5.1, r5.2⟩, ⟨by rw [n41 _ (by decide)]; exact r6.1, r6.2⟩, ?_, ?_, ⟨fun z q1 q2 => ?_, fun z => ?_, ?_⟩, fun z => ?_, ?_⟩
    · rw [n47, n47, n47, n47, n47, n41 _ (by decide)]; exact r7
    · rw [n53, n53, n53, n53]; exact r8
    · rw [no (by simp)]; exact r9.1 z q1 q2
    · rw [no (by simp), n47]; exact r9.2.1 z
    · rw [n47]; exact r9.2.2
    · rw [no (by simp), n53]; exact r10 z
    · rw [n53]; exact r11
  · rcases q with q | q | q
    · exact hFc b e q
    · exact no (Or.inl (by omega))
    · exact no (Or.inl (by omega))
  · obtain ⟨⟨o1, o2, o3, o4⟩, o5, o6, o7, o8⟩ := p5
    exact ⟨⟨o1, fun j c q => by rw [n37]; exact o2 j c q, fun j q => by rw [n37]; exact o3 j q, o4⟩, o5, fun j c q => by rw [n38]; exact o6 j c q, fun j q => by rw [n38]; exact o7 j q, o8⟩
/-- terms stay -/
theorem tE_s (hP : cPr E F T m Z l) (hP' : cPr E F T' m' Z' l') {k k' : Nat} (hk : k ≤ l.length) (hk' : k' ≤ l'.length) (hw : ∀ e ∈ (zW Z).take (k + 1), e ∈ (zW Z').take (k' + 1)) (hF : ∀ b z, F b → m' b z = m b z) (h46 : ∀ j : Nat, j < N → m' 46 (j : Int) = m 46 (j : Int)) (hN : N ≤ N') : tE (zX Z k N) m (zX Z' k' N') m' := fun x t h => wTm_mo (zX_all hP k N hk) (zX_all hP' k' N' hk') hw hN hF h46 h
/-- choiceAt -/
theorem sp_110 {k : Nat} {x : Int} (hO : cOb F T m Z) (h8 : m 36 8 = k) (hk : k ≤ (zC Z).length) (h0 : (x < 0 ∨ (k : Int) ≤ x) → Q 0 m) (h1 : ∀ (j cc : Nat), 0 ≤ x → (j : Int) + 1 + x = k → (zC Z)[j]? = some cc → Q (cc : Int) m) (hx : x < 2000000000) : wq_110 x m Q := by
  have h301 := hO.2.1
  unfold wq_110
  rw [h8]
  refine ⟨fun q => h0 (Or.inl q), fun q => ⟨show -2147483648 ≤ _ ∧ _ < 2147483648 by omega, fun q2 => h0 (Or.inr (by omega)), fun q2 => ⟨show -2147483648 ≤ _ ∧ _ < 2147483648 by omega, fun q3 => ⟨q2, q3, ?_⟩, fun q3 => by omega⟩⟩⟩
  obtain ⟨j, hj⟩ : ∃ j : Nat, (k : Int) - 1 - x = j := ⟨((k : Int) - 1 - x).toNat, by omega⟩
  rw [hj]
  have hjl : j < (zC Z).length := by omega
  have hg := List.getElem?_eq_getElem hjl
  rw [(hO.2.2.1 j _ hg).1]
  exact h1 j _ q (by omega) hg
/-- keepChoices -/
theorem sp_99 {k : Nat} (hO : cOb F T m Z) (hk : k ≤ (zC Z).length) (hq : ∀ m' : hy_m, (∀ (a : Nat) (e : Int), ¬ (a = 36 ∧ e = 8) → ¬ (a = 41 ∧ e = 7) → m' a e = m a e) → m' 36 8 = k → (k = 0 → m' 41 7 = 0) → (∀ (j cc : Nat), j + 1 = k → (zC Z)[j]? = some cc → m' 41 7 = m cc 3) → Q 0 m') : wq_99 (k : Int) T m Q := by
  unfold wq_99
  have f1 : ∀ (a : Nat) (e : Int), ¬ (a = 36 ∧ e = 8) → hy_u m 36 8 (k : Int) a e = m a e := fun a e q => hy_uf q
  have hO1 : cOb F T (hy_u m 36 8 (k : Int)) Z := by
    obtain ⟨⟨o1, o2, o3, o4⟩, o5, o6, o7, o8⟩ := hO
    exact ⟨⟨o1, fun j c q => by rw [f1 _ _ (by omega)]; exact o2 j c q, fun j q => by rw [f1 _ _ (by omega)]; exact o3 j q, o4⟩, o5, fun j c q => by rw [f1 _ _ (by omega)]; exact o6 j c q, fun j q => by rw [f1 _ _ (by omega)]; exact o7 j q, o8⟩
  refine sp_110 (k := k) hO1 (hy_us _ _ _ _) hk (fun q => ⟨fun _ => ?_, fun z => absurd rfl z⟩) (fun j cc q1 q2 q3 => ⟨fun z => ?_, fun _ => ?_⟩) (by decide)
  · have hk0 : k = 0 := by omega
    refine hq _ (fun a e q1 q2 => by rw [hy_uf q2, f1 a e q1]) (by rw [hy_ua (by decide), hy_us]) (fun _ => hy_us _ _ _ _) (fun j cc q => by omega)
  · have := (zC_tag hO (List.mem_of_getElem? q3)).2.1
    omega
  · have ht := zC_tag hO (List.mem_of_getElem? q3)
    have hcc := ht.2.1
    rw [Int.toNat_natCast]
    refine ⟨ht.1, hq _ (fun a e q1 q2 => by rw [hy_uf q2, f1 a e q1]) (by rw [hy_ua (by decide), hy_us]) (fun q => by omega) (fun j' cc' q4 q5 => ?_)⟩
    rw [hy_us, f1 _ _ (by omega)]
    have : j' = j := by omega
    rw [this, q3] at q5
    injection q5 with q5
    rw [q5]
/-- goBack -/
theorem sp_121 {x : Int} {k cap : Nat} {b4 t5 : Nat} (h6 : m 41 6 = TL.length) (hTl : ∀ i (hi : i < TL.length), m t5 (i : Int) = ((TL[i] : Nat) : Int)) (hlt : ∀ e ∈ TL, e < 8 * cap) (hn : TL.length ≤ 8 * cap) (hc : cap ≤ 302) (hk : k ≤ TL.length) (h5 : m 41 5 = t5) (hT5 : T.1 t5 = some (100, 8 * cap)) (h4 : m 41 4 = b4) (hT4 : T.1 b4 = some (100, 8 * cap)) (hs : t5 ≠ b4 ∧ t5 ≠ 41 ∧ b4 ≠ 41) (hq : ∀ m' : hy_m, (∀ (a : Nat) (e : Int), ¬ (a = b4 ∧ ∃ w ∈ TL.drop k, e = (w : Int)) → ¬ (a = 41 ∧ (e = 6 ∨ e = 3)) → m' a e = m a e) → (∀ w ∈ TL.drop k, m' b4 (w : Int) = -1) → m' 41 6 = k → m' 41 3 = x → Q 0 m') : wq_121 x (k : Int) T m Q := by
  obtain ⟨hs1, hs2, hs3⟩ := hs
  unfold wq_121
  refine wL0_rule (Nat.lt_wfRel.wf) (fun m' : hy_m => ∃ j : Nat, k ≤ j ∧ j ≤ TL.length ∧ m' 41 6 = j ∧ (∀ w ∈ TL.drop j, m' b4 (w : Int) = -1) ∧ ∀ (a : Nat) (e : Int), ¬ (a = b4 ∧ ∃ w ∈ TL.drop j, e = (w : Int)) → ¬ (a = 41 ∧ e = 6) → m' a e = m a e) (fun m' : hy_m => (m' 41 6).toNat) ?_ ⟨TL.length, hk, Nat.le_refl _, h6, (fun w hw => by rw [List.drop_length] at hw; cases hw), fun a e _ _ => rfl⟩
  rintro P m1 ⟨j, j1, j2, j3, j4, j5⟩ hP
  unfold wf_121_0
  have e5 : m1 41 5 = t5 := by rw [j5 _ _ (fun q => hs3 q.1.symm) (by omega)]; exact h5
  have e4 : m1 41 4 = b4 := by rw [j5 _ _ (fun q => hs3 q.1.symm) (by omega)]; exact h4
  rw [j3, e5, e4, Int.toNat_natCast, Int.toNat_natCast]
  refine ⟨fun q => ?_, fun q => ⟨fun q2 => by omega, fun q2 => ⟨show -2147483648 ≤ _ ∧ _ < 2147483648 by omega, 8 * cap, hT5, by omega, by omega, 8 * cap, hT4, ?_⟩⟩⟩
  · have : j = k := by omega
    subst this
    refine hq _ (fun a e q1 q2 => ?_) (fun w hw => ?_) ?_ (hy_us _ _ _ _)
    · rw [hy_uf (by omega)]
      exact j5 a e q1 (by omega)
    · rw [hy_ua hs3]
      exact j4 w hw
    · rw [hy_uk (by decide)]; exact j3
  · have hj1 : j - 1 < TL.length := by omega
    have ej : (j : Int) - 1 = ((j - 1 : Nat) : Int) := by omega
    have ev : hy_u m1 41 6 ((j : Int) - 1) t5 ((j : Int) - 1) = ((TL[j - 1] : Nat) : Int) := by
      rw [hy_ua hs2, j5 _ _ (fun q => hs1 q.1) (by omega), ej]
      exact hTl (j - 1) hj1
    have hl := hlt _ (List.getElem_mem hj1)
    rw [ev]
    have hdr : TL.drop (j - 1) = TL[j - 1] :: TL.drop j := by
      rw [List.drop_eq_getElem_cons hj1, show j - 1 + 1 = j by omega]
    refine ⟨by omega, by omega, hP _ ⟨j - 1, by omega, by omega, ?_, fun w hw => ?_, fun a e q1 q2 => ?_⟩ ?_⟩
    · rw [hy_ua (Ne.symm hs3), hy_us]
      omega
    · rw [hdr] at hw
      by_cases c : w = TL[j - 1]
      · rw [c, hy_us]
      · rcases List.mem_cons.mp hw with q | q
        · exact absurd q c
        · rw [hy_uk (by omega), hy_ua hs3]
          exact j4 w q
    · rw [hy_uf (fun q => q1 ⟨q.1, _, by rw [hdr]; exact List.mem_cons_self .., q.2⟩), hy_uf q2]
      exact j5 a e (fun ⟨z1, w, z2, z3⟩ => q1 ⟨z1, w, by rw [hdr]; exact List.mem_cons_of_mem _ z2, z3⟩) q2
    · show (hy_u (hy_u m1 41 6 ((j : Int) - 1)) b4 _ (-1) 41 6).toNat < (m1 41 6).toNat
      rw [hy_ua (Ne.symm hs3), hy_us, j3]
      omega
end CB
