/-! ARGUMENTS ARE PUSHED -/
/-- how many nodes wait -/
def wgR (C : Int → pE → Prop) : List Int → Nat → Prop
  | [], k => k = 0
  | e :: N, k => ∃ t k', C e t ∧ wgR C N k' ∧ k = nd t + k'
def ndS (b : pE) : Nat → Nat
  | 0 => 0
  | d + 1 => nd (eAr b d) + ndS b d
theorem ndS_c (a r : pE) : ∀ d, ndS (.add a r) (d + 1) = nd a + ndS r d
  | 0 => rfl
  | d + 1 => by
    have := ndS_c a r d
    show nd (eAr r d) + ndS (.add a r) (d + 1) = nd a + (nd (eAr r d) + ndS r d)
    omega
theorem ndS_L : ∀ b : pE, isL b → ndS b (eN b) + 1 = nd b
  | .num _, _ => rfl
  | .add a r, h => by
    have := ndS_L r h
    show ndS (.add a r) (eN r + 1) + 1 = nd a + nd r
    rw [ndS_c]
    omega
  | .var _, h => h.elim
  | .mulL _ _, h => h.elim
  | .sub _ _, h => h.elim
  | .neg _, h => h.elim
  | .mulR _ _, h => h.elim
/-- only the stack has changed -/
def uSk (U : uX) (m m' : hy_m) : Prop := ∀ (a : Nat) (e : Int), a ≠ yp U → ¬ (a = 47 ∧ e = 7) → m' a e = m a e
section CPU
variable {X : cX} {U : uX} {T : hy_T} {m0 m m' m'' : hy_m} {Q : Int → hy_m → Prop} {x x1 k : Int} {b : pE} {S : List Int}
theorem uSk.rfl' : uSk U m m := fun _ _ _ _ => rfl
theorem uSk.tr (h : uSk U m m') (h' : uSk U m' m'') : uSk U m m'' := fun a e q1 q2 => (h' a e q1 q2).trans (h a e q1 q2)
theorem uSk.fx (h : uSk U m m') : uFx X U m m' := fun a e q1 _ q3 => h a e (fun q => q1 (by unfold uRw; rw [q]; simp)) (fun q => q3 ⟨q.1, by rw [q.2]; simp⟩)
theorem uPu_sk {k : Nat} : uSk U m (uPu U m k x) := fun a e q1 q2 => by
  unfold uPu
  rw [hy_uf q2, hy_ua q1]
def aPs (X : cX) (m0 : hy_m) (b : pE) (d : Nat) (N : List Int) : Prop := N.length = d ∧ (∀ e ∈ N, 0 ≤ e ∧ ∃ j, j < d ∧ cTm X m0 e (eAr b j)) ∧ (∀ j, j < d → ∃ e ∈ N, cTm X m0 e (eAr b j)) ∧ wgR (cTm X m0) N (ndS b d)
theorem sp_151_163 {P53 : Int → hy_m → Prop} (hs : uSep X U) (hw : cW X T m) (hU : uW X U T m) (hx : cTm X m x (.mulL k b)) (h3 : eN b ≤ 3) (hk : sK U m S) (hl : S.length + eN b ≤ 76 * xcap X) (hr : hy_r 0 (x1 + 1)) (hP : ∀ m' N, uSk U m m' → aPs X m b (eN b) N → sK U m' (N ++ S) → P53 (x1 + 1) m') : wq_151_163 P53 x1 x (eN b : Int) 0 T m Q := by
  have hcap := hw.2.2.1
  unfold wq_151_163
  refine wL1_rule (Nat.lt_wfRel.wf) (fun x5 m' => ∃ (d : Nat) (N : List Int), x5 = d ∧ d ≤ eN b ∧ uSk U m m' ∧ aPs X m b d N ∧ sK U m' (N ++ S)) (fun x5 _ => 4 - x5.toNat) ?_ ⟨0, [], rfl, Nat.zero_le _, uSk.rfl', ⟨rfl, fun e h => (by cases h), fun j h => absurd h (Nat.not_lt_zero _), rfl⟩, hk⟩
  rintro P x5 m' ⟨d, N, rfl, hd, h1, ⟨a1, a2, a3, a4⟩, h2⟩ hP2
  have fx : uFx X U m m' := h1.fx
  unfold wf_151_163
  refine ⟨fun q => ⟨hr, hP m' N h1 ?_ h2⟩, fun q => ?_⟩
  · have e : d = eN b := by omega
    subst e
    exact ⟨a1, a2, a3, a4⟩
  · refine sp_132 (cW_fx hs fx hw) (cTm_fx hs fx hx) (by omega) (fun y hy y0 => ?_)
    have hy' := cTm_fx hs fx.sy hy
    have hlen : (N ++ S).length < 76 * xcap X := by
      rw [List.length_append]
      omega
    refine sp_154 hs (uW_fx hs fx hU) hcap h2 hlen ⟨show -2147483648 ≤ _ ∧ _ < 2147483648 by omega, hP2 _ _ ⟨d + 1, y :: N, by omega, by omega, h1.tr uPu_sk, ⟨?_, fun e he => ?_, fun j hj => ?_, ?_⟩, sK_push hs h2⟩ ?_⟩
    · rw [List.length_cons, a1]
    · rcases List.mem_cons.mp he with rfl | he
      · exact ⟨y0, d, Nat.lt_succ_self d, hy'⟩
      · obtain ⟨g1, j, g2, g3⟩ := a2 e he
        exact ⟨g1, j, by omega, g3⟩
    · by_cases c : j = d
      · subst c
        exact ⟨y, List.mem_cons_self .., hy'⟩
      · obtain ⟨e, g1, g2⟩ := a3 j (by omega)
        exact ⟨e, List.mem_cons_of_mem _ g1, g2⟩
    · exact ⟨_, _, hy', a4, rfl⟩
    · show 4 - _ < 4 - _
      omega
end CPU
