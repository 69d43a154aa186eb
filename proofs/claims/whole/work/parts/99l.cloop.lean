/-! THE SEARCH FOR LOOPS: stack and marks -/
def uPu (U : uX) (m : hy_m) (k : Nat) (x : Int) : hy_m := hy_u (hy_u m (yp U) (k : Int) x) 47 7 ((k : Int) + 1)
/-- the stack, its top first -/
def sK (U : uX) (m : hy_m) (S : List Int) : Prop := m 47 7 = S.length ∧ ∀ (k : Nat) (e : Int), S.reverse[k]? = some e → m (yp U) (k : Int) = e
section CLO
variable {X : cX} {U : uX} {T : hy_T} {m m' : hy_m} {Q : Int → hy_m → Prop} {x : Int} {S : List Int}
theorem uPu_fx {k : Nat} : uFx X U m (uPu U m k x) := (uFx.row (by unfold uRw; simp)).tr (uFx.f47 (by simp))
theorem uPu_o {k a : Nat} (h1 : a ≠ yp U) (h2 : a ≠ 47) : uPu U m k x a = m a := by
  funext e
  unfold uPu
  rw [hy_ua h2, hy_ua h1]
theorem uPu_47 {k : Nat} {e : Int} (hs : uSep X U) (he : e ≠ 7) : uPu U m k x 47 e = m 47 e := by
  unfold uPu
  rw [hy_uk he, hy_ua (fun q => hs.n47.2.2.2.1 q.symm)]
theorem sK_push (hs : uSep X U) (h : sK U m S) : sK U (uPu U m S.length x) (x :: S) := by
  refine ⟨?_, fun k e hk => ?_⟩
  · unfold uPu
    rw [hy_us, List.length_cons]
    omega
  · rw [List.reverse_cons] at hk
    unfold uPu
    rw [hy_ua hs.n47.2.2.2.1]
    by_cases c : k < S.reverse.length
    · rw [List.getElem?_append_left c] at hk
      rw [List.length_reverse] at c
      rw [hy_uk (by omega)]
      exact h.2 k e hk
    · have hl := (List.getElem?_eq_some_iff.mp hk).1
      rw [List.length_append, List.length_reverse, List.length_singleton] at hl
      rw [List.length_reverse] at c
      have c : k = S.length := by omega
      subst c
      rw [List.getElem?_append_right (by rw [List.length_reverse]; exact Nat.le_refl _), List.length_reverse, Nat.sub_self] at hk
      have hk : some x = some e := hk
      injection hk with hk
      rw [hy_us, hk]
theorem sK_top {e : Int} (h : sK U m (e :: S)) : m (yp U) (S.length : Int) = e := by
  refine h.2 S.length e ?_
  rw [List.reverse_cons, List.getElem?_append_right (by rw [List.length_reverse]; exact Nat.le_refl _), List.length_reverse, Nat.sub_self]
  rfl
theorem sK_pop {e : Int} (hs : uSep X U) (h : sK U m (e :: S)) : sK U (hy_u m 47 7 (S.length : Int)) S := by
  refine ⟨hy_us .., fun k z hk => ?_⟩
  rw [hy_ua hs.n47.2.2.2.1]
  refine h.2 k z ?_
  rw [List.reverse_cons, List.getElem?_append_left (List.getElem?_eq_some_iff.mp hk).1]
  exact hk
theorem sK_k (h1 : m' 47 7 = m 47 7) (h2 : m' (yp U) = m (yp U)) (h : sK U m S) : sK U m' S := by
  unfold sK
  rw [h1, h2]
  exact h
/-- push -/
theorem sp_154 (hs : uSep X U) (hU : uW X U T m) (hc : xcap X ≤ 302) (h : sK U m S) (hk : S.length < 76 * xcap X) (hq : Q 0 (uPu U m S.length x)) : wq_154 x T m Q := by
  have T6 := hU.2.2.2.1.2
  unfold wq_154
  have e : hy_u m (yp U) (S.length : Int) x 47 7 = S.length := by rw [hy_ua (fun q => hs.n47.2.2.2.1 q.symm)]; exact h.1
  rw [hU.2.2.2.1.1, Int.toNat_natCast, h.1, e]
  exact ⟨100, _, T6, by omega, fun q => by omega, fun _ => ⟨_, T6, by omega, by omega, show -2147483648 ≤ _ ∧ _ < 2147483648 by omega, hq⟩⟩
/-- leave -/
theorem sp_153 {e : Nat} (hU : uW X U T m) (he : e < 8 * xcap X) (hq : Q 0 (hy_u m (ym U) (e : Int) (m 47 10))) : wq_153 (e : Int) T m Q := by
  have T8 := hU.2.2.2.2.1.2
  unfold wq_153
  rw [hU.2.2.2.2.1.1, Int.toNat_natCast]
  exact ⟨fun q => by omega, fun _ => ⟨100, _, T8, by omega, fun q => by omega, fun _ => ⟨_, T8, by omega, by omega, hq⟩⟩⟩
/-- bindingAt -/
theorem sp_126 {e : Nat} (h : cW X T m) (he : e < 8 * xcap X) (hq : Q (m (xb4 X) (e : Int)) m) : wq_126 (e : Int) T m Q := by
  have T4 := h.2.2.2.2.1
  unfold wq_126
  rw [h.2.2.2.1, Int.toNat_natCast]
  exact ⟨fun q => by omega, fun _ => ⟨100, _, T4, by omega, fun q => by omega, fun _ => ⟨_, T4, by omega, by omega, hq⟩⟩⟩
/-- enter -/
theorem sp_152 {e : Nat} (hs : uSep X U) (hw : cW X T m) (hU : uW X U T m) (h : sK U m S) (hk : S.length + 2 ≤ 76 * xcap X) (he : e < 8 * xcap X) (h1 : 0 ≤ m (xb4 X) (e : Int) → Q 0 (uPu U (uPu U (hy_u m (ym U) (e : Int) (m 47 9)) S.length (-1 - (e : Int))) (S.length + 1) (m (xb4 X) (e : Int)))) (h2 : m (xb4 X) (e : Int) < 0 → Q 0 (hy_u m (ym U) (e : Int) (m 47 10))) : wq_152 (e : Int) T m Q := by
  have hc := hw.2.2.1
  have T8 := hU.2.2.2.2.1.2
  have hn47 := hs.n47
  obtain ⟨n1, n2, n3, n4, n5⟩ := hs.ne
  unfold wq_152
  refine sp_126 hw he ⟨fun q => ?_, fun q => sp_153 hU he (h2 q)⟩
  rw [hU.2.2.2.2.1.1, Int.toNat_natCast]
  have fx : uFx X U m (hy_u m (ym U) (e : Int) (m 47 9)) := uFx.row (by unfold uRw; simp)
  have k1 : sK U (hy_u m (ym U) (e : Int) (m 47 9)) S := sK_k (hy_ua (fun q => hn47.2.2.2.2.1 q.symm)) (funext fun z => hy_ua n4.2.2.2.1) h
  refine ⟨_, T8, by omega, by omega, show -2147483648 ≤ _ ∧ _ < 2147483648 by omega, sp_154 hs (uW_fx hs fx hU) hc k1 (by omega) (sp_154 (S := (-1 - (e : Int)) :: S) hs (uW_fx hs uPu_fx (uW_fx hs fx hU)) hc (sK_push hs k1) ?_ (h1 q))⟩
  rw [List.length_cons]
  omega
end CLO
