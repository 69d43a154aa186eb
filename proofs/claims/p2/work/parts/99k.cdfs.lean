/-! THE SEARCH FOR LOOPS, pure: a stack of terms and of marks -/
def dCv (eT : Int → pE → Prop) (S : List Int) (w : Nat) : Prop := ∃ e ∈ S, ∃ t, eT e t ∧ vIn w t
def dLt (v : Nat → pE) (t : pE) (s : Nat) : Prop := sz (sb v t) < sz (v s) ∨ (sz (sb v t) = sz (v s) ∧ ∀ w : Nat, t = .var w → w < s)
def dI (eT : Int → pE → Prop) (mk : Nat → Int) (B : bM) (sus : Nat → Prop) (S : List Int) (lf : Nat → Prop) : Prop := (∀ w, lf w → Acc (bEd B) w) ∧ (∀ ab s be, S = ab ++ mk s :: be → ∀ t w, B s = some t → vIn w t → lf w ∨ dCv eT ab w) ∧ (∀ w, sus w → lf w ∨ dCv eT S w) ∧ ∀ v, Sol B v → ∀ ab s be, S = ab ++ mk s :: be → ∀ e ∈ ab, ∀ t, eT e t → dLt v t s
section DFS
variable {eT : Int → pE → Prop} {mk : Nat → Int} {B : bM} {sus : Nat → Prop} {S N : List Int} {lf lf' : Nat → Prop} {e y : Int}
theorem ap_split {x : Int} {ab be : List Int} (hx : x ∉ N) (h : N ++ S = ab ++ x :: be) : ∃ a', ab = N ++ a' ∧ S = a' ++ x :: be := by
  rcases List.append_eq_append_iff.mp h with ⟨a', h1, h2⟩ | ⟨c, h1, h2⟩
  · exact ⟨a', h1, h2⟩
  · cases c with
    | nil =>
      rw [List.append_nil] at h1
      exact ⟨[], by rw [List.append_nil]; exact h1.symm, h2.symm⟩
    | cons z c =>
      have h2 : x :: be = z :: (c ++ S) := h2
      injection h2 with h3 _
      subst h3
      exact absurd (by rw [h1]; exact List.mem_append.mpr (Or.inr (List.mem_cons_self ..))) hx
theorem dCv_up (hl : ∀ w, lf w → lf' w) (he : ∀ t, eT e t → ∀ w, vIn w t → lf' w ∨ dCv eT N w) {A : List Int} {w : Nat} (h : lf w ∨ dCv eT (e :: A) w) : lf' w ∨ dCv eT (N ++ A) w := by
  rcases h with h | ⟨z, hz, t, h1, h2⟩
  · exact Or.inl (hl w h)
  · rcases List.mem_cons.mp hz with rfl | hz
    · rcases he t h1 w h2 with q | ⟨z', q1, q2⟩
      · exact Or.inl q
      · exact Or.inr ⟨z', List.mem_append.mpr (Or.inl q1), q2⟩
    · exact Or.inr ⟨z, List.mem_append.mpr (Or.inr hz), t, h1, h2⟩
/-- the top is replaced by terms -/
theorem dI_pop (h : dI eT mk B sus (e :: S) lf) (hl : ∀ w, lf w → lf' w) (ha : ∀ w, lf' w → Acc (bEd B) w) (he : ∀ t, eT e t → ∀ w, vIn w t → lf' w ∨ dCv eT N w) (hv : ∀ v, Sol B v → ∀ s, (∀ t, eT e t → dLt v t s) → ∀ e' ∈ N, ∀ t, eT e' t → dLt v t s) (hm : ∀ s, mk s ∉ N) : dI eT mk B sus (N ++ S) lf' := by
  obtain ⟨h1, h2, h3, h4⟩ := h
  refine ⟨ha, fun ab s be hd t w hb hw => ?_, fun w hw => dCv_up hl he (h3 w hw), fun v hs ab s be hd e' he' t ht => ?_⟩
  · obtain ⟨a', rfl, rfl⟩ := ap_split (hm s) hd
    exact dCv_up hl he (h2 (e :: a') s be rfl t w hb hw)
  · obtain ⟨a', rfl, rfl⟩ := ap_split (hm s) hd
    have hh := h4 v hs (e :: a') s be rfl
    rcases List.mem_append.mp he' with q | q
    · exact hv v hs s (fun t' ht' => hh e (List.mem_cons_self ..) t' ht') e' q t ht
    · exact hh e' (List.mem_cons_of_mem _ q) t ht
/-- a variable is entered -/
theorem dI_enter {w : Nat} {u : pE} (hmk : ∀ a b, mk a = mk b → a = b) (hmt : ∀ a t, eT (mk a) t → t = .var a) (hmt' : ∀ a, B a ≠ none → eT (mk a) (.var a)) (hey : ∀ t, eT y t → t = u) (hy : eT y u) (hym : ∀ s, y ≠ mk s) (hb : B w = some u) (ho : ∀ z : Nat, u = .var z → z < w) (hev : eT e (.var w)) (h : dI eT mk B sus (e :: S) lf) (heu : ∀ t, eT e t → t = .var w) : dI eT mk B sus (y :: mk w :: S) lf := by
  obtain ⟨h1, h2, h3, h4⟩ := h
  have hev' : eT (mk w) (.var w) := hmt' w (fun q => by rw [q] at hb; cases hb)
  have up : ∀ {A : List Int} {z : Nat}, lf z ∨ dCv eT (e :: A) z → lf z ∨ dCv eT (y :: mk w :: A) z := by
    intro A z hz
    rcases hz with hz | ⟨e', q1, t, q2, q3⟩
    · exact Or.inl hz
    · rcases List.mem_cons.mp q1 with rfl | q1
      · rw [heu t q2] at q3
        exact Or.inr ⟨mk w, List.mem_cons_of_mem _ (List.mem_cons_self ..), _, hev', q3⟩
      · exact Or.inr ⟨e', List.mem_cons_of_mem _ (List.mem_cons_of_mem _ q1), t, q2, q3⟩
  have dec : ∀ ab s be, y :: mk w :: S = ab ++ mk s :: be → (ab = [y] ∧ s = w) ∨ ∃ a', ab = y :: mk w :: a' ∧ S = a' ++ mk s :: be := by
    intro ab s be hd
    cases ab with
    | nil =>
      injection hd with q _
      exact absurd q (hym s)
    | cons a ab =>
      injection hd with q1 q2
      subst q1
      cases ab with
      | nil =>
        injection q2 with q3 _
        exact Or.inl ⟨rfl, (hmk _ _ q3).symm⟩
      | cons a2 ab =>
        injection q2 with q3 q4
        subst q3
        exact Or.inr ⟨ab, rfl, q4⟩
  refine ⟨h1, fun ab s be hd t z hb' hz => ?_, fun z hz => up (h3 z hz), fun v hs ab s be hd e' he' t ht => ?_⟩
  · rcases dec ab s be hd with ⟨rfl, rfl⟩ | ⟨a', rfl, rfl⟩
    · rw [hb] at hb'
      injection hb' with q
      subst q
      exact Or.inr ⟨y, List.mem_cons_self .., u, hy, hz⟩
    · exact up (h2 (e :: a') s be rfl t z hb' hz)
  · have hvw : v w = sb v u := hs w u hb
    rcases dec ab s be hd with ⟨rfl, rfl⟩ | ⟨a', rfl, rfl⟩
    · rw [List.mem_singleton.mp he'] at ht
      rw [hey t ht]
      exact Or.inr ⟨by rw [hvw], ho⟩
    · have hh := h4 v hs (e :: a') s be rfl
      have hw := hh e (List.mem_cons_self ..) _ hev
      have hw : sz (v w) < sz (v s) ∨ (sz (v w) = sz (v s) ∧ ∀ z : Nat, (.var w : pE) = .var z → z < s) := hw
      rcases List.mem_cons.mp he' with rfl | he'
      · rw [hey t ht]
        unfold dLt
        rw [← hvw]
        rcases hw with hw | ⟨hw, hw'⟩
        · exact Or.inl hw
        · exact Or.inr ⟨hw, fun z q => Nat.lt_trans (ho z q) (hw' w rfl)⟩
      · rcases List.mem_cons.mp he' with rfl | he'
        · rw [hmt w t ht]
          exact hw
        · exact hh e' (List.mem_cons_of_mem _ he') t ht
/-- a mark on the top: all behind it has been looked at -/
theorem dI_leave {s : Nat} (h : dI eT mk B sus (mk s :: S) lf) : Acc (bEd B) s := by
  refine Acc.intro s (fun w ⟨t, hb, hw⟩ => ?_)
  rcases h.2.1 [] s S rfl t w hb hw with q | ⟨e, q, -⟩
  · exact h.1 w q
  · cases q
/-- a variable that is inside itself: no solution -/
theorem dI_back {w : Nat} {ab be : List Int} (h : dI eT mk B sus (ab ++ mk w :: be) lf) (he : ∃ e ∈ ab, eT e (.var w)) (v : Nat → pE) : ¬ Sol B v := by
  intro hs
  obtain ⟨e, h1, h2⟩ := he
  rcases h.2.2.2 v hs ab w be rfl e h1 _ h2 with q | ⟨-, q⟩
  · exact absurd q (Nat.lt_irrefl _)
  · exact absurd (q w rfl) (Nat.lt_irrefl _)
end DFS
