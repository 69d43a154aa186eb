/-! THE CLASS'S SEARCH: what its cells show -/
/-- instances, frames, choices, rows of clauses, numbers, bindings; room; rows of unifier and arithmetic -/
abbrev cZ : Type := List cEn × List Nat × List Nat × Nat × Nat × Nat × Nat × uX × aX
def zW (Z : cZ) : List cEn := Z.1
def zF (Z : cZ) : List Nat := Z.2.1
def zC (Z : cZ) : List Nat := Z.2.2.1
def z1 (Z : cZ) : Nat := Z.2.2.2.1
def z2 (Z : cZ) : Nat := Z.2.2.2.2.1
def z4 (Z : cZ) : Nat := Z.2.2.2.2.2.1
def zc (Z : cZ) : Nat := Z.2.2.2.2.2.2.1
def zU (Z : cZ) : uX := Z.2.2.2.2.2.2.2.1
def zV (Z : cZ) : aX := Z.2.2.2.2.2.2.2.2
def rwL (Z : cZ) : List Nat := [z1 Z, z2 Z, z4 Z, yj (zU Z), yq (zU Z), ys (zU Z), yp (zU Z), ym (zU Z), yt (zU Z), (zV Z).1, (zV Z).2]
/-- the rows -/
def cRo (F : Nat → Prop) (T : hy_T) (m : hy_m) (Z : cZ) : Prop := ((rwL Z).Nodup ∧ ∀ b ∈ rwL Z, 42 ≤ b ∧ b ≠ 46 ∧ b ≠ 47 ∧ b ≠ 53 ∧ ¬ (69 ≤ b ∧ b ≤ 73) ∧ ¬ F b) ∧ fzn F ∧ (4 ≤ zc Z ∧ zc Z ≤ 302) ∧ (m 41 1 = z1 Z ∧ T.1 (z1 Z) = some (113, zc Z)) ∧ (m 41 2 = z2 Z ∧ T.1 (z2 Z) = some (100, zc Z)) ∧ (m 41 4 = z4 Z ∧ T.1 (z4 Z) = some (100, 8 * zc Z)) ∧ ((m 47 1 = yj (zU Z) ∧ T.1 (yj (zU Z)) = some (100, 128 * zc Z)) ∧ (m 47 2 = yq (zU Z) ∧ T.1 (yq (zU Z)) = some (100, 60 * zc Z)) ∧ (m 47 4 = ys (zU Z) ∧ T.1 (ys (zU Z)) = some (100, 8 * zc Z)) ∧ (m 47 6 = yp (zU Z) ∧ T.1 (yp (zU Z)) = some (100, 76 * zc Z)) ∧ (m 47 8 = ym (zU Z) ∧ T.1 (ym (zU Z)) = some (100, 8 * zc Z)) ∧ (m 41 5 = yt (zU Z) ∧ T.1 (yt (zU Z)) = some (100, 8 * zc Z))) ∧ ((m 53 1 = yp (zU Z) ∧ T.1 (yp (zU Z)) = some (100, 76 * zc Z)) ∧ (m 53 3 = yq (zU Z) ∧ T.1 (yq (zU Z)) = some (100, 60 * zc Z)) ∧ (m 53 5 = (zV Z).1 ∧ T.1 (zV Z).1 = some (100, 8 * zc Z)) ∧ m 53 6 = (zV Z).2 ∧ T.1 (zV Z).2 = some (100, 8 * zc Z)) ∧ ((∀ z : Int, 0 ≤ z → z < ((128 * zc Z : Nat) : Int) → m (yj (zU Z)) z = 0) ∧ (∀ z : Int, m (ym (zU Z)) z ≤ m 47 10) ∧ 0 ≤ m 47 10) ∧ (∀ z : Int, m (zV Z).2 z ≤ m 53 7) ∧ 0 ≤ m 53 7
/-- instances of a query -/
def wIs (E : qE) (l : List Nat) (T : hy_T) (m : hy_m) (F : Nat → Prop) (c1 n2 cap : Nat) (WI : List cEn) : Prop := WI.length = l.length + 1 ∧ (∃ e, WI[0]? = some e ∧ e.1 = 0 ∧ e.2.2.1 = E.2.2 ∧ e.2.2.2.1 = 0 ∧ wOn T m F c1 cap none E.2.1 e ∧ m n2 0 = -9) ∧ ∀ j c, l[j]? = some c → ∃ e cl, WI[j + 1]? = some e ∧ E.1[c]? = some cl ∧ e.1 = j + 2 ∧ e.2.2.1 = cl.2.2 ∧ e.2.2.2.1 = tot E (l.take j) ∧ wOn T m F c1 cap (some cl.1) cl.2.1 e ∧ m n2 ((j + 2 : Nat) : Int) = (c : Nat)
def zX (Z : cZ) (k N : Nat) : cX := wX ((zW Z).take (k + 1)) (z1 Z) (z4 Z) (zc Z) N
/-- a goal -/
def cFg (X : cX) (m : hy_m) (P : Nat) (s : Nat → pE) (x : Int) (g : pE) : Prop := ∃ t, cTm X m x t ∧ 0 ≤ x ∧ (∀ w, vIn w t → w < P) ∧ (eCa t = true ∧ eKy t = eKy g) ∧ ∀ v, SolS s v → sb v t = sb v g
/-- a frame -/
def cF1 (X : cX) (m : hy_m) (P : Nat) (s : Nat → pE) (f : qF) (c : Nat) : Prop := m c 3 = f.2.2.1 ∧ match f.2.2.2 with
  | none => m c 0 = f.1 ∧ m c 1 = f.2.1
  | some g => (f.2.1 = 0 → m c 0 = -1 ∧ cFg X m P s (m c 1) g) ∧ (f.2.1 ≠ 0 → m c 0 = -2)
def cCh (FC : List Nat) (X : cX) (m : hy_m) (P : Nat) (s : Nat → pE) : Nat → List qF → Int → Prop
  | _, [], x => x = 0
  | N, f :: r, x => ∃ j c : Nat, FC[j]? = some c ∧ j < N ∧ x = c ∧ cF1 X m P s f c ∧ m c 4 = (r.length : Int) + 1 ∧ cCh FC X m P s j r (m c 2)
/-- the choices: TI the variables on the trail -/
def cCc (E : qE) (Z : cZ) (N : Nat) (m : hy_m) (l TI : List Nat) (B : bM) : List qC → Prop
  | [] => True
  | c :: r => (∃ cc, (zC Z)[r.length]? = some cc ∧ (m cc 3 = (c.2.2.2.1.1 : Int) + 2 ∧ m cc 4 = c.2.2.2.1.2.1 ∧ m cc 5 = c.2.2.2.1.2.2) ∧ (match c.1 with
    | none => m cc 1 = -9 ∧ m cc 2 = 0
    | some g => bS (m cc 2) (fun v => decide (v ∈ c.2.1)) ∧ cFg (zX Z c.2.2.2.1.1 N) m (tot E (l.take c.2.2.2.1.1)) c.2.2.2.2 (m cc 1) g) ∧ cCh (zF Z) (zX Z c.2.2.2.1.1 N) m (tot E (l.take c.2.2.2.1.1)) c.2.2.2.2 c.2.2.2.1.2.2 c.2.2.1 (m cc 0)) ∧ (c.2.2.2.1.2.1 ≤ TI.length ∧ ∀ w ∈ TI.take c.2.2.2.1.2.1, w < tot E (l.take c.2.2.2.1.1)) ∧ Res (bRs B TI c.2.2.2.1.2.1 (tot E (l.take c.2.2.2.1.1))) c.2.2.2.2 ∧ (∀ i n t, xL (zX Z c.2.2.2.1.1 N) i → n < xV (zX Z c.2.2.2.1.1 N) i → bRs B TI c.2.2.2.1.2.1 (tot E (l.take c.2.2.2.1.1)) (xP (zX Z c.2.2.2.1.1 N) i + n) = some t → cTm (zX Z c.2.2.2.1.1 N) m (m (z4 Z) (8 * (i : Int) + (n : Int))) t ∧ ∀ w, vIn w t → w < tot E (l.take c.2.2.2.1.1)) ∧ cCc E Z N m l TI B r
/-- frames and choices are objects, made once -/
def cOb (F : Nat → Prop) (T : hy_T) (m : hy_m) (Z : cZ) : Prop := ((zF Z).length ≤ 602 ∧ (∀ (j c : Nat), (zF Z)[j]? = some c → m 37 (j : Int) = c ∧ T.1 c = some (4, 5) ∧ 74 ≤ c ∧ ¬ F c) ∧ (∀ j : Int, ((zF Z).length : Int) ≤ j → m 37 j = 0) ∧ (zF Z).Nodup) ∧ ((zC Z).length ≤ 301 ∧ (∀ (j c : Nat), (zC Z)[j]? = some c → m 38 (j : Int) = c ∧ T.1 c = some (2, 6) ∧ 74 ≤ c ∧ ¬ F c) ∧ (∀ j : Int, ((zC Z).length : Int) ≤ j → m 38 j = 0) ∧ (zC Z).Nodup)
/-- numbers -/
def cNm (m : hy_m) (A : qA) : Prop := m 36 12 = qn A 2 ∧ m 36 13 = qn A 3 ∧ m 36 14 = qn A 4 ∧ m 36 15 = qn A 5 ∧ m 36 16 = qn A 6 ∧ ∀ c : Nat, c < 20 → m 39 (c : Int) = qt A c ∧ m 40 (c : Int) = qu A c ∧ qt A c ≤ qn A 4 ∧ qu A c ≤ qn A 4
/-- bindings, trail, choices -/
def cDy (E : qE) (Z : cZ) (N : Nat) (m : hy_m) (A : qA) (B : bM) (TI : List Nat) : Prop := cBd (zX Z (qi A).length N) m B ∧ (∃ TL : List Nat, cTr (zX Z (qi A).length N) (zU Z) m TL ∧ TL.length = TI.length ∧ ∀ (k e w : Nat), TL[k]? = some e → TI[k]? = some w → sV (zX Z (qi A).length N) e w) ∧ (∀ w ∈ TI, B w ≠ none) ∧ cCc E Z N m (qi A) TI B (qh A) ∧ m 36 8 = (qh A).length ∧ m 41 7 = (match qh A with
  | [] => 0
  | c :: _ => (c.2.2.2.1.1 : Int) + 2)
/-- references are in order -/
def cGd (F : Nat → Prop) (T : hy_T) (m : hy_m) (Z : cZ) : Prop := (∀ b, F b → T.1 b ≠ none) ∧ (∀ i : Int, 0 ≤ i → i < (zc Z : Int) → ∃ a nv : Nat, m (z1 Z) i = a ∧ T.1 a = some (3, nv)) ∧ ∃ nv : Nat, T.1 14 = some (3, nv)
theorem cGd_fr {F : Nat → Prop} {T T' : hy_T} {m m' : hy_m} {Z : cZ} (h : cGd F T m Z) (hT : ∀ b x, T.1 b = some x → T'.1 b = some x) (h1 : ∀ e, m' (z1 Z) e = m (z1 Z) e) (h0 : m' 41 0 = m 41 0) : cGd F T' m' Z := by
  obtain ⟨g1, g2, nv0, g4⟩ := h
  refine ⟨fun b hb => ?_, fun i q1 q2 => ?_, nv0, hT _ _ g4⟩
  · cases q : T.1 b with
    | none => exact absurd q (g1 b hb)
    | some x => rw [hT _ _ q]; simp
  · obtain ⟨a, nv, b1, b2⟩ := g2 i q1 q2
    exact ⟨a, nv, by rw [h1]; exact b1, hT _ _ b2⟩
/-- program, query, instances, rows, objects -/
def cPr (E : qE) (F : Nat → Prop) (T : hy_T) (m : hy_m) (Z : cZ) (l : List Nat) : Prop := cRo F T m Z ∧ cPo T m F 21 22 E.1 ∧ (∀ cl ∈ E.1, aM cl.1 + aMs cl.2.1 ≤ 30) ∧ wIs E l T m F (z1 Z) (z2 Z) (zc Z) (zW Z) ∧ cOb F T m Z ∧ cGd F T m Z
def cFl (E : qE) (F : Nat → Prop) (Z : cZ) (N : Nat) (T : hy_T) (m : hy_m) (A : qA) : Prop := cPr E F T m Z (qi A) ∧ cNm m A ∧ (∃ B TI, cDy E Z N m A B TI) ∧ qn A 8 ≤ (zF Z).length
def cSe (E : qE) (F : Nat → Prop) (Z : cZ) (N : Nat) (T : hy_T) (m : hy_m) (A : qA) : Prop := cPr E F T m Z (qi A) ∧ cNm m A ∧ (m 41 3 = ((qi A).length : Int) + 2 ∧ m 36 5 = qn A 8 ∧ qn A 8 ≤ (zF Z).length ∧ cCh (zF Z) (zX Z (qi A).length N) m (tot E (qi A)) (qs A) (qn A 8) (qp A) (m 36 6)) ∧ ∃ B TI, cDy E Z N m A B TI ∧ Res B (qs A) ∧ TI.length = qn A 7
section CZ
variable {E : qE} {l : List Nat} {F : Nat → Prop} {T : hy_T} {m m' : hy_m} {Z : cZ} {N : Nat} {WI : List cEn} {A : qA}
/-- instances in order -/
theorem wIs_at {c1 n2 cap : Nat} (h : wIs E l T m F c1 n2 cap WI) {e : cEn} (he : e ∈ WI) : (WI[0]? = some e ∧ e.1 = 0 ∧ e.2.2.1 = E.2.2 ∧ e.2.2.2.1 = 0 ∧ wOn T m F c1 cap none E.2.1 e) ∨ ∃ j c cl, l[j]? = some c ∧ WI[j + 1]? = some e ∧ E.1[c]? = some cl ∧ e.1 = j + 2 ∧ e.2.2.1 = cl.2.2 ∧ e.2.2.2.1 = tot E (l.take j) ∧ wOn T m F c1 cap (some cl.1) cl.2.1 e := by
  obtain ⟨h1, ⟨e0, h2, h3, h4, h5, h6, -⟩, h7⟩ := h
  obtain ⟨i, hi⟩ := List.getElem?_of_mem he
  cases i with
  | zero =>
    rw [h2] at hi
    injection hi with hi
    subst hi
    exact Or.inl ⟨h2, h3, h4, h5, h6⟩
  | succ j =>
    have hlt := (List.getElem?_eq_some_iff.mp hi).1
    have hj : j < l.length := by omega
    obtain ⟨e', cl, a1, a2, a3, a4, a5, a6, -⟩ := h7 j _ (List.getElem?_eq_getElem hj)
    rw [hi] at a1
    injection a1 with a1
    subst a1
    exact Or.inr ⟨j, _, cl, List.getElem?_eq_getElem hj, hi, a2, a3, a4, a5, a6⟩
theorem nvO_s {c : Nat} {cl : pCl} (h : E.1[c]? = some cl) : nvO E c = cl.2.2 := by
  unfold nvO
  rw [h]
theorem tot_tk {j c : Nat} (h : l[j]? = some c) : tot E (l.take (j + 1)) = tot E (l.take j) + nvO E c := by
  rw [List.take_succ, h]
  exact tot_app
theorem wIs_ol {c1 n2 cap : Nat} (h : wIs E l T m F c1 n2 cap WI) : wOl T m F c1 cap WI := by
  refine ⟨?_, fun e he => ?_⟩
  · rw [List.Nodup, List.pairwise_iff_getElem]
    intro i j hi hj hij
    rw [List.getElem_map, List.getElem_map]
    rw [List.length_map] at hi hj
    have hj0 := wIs_at h (List.getElem_mem hj)
    have hi0 := wIs_at h (List.getElem_mem hi)
    have inx : ∀ (k : Nat) (hk : k < WI.length), WI[k].1 = if k = 0 then 0 else k + 1 := by
      intro k hk
      obtain ⟨h1, ⟨e0, h2, h3, -⟩, h7⟩ := h
      cases k with
      | zero =>
        rw [List.getElem?_eq_getElem hk] at h2
        injection h2 with h2
        rw [if_pos rfl, h2]
        exact h3
      | succ k =>
        obtain ⟨e', cl, a1, a2, a3, -⟩ := h7 k _ (List.getElem?_eq_getElem (by omega : k < l.length))
        rw [List.getElem?_eq_getElem hk] at a1
        injection a1 with a1
        rw [if_neg (by omega), a1, a3]
    rw [inx i hi, inx j hj]
    split <;> split <;> omega
  · rcases wIs_at h he with q | ⟨j, c, cl, q⟩
    · exact ⟨_, _, q.2.2.2.2⟩
    · exact ⟨_, _, q.2.2.2.2.2.2⟩
theorem wIs_or {c1 n2 cap : Nat} (h : wIs E l T m F c1 n2 cap WI) : ∀ e ∈ WI, ∀ e' ∈ WI, e.1 < e'.1 → e.2.2.2.1 + e.2.2.1 ≤ e'.2.2.2.1 := by
  intro e he e' he' hlt
  rcases wIs_at h he with ⟨-, q1, q2, q3, -⟩ | ⟨j, c, cl, q0, -, q4, q1, q2, q3, -⟩ <;> rcases wIs_at h he' with ⟨-, q1', q2', q3', -⟩ | ⟨j', c', cl', q0', -, q4', q1', q2', q3', -⟩
  · omega
  · rw [q2, q3, q3']
    unfold tot
    omega
  · omega
  · rw [q2, q3, q3', ← nvO_s q4, ← tot_tk q0]
    have eq : l.take (j + 1) = (l.take j').take (j + 1) := by rw [List.take_take, Nat.min_eq_left (by omega)]
    have : l.take (j + 1) <+: l.take j' := by
      rw [eq]
      exact List.take_prefix _ _
    exact tot_pre this
theorem wIs_tk {c1 n2 cap : Nat} (h : wIs E l T m F c1 n2 cap WI) (k : Nat) (hk : k ≤ l.length) : wIs E (l.take k) T m F c1 n2 cap (WI.take (k + 1)) := by
  obtain ⟨h1, ⟨e0, h2, h3⟩, h7⟩ := h
  refine ⟨by rw [List.length_take, List.length_take]; omega, ⟨e0, by rw [List.getElem?_take_of_lt (by omega)]; exact h2, h3⟩, fun j c hj => ?_⟩
  have hjk : j < k := by
    have := (List.getElem?_eq_some_iff.mp hj).1
    rw [List.length_take] at this
    omega
  rw [List.getElem?_take_of_lt hjk] at hj
  obtain ⟨e, cl, a1, a2, a3, a4, a5, a6, a7⟩ := h7 j c hj
  refine ⟨e, cl, by rw [List.getElem?_take_of_lt (by omega)]; exact a1, a2, a3, a4, ?_, a6, a7⟩
  rw [List.take_take, Nat.min_eq_left (by omega)]
  exact a5
theorem wIs_fr {c1 n2 cap : Nat} {T' : hy_T} (h : wIs E l T m F c1 n2 cap WI) (hT : ∀ b x, T.1 b = some x → T'.1 b = some x) (hF : ∀ b z, F b → m' b z = m b z) (h1 : ∀ z : Int, 0 ≤ z → z < (l.length : Int) + 2 → z ≠ 1 → m' c1 z = m c1 z) (h2 : ∀ z : Int, 0 ≤ z → z < (l.length : Int) + 2 → z ≠ 1 → m' n2 z = m n2 z) : wIs E l T' m' F c1 n2 cap WI := by
  obtain ⟨g1, ⟨e0, g2, g3, g4, g5, g6, g8⟩, g7⟩ := h
  refine ⟨g1, ⟨e0, g2, g3, g4, g5, wOn_fr g6 hT hF (h1 _ (by omega) (by omega) (by omega)), by rw [h2 _ (by omega) (by omega) (by omega)]; exact g8⟩, fun j c hj => ?_⟩
  obtain ⟨e, cl, a1, a2, a3, a4, a5, a6, a7⟩ := g7 j c hj
  have := (List.getElem?_eq_some_iff.mp hj).1
  exact ⟨e, cl, a1, a2, a3, a4, a5, wOn_fr a6 hT hF (h1 _ (by omega) (by omega) (by omega)), by rw [h2 _ (by omega) (by omega) (by omega)]; exact a7⟩
/-- the variables of the instances -/
theorem wIs_dm {c1 n2 b4 cap : Nat} (h : wIs E l T m F c1 n2 cap WI) (v : Nat) : cDm (wX WI c1 b4 cap N) v ↔ v < tot E l := by
  rw [wDm (wIs_ol h)]
  constructor
  · rintro ⟨e, he, h1, h2⟩
    rcases wIs_at h he with ⟨-, q1, q2, q3, -⟩ | ⟨j, c, cl, q0, -, q4, q1, q2, q3, -⟩
    · unfold tot
      omega
    · rw [q2, q3, ← nvO_s q4, ← tot_tk q0] at h2
      exact Nat.lt_of_lt_of_le h2 (tot_pre (List.take_prefix _ _))
  · intro hv
    have key : ∀ k, k ≤ l.length → v < tot E (l.take k) → ∃ e ∈ WI, e.2.2.2.1 ≤ v ∧ v < e.2.2.2.1 + e.2.2.1 := by
      intro k
      induction k with
      | zero =>
        intro _ hv
        obtain ⟨-, ⟨e0, g2, g3, g4, g5, -⟩, -⟩ := h
        refine ⟨e0, List.mem_of_getElem? g2, by omega, ?_⟩
        rw [List.take_zero] at hv
        unfold tot at hv
        simp only [List.map_nil, List.sum_nil] at hv
        omega
      | succ k ih =>
        intro hk hv
        by_cases c : v < tot E (l.take k)
        · exact ih (by omega) c
        · obtain ⟨e, cl, a1, a2, a3, a4, a5, -⟩ := h.2.2 k _ (List.getElem?_eq_getElem (by omega : k < l.length))
          rw [tot_tk (List.getElem?_eq_getElem (by omega : k < l.length)), nvO_s a2] at hv
          exact ⟨e, List.mem_of_getElem? a1, by omega, by omega⟩
    exact key l.length (Nat.le_refl _) (by rw [List.take_length]; exact hv)
/-- what unification needs -/
theorem cRo_sep {b4 : Nat} (h : cRo F T m Z) (hA : wOl T m F (z1 Z) (zc Z) WI) : uSep (wX WI (z1 Z) (z4 Z) (zc Z) N) (zU Z) ∧ aSep (wX WI (z1 Z) (z4 Z) (zc Z) N) (zU Z) (zV Z) ∧ dSep (wX WI (z1 Z) (z4 Z) (zc Z) N) := by
  obtain ⟨⟨hn, hb⟩, hf, -⟩ := h
  have hb' : ∀ b, b = z1 Z ∨ b = z2 Z ∨ b = z4 Z ∨ b = yj (zU Z) ∨ b = yq (zU Z) ∨ b = ys (zU Z) ∨ b = yp (zU Z) ∨ b = ym (zU Z) ∨ b = yt (zU Z) ∨ b = (zV Z).1 ∨ b = (zV Z).2 → 42 ≤ b ∧ b ≠ 46 ∧ b ≠ 47 ∧ b ≠ 53 ∧ ¬ (69 ≤ b ∧ b ≤ 73) ∧ ¬ F b := fun b q => hb b (by
    unfold rwL
    simp only [List.mem_cons, List.not_mem_nil, or_false]
    exact q)
  unfold rwL at hn
  simp only [List.nodup_cons, List.mem_cons, List.not_mem_nil, or_false, not_or, List.nodup_nil, and_true, not_false_eq_true] at hn
  obtain ⟨⟨n1, n2, n3, n4, n5, n6, n7, n8, n9, n10⟩, ⟨p1, p2, p3, p4, p5, p6, p7, p8, p9⟩, ⟨r1, r2, r3, r4, r5, r6, r7, r8⟩, ⟨s1, s2, s3, s4, s5, s6, s7⟩, ⟨t1, t2, t3, t4, t5, t6⟩, ⟨u1, u2, u3, u4, u5⟩, ⟨v1, v2, v3, v4⟩, ⟨w1, w2, w3⟩, ⟨x1, x2⟩, y1⟩ := hn
  have cell : ∀ i, xL (wX WI (z1 Z) (z4 Z) (zc Z) N) i → F (xA (wX WI (z1 Z) (z4 Z) (zc Z) N) i) ∧ F (xK0 (wX WI (z1 Z) (z4 Z) (zc Z) N) i) ∧ F (xK1 (wX WI (z1 Z) (z4 Z) (zc Z) N) i) ∧ F (xK2 (wX WI (z1 Z) (z4 Z) (zc Z) N) i) := by
    rintro i ⟨e, he, rfl⟩
    obtain ⟨a1, a2, a3, a4, a5, -⟩ := wX_at (c1 := z1 Z) (b4 := z4 Z) (cap := zc Z) (N := N) hA.1 he
    obtain ⟨hd, gs, b1, ⟨k4, b2, b3⟩, -⟩ := hA.2 e he
    obtain ⟨f1, f2, f3, f4, f5⟩ := b2.2.2.2.2.2.2.2
    rw [a1, a3, a4, a5]
    exact ⟨f1, f2, f3, f4⟩
  have ex4 : xb4 (wX WI (z1 Z) (z4 Z) (zc Z) N) = z4 Z := rfl
  have ex1 : xc1 (wX WI (z1 Z) (z4 Z) (zc Z) N) = z1 Z := rfl
  have urw : ∀ a, uRw (wX WI (z1 Z) (z4 Z) (zc Z) N) (zU Z) a → a = z4 Z ∨ a = yj (zU Z) ∨ a = yq (zU Z) ∨ a = ys (zU Z) ∨ a = yp (zU Z) ∨ a = ym (zU Z) ∨ a = yt (zU Z) := by
    rintro a (q | q | q | q | q | q | q)
    · exact Or.inr (Or.inl q)
    · exact Or.inr (Or.inr (Or.inl q))
    · exact Or.inr (Or.inr (Or.inr (Or.inl q)))
    · exact Or.inr (Or.inr (Or.inr (Or.inr (Or.inl q))))
    · exact Or.inr (Or.inr (Or.inr (Or.inr (Or.inr (Or.inl q)))))
    · exact Or.inr (Or.inr (Or.inr (Or.inr (Or.inr (Or.inr q)))))
    · exact Or.inl q
  have urb : ∀ a, uRw (wX WI (z1 Z) (z4 Z) (zc Z) N) (zU Z) a → 42 ≤ a ∧ a ≠ 46 ∧ a ≠ 47 ∧ a ≠ 53 ∧ ¬ (69 ≤ a ∧ a ≤ 73) ∧ ¬ F a := fun a q => hb' a (by
    rcases urw a q with q | q | q | q | q | q | q <;> simp only [q, true_or, or_true])
  have sdF : ∀ a, F a → uSd (wX WI (z1 Z) (z4 Z) (zc Z) N) (zU Z) a := fun a ha => by
    have := hf a ha
    exact ⟨by omega, by omega, fun q => (urb a q).2.2.2.2.2 ha⟩
  have hb1 := hb' (z1 Z) (Or.inl rfl)
  have hb4 := hb' (z4 Z) (Or.inr (Or.inr (Or.inl rfl)))
  refine ⟨⟨⟨fun q => by have := (urb _ q).1; omega, fun q => (urb _ q).2.2.1 rfl, fun q => (urb _ q).2.1 rfl⟩, ⟨by rw [ex1]; omega, by rw [ex1]; exact hb1.2.2.1, fun q => ?_⟩, fun i hi => ?_, ?_⟩, ⟨fun a ha => ?_, ?_, ?_, ?_, fun i hi => ?_⟩, ⟨?_, ?_, fun i hi => ?_⟩⟩
  · rw [ex1] at q
    rcases urw _ q with q | q | q | q | q | q | q
    · exact n2 q
    · exact n3 q
    · exact n4 q
    · exact n5 q
    · exact n6 q
    · exact n7 q
    · exact n8 q
  · obtain ⟨c1, c2, c3, c4⟩ := cell i hi
    exact ⟨sdF _ c1, sdF _ c2, sdF _ c3, sdF _ c4⟩
  · rw [ex4]
    simp only [List.nodup_cons, List.mem_cons, List.not_mem_nil, or_false, not_or, List.nodup_nil, and_true, not_false_eq_true]
    exact ⟨⟨s1, s2, s3, s4, s5, Ne.symm r1⟩, ⟨t1, t2, t3, t4, Ne.symm r2⟩, ⟨u1, u2, u3, Ne.symm r3⟩, ⟨v1, v2, Ne.symm r4⟩, ⟨w1, Ne.symm r5⟩, Ne.symm r6⟩
  · have ha' := hb' a (by rcases ha with q | q | q | q <;> simp only [q, true_or, or_true])
    refine ⟨by omega, ha'.2.1, ha'.2.2.2.1, ?_, ?_, fun i hi => ?_⟩
    · rw [ex1]
      rcases ha with rfl | rfl | rfl | rfl
      · exact Ne.symm n6
      · exact Ne.symm n4
      · exact Ne.symm n9
      · exact Ne.symm n10
    · rw [ex4]
      rcases ha with rfl | rfl | rfl | rfl
      · exact Ne.symm r4
      · exact Ne.symm r2
      · exact Ne.symm r7
      · exact Ne.symm r8
    · obtain ⟨c1, c2, c3, c4⟩ := cell i hi
      have nf := ha'.2.2.2.2.2
      exact ⟨fun q => nf (q ▸ c1), fun q => nf (q ▸ c2), fun q => nf (q ▸ c3), fun q => nf (q ▸ c4)⟩
  · simp only [List.nodup_cons, List.mem_cons, List.not_mem_nil, or_false, not_or, List.nodup_nil, and_true, not_false_eq_true]
    exact ⟨⟨Ne.symm t2, v3, v4⟩, ⟨t5, t6⟩, y1⟩
  · rw [ex1]; exact hb1.2.2.2.1
  · rw [ex4]; exact hb4.2.2.2.1
  · obtain ⟨c1, c2, c3, c4⟩ := cell i hi
    have g1 := hf _ c1
    have g2 := hf _ c2
    have g3 := hf _ c3
    have g4 := hf _ c4
    exact ⟨by omega, by omega, by omega, by omega⟩
  · rw [ex1]
    have := hb1.2.2.2.2.1
    omega
  · rw [ex4]
    have := hb4.2.2.2.2.1
    omega
  · obtain ⟨c1, c2, c3, c4⟩ := cell i hi
    have g1 := hf _ c1
    have g2 := hf _ c2
    have g3 := hf _ c3
    have g4 := hf _ c4
    exact ⟨by omega, by omega, by omega, by omega⟩
end CZ
