/-! HOW MUCH WAITS IN THE SEARCH FOR LOOPS, pure -/
/-- a compound on the path, its tree, and those of its parts that wait -/
abbrev yfr : Type := Int × pE × List Int
def yfl (R : List Int) : List yfr → List Int
  | [] => R
  | q :: ps => q.2.2 ++ yfl R ps
def yfO (C : Int → pE → Prop) (v : Nat → pE) : List yfr → Prop
  | [] => True
  | q :: ps => C q.1 q.2.1 ∧ 1 ≤ eNa q.2.1 ∧ (∀ e ∈ q.2.2, ∀ t, C e t → sz (sb v t) < sz (sb v q.2.1)) ∧ (∀ p ∈ ps, sz (sb v q.2.1) < sz (sb v p.2.1)) ∧ (∀ p ∈ ps, p.2.2.length + 1 ≤ eNa p.2.1) ∧ q.2.2.length ≤ eNa q.2.1 ∧ yfO C v ps
/-- all that waits: along a path, or from the beginning -/
def yfP (C : Int → pE → Prop) (v : Nat → pE) (r : Nat) (S : List Int) : Prop := ∃ (ps : List yfr) (R : List Int), S = yfl R ps ∧ yfO C v ps ∧ R.length ≤ r
section FRS
variable {C : Int → pE → Prop} {v : Nat → pE} {r : Nat} {S : List Int} {x y : Int}
theorem yfO_in : ∀ (ps : List yfr), yfO C v ps → ∀ q ∈ ps, C q.1 q.2.1 ∧ 1 ≤ eNa q.2.1
  | [], _, _, h => by cases h
  | p :: ps, ⟨h1, h2, _, _, _, _, h7⟩, q, h => by
    rcases List.mem_cons.mp h with rfl | h
    · exact ⟨h1, h2⟩
    · exact yfO_in ps h7 q h
theorem yfO_nd (hC : ∀ x t t', C x t → C x t' → t = t') : ∀ (ps : List yfr), yfO C v ps → (ps.map Prod.fst).Nodup
  | [], _ => List.nodup_nil
  | p :: ps, ⟨h1, _, _, h4, _, _, h7⟩ => by
    refine List.nodup_cons.mpr ⟨fun h => ?_, yfO_nd hC ps h7⟩
    obtain ⟨q, hq, e⟩ := List.mem_map.mp h
    have hc := (yfO_in ps h7 q hq).1
    rw [e] at hc
    have := h4 q hq
    rw [hC _ _ _ hc h1] at this
    exact absurd this (Nat.lt_irrefl _)
theorem yfl_len (R : List Int) : ∀ (ps : List yfr), yfO C v ps → (∀ p ∈ ps, p.2.2.length + 1 ≤ eNa p.2.1) → (yfl R ps).length ≤ R.length + (ps.map (fun p => eNa p.2.1 - 1)).sum
  | [], _, _ => Nat.le_refl _
  | p :: ps, ⟨_, _, _, _, h5, _, h7⟩, h => by
    have ih := yfl_len R ps h7 h5
    have h0 := h p (List.mem_cons_self ..)
    show (p.2.2 ++ yfl R ps).length ≤ R.length + (eNa p.2.1 - 1 + (ps.map (fun p => eNa p.2.1 - 1)).sum)
    rw [List.length_append]
    omega
/-- how much waits at most -/
theorem yfP_len {W : Nat} (hC : ∀ x t t', C x t → C x t' → t = t') (hW : ∀ ps : List yfr, (ps.map Prod.fst).Nodup → (∀ q ∈ ps, C q.1 q.2.1 ∧ 1 ≤ eNa q.2.1) → (ps.map (fun p => eNa p.2.1 - 1)).sum ≤ W) (h : yfP C v r S) : S.length ≤ r + W + 1 := by
  obtain ⟨ps, R, rfl, h1, h2⟩ := h
  have hw := hW ps (yfO_nd hC ps h1) (yfO_in ps h1)
  cases ps with
  | nil =>
    show R.length ≤ _
    omega
  | cons p ps =>
    obtain ⟨g1, g2, g3, g4, g5, g6, g7⟩ := h1
    have := yfl_len R ps g7 g5
    have e : ((p :: ps).map (fun p => eNa p.2.1 - 1)).sum = eNa p.2.1 - 1 + (ps.map (fun p => eNa p.2.1 - 1)).sum := by simp
    rw [e] at hw
    show (p.2.2 ++ yfl R ps).length ≤ _
    rw [List.length_append]
    omega
/-- where the top stands -/
theorem yfP_top : ∀ (ps : List yfr) (R : List Int), x :: S = yfl R ps → yfO C v ps → (∃ (c : Int) (t : pE) (ws : List Int) (ps' : List yfr), yfO C v ((c, t, x :: ws) :: ps') ∧ S = ws ++ yfl R ps') ∨ (R = x :: S)
  | [], R, h, _ => Or.inr h.symm
  | (c, t, []) :: ps, R, h, hf => yfP_top ps R h hf.2.2.2.2.2.2
  | (c, t, z :: ws) :: ps, R, h, hf => by
    have h : x :: S = z :: (ws ++ yfl R ps) := h
    injection h with h1 h2
    subst h1
    exact Or.inl ⟨c, t, ws, ps, hf, h2⟩
theorem yfP_drop (h : yfP C v r (x :: S)) : yfP C v r S := by
  obtain ⟨ps, R, h1, h2, h3⟩ := h
  rcases yfP_top ps R h1 h2 with ⟨c, t, ws, ps', g, rfl⟩ | e
  · obtain ⟨g1, g2, g3, g4, g5, g6, g7⟩ := g
    refine ⟨(c, t, ws) :: ps', R, rfl, ⟨g1, g2, fun e he => g3 e (List.mem_cons_of_mem _ he), g4, g5, ?_, g7⟩, h3⟩
    have g6 : ws.length + 1 ≤ eNa t := g6
    show ws.length ≤ eNa t
    omega
  · refine ⟨[], S, rfl, trivial, ?_⟩
    rw [e, List.length_cons] at h3
    omega
theorem yfP_repl {tx : pE} (h : yfP C v r (x :: S)) (hx : C x tx) (hy : ∀ t, C y t → sz (sb v t) = sz (sb v tx)) : yfP C v r (y :: S) := by
  obtain ⟨ps, R, h1, h2, h3⟩ := h
  rcases yfP_top ps R h1 h2 with ⟨c, t, ws, ps', g, rfl⟩ | e
  · obtain ⟨g1, g2, g3, g4, g5, g6, g7⟩ := g
    refine ⟨(c, t, y :: ws) :: ps', R, rfl, ⟨g1, g2, fun e he t' ht' => ?_, g4, g5, g6, g7⟩, h3⟩
    rcases List.mem_cons.mp he with rfl | he
    · rw [hy t' ht']
      exact g3 x (List.mem_cons_self ..) tx hx
    · exact g3 e (List.mem_cons_of_mem _ he) t' ht'
  · refine ⟨[], y :: S, rfl, trivial, ?_⟩
    rw [e, List.length_cons] at h3
    rw [List.length_cons]
    exact h3
theorem yfP_exp {tx : pE} {As : List Int} (h : yfP C v r (x :: S)) (hx : C x tx) (h1 : 1 ≤ eNa tx) (hl : As.length ≤ eNa tx) (ha : ∀ e ∈ As, ∀ t, C e t → sz (sb v t) < sz (sb v tx)) : yfP C v r (As ++ S) := by
  obtain ⟨ps, R, h2, h3, h4⟩ := h
  rcases yfP_top ps R h2 h3 with ⟨c, t, ws, ps', g, rfl⟩ | e
  · obtain ⟨g1, g2, g3, g4, g5, g6, g7⟩ := g
    have lt : sz (sb v tx) < sz (sb v t) := g3 x (List.mem_cons_self ..) tx hx
    have g6 : ws.length + 1 ≤ eNa t := g6
    refine ⟨(x, tx, As) :: (c, t, ws) :: ps', R, rfl, ⟨hx, h1, ha, fun p hp => ?_, fun p hp => ?_, hl, g1, g2, fun e he => g3 e (List.mem_cons_of_mem _ he), g4, g5, (by show ws.length ≤ eNa t; omega), g7⟩, h4⟩
    · rcases List.mem_cons.mp hp with rfl | hp
      · exact lt
      · exact Nat.lt_trans lt (g4 p hp)
    · rcases List.mem_cons.mp hp with rfl | hp
      · exact g6
      · exact g5 p hp
  · refine ⟨[(x, tx, As)], S, rfl, ⟨hx, h1, ha, fun p hp => (by cases hp), fun p hp => (by cases hp), hl, trivial⟩, ?_⟩
    rw [e, List.length_cons] at h4
    omega
end FRS
