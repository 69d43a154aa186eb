/-! THE CLASS'S SEARCH: what other cells leave alone; unification -/
def tE (X : cX) (m : hy_m) (X' : cX) (m' : hy_m) : Prop := ∀ x t, cTm X m x t → cTm X' m' x t
theorem bRs_nb {B B' : bM} {T nb : List Nat} {k P lim : Nat} (hcT : k ≤ T.length) (o3 : ∀ v t, B v = some t → B' v = some t) (n2 : ∀ w, w ∈ nb ↔ (B w = none ∧ B' w ≠ none ∧ w < lim)) (hP : P ≤ lim) : bRs B' (T ++ nb) k P = bRs B T k P := by
  have hdr : (T ++ nb).drop k = T.drop k ++ nb := List.drop_append_of_le_length hcT
  funext v
  unfold bRs
  rw [hdr]
  by_cases c1 : v < P ∧ v ∉ T.drop k
  · rw [if_pos c1]
    cases h : B v with
    | some t =>
      rw [if_pos ⟨c1.1, fun q => by
        rcases List.mem_append.mp q with q | q
        · exact c1.2 q
        · have := ((n2 v).mp q).1
          rw [h] at this
          cases this⟩]
      exact o3 v t h
    | none =>
      by_cases c2 : v ∈ nb
      · rw [if_neg (fun q => q.2 (List.mem_append.mpr (Or.inr c2)))]
      · split
        · cases h' : B' v with
          | none => rfl
          | some t => exact absurd ((n2 v).mpr ⟨h, by rw [h']; simp, by omega⟩) c2
        · rfl
  · rw [if_neg c1, if_neg (fun q => c1 ⟨q.1, fun z => q.2 (List.mem_append.mpr (Or.inl z))⟩)]
section CU
variable {E : qE} {l l' TI TI' : List Nat} {F : Nat → Prop} {T T' : hy_T} {m m' : hy_m} {Z Z' : cZ} {N N' : Nat} {A : qA} {B B' : bM} {s s' : Nat → pE} {FC FC' : List Nat} {X X' : cX} {P P' : Nat} {Q : Int → hy_m → Prop}
theorem cFg_mo (ht : tE X m X' m') (hP : P ≤ P') (hs : ∀ v, SolS s' v → SolS s v) {x : Int} {g : pE} (h : cFg X m P s x g) : cFg X' m' P' s' x g := by
  obtain ⟨t, h1, h2, h3, h4, h5⟩ := h
  exact ⟨t, ht _ _ h1, h2, fun w hw => Nat.lt_of_lt_of_le (h3 w hw) hP, h4, fun v hv => h5 v (hs v hv)⟩
theorem cF1_mo (ht : tE X m X' m') (hP : P ≤ P') (hs : ∀ v, SolS s' v → SolS s v) {f : qF} {c : Nat} (hc : ∀ z, m' c z = m c z) (h : cF1 X m P s f c) : cF1 X' m' P' s' f c := by
  obtain ⟨h1, h2⟩ := h
  refine ⟨by rw [hc]; exact h1, ?_⟩
  cases hf : f.2.2.2 with
  | none =>
    rw [hf] at h2
    dsimp only
    rw [hc, hc]
    exact h2
  | some g =>
    rw [hf] at h2
    dsimp only
    rw [hc, hc]
    exact ⟨fun q => ⟨(h2.1 q).1, cFg_mo ht hP hs (h2.1 q).2⟩, h2.2⟩
theorem cCh_mo (ht : tE X m X' m') (hP : P ≤ P') (hs : ∀ v, SolS s' v → SolS s v) : ∀ (L : List qF) (N : Nat) (x : Int), (∀ j c : Nat, j < N → FC[j]? = some c → FC'[j]? = some c ∧ ∀ z, m' c z = m c z) → cCh FC X m P s N L x → cCh FC' X' m' P' s' N L x
  | [], _, _, _, h => h
  | f :: r, N, x, hf, h => by
    obtain ⟨j, c, h1, h2, h3, h4, h5, h6⟩ := h
    obtain ⟨g1, g2⟩ := hf j c h2 h1
    refine ⟨j, c, g1, h2, h3, cF1_mo ht hP hs g2 h4, by rw [g2]; exact h5, ?_⟩
    rw [g2]
    exact cCh_mo ht hP hs r j _ (fun j' c' q1 q2 => hf j' c' (by omega) q2) h6
theorem cCh_N (hN : N ≤ N') : ∀ (L : List qF) (x : Int), cCh FC X m P s N L x → cCh FC X m P s N' L x
  | [], _, h => h
  | f :: r, x, h => by
    obtain ⟨j, c, h1, h2, h3⟩ := h
    exact ⟨j, c, h1, Nat.lt_of_lt_of_le h2 hN, h3⟩
theorem cCh_len : ∀ (L : List qF) (N : Nat) (x : Int), cCh FC X m P s N L x → L.length ≤ N
  | [], _, _, _ => Nat.zero_le _
  | f :: r, N, x, h => by
    obtain ⟨j, c, h1, h2, h3, h4, h5, h6⟩ := h
    have := cCh_len r j _ h6
    simp only [List.length_cons]
    omega
theorem cCc_mo : ∀ C : List qC, (∀ k cc : Nat, k < C.length → (zC Z)[k]? = some cc → (zC Z')[k]? = some cc ∧ ∀ z, m' cc z = m cc z) → (∀ c ∈ C, (∀ j c' : Nat, j < c.2.2.2.1.2.2 → (zF Z)[j]? = some c' → (zF Z')[j]? = some c' ∧ ∀ z, m' c' z = m c' z) ∧ (zW Z').take (c.2.2.2.1.1 + 1) = (zW Z).take (c.2.2.2.1.1 + 1) ∧ tE (zX Z c.2.2.2.1.1 N) m (zX Z' c.2.2.2.1.1 N') m' ∧ l'.take c.2.2.2.1.1 = l.take c.2.2.2.1.1 ∧ (c.2.2.2.1.2.1 ≤ TI'.length ∧ TI'.take c.2.2.2.1.2.1 = TI.take c.2.2.2.1.2.1) ∧ bRs B' TI' c.2.2.2.1.2.1 (tot E (l.take c.2.2.2.1.1)) = bRs B TI c.2.2.2.1.2.1 (tot E (l.take c.2.2.2.1.1)) ∧ ∀ i n : Nat, xL (zX Z c.2.2.2.1.1 N) i → n < xV (zX Z c.2.2.2.1.1 N) i → bRs B TI c.2.2.2.1.2.1 (tot E (l.take c.2.2.2.1.1)) (xP (zX Z c.2.2.2.1.1 N) i + n) ≠ none → m' (z4 Z') (8 * (i : Int) + (n : Int)) = m (z4 Z) (8 * (i : Int) + (n : Int))) → cCc E Z N m l TI B C → cCc E Z' N' m' l' TI' B' C
  | [], _, _, _ => trivial
  | c :: r, hC, hc, h => by
    obtain ⟨⟨cc, h1, ⟨h2, h3, h4⟩, h5, h6⟩, ⟨h7, h8⟩, h9, h10, h11⟩ := h
    obtain ⟨g1, g2, g3, g4, ⟨g5, g6⟩, g7, g8⟩ := hc c (List.mem_cons_self ..)
    obtain ⟨k1, k2⟩ := hC r.length cc (Nat.lt_succ_self _) h1
    have eL : ∀ i, xL (zX Z' c.2.2.2.1.1 N') i ↔ xL (zX Z c.2.2.2.1.1 N) i := fun i => by
      unfold zX
      rw [g2]
      exact Iff.rfl
    have eV : ∀ i, xV (zX Z' c.2.2.2.1.1 N') i = xV (zX Z c.2.2.2.1.1 N) i := fun i => by
      unfold zX
      rw [g2]
      rfl
    have eP : ∀ i, xP (zX Z' c.2.2.2.1.1 N') i = xP (zX Z c.2.2.2.1.1 N) i := fun i => by
      unfold zX
      rw [g2]
      rfl
    refine ⟨⟨cc, k1, ⟨by rw [k2]; exact h2, by rw [k2]; exact h3, by rw [k2]; exact h4⟩, ?_, ?_⟩, ⟨g5, ?_⟩, ?_, fun i n t q1 q2 q3 => ?_, cCc_mo r (fun k cc q1 q2 => hC k cc (Nat.lt_succ_of_lt q1) q2) (fun c hc' => hc c (List.mem_cons_of_mem _ hc')) h11⟩
    · cases hg : c.1 with
      | none =>
        rw [hg] at h5
        dsimp only
        rw [k2, k2]
        exact h5
      | some g =>
        rw [hg] at h5
        dsimp only
        rw [k2, k2, g4]
        exact ⟨h5.1, cFg_mo g3 (Nat.le_refl _) (fun _ q => q) h5.2⟩
    · rw [k2, g4]
      exact cCh_mo g3 (Nat.le_refl _) (fun _ q => q) _ _ _ g1 h6
    · rw [g6, g4]
      exact h8
    · rw [g4, g7]
      exact h9
    · rw [eL] at q1
      rw [eV] at q2
      rw [eP, g4, g7] at q3
      rw [g4, g8 i n q1 q2 (by rw [q3]; simp)]
      obtain ⟨b1, b2⟩ := h10 i n t q1 q2 q3
      exact ⟨g3 _ _ b1, b2⟩
/-- instances and their variables, in order -/
theorem zX_all (hP : cPr E F T m Z l) (k N : Nat) (hk : k ≤ l.length) : wOl T m F (z1 Z) (zc Z) ((zW Z).take (k + 1)) := wIs_ol (wIs_tk hP.2.2.2.1 k hk)
theorem zX_uPr (hP : cPr E F T m Z l) (N : Nat) : uPr (zX Z l.length N) (zU Z) T m := by
  have hA := zX_all hP l.length N (Nat.le_refl _)
  have hI := wIs_tk hP.2.2.2.1 l.length (Nat.le_refl _)
  obtain ⟨r1, r2, r3, r4, r5, r6, r7, r8, r9, r10⟩ := hP.1
  obtain ⟨s1, s2, s3⟩ := cRo_sep (b4 := 0) (N := N) hP.1 hA
  refine ⟨s1, wX_cW hA r4.1 r4.2 r3.2 r6.1 r6.2, ⟨r7.1, r7.2.1, r7.2.2.1, r7.2.2.2.1, r7.2.2.2.2.1, r7.2.2.2.2.2⟩, wX_Or hA (wIs_or hI), wX_GW hA, wX_Cn hA, r3.1, fun x t h => (wX_small hA h).1, wX_Vr hA, r9.1, r9.2.1, r9.2.2⟩
theorem zX_dm (hP : cPr E F T m Z l) (N : Nat) (v : Nat) : cDm (zX Z l.length N) v ↔ v < tot E l := by
  have hI := wIs_tk hP.2.2.2.1 l.length (Nat.le_refl _)
  rw [List.take_length] at hI
  exact wIs_dm hI v
/-- which instances a choice has -/
theorem zX_lim (hP : cPr E F T m Z l) {k : Nat} (hk : k ≤ l.length) {i n : Nat} (hi : xL (zX Z l.length N) i) (hn : n < xV (zX Z l.length N) i) : (i < k + 2 ↔ xP (zX Z l.length N) i + n < tot E (l.take k)) := by
  have hA := zX_all hP l.length N (Nat.le_refl _)
  have hI := wIs_tk hP.2.2.2.1 l.length (Nat.le_refl _)
  rw [List.take_length] at hI
  obtain ⟨e, he, rfl⟩ := hi
  obtain ⟨-, -, -, -, -, a6, a7, -⟩ := wX_at (c1 := z1 Z) (b4 := z4 Z) (cap := zc Z) (N := N) hA.1 he
  have a6 : xV (zX Z l.length N) e.1 = e.2.2.1 := a6
  have a7 : xP (zX Z l.length N) e.1 = e.2.2.2.1 := a7
  rw [a6] at hn
  rw [a7]
  rcases wIs_at hI he with ⟨-, q1, q2, q3, -⟩ | ⟨j, c, cl, q0, -, q4, q1, q2, q3, -⟩
  · refine ⟨fun _ => ?_, fun _ => by omega⟩
    unfold tot
    omega
  · have h1 := tot_tk (E := E) q0
    rw [nvO_s q4] at h1
    have pre : ∀ a b : Nat, a ≤ b → tot E (l.take a) ≤ tot E (l.take b) := fun a b hab => by
      refine tot_pre ?_
      have eq : l.take a = (l.take b).take a := by rw [List.take_take, Nat.min_eq_left hab]
      rw [eq]
      exact List.take_prefix _ _
    constructor
    · intro h
      have := pre (j + 1) k (by omega)
      omega
    · intro h
      by_cases c : j < k
      · omega
      · have := pre k j (by omega)
        omega
end CU
