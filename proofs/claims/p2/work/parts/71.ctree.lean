/-! TREES IN THE CLASS'S ROWS: kinds, keys, arguments; nodes 0 .. 7 are the variables -/
def cP (kd ks ar : Int → Int) (A : Int → Prop) : pE → Int → Int → Prop
  | .var v, j, n => j = -1 ∧ A n ∧ n = (v : Nat) ∧ v < 8 ∧ kd n = 1
  | .num i, j, n => (j = -1 ∧ A n ∧ 8 ≤ n ∧ kd n = 2 ∧ ks n = i) ∨ (0 ≤ j ∧ i = 0)
  | .mulL k a, j, n => j = -1 ∧ A n ∧ 8 ≤ n ∧ ks n = kC k (eN a) ∧ kd n = (if eN a = 0 then 3 else 4) ∧ eN a ≤ 3 ∧ nmOK k ∧ cP kd ks ar A a 0 n
  | .add a r, j, n => 0 ≤ j ∧ j < 3 ∧ cP kd ks ar A a (-1) (ar (3 * n + j)) ∧ cP kd ks ar A r (j + 1) n
  | _, _, _ => False
theorem cP_mono {kd ks ar : Int → Int} {A B : Int → Prop} (h : ∀ n, A n → B n) : ∀ (t : pE) (j n : Int), cP kd ks ar A t j n → cP kd ks ar B t j n
  | .var v, j, n, hr => ⟨hr.1, h _ hr.2.1, hr.2.2⟩
  | .num i, j, n, hr => by
    rcases hr with hr | hr
    · exact Or.inl ⟨hr.1, h _ hr.2.1, hr.2.2⟩
    · exact Or.inr hr
  | .mulL k a, j, n, hr => ⟨hr.1, h _ hr.2.1, hr.2.2.1, hr.2.2.2.1, hr.2.2.2.2.1, hr.2.2.2.2.2.1, hr.2.2.2.2.2.2.1, cP_mono h a 0 n hr.2.2.2.2.2.2.2⟩
  | .add a r, j, n, hr => ⟨hr.1, hr.2.1, cP_mono h a _ _ hr.2.2.1, cP_mono h r _ _ hr.2.2.2⟩
  | .sub _ _, _, _, hr => hr.elim
  | .neg _, _, _, hr => hr.elim
  | .mulR _ _, _, _, hr => hr.elim
def cEq (kd ks ar kd' ks' ar' : Int → Int) (A : Int → Prop) : Prop := ∀ n, A n → kd' n = kd n ∧ ks' n = ks n ∧ ∀ j : Int, 0 ≤ j → j < 3 → ar' (3 * n + j) = ar (3 * n + j)
theorem cP_eq {kd ks ar kd' ks' ar' : Int → Int} {A : Int → Prop} (h : cEq kd ks ar kd' ks' ar' A) : ∀ (t : pE) (j n : Int), (0 ≤ j → A n) → cP kd ks ar A t j n → cP kd' ks' ar' A t j n
  | .var v, j, n, _, hr => by
    have g := h n hr.2.1
    exact ⟨hr.1, hr.2.1, hr.2.2.1, hr.2.2.2.1, by rw [g.1]; exact hr.2.2.2.2⟩
  | .num i, j, n, _, hr => by
    rcases hr with hr | hr
    · have g := h n hr.2.1
      exact Or.inl ⟨hr.1, hr.2.1, hr.2.2.1, by rw [g.1]; exact hr.2.2.2.1, by rw [g.2.1]; exact hr.2.2.2.2⟩
    · exact Or.inr hr
  | .mulL k a, j, n, _, hr => by
    have g := h n hr.2.1
    exact ⟨hr.1, hr.2.1, hr.2.2.1, by rw [g.2.1]; exact hr.2.2.2.1, by rw [g.1]; exact hr.2.2.2.2.1, hr.2.2.2.2.2.1, hr.2.2.2.2.2.2.1, cP_eq h a 0 n (fun _ => hr.2.1) hr.2.2.2.2.2.2.2⟩
  | .add a r, j, n, hA, hr => by
    have g := h n (hA hr.1)
    refine ⟨hr.1, hr.2.1, ?_, cP_eq h r (j + 1) n (fun _ => hA hr.1) hr.2.2.2⟩
    rw [g.2.2 j hr.1 hr.2.1]
    exact cP_eq h a (-1) _ (fun q => by omega) hr.2.2.1
  | .sub _ _, _, _, _, hr => hr.elim
  | .neg _, _, _, _, hr => hr.elim
  | .mulR _ _, _, _, _, hr => hr.elim
theorem cP_A {kd ks ar : Int → Int} {A : Int → Prop} {t : pE} {n : Int} (h : cP kd ks ar A t (-1) n) : A n := by
  cases t with
  | var v => exact h.2.1
  | num i =>
    rcases h with h | h
    · exact h.2.1
    · exact absurd h.1 (by decide)
  | mulL k a => exact h.2.1
  | add a r => exact absurd h.1 (by decide)
  | sub a r => exact h.elim
  | neg a => exact h.elim
  | mulR a k => exact h.elim
theorem cP_L {kd ks ar : Int → Int} {A : Int → Prop} {n : Int} : ∀ (l : List pE) (j : Nat), j + l.length ≤ 3 → (∀ i (hi : i < l.length), cP kd ks ar A l[i] (-1) (ar (3 * n + ((j + i : Nat) : Int)))) → cP kd ks ar A (eL l) j n
  | [], j, _, _ => Or.inr ⟨by omega, rfl⟩
  | a :: r, j, hj, h => by
    refine ⟨by omega, by simp only [List.length_cons] at hj; omega, ?_, ?_⟩
    · have := h 0 (by simp)
      rw [show ((j + 0 : Nat) : Int) = (j : Int) by omega] at this
      exact this
    · have := cP_L (kd := kd) (ks := ks) (ar := ar) (A := A) (n := n) r (j + 1) (by simp only [List.length_cons] at hj; omega) (fun i hi => by
        have := h (i + 1) (by simp only [List.length_cons]; omega)
        rw [show ((j + (i + 1) : Nat) : Int) = ((j + 1 + i : Nat) : Int) by omega] at this
        exact this)
      rw [show ((j + 1 : Nat) : Int) = (j : Int) + 1 by omega] at this
      exact this
theorem cP_C {kd ks ar : Int → Int} {A : Int → Prop} {n k : Int} {l : List pE} (hA : A n) (h8 : 8 ≤ n) (hk : nmOK k) (hs : ks n = kC k l.length) (hd : kd n = if l.length = 0 then 3 else 4) (hl : l.length ≤ 3) (h : ∀ i (hi : i < l.length), cP kd ks ar A l[i] (-1) (ar (3 * n + (i : Int)))) : cP kd ks ar A (eC k l) (-1) n := by
  refine ⟨rfl, hA, h8, by rw [eN_L]; exact hs, by rw [eN_L]; exact hd, by rw [eN_L]; exact hl, hk, ?_⟩
  exact cP_L l 0 (by omega) (fun i hi => by
    rw [show ((0 + i : Nat) : Int) = (i : Int) by omega]
    exact h i hi)
/-- nodes of the reader that no open compound owns -/
def cA (c : Nat) (O : List Int) (n : Int) : Prop := (0 ≤ n ∧ n < 8) ∨ (8 ≤ n ∧ n < c ∧ n ∉ O)
abbrev cT (m : hy_m) (A : Int → Prop) (t : pE) (n : Int) : Prop := cP (m 5) (m 6) (m 7) A t (-1) n
abbrev cE (m m' : hy_m) (A : Int → Prop) : Prop := cEq (m 5) (m 6) (m 7) (m' 5) (m' 6) (m' 7) A
theorem cT_up {m m' : hy_m} {A B : Int → Prop} {t : pE} {n : Int} (hAB : ∀ n, A n → B n) (hE : cE m m' A) (h : cT m A t n) : cT m' B t n := cP_mono hAB _ _ _ (cP_eq hE _ (-1) _ (fun q => by omega) h)
/-- cells of a list; the last one is spoken of elsewhere -/
def cI (m : hy_m) (A : Int → Prop) : List pE → List Int → Prop
  | [], [_] => True
  | a :: r, c :: d :: cs => m 5 c = 4 ∧ m 6 c = 186 ∧ cT m A a (m 7 (3 * c)) ∧ m 7 (3 * c + 1) = d ∧ cI m A r (d :: cs)
  | _, _ => False
theorem cI_eq {m m' : hy_m} {A B : Int → Prop} (hAB : ∀ n, A n → B n) (hE : cE m m' A) : ∀ (l : List pE) (cs : List Int), (∀ x, x ∈ cs.dropLast → m' 5 x = m 5 x ∧ m' 6 x = m 6 x ∧ m' 7 (3 * x) = m 7 (3 * x) ∧ m' 7 (3 * x + 1) = m 7 (3 * x + 1)) → cI m A l cs → cI m' B l cs
  | [], [_], _, _ => trivial
  | [], [], _, h => h.elim
  | [], _ :: _ :: _, _, h => h.elim
  | _ :: _, [], _, h => h.elim
  | _ :: _, [_], _, h => h.elim
  | a :: r, c :: d :: cs, hc, h => by
    obtain ⟨i1, i2, i3, i4, i5⟩ := h
    have g := hc c (by simp)
    refine ⟨by rw [g.1]; exact i1, by rw [g.2.1]; exact i2, ?_, by rw [g.2.2.2]; exact i4, cI_eq hAB hE r (d :: cs) (fun x hx => hc x (by simp only [List.dropLast_cons_cons]; exact List.mem_cons_of_mem _ hx)) i5⟩
    rw [g.2.2.1]
    exact cT_up hAB hE i3
theorem cI_len {m : hy_m} {A : Int → Prop} : ∀ (l : List pE) (cs : List Int), cI m A l cs → cs.length = l.length + 1
  | [], [_], _ => rfl
  | [], [], h => h.elim
  | [], _ :: _ :: _, h => h.elim
  | _ :: _, [], h => h.elim
  | _ :: _, [_], h => h.elim
  | a :: r, c :: d :: cs, h => by
    have := cI_len r (d :: cs) h.2.2.2.2
    simp only [List.length_cons] at this ⊢
    omega
/-- one more cell behind the last -/
theorem cI_snoc {m m' : hy_m} {A B : Int → Prop} {t : pE} {o d : Int} (hAB : ∀ n, A n → B n) (hE : cE m m' A) : ∀ (l : List pE) (cs : List Int), (∀ x, x ∈ cs.dropLast → m' 5 x = m 5 x ∧ m' 6 x = m 6 x ∧ m' 7 (3 * x) = m 7 (3 * x) ∧ m' 7 (3 * x + 1) = m 7 (3 * x + 1)) → cI m A l cs → cs.getLast? = some o → m' 5 o = 4 → m' 6 o = 186 → cT m' B t (m' 7 (3 * o)) → m' 7 (3 * o + 1) = d → cI m' B (l ++ [t]) (cs ++ [d])
  | [], [x], _, _, hl, h5, h6, h7, h8 => by
    have : x = o := by simpa using hl
    subst this
    exact ⟨h5, h6, h7, h8, trivial⟩
  | [], [], _, h, _, _, _, _, _ => h.elim
  | [], _ :: _ :: _, _, h, _, _, _, _, _ => h.elim
  | _ :: _, [], _, h, _, _, _, _, _ => h.elim
  | _ :: _, [_], _, h, _, _, _, _, _ => h.elim
  | a :: r, c :: e :: cs, hc, h, hl, h5, h6, h7, h8 => by
    obtain ⟨i1, i2, i3, i4, i5⟩ := h
    have g := hc c (by simp)
    refine ⟨by rw [g.1]; exact i1, by rw [g.2.1]; exact i2, ?_, by rw [g.2.2.2]; exact i4, cI_snoc hAB hE r (e :: cs) (fun x hx => hc x (by simp only [List.dropLast_cons_cons]; exact List.mem_cons_of_mem _ hx)) i5 (by rw [List.getLast?_cons_cons] at hl; exact hl) h5 h6 h7 h8⟩
    rw [g.2.2.1]
    exact cT_up hAB hE i3
/-- a list is complete -/
theorem cI_close {m : hy_m} {A B : Int → Prop} {t a : pE} {o : Int} (hAB : ∀ n, A n → B n) : ∀ (l : List pE) (cs : List Int) (h0 : Int), cI m A l cs → (∀ x ∈ cs, B x ∧ 8 ≤ x) → cs.getLast? = some o → m 5 o = 4 → m 6 o = 186 → cT m B a (m 7 (3 * o)) → cT m B t (m 7 (3 * o + 1)) → cs.head? = some h0 → cT m B (eI t (l ++ [a])) h0
  | [], [x], h0, _, hB, hl, h5, h6, h7, h8, hh => by
    have e1 : x = o := by simpa using hl
    have e2 : x = h0 := by simpa using hh
    subst e1
    subst e2
    have hb := hB x (List.mem_cons_self ..)
    show cT m B (eC 2 [a, t]) x
    refine cP_C hb.1 hb.2 (Or.inr (Or.inl rfl)) (by rw [h6, kC_dot]; rfl) (by rw [h5]; rfl) (by show 2 ≤ 3; omega) (fun i hi => ?_)
    match i, hi with
    | 0, _ =>
      rw [show 3 * x + ((0 : Nat) : Int) = 3 * x by omega]
      exact h7
    | 1, _ => exact h8
  | [], [], _, h, _, _, _, _, _, _, _ => h.elim
  | [], _ :: _ :: _, _, h, _, _, _, _, _, _, _ => h.elim
  | _ :: _, [], _, h, _, _, _, _, _, _, _ => h.elim
  | _ :: _, [_], _, h, _, _, _, _, _, _, _ => h.elim
  | b :: r, c :: e :: cs, h0, h, hB, hl, h5, h6, h7, h8, hh => by
    obtain ⟨i1, i2, i3, i4, i5⟩ := h
    have e2 : c = h0 := by simpa using hh
    subst e2
    have ih := cI_close hAB r (e :: cs) e i5 (fun x hx => hB x (List.mem_cons_of_mem _ hx)) (by rw [List.getLast?_cons_cons] at hl; exact hl) h5 h6 h7 h8 rfl
    have hb := hB c (List.mem_cons_self ..)
    show cT m B (eC 2 [b, eI t (r ++ [a])]) c
    refine cP_C hb.1 hb.2 (Or.inr (Or.inl rfl)) (by rw [i2, kC_dot]; rfl) (by rw [i1]; rfl) (by show 2 ≤ 3; omega) (fun i hi => ?_)
    match i, hi with
    | 0, _ =>
      rw [show 3 * c + ((0 : Nat) : Int) = 3 * c by omega]
      exact cP_mono hAB _ _ _ i3
    | 1, _ =>
      show cT m B (eI t (r ++ [a])) (m 7 (3 * c + ((1 : Nat) : Int)))
      rw [show 3 * c + ((1 : Nat) : Int) = 3 * c + 1 by omega, i4]
      exact ih
theorem mem_dl : ∀ (l : List Int) (x : Int), x ∈ l.dropLast → x ∈ l
  | [], _, h => by cases h
  | [_], _, h => by cases h
  | a :: b :: l, x, h => by
    rw [List.dropLast_cons_cons] at h
    rcases List.mem_cons.mp h with rfl | h
    · exact List.mem_cons_self ..
    · exact List.mem_cons_of_mem _ (mem_dl (b :: l) x h)
def xn (x : Option Int) : Nat := if x.isSome then 1 else 0
def pend (m : hy_m) (o : Int) (a : Nat) (x : Option Int) : Prop := ∀ y, x = some y → m 7 (3 * o + (a : Int)) = y
/-- the i-th open compound; x: what was given to it last, and isn't among its parts yet -/
def cF (m : hy_m) (A : Int → Prop) (i : Nat) (f : pF) (cs : List Int) (x : Option Int) : Prop :=
  (f.1 = 0 ∧ f.2.2.length ≤ 2 ∧ nmOK f.2.1 ∧ ∃ b, cs = [b] ∧ m 6 b = kC f.2.1 (f.2.2.length + xn x) ∧ m 5 b = (if f.2.2.length + xn x = 0 then 3 else 4) ∧ (∀ j (hj : j < f.2.2.length), cT m A f.2.2[j] (m 7 (3 * b + (j : Int)))) ∧ pend m b f.2.2.length x ∧ m 12 (i : Int) = b ∧ m 13 (i : Int) = 0) ∨
  (f.1 = 1 ∧ f.2.1 = 2 ∧ cI m A f.2.2 cs ∧ ∃ o, cs.getLast? = some o ∧ m 6 o = kC 2 (0 + xn x) ∧ m 5 o = 4 ∧ pend m o 0 x ∧ m 12 (i : Int) = o ∧ m 13 (i : Int) = 1) ∨
  (f.1 = 2 ∧ f.2.1 = 2 ∧ ∃ l a, f.2.2 = l ++ [a] ∧ cI m A l cs ∧ ∃ o, cs.getLast? = some o ∧ m 6 o = kC 2 (1 + xn x) ∧ m 5 o = 4 ∧ cT m A a (m 7 (3 * o)) ∧ pend m o 1 x ∧ m 12 (i : Int) = o ∧ m 13 (i : Int) = 2)
def sCq (m : hy_m) (A : Int → Prop) (y0 : Int) : List pF → List (List Int) → Option Int → Prop
  | [], [], x => x = some y0
  | f :: r, cs :: css, x => cF m A r.length f cs x ∧ ∃ h, cs.head? = some h ∧ sCq m A y0 r css (some h)
  | _, _, _ => False
/-- the frame at cells that stay as they are -/
theorem cF_eq {m m' : hy_m} {A B : Int → Prop} {i : Nat} {f : pF} {cs : List Int} {x : Option Int} (hAB : ∀ n, A n → B n) (hE : cE m m' A) (hc : cE m m' (fun n => n ∈ cs)) (h2 : m' 12 (i : Int) = m 12 (i : Int)) (h3 : m' 13 (i : Int) = m 13 (i : Int)) (h : cF m A i f cs x) : cF m' B i f cs x := by
  have cells : ∀ y ∈ cs, m' 5 y = m 5 y ∧ m' 6 y = m 6 y ∧ m' 7 (3 * y) = m 7 (3 * y) ∧ m' 7 (3 * y + 1) = m 7 (3 * y + 1) := by
    intro y hy
    have g := hc y hy
    have g0 := g.2.2 0 (by omega) (by omega)
    have g1 := g.2.2 1 (by omega) (by omega)
    rw [show 3 * y + 0 = 3 * y by omega] at g0
    exact ⟨g.1, g.2.1, g0, g1⟩
  rcases h with ⟨a1, a2, a3, b, rfl, a4, a5, a6, a7, a8, a9⟩ | ⟨a1, a2, a3, o, a4, a5, a6, a7, a8, a9⟩ | ⟨a1, a2, l, a, a3, a4, o, a5, a6, a7, a8, a9, a10, a11⟩
  · have g := hc b (List.mem_cons_self ..)
    refine Or.inl ⟨a1, a2, a3, b, rfl, by rw [g.2.1]; exact a4, by rw [g.1]; exact a5, fun j hj => ?_, fun y hy => ?_, by rw [h2]; exact a8, by rw [h3]; exact a9⟩
    · rw [g.2.2 (j : Int) (by omega) (by omega)]
      exact cT_up hAB hE (a6 j hj)
    · rw [g.2.2 (f.2.2.length : Int) (by omega) (by omega)]
      exact a7 y hy
  · have g := hc o (mem_last a4)
    refine Or.inr (Or.inl ⟨a1, a2, cI_eq hAB hE _ _ (fun y hy => cells y (mem_dl _ _ hy)) a3, o, a4, by rw [g.2.1]; exact a5, by rw [g.1]; exact a6, fun y hy => ?_, by rw [h2]; exact a8, by rw [h3]; exact a9⟩)
    rw [g.2.2 ((0 : Nat) : Int) (by omega) (by omega)]
    exact a7 y hy
  · have g := hc o (mem_last a5)
    refine Or.inr (Or.inr ⟨a1, a2, l, a, a3, cI_eq hAB hE _ _ (fun y hy => cells y (mem_dl _ _ hy)) a4, o, a5, by rw [g.2.1]; exact a6, by rw [g.1]; exact a7, ?_, fun y hy => ?_, by rw [h2]; exact a10, by rw [h3]; exact a11⟩)
    · rw [(cells o (mem_last a5)).2.2.1]
      exact cT_up hAB hE a8
    · rw [g.2.2 ((1 : Nat) : Int) (by omega) (by omega)]
      exact a9 y hy
theorem sC_eq {m m' : hy_m} {A B : Int → Prop} {y0 : Int} (hAB : ∀ n, A n → B n) (hE : cE m m' A) : ∀ (stk : List pF) (css : List (List Int)) (x : Option Int), cE m m' (fun n => n ∈ css.flatten) → (∀ i : Nat, i < stk.length → m' 12 (i : Int) = m 12 (i : Int) ∧ m' 13 (i : Int) = m 13 (i : Int)) → sCq m A y0 stk css x → sCq m' B y0 stk css x
  | [], [], _, _, _, h => h
  | [], _ :: _, _, _, _, h => h.elim
  | _ :: _, [], _, _, _, h => h.elim
  | f :: r, cs :: css, x, hc, hi, h => by
    obtain ⟨h1, h0, h2, h3⟩ := h
    have g := hi r.length (by simp)
    refine ⟨cF_eq hAB hE (fun n hn => hc n ?_) g.1 g.2 h1, h0, h2, sC_eq hAB hE r css _ (fun n hn => hc n ?_) (fun i hir => hi i (by simp only [List.length_cons]; omega)) h3⟩
    · rw [List.flatten_cons]
      exact List.mem_append_left _ hn
    · rw [List.flatten_cons]
      exact List.mem_append_right _ hn
/-- nodes, open compounds and complete trees -/
def cN (m : hy_m) (y0 : Int) (stk : List pF) (css : List (List Int)) (x : Option Int) (c : Nat) (K : List (pE × Int)) : Prop := (∀ i : Int, 0 ≤ i → i < 8 → m 5 i = 1) ∧ (css.flatten.Nodup ∧ ∀ n ∈ css.flatten, 8 ≤ n ∧ n < c) ∧ sCq m (cA c css.flatten) y0 stk css x ∧ (∀ q ∈ K, cT m (cA c css.flatten) q.1 q.2) ∧ 8 ≤ c
theorem cN_fr {m m' : hy_m} {y0 : Int} {stk : List pF} {css : List (List Int)} {x : Option Int} {c : Nat} {K : List (pE × Int)} (h : cN m y0 stk css x c K) (hf : ∀ (a : Nat) (e : Int), a = 5 ∨ a = 6 ∨ a = 7 ∨ a = 12 ∨ a = 13 → m' a e = m a e) : cN m' y0 stk css x c K := by
  have hE : ∀ A : Int → Prop, cE m m' A := fun A n _ => ⟨hf _ _ (by omega), hf _ _ (by omega), fun j _ _ => hf _ _ (by omega)⟩
  exact ⟨fun i h1 h2 => by rw [hf _ _ (by omega)]; exact h.1 i h1 h2, h.2.1, sC_eq (fun n hn => hn) (hE _) stk css x (hE _) (fun i hi => ⟨hf _ _ (by omega), hf _ _ (by omega)⟩) h.2.2.1, fun q hq => cT_up (fun n hn => hn) (hE _) (h.2.2.2.1 q hq), h.2.2.2.2⟩
