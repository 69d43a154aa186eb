/-! THE MODEL'S PARSER: what its rows show of the abstract state -/
/-- nodes of a slot that no open compound owns -/
def nA (sl c : Nat) (O : List Int) (n : Int) : Prop := 128 * (sl : Int) ≤ n ∧ n < 128 * (sl : Int) + c ∧ n ∉ O
/-- the i-th open compound, and the nodes that it owns -/
def fR (m : hy_m) (A : Int → Prop) (i : Nat) (f : pF) (cs : List Int) : Prop :=
  (f.1 = 0 ∧ m 88 (i : Int) = 0 ∧ f.2.2.length ≤ 2 ∧ ∃ b, cs = [b] ∧ m 89 (i : Int) = b ∧ m 77 b = f.2.1 ∧ m 78 b = f.2.2.length ∧ m 76 b = (if f.2.2.length = 0 then 3 else 4) ∧ ∀ j (hj : j < f.2.2.length), rP m A f.2.2[j] (-1) (m 79 (3 * b + (j : Int)))) ∨
  ((f.1 = 1 ∨ (f.1 = 2 ∧ f.2.2 ≠ [])) ∧ m 88 (i : Int) = (f.1 : Nat) ∧ f.2.1 = 2 ∧ rI m A f.2.2 cs ∧ (cs = [] → m 90 (i : Int) = -9) ∧ (∀ c, cs.head? = some c → m 89 (i : Int) = c) ∧ ∀ c, cs.getLast? = some c → m 90 (i : Int) = c)
def sR (m : hy_m) (A : Int → Prop) : List pF → List (List Int) → Prop
  | [], [] => True
  | f :: r, cs :: css => fR m A r.length f cs ∧ sR m A r css
  | _, _ => False
theorem rI_eq {m m' : hy_m} {A B : Int → Prop} (hAB : ∀ n, A n → B n) (hE : rEq m m' A) : ∀ (l : List pE) (cs : List Int), rEq m m' (fun n => n ∈ cs) → rI m A l cs → rI m' B l cs
  | [], [], _, _ => trivial
  | [], _ :: _, _, h => h.elim
  | _ :: _, [], _, h => h.elim
  | a :: r, c :: cs, hc, h => by
    obtain ⟨i1, i2, i3, i4, i5⟩ := h
    have g := hc c (List.mem_cons_self ..)
    have g0 := g.2.2.2 0 (by omega) (by omega)
    have g1 := g.2.2.2 1 (by omega) (by omega)
    rw [show 3 * c + 0 = 3 * c by omega] at g0
    refine ⟨by rw [g.1]; exact i1, by rw [g.2.1]; exact i2, ?_, ?_, rI_eq hAB hE r cs (fun n hn => hc n (List.mem_cons_of_mem _ hn)) i5⟩
    · rw [g0]
      exact rP_mono hAB a _ _ (rP_eq hE a (-1) _ (fun q => by omega) i3)
    · cases cs with
      | nil =>
        show m' 78 c = 1
        rw [g.2.2.1]
        exact i4
      | cons d cs =>
        show m' 78 c = 2 ∧ m' 79 (3 * c + 1) = d
        rw [g.2.2.1, g1]
        exact i4
theorem fR_eq {m m' : hy_m} {A B : Int → Prop} {i : Nat} {f : pF} {cs : List Int} (hAB : ∀ n, A n → B n) (hE : rEq m m' A) (hc : rEq m m' (fun n => n ∈ cs)) (h8 : m' 88 (i : Int) = m 88 (i : Int)) (h9 : m' 89 (i : Int) = m 89 (i : Int)) (h0 : m' 90 (i : Int) = m 90 (i : Int)) (h : fR m A i f cs) : fR m' B i f cs := by
  rcases h with ⟨a1, a2, a3, b, rfl, a4, a5, a6, a7, a8⟩ | ⟨a1, a2, a3, a4, a5, a6, a7⟩
  · have g := hc b (List.mem_cons_self ..)
    refine Or.inl ⟨a1, by rw [h8]; exact a2, a3, b, rfl, by rw [h9]; exact a4, by rw [g.2.1]; exact a5, by rw [g.2.2.1]; exact a6, by rw [g.1]; exact a7, fun j hj => ?_⟩
    rw [g.2.2.2 (j : Int) (by omega) (by omega)]
    exact rP_mono hAB _ _ _ (rP_eq hE _ (-1) _ (fun q => by omega) (a8 j hj))
  · exact Or.inr ⟨a1, by rw [h8]; exact a2, a3, rI_eq hAB hE _ _ hc a4, fun q => by rw [h0]; exact a5 q, fun c q => by rw [h9]; exact a6 c q, fun c q => by rw [h0]; exact a7 c q⟩
theorem sR_eq {m m' : hy_m} {A B : Int → Prop} (hAB : ∀ n, A n → B n) (hE : rEq m m' A) : ∀ (stk : List pF) (css : List (List Int)), rEq m m' (fun n => n ∈ css.flatten) → (∀ i : Nat, i < stk.length → m' 88 (i : Int) = m 88 (i : Int) ∧ m' 89 (i : Int) = m 89 (i : Int) ∧ m' 90 (i : Int) = m 90 (i : Int)) → sR m A stk css → sR m' B stk css
  | [], [], _, _, _ => trivial
  | [], _ :: _, _, _, h => h.elim
  | _ :: _, [], _, _, h => h.elim
  | f :: r, cs :: css, hc, hi, h => by
    have g := hi r.length (by simp)
    refine ⟨fR_eq hAB hE (fun n hn => hc n ?_) g.1 g.2.1 g.2.2 h.1, sR_eq hAB hE r css (fun n hn => hc n ?_) (fun i hir => hi i (by simp only [List.length_cons]; omega)) h.2⟩
    · rw [List.flatten_cons]
      exact List.mem_append_left _ hn
    · rw [List.flatten_cons]
      exact List.mem_append_right _ hn
theorem sR_len {m : hy_m} {A : Int → Prop} : ∀ (stk : List pF) (css : List (List Int)), sR m A stk css → css.length = stk.length
  | [], [], _ => rfl
  | [], _ :: _, h => h.elim
  | _ :: _, [], h => h.elim
  | f :: r, cs :: css, h => by
    show css.length + 1 = r.length + 1
    rw [sR_len r css h.2]
def fCn : List pF → Nat
  | [] => 0
  | f :: r => (if f.1 = 1 then 1 else 0) + fCn r
/-- the rows of the model show: names vs, open compounds stk, complete trees K (with their nodes), the present part at p -/
def mS (m : hy_m) (tx : List Int) (sl c : Nat) (vs : List Int) (stk : List pF) (css : List (List Int)) (K : List (pE × Int)) (p : Nat) : Prop :=
  mTx m tx ∧ mCu m tx p ∧ mVs m vs ∧ (m 74 18 = -9 ∧ m 74 19 = sl ∧ sl < 28 ∧ m 80 (sl : Int) = c ∧ m 74 25 = stk.length) ∧ (css.flatten.Nodup ∧ ∀ n ∈ css.flatten, 128 * (sl : Int) ≤ n ∧ n < 128 * (sl : Int) + c) ∧ sR m (nA sl c css.flatten) stk css ∧ ∀ q ∈ K, rP m (nA sl c css.flatten) q.1 (-1) q.2
/-- what the parser leaves alone -/
def pFr (m m' : hy_m) (sl : Nat) : Prop := ∀ a e, ¬ (a = 74 ∧ (e = 14 ∨ e = 15 ∨ e = 16 ∨ e = 17 ∨ e = 18 ∨ e = 21 ∨ e = 25)) → ¬ ((a = 76 ∨ a = 77 ∨ a = 78) ∧ 128 * (sl : Int) ≤ e ∧ e < 128 * (sl : Int) + 128) → ¬ (a = 79 ∧ 384 * (sl : Int) ≤ e ∧ e < 384 * (sl : Int) + 384) → ¬ (a = 80 ∧ e = sl) → a ≠ 87 → a ≠ 88 → a ≠ 89 → a ≠ 90 → m' a e = m a e
theorem pFr.trans {m m' m'' : hy_m} {sl : Nat} (h : pFr m m' sl) (h' : pFr m' m'' sl) : pFr m m'' sl := fun a e h1 h2 h3 h4 h5 h6 h7 h8 => (h' a e h1 h2 h3 h4 h5 h6 h7 h8).trans (h a e h1 h2 h3 h4 h5 h6 h7 h8)
theorem pFr.refl (m : hy_m) (sl : Nat) : pFr m m sl := fun _ _ _ _ _ _ _ _ _ _ => rfl
section MS
variable {m m' : hy_m} {tx : List Int} {sl c : Nat} {vs : List Int} {stk : List pF} {css : List (List Int)} {K : List (pE × Int)} {p p' : Nat}
/-- trees and open compounds, when nodes of the slot below c stay as they are -/
theorem mS_up (h : mS m tx sl c vs stk css K p) {B : Int → Prop} (hB : ∀ n, nA sl c css.flatten n → B n) (hE : rEq m m' (fun n => 128 * (sl : Int) ≤ n ∧ n < 128 * (sl : Int) + c)) (hi : ∀ i : Nat, i < stk.length → m' 88 (i : Int) = m 88 (i : Int) ∧ m' 89 (i : Int) = m 89 (i : Int) ∧ m' 90 (i : Int) = m 90 (i : Int)) : sR m' B stk css ∧ ∀ q ∈ K, rP m' B q.1 (-1) q.2 := by
  obtain ⟨-, -, -, -, ⟨-, h5⟩, h6, h7⟩ := h
  have hEA : rEq m m' (nA sl c css.flatten) := fun n hn => hE n ⟨hn.1, hn.2.1⟩
  exact ⟨sR_eq hB hEA stk css (fun n hn => hE n (h5 n hn)) hi h6, fun q hq => rP_mono hB _ _ _ (rP_eq hEA _ (-1) _ (fun z => by omega) (h7 q hq))⟩
theorem mS_next (h : mS m tx sl c vs stk css K p) (h1 : mCu m' tx p') (h2 : mTx m' tx) (hf : ∀ a e, ¬ (a = 74 ∧ (e = 14 ∨ e = 15 ∨ e = 16 ∨ e = 17)) → m' a e = m a e) : mS m' tx sl c vs stk css K p' ∧ pFr m m' sl := by
  have hu := mS_up (m' := m') h (B := nA sl c css.flatten) (fun n hn => hn) (fun n _ => ⟨hf _ _ (by omega), hf _ _ (by omega), hf _ _ (by omega), fun j _ _ => hf _ _ (by omega)⟩) (fun i _ => ⟨hf _ _ (by omega), hf _ _ (by omega), hf _ _ (by omega)⟩)
  obtain ⟨-, -, h3, h4, h5, -, -⟩ := h
  refine ⟨⟨h2, h1, ⟨?_, h3.2.1, fun i hi => ?_⟩, ⟨?_, ?_, h4.2.2.1, ?_, ?_⟩, h5, hu.1, hu.2⟩, fun a e h1 _ _ _ _ _ _ _ => hf a e (by omega)⟩
  · rw [hf _ _ (by omega)]; exact h3.1
  · rw [hf _ _ (by omega)]; exact h3.2.2 i hi
  · rw [hf _ _ (by omega)]; exact h4.1
  · rw [hf _ _ (by omega)]; exact h4.2.1
  · rw [hf _ _ (by omega)]; exact h4.2.2.2.1
  · rw [hf _ _ (by omega)]; exact h4.2.2.2.2
/-- the rows behind a new node -/
theorem mNd_r (m : hy_m) (sl c : Nat) (k w : Int) (a : Nat) (e : Int) (h80 : ¬ (a = 80 ∧ e = sl)) (hn : ¬ ((a = 76 ∨ a = 77 ∨ a = 78) ∧ e = 128 * (sl : Int) + c)) : mNd m sl c k w a e = m a e := by
  unfold mNd hy_u
  rw [if_neg (by omega), if_neg (by omega), if_neg (by omega), if_neg (by omega)]
theorem mNd_v (m : hy_m) (sl c : Nat) (k w : Int) : mNd m sl c k w 76 (128 * (sl : Int) + c) = k ∧ mNd m sl c k w 77 (128 * (sl : Int) + c) = w ∧ mNd m sl c k w 78 (128 * (sl : Int) + c) = 0 ∧ mNd m sl c k w 80 (sl : Int) = (c : Int) + 1 := by
  unfold mNd
  refine ⟨?_, ?_, ?_, ?_⟩
  · rw [hy_ua (by decide), hy_ua (by decide), hy_us]
  · rw [hy_ua (by decide), hy_us]
  · rw [hy_us]
  · rw [hy_ua (by decide), hy_ua (by decide), hy_ua (by decide), hy_us]
theorem mS_node (k w : Int) (h : mS m tx sl c vs stk css K p) (hc : c < 128) : mS (mNd m sl c k w) tx sl (c + 1) vs stk css K p ∧ pFr m (mNd m sl c k w) sl ∧ nA sl (c + 1) css.flatten (128 * (sl : Int) + c) := by
  have hr := mNd_r m sl c k w
  have hv := mNd_v m sl c k w
  have hu := mS_up (m' := mNd m sl c k w) h (B := nA sl (c + 1) css.flatten) (fun n hn => ⟨hn.1, by have := hn.2.1; omega, hn.2.2⟩) (fun n hn => ⟨hr _ _ (by omega) (by omega), hr _ _ (by omega) (by omega), hr _ _ (by omega) (by omega), fun j _ _ => hr _ _ (by omega) (by omega)⟩) (fun i _ => ⟨hr _ _ (by omega) (by omega), hr _ _ (by omega) (by omega), hr _ _ (by omega) (by omega)⟩)
  obtain ⟨h1, h2, h3, h4, h5, -, -⟩ := h
  refine ⟨⟨⟨?_, h1.2.1, fun i hi => ?_, h1.2.2.2⟩, ⟨h2.1, ?_, ?_, ?_, fun z => ?_, fun z => ?_⟩, ⟨?_, h3.2.1, fun i hi => ?_⟩, ⟨?_, ?_, h4.2.2.1, ?_, ?_⟩, ⟨h5.1, fun n hn => ⟨(h5.2 n hn).1, by have := (h5.2 n hn).2; omega⟩⟩, hu.1, hu.2⟩, fun a e q1 q2 q3 q4 _ _ _ _ => hr a e q4 (fun z => q2 ⟨z.1, by omega, by omega⟩), ⟨by omega, by omega, fun hm => ?_⟩⟩
  · rw [hr _ _ (by omega) (by omega)]; exact h1.1
  · rw [hr _ _ (by omega) (by omega)]; exact h1.2.2.1 i hi
  · rw [hr _ _ (by omega) (by omega)]; exact h2.2.1
  · rw [hr _ _ (by omega) (by omega)]; exact h2.2.2.1
  · rw [hr _ _ (by omega) (by omega)]; exact h2.2.2.2.1
  · rw [hr _ _ (by omega) (by omega)]; exact h2.2.2.2.2.1 z
  · rw [hr _ _ (by omega) (by omega)]; exact h2.2.2.2.2.2 z
  · rw [hr _ _ (by omega) (by omega)]; exact h3.1
  · rw [hr _ _ (by omega) (by omega)]; exact h3.2.2 i hi
  · rw [hr _ _ (by omega) (by omega)]; exact h4.1
  · rw [hr _ _ (by omega) (by omega)]; exact h4.2.1
  · rw [hv.2.2.2]; omega
  · rw [hr _ _ (by omega) (by omega)]; exact h4.2.2.2.2
  · have := (h5.2 _ hm).2
    omega
end MS
