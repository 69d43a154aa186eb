/-! BINDINGS AND THEIR SOLUTIONS, pure -/
def sb (s : Nat → pE) : pE → pE
  | .var x => s x
  | .mulL k a => .mulL k (sb s a)
  | .add a r => .add (sb s a) (sb s r)
  | t => t
def sz : pE → Nat
  | .mulL _ a => 1 + sz a
  | .add a r => 1 + sz a + sz r
  | _ => 1
theorem sz_pos : ∀ t : pE, 1 ≤ sz t
  | .var _ => Nat.le_refl _
  | .num _ => Nat.le_refl _
  | .mulL _ a => by
    show 1 ≤ 1 + sz a
    omega
  | .add a r => by
    show 1 ≤ 1 + sz a + sz r
    omega
  | .sub _ _ => Nat.le_refl _
  | .neg _ => Nat.le_refl _
  | .mulR _ _ => Nat.le_refl _
/-- a variable occurs -/
def vIn (x : Nat) : pE → Prop
  | .var y => y = x
  | .mulL _ a => vIn x a
  | .add a r => vIn x a ∨ vIn x r
  | _ => False
theorem sb_congr {s s' : Nat → pE} : ∀ t : pE, (∀ x, vIn x t → s x = s' x) → sb s t = sb s' t
  | .var x, h => h x rfl
  | .num _, _ => rfl
  | .mulL k a, h => by
    show (.mulL k (sb s a) : pE) = .mulL k (sb s' a)
    rw [sb_congr a h]
  | .add a r, h => by
    show (.add (sb s a) (sb s r) : pE) = .add (sb s' a) (sb s' r)
    rw [sb_congr a (fun x hx => h x (Or.inl hx)), sb_congr r (fun x hx => h x (Or.inr hx))]
  | .sub _ _, _ => rfl
  | .neg _, _ => rfl
  | .mulR _ _, _ => rfl
theorem sb_comp (s s' : Nat → pE) : ∀ t : pE, sb s (sb s' t) = sb (fun x => sb s (s' x)) t
  | .var x => rfl
  | .num _ => rfl
  | .mulL k a => by
    show (.mulL k (sb s (sb s' a)) : pE) = .mulL k (sb _ a)
    rw [sb_comp s s' a]
  | .add a r => by
    show (.add (sb s (sb s' a)) (sb s (sb s' r)) : pE) = .add (sb _ a) (sb _ r)
    rw [sb_comp s s' a, sb_comp s s' r]
  | .sub _ _ => rfl
  | .neg _ => rfl
  | .mulR _ _ => rfl
theorem sb_var : ∀ t : pE, sb (fun x => .var x) t = t
  | .var x => rfl
  | .num _ => rfl
  | .mulL k a => by
    show (.mulL k (sb _ a) : pE) = _
    rw [sb_var a]
  | .add a r => by
    show (.add (sb _ a) (sb _ r) : pE) = _
    rw [sb_var a, sb_var r]
  | .sub _ _ => rfl
  | .neg _ => rfl
  | .mulR _ _ => rfl
/-- where the substitution does nothing to a tree, it does nothing to its variables -/
theorem sb_fix {s : Nat → pE} : ∀ t : pE, sb s t = t → ∀ x, vIn x t → s x = .var x
  | .var y, h, x, hx => by
    have hx : y = x := hx
    subst hx
    exact h
  | .num _, _, _, hx => hx.elim
  | .mulL k a, h, x, hx => by
    have h : (.mulL k (sb s a) : pE) = .mulL k a := h
    injection h with _ h
    exact sb_fix a h x hx
  | .add a r, h, x, hx => by
    have h : (.add (sb s a) (sb s r) : pE) = .add a r := h
    injection h with h1 h2
    rcases hx with hx | hx
    · exact sb_fix a h1 x hx
    · exact sb_fix r h2 x hx
  | .sub _ _, _, _, hx => hx.elim
  | .neg _, _, _, hx => hx.elim
  | .mulR _ _, _, _, hx => hx.elim
/-- a variable inside of a tree is no larger than the tree -/
theorem sz_in {s : Nat → pE} : ∀ (t : pE) (x : Nat), vIn x t → sz (s x) ≤ sz (sb s t)
  | .var y, x, hx => by
    have hx : y = x := hx
    subst hx
    exact Nat.le_refl _
  | .num _, _, hx => hx.elim
  | .mulL k a, x, hx => by
    have := sz_in (s := s) a x hx
    show _ ≤ 1 + sz (sb s a)
    omega
  | .add a r, x, hx => by
    show _ ≤ 1 + sz (sb s a) + sz (sb s r)
    rcases hx with hx | hx
    · have := sz_in (s := s) a x hx
      omega
    · have := sz_in (s := s) r x hx
      omega
  | .sub _ _, _, hx => hx.elim
  | .neg _, _, hx => hx.elim
  | .mulR _ _, _, hx => hx.elim
theorem sz_in2 {s : Nat → pE} {t : pE} {x : Nat} (hx : vIn x t) (hn : ∀ y, t ≠ .var y) : sz (s x) < sz (sb s t) := by
  cases t with
  | var y => exact absurd rfl (hn y)
  | mulL k a =>
    have := sz_in (s := s) a x hx
    show _ < 1 + sz (sb s a)
    omega
  | add a r =>
    have h1 : vIn x (.add a r) → sz (s x) ≤ sz (sb s a) ∨ sz (s x) ≤ sz (sb s r) := fun hx => by
      rcases hx with hx | hx
      · exact Or.inl (sz_in a x hx)
      · exact Or.inr (sz_in r x hx)
    show _ < 1 + sz (sb s a) + sz (sb s r)
    rcases h1 hx with h | h <;> omega
  | num i => exact hx.elim
  | sub a r => exact hx.elim
  | neg a => exact hx.elim
  | mulR a k => exact hx.elim
/-- bindings: of each variable, the tree that it is bound to -/
abbrev bM : Type := Nat → Option pE
/-- s is what the bindings come to; a variable is bound to earlier variables only -/
def Res (B : bM) (s : Nat → pE) : Prop := ∀ x, (B x = none → s x = .var x) ∧ ∀ t, B x = some t → s x = sb s t ∧ ∀ y : Nat, t = .var y → y < x
def Sol (B : bM) (v : Nat → pE) : Prop := ∀ x t, B x = some t → v x = sb v t
theorem Res.sol {B : bM} {s : Nat → pE} (h : Res B s) : Sol B s := fun x t e => ((h x).2 t e).1
/-- induction along bindings -/
theorem Res.ind {B : bM} {s : Nat → pE} (h : Res B s) {P : Nat → Prop} (hs : ∀ x, (∀ t, B x = some t → ∀ y, vIn y t → P y) → P x) : ∀ x, P x := by
  have key : ∀ (n k : Nat) (x : Nat), sz (s x) ≤ n → x ≤ k → P x := by
    intro n
    induction n with
    | zero => intro k x hx; have := sz_pos (s x); omega
    | succ n ihn =>
      intro k
      induction k with
      | zero =>
        intro x hx hk
        refine hs x (fun t e y hy => ?_)
        obtain ⟨e1, e2⟩ := (h x).2 t e
        by_cases hv : ∃ z : Nat, t = .var z
        · obtain ⟨z, rfl⟩ := hv
          have := e2 z rfl
          omega
        · have := sz_in2 (s := s) hy (fun z e => hv ⟨z, e⟩)
          rw [← e1] at this
          exact ihn y y (by omega) (Nat.le_refl _)
      | succ k ihk =>
        intro x hx hk
        refine hs x (fun t e y hy => ?_)
        obtain ⟨e1, e2⟩ := (h x).2 t e
        by_cases hv : ∃ z : Nat, t = .var z
        · obtain ⟨z, rfl⟩ := hv
          have hz := e2 z rfl
          have hy : z = y := hy
          subst hy
          have e1 : s x = s z := e1
          exact ihk z (by rw [← e1]; exact hx) (by omega)
        · have := sz_in2 (s := s) hy (fun z e => hv ⟨z, e⟩)
          rw [← e1] at this
          exact ihn y y (by omega) (Nat.le_refl _)
  exact fun x => key (sz (s x)) x x (Nat.le_refl _) (Nat.le_refl _)
/-- a solution of the bindings goes through s -/
theorem Res.thru {B : bM} {s v : Nat → pE} (h : Res B s) (hv : Sol B v) : ∀ x, v x = sb v (s x) := by
  refine h.ind (fun x ih => ?_)
  cases e : B x with
  | none =>
    rw [(h x).1 e]
    rfl
  | some t =>
    obtain ⟨e1, -⟩ := (h x).2 t e
    rw [e1, hv x t e, sb_comp]
    exact sb_congr t (fun y hy => ih t e y hy)
theorem Res.thruT {B : bM} {s v : Nat → pE} (h : Res B s) (hv : Sol B v) (t : pE) : sb v (sb s t) = sb v t := by
  rw [sb_comp]
  exact sb_congr t (fun y _ => (h.thru hv y).symm)
theorem Res.idem {B : bM} {s : Nat → pE} (h : Res B s) (x : Nat) : sb s (s x) = s x := (h.thru h.sol x).symm
theorem Res.low {B : bM} {s : Nat → pE} (h : Res B s) : ∀ x y : Nat, s x = .var y → y ≤ x := by
  refine h.ind (P := fun x => ∀ y : Nat, s x = .var y → y ≤ x) (fun x ih y hy => ?_)
  cases e : B x with
  | none =>
    rw [(h x).1 e] at hy
    injection hy with hy
    exact Nat.le_of_eq hy.symm
  | some t =>
    obtain ⟨e1, e2⟩ := (h x).2 t e
    rw [e1] at hy
    cases t with
    | var z =>
      exact Nat.le_of_lt (Nat.lt_of_le_of_lt (ih _ e z rfl y hy) (e2 z rfl))
    | num i => cases hy
    | mulL k a => cases hy
    | add a r => cases hy
    | sub a r => cases hy
    | neg a => cases hy
    | mulR a k => cases hy
theorem Res.free {B : bM} {s : Nat → pE} (h : Res B s) (x : Nat) : B x = none ↔ s x = .var x := by
  refine ⟨(h x).1, fun hx => ?_⟩
  cases e : B x with
  | none => rfl
  | some t =>
    exfalso
    obtain ⟨e1, e2⟩ := (h x).2 t e
    rw [e1] at hx
    cases t with
    | var z =>
      exact Nat.lt_irrefl _ (Nat.lt_of_lt_of_le (e2 z rfl) (h.low z x hx))
    | num i => cases hx
    | mulL k a => cases hx
    | add a r => cases hx
    | sub a r => cases hx
    | neg a => cases hx
    | mulR a k => cases hx
/-- what the bindings come to is free of bound variables -/
theorem Res.inFree {B : bM} {s : Nat → pE} (h : Res B s) {t : pE} {x : Nat} (hx : vIn x (sb s t)) : B x = none := by
  refine (h.free x).mpr (sb_fix (sb s t) ?_ x hx)
  exact h.thruT h.sol t
/-- one result -/
theorem Res.one {B B' : bM} {s s' : Nat → pE} (h : Res B s) (h' : Res B' s') (hs : ∀ v, Sol B v ↔ Sol B' v) : s = s' := by
  have t1 : ∀ x, s x = sb s (s' x) := h'.thru ((hs s).mp h.sol)
  have t2 : ∀ x, s' x = sb s' (s x) := h.thru ((hs s').mpr h'.sol)
  have free : ∀ x, B' x = none → s x = .var x := by
    intro x hx
    have e := t2 x
    rw [(h' x).1 hx] at e
    cases hsx : s x with
    | var y =>
      rw [hsx] at e
      have e : (.var x : pE) = s' y := e
      have : x = y := Nat.le_antisymm (h'.low y x e.symm) (h.low x y hsx)
      rw [this]
    | num i => rw [hsx] at e; cases e
    | mulL k a => rw [hsx] at e; cases e
    | add a r => rw [hsx] at e; cases e
    | sub a r => rw [hsx] at e; cases e
    | neg a => rw [hsx] at e; cases e
    | mulR a k => rw [hsx] at e; cases e
  funext x
  rw [t1 x]
  have : sb s (s' x) = sb (fun y => .var y) (s' x) := sb_congr _ (fun y hy => free y (h'.inFree (t := .var x) hy))
  rw [this, sb_var]
/-- the same variables are bound -/
theorem Res.same {B B' : bM} {s : Nat → pE} (h : Res B s) (h' : Res B' s) (x : Nat) : B x = none ↔ B' x = none := (h.free x).trans (h'.free x).symm
/-- one more binding -/
def bU (B : bM) (x : Nat) (t : pE) : bM := fun y => if y = x then some t else B y
theorem bU_s {B : bM} {x : Nat} {t : pE} : bU B x t x = some t := if_pos rfl
theorem bU_o {B : bM} {x y : Nat} {t : pE} (h : y ≠ x) : bU B x t y = B y := if_neg h
theorem Sol_U {B : bM} {x : Nat} {t : pE} (hx : B x = none) (v : Nat → pE) : Sol (bU B x t) v ↔ Sol B v ∧ v x = sb v t := by
  refine ⟨fun h => ⟨fun y u e => ?_, h x t bU_s⟩, fun h y u e => ?_⟩
  · refine h y u ?_
    rw [bU_o (fun q => by rw [q, hx] at e; cases e)]
    exact e
  · by_cases q : y = x
    · subst q
      rw [bU_s] at e
      injection e with e
      rw [← e]
      exact h.2
    · rw [bU_o q] at e
      exact h.1 y u e
/-- binding a free variable to a tree in which it doesn't occur -/
theorem Res.bind {B : bM} {s : Nat → pE} (h : Res B s) {x : Nat} {t : pE} (hx : B x = none) (ho : ¬ vIn x (sb s t)) (hv : ∀ y : Nat, t = .var y → y < x) : Res (bU B x t) (fun z => sb (fun y => if y = x then sb s t else .var y) (s z)) := by
  have hb : sb (fun y => if y = x then sb s t else .var y) (sb s t) = sb s t := by
    have : sb (fun y => if y = x then sb s t else .var y) (sb s t) = sb (fun y => .var y) (sb s t) := sb_congr _ (fun y hy => if_neg (fun q => ho (by rw [← q]; exact hy)))
    rw [this, sb_var]
  have hcomp : ∀ u : pE, sb (fun z => sb (fun y => if y = x then sb s t else .var y) (s z)) u = sb (fun y => if y = x then sb s t else .var y) (sb s u) := fun u => (sb_comp _ _ u).symm
  intro z
  refine ⟨fun e => ?_, fun u e => ?_⟩
  · have hz : z ≠ x := fun q => by rw [q, bU_s] at e; cases e
    rw [bU_o hz] at e
    show sb _ (s z) = _
    rw [(h z).1 e]
    exact if_neg hz
  · by_cases hz : z = x
    · subst hz
      rw [bU_s] at e
      injection e with e
      subst e
      refine ⟨?_, hv⟩
      rw [hcomp, hb]
      show sb _ (s z) = _
      rw [(h z).1 hx]
      exact if_pos rfl
    · rw [bU_o hz] at e
      obtain ⟨e1, e2⟩ := (h z).2 u e
      refine ⟨?_, e2⟩
      rw [hcomp, ← e1]
/-- a variable that would have to contain itself -/
theorem no_loop {v : Nat → pE} {x : Nat} {t : pE} (hx : vIn x t) (hn : ∀ y, t ≠ .var y) : v x ≠ sb v t := by
  intro e
  have := sz_in2 (s := v) hx hn
  rw [← e] at this
  omega
