/-! JOINED TERMS ARE EQUAL, pure; bindings without loops come to something, pure -/
section JO
variable (C : Int → pE → Prop) (Bd J : Int → Int → Prop) (s : Nat → pE)
/-- a step: along a binding, or to what a compound was joined with -/
def st1 (x y : Int) : Prop := Bd x y ∨ J x y
def stp : Nat → Int → Int → Prop
  | 0, x, y => x = y
  | n + 1, x, y => ∃ z, st1 Bd J x z ∧ stp n z y
/-- two terms that come to the same -/
def mrg (x y : Int) : Prop := ∃ (r r' : Int) (t : pE) (n n' : Nat), stp Bd J n x r ∧ stp Bd J n' y r' ∧ C r t ∧ C r' t
variable {C Bd J s}
theorem jo_fwd (hT : ∀ x y, st1 Bd J x y → ∃ t, C y t) (hC : ∀ x t t', C x t → C x t' → t = t') (hB : ∀ x y tx ty, Bd x y → C x tx → C y ty → sb s tx = sb s ty) {n : Nat} (ih : ∀ f t tf tt, J f t → C f tf → C t tt → (sz (sb s tf) < n ∨ sz (sb s tt) < n) → sb s tf = sb s tt) : ∀ (k : Nat) (x y : Int) (tx ty : pE), stp Bd J k x y → C x tx → C y ty → sz (sb s tx) < n → sb s tx = sb s ty
  | 0, x, y, tx, ty, h, hx, hy, _ => by
    have h : x = y := h
    subst h
    rw [hC x tx ty hx hy]
  | k + 1, x, y, tx, ty, h, hx, hy, hs => by
    obtain ⟨z, h1, h2⟩ := h
    obtain ⟨tz, hz⟩ := hT x z h1
    have e : sb s tx = sb s tz := by
      rcases h1 with h1 | h1
      · exact hB x z tx tz h1 hx hz
      · exact ih x z tx tz h1 hx hz (Or.inl hs)
    rw [e]
    exact jo_fwd hT hC hB ih k z y tz ty h2 hz hy (by rw [← e]; exact hs)
theorem jo_bwd (hT : ∀ x y, st1 Bd J x y → ∃ t, C y t) (hC : ∀ x t t', C x t → C x t' → t = t') (hB : ∀ x y tx ty, Bd x y → C x tx → C y ty → sb s tx = sb s ty) {n : Nat} (ih : ∀ f t tf tt, J f t → C f tf → C t tt → (sz (sb s tf) < n ∨ sz (sb s tt) < n) → sb s tf = sb s tt) : ∀ (k : Nat) (x y : Int) (tx ty : pE), stp Bd J k x y → C x tx → C y ty → sz (sb s ty) < n → sb s tx = sb s ty
  | 0, x, y, tx, ty, h, hx, hy, _ => by
    have h : x = y := h
    subst h
    rw [hC x tx ty hx hy]
  | k + 1, x, y, tx, ty, h, hx, hy, hs => by
    obtain ⟨z, h1, h2⟩ := h
    obtain ⟨tz, hz⟩ := hT x z h1
    have e := jo_bwd hT hC hB ih k z y tz ty h2 hz hy hs
    rcases h1 with h1 | h1
    · rw [hB x z tx tz h1 hx hz]
      exact e
    · rw [ih x z tx tz h1 hx hz (Or.inr (by rw [e]; exact hs))]
      exact e
/-- joined terms are equal -/
theorem jo_eq (hC : ∀ x t t', C x t → C x t' → t = t') (hT : ∀ x y, st1 Bd J x y → ∃ t, C y t) (hB : ∀ x y tx ty, Bd x y → C x tx → C y ty → sb s tx = sb s ty) (hJ : ∀ f t, J f t → ∃ (k : Int) (a b : pE), C f (.mulL k a) ∧ C t (.mulL k b) ∧ isL a ∧ isL b ∧ eN a = eN b ∧ ∀ i, i < eN a → ∃ x y, C x (eAr a i) ∧ C y (eAr b i) ∧ mrg C Bd J x y) : ∀ f t tf tt, J f t → C f tf → C t tt → sb s tf = sb s tt := by
  have key : ∀ n f t tf tt, J f t → C f tf → C t tt → (sz (sb s tf) < n ∨ sz (sb s tt) < n) → sb s tf = sb s tt := by
    intro n
    induction n with
    | zero => intro f t tf tt _ _ _ h; omega
    | succ n ih =>
      intro f t tf tt hj hf ht hs
      obtain ⟨k, a, b, g1, g2, g3, g4, g5, g6⟩ := hJ f t hj
      have e1 := hC f tf _ hf g1
      have e2 := hC t tt _ ht g2
      subst e1
      subst e2
      have hz : ∀ i, i < eN a → sb s (eAr a i) = sb s (eAr b i) := by
        intro i hi
        obtain ⟨x, y, hx, hy, r, r', tr, k1, k2, p1, p2, hr, hr'⟩ := g6 i hi
        have za := ar_sz s a i g3 hi
        have zb := ar_sz s b i g4 (by omega)
        have sa : sz (sb s (.mulL k a)) = 1 + sz (sb s a) := rfl
        have sb' : sz (sb s (.mulL k b)) = 1 + sz (sb s b) := rfl
        rcases hs with hs | hs
        · have q1 := jo_fwd hT hC hB ih k1 x r _ tr p1 hx hr (by omega)
          have q2 := jo_bwd hT hC hB ih k2 y r' _ tr p2 hy hr' (by rw [← q1]; omega)
          rw [q1, q2]
        · have q1 := jo_fwd hT hC hB ih k2 y r' _ tr p2 hy hr' (by omega)
          have q2 := jo_bwd hT hC hB ih k1 x r _ tr p1 hx hr (by rw [← q1]; omega)
          rw [q1, q2]
      show (.mulL k (sb s a) : pE) = .mulL k (sb s b)
      rw [(ar_eq s a b g3 g4 g5).mp hz]
  exact fun f t tf tt hj hf ht => key (sz (sb s tf) + 1) f t tf tt hj hf ht (Or.inl (by omega))
theorem jo_path (hC : ∀ x t t', C x t → C x t' → t = t') (hT : ∀ x y, st1 Bd J x y → ∃ t, C y t) (hB : ∀ x y tx ty, Bd x y → C x tx → C y ty → sb s tx = sb s ty) (hj : ∀ f t tf tt, J f t → C f tf → C t tt → sb s tf = sb s tt) : ∀ (k : Nat) (x y : Int) (tx ty : pE), stp Bd J k x y → C x tx → C y ty → sb s tx = sb s ty
  | 0, x, y, tx, ty, h, hx, hy => by
    have h : x = y := h
    subst h
    rw [hC x tx ty hx hy]
  | k + 1, x, y, tx, ty, h, hx, hy => by
    obtain ⟨z, h1, h2⟩ := h
    obtain ⟨tz, hz⟩ := hT x z h1
    rw [← jo_path hC hT hB hj k z y tz ty h2 hz hy]
    rcases h1 with h1 | h1
    · exact hB x z tx tz h1 hx hz
    · exact hj x z tx tz h1 hx hz
theorem jo_mrg (hC : ∀ x t t', C x t → C x t' → t = t') (hT : ∀ x y, st1 Bd J x y → ∃ t, C y t) (hB : ∀ x y tx ty, Bd x y → C x tx → C y ty → sb s tx = sb s ty) (hj : ∀ f t tf tt, J f t → C f tf → C t tt → sb s tf = sb s tt) {x y : Int} {tx ty : pE} (hx : C x tx) (hy : C y ty) (h : mrg C Bd J x y) : sb s tx = sb s ty := by
  obtain ⟨r, r', tr, k1, k2, p1, p2, hr, hr'⟩ := h
  rw [jo_path hC hT hB hj k1 x r tx tr p1 hx hr, jo_path hC hT hB hj k2 y r' ty tr p2 hy hr']
end JO
/-- steps stay when there are more of them -/
theorem stp_mono {Bd J Bd' J' : Int → Int → Prop} (h1 : ∀ x y, Bd x y → Bd' x y) (h2 : ∀ x y, J x y → J' x y) : ∀ (n : Nat) (x y : Int), stp Bd J n x y → stp Bd' J' n x y
  | 0, _, _, h => h
  | n + 1, x, y, ⟨z, g1, g2⟩ => ⟨z, (by
    rcases g1 with g1 | g1
    · exact Or.inl (h1 _ _ g1)
    · exact Or.inr (h2 _ _ g1)), stp_mono h1 h2 n z y g2⟩
theorem stp_tr {Bd J : Int → Int → Prop} : ∀ (n k : Nat) (x y z : Int), stp Bd J n x y → stp Bd J k y z → stp Bd J (n + k) x z
  | 0, k, x, y, z, h, h' => by
    have h : x = y := h
    subst h
    rw [Nat.zero_add]
    exact h'
  | n + 1, k, x, y, z, ⟨w, g1, g2⟩, h' => by
    rw [show n + 1 + k = (n + k) + 1 by omega]
    exact ⟨w, g1, stp_tr n k w y z g2 h'⟩
/-- what a tree comes to, where all of its variables do -/
def evT (f : Nat → Option pE) : pE → Option pE
  | .var x => f x
  | .mulL k a => (evT f a).map (fun b => .mulL k b)
  | .add a r => match evT f a, evT f r with
    | some b, some q => some (.add b q)
    | _, _ => none
  | t => some t
def ev (B : bM) : Nat → Nat → Option pE
  | 0, _ => none
  | n + 1, x => match B x with
    | none => some (.var x)
    | some t => evT (ev B n) t
theorem evT_some {f : Nat → Option pE} {g : Nat → pE} : ∀ (t : pE), (∀ x, vIn x t → f x = some (g x)) → evT f t = some (sb g t)
  | .var x, h => h x rfl
  | .num _, _ => rfl
  | .mulL k a, h => by
    show (evT f a).map _ = _
    rw [evT_some a h]
    rfl
  | .add a r, h => by
    show (match evT f a, evT f r with
      | some b, some q => some (.add b q : pE)
      | _, _ => none) = some (.add (sb g a) (sb g r) : pE)
    rw [evT_some a (fun x hx => h x (Or.inl hx)), evT_some r (fun x hx => h x (Or.inr hx))]
  | .sub _ _, _ => rfl
  | .neg _, _ => rfl
  | .mulR _ _, _ => rfl
theorem evT_in {f : Nat → Option pE} : ∀ (t : pE) (u : pE), evT f t = some u → ∀ x, vIn x t → ∃ w, f x = some w
  | .var y, u, h, x, hx => by
    have hx : y = x := hx
    subst hx
    exact ⟨u, h⟩
  | .num _, _, _, _, hx => hx.elim
  | .mulL k a, u, h, x, hx => by
    have h : (evT f a).map (fun b => (.mulL k b : pE)) = some u := h
    cases e : evT f a with
    | none => rw [e] at h; cases h
    | some b => exact evT_in a b e x hx
  | .add a r, u, h, x, hx => by
    have h : (match evT f a, evT f r with
      | some b, some q => some (.add b q)
      | _, _ => none) = some u := h
    cases e : evT f a with
    | none => rw [e] at h; cases h
    | some b =>
      cases e2 : evT f r with
      | none => rw [e, e2] at h; cases h
      | some q =>
        rcases hx with hx | hx
        · exact evT_in a b e x hx
        · exact evT_in r q e2 x hx
  | .sub _ _, _, _, _, hx => hx.elim
  | .neg _, _, _, _, hx => hx.elim
  | .mulR _ _, _, _, _, hx => hx.elim
theorem evT_mono {f g : Nat → Option pE} (hfg : ∀ x w, f x = some w → g x = some w) : ∀ (t u : pE), evT f t = some u → evT g t = some u
  | .var x, u, h => hfg x u h
  | .num _, _, h => h
  | .mulL k a, u, h => by
    have h : (evT f a).map (fun b => (.mulL k b : pE)) = some u := h
    show (evT g a).map (fun b => (.mulL k b : pE)) = some u
    cases e : evT f a with
    | none => rw [e] at h; cases h
    | some b =>
      rw [e] at h
      rw [evT_mono hfg a b e]
      exact h
  | .add a r, u, h => by
    have h : (match evT f a, evT f r with
      | some b, some q => some (.add b q)
      | _, _ => none) = some u := h
    show (match evT g a, evT g r with
      | some b, some q => some (.add b q)
      | _, _ => none) = some u
    cases e : evT f a with
    | none => rw [e] at h; cases h
    | some b =>
      cases e2 : evT f r with
      | none => rw [e, e2] at h; cases h
      | some q =>
        rw [e, e2] at h
        rw [evT_mono hfg a b e, evT_mono hfg r q e2]
        exact h
  | .sub _ _, _, h => h
  | .neg _, _, h => h
  | .mulR _ _, _, h => h
theorem ev_mono (B : bM) : ∀ (n : Nat) (x : Nat) (w : pE), ev B n x = some w → ev B (n + 1) x = some w
  | 0, _, _, h => by cases h
  | n + 1, x, w, h => by
    unfold ev at h ⊢
    cases e : B x with
    | none =>
      rw [e] at h
      exact h
    | some t =>
      rw [e] at h
      exact evT_mono (fun y u => ev_mono B n y u) t w h
theorem ev_le (B : bM) {n k : Nat} (h : n ≤ k) {x : Nat} {w : pE} (hx : ev B n x = some w) : ev B k x = some w := by
  induction h with
  | refl => exact hx
  | step _ ih => exact ev_mono B _ x w ih
/-- edges from a variable to those in its binding -/
def bEd (B : bM) (y x : Nat) : Prop := ∃ t, B x = some t ∧ vIn y t
/-- a bound for all variables of a tree -/
theorem vIn_bd {P : Nat → Nat → Prop} (hm : ∀ x n k, P x n → n ≤ k → P x k) : ∀ (t : pE), (∀ x, vIn x t → ∃ n, P x n) → ∃ n, ∀ x, vIn x t → P x n
  | .var y, h => by
    obtain ⟨n, hn⟩ := h y rfl
    exact ⟨n, fun x hx => by
      have hx : y = x := hx
      subst hx
      exact hn⟩
  | .num _, _ => ⟨0, fun _ hx => hx.elim⟩
  | .mulL k a, h => vIn_bd hm a h
  | .add a r, h => by
    obtain ⟨n, hn⟩ := vIn_bd hm a (fun x hx => h x (Or.inl hx))
    obtain ⟨k, hk⟩ := vIn_bd hm r (fun x hx => h x (Or.inr hx))
    refine ⟨n + k, fun x hx => ?_⟩
    rcases hx with hx | hx
    · exact hm x n _ (hn x hx) (by omega)
    · exact hm x k _ (hk x hx) (by omega)
  | .sub _ _, _ => ⟨0, fun _ hx => hx.elim⟩
  | .neg _, _ => ⟨0, fun _ hx => hx.elim⟩
  | .mulR _ _, _ => ⟨0, fun _ hx => hx.elim⟩
/-- bindings without loops come to something -/
theorem Res_of {B : bM} (hw : ∀ x, Acc (bEd B) x) (ho : ∀ x (y : Nat), B x = some (.var y) → y < x) : ∃ s, Res B s := by
  have tot : ∀ x, ∃ n w, ev B n x = some w := by
    intro x
    induction hw x with
    | intro x _ ih =>
      cases e : B x with
      | none => exact ⟨1, .var x, by unfold ev; rw [e]⟩
      | some t =>
        obtain ⟨n, hn⟩ := vIn_bd (P := fun x n => ∃ w, ev B n x = some w) (fun x n k ⟨w, h⟩ hk => ⟨w, ev_le B hk h⟩) t (fun y hy => ih y ⟨t, e, hy⟩)
        refine ⟨n + 1, sb (fun y => (ev B n y).getD (.var y)) t, ?_⟩
        show (match B x with
          | none => some (.var x : pE)
          | some t => evT (ev B n) t) = _
        rw [e]
        show evT (ev B n) t = _
        refine evT_some t (fun y hy => ?_)
        obtain ⟨w, h⟩ := hn y hy
        rw [h]
        rfl
  let s : Nat → pE := fun x => Classical.choose (Classical.choose_spec (tot x))
  have hs : ∀ x, ∃ n, ev B n x = some (s x) := fun x => ⟨_, Classical.choose_spec (Classical.choose_spec (tot x))⟩
  have one : ∀ x n w, ev B n x = some w → w = s x := by
    intro x n w h
    obtain ⟨k, hk⟩ := hs x
    have h1 := ev_le B (show n ≤ n + k by omega) h
    have h2 := ev_le B (show k ≤ n + k by omega) hk
    rw [h1] at h2
    injection h2
  refine ⟨s, fun x => ⟨fun e => ?_, fun t e => ⟨?_, fun y hy => ho x y (by rw [← hy]; exact e)⟩⟩⟩
  · exact (one x 1 (.var x) (by unfold ev; rw [e])).symm
  · obtain ⟨n, hn⟩ := hs x
    cases n with
    | zero => cases hn
    | succ n =>
      have hn : (match B x with
          | none => some (.var x : pE)
          | some t => evT (ev B n) t) = some (s x) := hn
      rw [e] at hn
      have hn : evT (ev B n) t = some (s x) := hn
      have h2 : evT (ev B n) t = some (sb s t) := evT_some t (fun y hy => by
        obtain ⟨w, hw⟩ := evT_in t _ hn y hy
        rw [hw, one y n w hw])
      rw [hn] at h2
      injection h2
