/-! TREES AND THE PARSER, abstract: an integer .num, a variable .var, a name with arguments .mulL (the name, by the model's number) -/
abbrev pE : Type := Int.Internal.Linear.Expr
def eL : List pE → pE
  | [] => .num 0
  | a :: r => .add a (eL r)
def eA (k : Int) : pE := .mulL k (.num 0)
def eC (k : Int) (as : List pE) : pE := .mulL k (eL as)
def eNil : pE := eA 1
/-- a list of items, and what follows them -/
def eI (t : pE) : List pE → pE
  | [] => t
  | a :: r => eC 2 [a, eI t r]
/-- the place of a name -/
def lix : List Int → Int → Option Nat
  | [], _ => none
  | a :: r, w => if a = w then some 0 else (lix r w).map (fun i => i + 1)
theorem lix_some : ∀ (l : List Int) (w : Int) (k : Nat), (∀ i (hi : i < l.length), i < k → l[i] ≠ w) → (hk : k < l.length) → l[k] = w → lix l w = some k
  | [], w, k, _, hk, _ => absurd hk (Nat.not_lt_zero _)
  | a :: r, w, k, h, hk, e => by
    unfold lix
    cases k with
    | zero =>
      have e : a = w := e
      rw [if_pos e]
    | succ k =>
      have h0 : a ≠ w := h 0 (by simp) (by omega)
      rw [if_neg h0, lix_some r w k (fun i hi hik => h (i + 1) (by simp only [List.length_cons]; omega) (by omega)) (by simpa using hk) e]
      rfl
theorem lix_none : ∀ (l : List Int) (w : Int), (∀ i (hi : i < l.length), l[i] ≠ w) → lix l w = none
  | [], w, _ => rfl
  | a :: r, w, h => by
    unfold lix
    have h0 : a ≠ w := h 0 (by simp)
    rw [if_neg h0, lix_none r w (fun i hi => h (i + 1) (by simp only [List.length_cons]; omega))]
    rfl
/-- built in predicates -/
def bBi (k : Int) (n : Nat) : Bool := match n with
  | 0 => decide (k = 245152485) || (decide (k = 215512300) || decide (k = 1637108))
  | 1 => decide (k = 209221228) || decide (k = 1816564)
  | 2 => decide (k = 242775781) || (decide (k = 228162035) || decide (k = 13555))
  | _ => false
/-- an open compound: 0 arguments, 1 items, 2 behind the bar; its name; its parts so far -/
abbrev pF : Type := Nat × Int × List pE
/-- what is due (0 a goal, 1 a term, 2 the first item, 3 a sign); names of variables; head; goals; the term that was read last, whether a parenthesis may follow it; the open compounds; where the present part begins -/
abbrev pS : Type := Nat × List Int × Option pE × List pE × pE × Bool × List pF × Nat
/-- a fault, or head, goals, number of variables, and where it goes on -/
abbrev pR : Type := Sum Nat (Option pE × List pE × Nat × Nat)
section PP
variable (tx : List Int) (qy : Bool)
def pk1 (p : Nat) : Int := (tk (tx.drop p)).1
def pnx (p : Nat) : Nat := sk tx (p + (tk (tx.drop p)).2)
def pwd (p : Nat) : Int := pkM ((tx.drop p).take (tk (tx.drop p)).2)
def pin (p : Nat) : Int := pkI ((tx.drop p).take (tk (tx.drop p)).2)
/-- a term begins -/
def pT (vs : List Int) (hd : Option pE) (gs : List pE) (stk : List pF) (p : Nat) : Sum pS pR :=
  if pk1 tx p = 1 then .inl (3, vs, hd, gs, eA (pwd tx p), true, stk, pnx tx p)
  else if pk1 tx p = 3 then .inl (3, vs, hd, gs, .num (pin tx p), false, stk, pnx tx p)
  else if pk1 tx p = 2 then (match lix vs (pwd tx p) with
    | some i => .inl (3, vs, hd, gs, .var i, false, stk, pnx tx p)
    | none => if vs.length < 8 then .inl (3, vs ++ [pwd tx p], hd, gs, .var vs.length, false, stk, pnx tx p) else .inr (.inl p))
  else if pk1 tx p = 8 then .inl (2, vs, hd, gs, eNil, false, stk, pnx tx p)
  else .inr (.inl p)
/-- the whole goal or head t stands, at a part that isn't an opening parenthesis behind a name -/
def pG (vs : List Int) (hd : Option pE) (gs : List pE) (t : pE) (p : Nat) : Sum pS pR :=
  if !qy && hd.isNone then
    if pk1 tx p = 4 then .inr (.inr (some t, [], vs.length, pnx tx p))
    else if pk1 tx p = 11 then .inl (0, vs, some t, [], eNil, false, [], pnx tx p)
    else .inr (.inl p)
  else
    if pk1 tx p = 4 then .inr (.inr (hd, gs ++ [t], vs.length, pnx tx p))
    else if pk1 tx p = 5 ∧ gs.length < 4 then .inl (0, vs, hd, gs ++ [t], eNil, false, [], pnx tx p)
    else .inr (.inl p)
/-- one part is read -/
def pSt (s : pS) : Sum pS pR := match s with
  | (md, vs, hd, gs, t, nm, stk, p) =>
    if md = 0 then
      if pk1 tx p = 1 then
        if (!qy && hd.isNone && bBi (pwd tx p) 0) = true ∧ pk1 tx (pnx tx p) ≠ 6 then .inr (.inl p)
        else .inl (3, vs, hd, gs, eA (pwd tx p), true, [], pnx tx p)
      else .inr (.inl p)
    else if md = 1 then pT tx vs hd gs stk p
    else if md = 2 then
      if pk1 tx p = 9 then .inl (3, vs, hd, gs, eNil, false, stk, pnx tx p) else pT tx vs hd gs ((1, 2, []) :: stk) p
    else if nm = true ∧ pk1 tx p = 6 then
      (match t with
      | .mulL k _ => .inl (1, vs, hd, gs, eNil, false, (0, k, []) :: stk, pnx tx p)
      | _ => .inr (.inl p))
    else match stk with
      | [] => pG tx qy vs hd gs t p
      | (f, k, as) :: r =>
        if f = 0 then
          if pk1 tx p = 7 then
            if (!qy && hd.isNone && r.isEmpty && bBi k (as.length + 1)) = true then .inr (.inl p)
            else .inl (3, vs, hd, gs, eC k (as ++ [t]), false, r, pnx tx p)
          else if pk1 tx p = 5 ∧ as.length + 1 < 3 then .inl (1, vs, hd, gs, eNil, false, (0, k, as ++ [t]) :: r, pnx tx p)
          else .inr (.inl p)
        else if f = 1 then
          if pk1 tx p = 5 then .inl (1, vs, hd, gs, eNil, false, (1, k, as ++ [t]) :: r, pnx tx p)
          else if pk1 tx p = 10 then .inl (1, vs, hd, gs, eNil, false, (2, k, as ++ [t]) :: r, pnx tx p)
          else if pk1 tx p = 9 then .inl (3, vs, hd, gs, eI eNil (as ++ [t]), false, r, pnx tx p)
          else .inr (.inl p)
        else
          if pk1 tx p = 9 then .inl (3, vs, hd, gs, eI t as, false, r, pnx tx p) else .inr (.inl p)
def pIt : Nat → pS → Option pR
  | 0, _ => none
  | n + 1, s => match pSt tx qy s with
    | .inl s' => pIt n s'
    | .inr r => some r
/-- from this state the parser ends so -/
def pRun (s : pS) (r : pR) : Prop := ∃ n, pIt tx qy n s = some r
theorem pRun_s {s s' : pS} (h : pSt tx qy s = .inl s') (r : pR) : pRun tx qy s r ↔ pRun tx qy s' r := by
  constructor
  · rintro ⟨n, hn⟩
    cases n with
    | zero => cases hn
    | succ n =>
      unfold pIt at hn
      rw [h] at hn
      exact ⟨n, hn⟩
  · rintro ⟨n, hn⟩
    refine ⟨n + 1, ?_⟩
    unfold pIt
    rw [h]
    exact hn
theorem pRun_c {s s' : pS} (h : pSt tx qy s = pSt tx qy s') (r : pR) : pRun tx qy s r ↔ pRun tx qy s' r := by
  have e : ∀ n, pIt tx qy n s = pIt tx qy n s' := by
    intro n
    cases n with
    | zero => rfl
    | succ n =>
      unfold pIt
      rw [h]
  constructor
  · rintro ⟨n, hn⟩
    exact ⟨n, by rw [← e]; exact hn⟩
  · rintro ⟨n, hn⟩
    exact ⟨n, by rw [e]; exact hn⟩
theorem pRun_e {s : pS} {r : pR} (h : pSt tx qy s = .inr r) : pRun tx qy s r := ⟨1, by unfold pIt; rw [h]⟩
theorem pIt_d {r r' : pR} : ∀ (n k : Nat) (s : pS), pIt tx qy n s = some r → pIt tx qy k s = some r' → r = r'
  | 0, _, _, h, _ => by cases h
  | _ + 1, 0, _, _, h => by cases h
  | n + 1, k + 1, s, h1, h2 => by
    unfold pIt at h1 h2
    cases e : pSt tx qy s with
    | inl s' =>
      rw [e] at h1 h2
      exact pIt_d n k s' h1 h2
    | inr q =>
      rw [e] at h1 h2
      cases h1
      cases h2
      rfl
theorem pRun_d {s : pS} {r r' : pR} (h1 : pRun tx qy s r) (h2 : pRun tx qy s r') : r = r' := by
  obtain ⟨n, h1⟩ := h1
  obtain ⟨k, h2⟩ := h2
  exact pIt_d tx qy n k s h1 h2
end PP
theorem sp_184 {m : hy_m} {Q : Int → hy_m → Prop} {k : Int} {n : Nat} (h1 : bBi k n = true → Q 1 m) (h0 : bBi k n = false → Q 0 m) : wq_184 k n m Q := by
  have s4 : ∀ {a b c d : Int} {R : Int → hy_m → Prop}, 0 < a ∧ a < 128 → 0 < b ∧ b < 128 → 0 < c ∧ c < 128 → 0 < d ∧ d < 128 → R (128 * (128 * (128 * a + b) + c) + d) m → wq_171 a b c d m R := by
    intro a b c d R ha hb hc hd hr
    unfold wq_171
    refine ⟨fun _ => ⟨fun _ => ⟨show -9223372036854775808 ≤ _ ∧ _ < 9223372036854775808 by omega, ?_⟩, fun q => by omega⟩, fun q => by omega⟩
    rw [show 128 * (128 * (128 * (128 * 0 + a) + b) + c) + d = 128 * (128 * (128 * a + b) + c) + d by omega]
    exact hr
  have s3 : ∀ {a b c : Int} {R : Int → hy_m → Prop}, 0 < a ∧ a < 128 → 0 < b ∧ b < 128 → 0 < c ∧ c < 128 → R (128 * (128 * a + b) + c) m → wq_171 a b c 0 m R := by
    intro a b c R ha hb hc hr
    unfold wq_171
    refine ⟨fun _ => ⟨fun q => absurd rfl q, fun _ => ⟨show -9223372036854775808 ≤ _ ∧ _ < 9223372036854775808 by omega, ?_⟩⟩, fun q => by omega⟩
    rw [show 128 * (128 * (128 * 0 + a) + b) + c = 128 * (128 * a + b) + c by omega]
    exact hr
  have s2 : ∀ {a b : Int} {R : Int → hy_m → Prop}, 0 < a ∧ a < 128 → 0 < b ∧ b < 128 → R (128 * a + b) m → wq_171 a b 0 0 m R := by
    intro a b R ha hb hr
    unfold wq_171
    refine ⟨fun q => absurd rfl q, fun _ => ⟨fun q => absurd rfl q, fun _ => ⟨show -9223372036854775808 ≤ _ ∧ _ < 9223372036854775808 by omega, ?_⟩⟩⟩
    rw [show 128 * (128 * 0 + a) + b = 128 * a + b by omega]
    exact hr
  unfold wq_184
  match n with
  | 0 =>
    unfold bBi at h1 h0
    refine ⟨fun q => absurd rfl q, fun _ => s4 (by omega) (by omega) (by omega) (by omega) ⟨fun e => h1 (by rw [e]; rfl), fun e1 => s4 (by omega) (by omega) (by omega) (by omega) ⟨fun e => h1 (by rw [e]; rfl), fun e2 => s3 (by omega) (by omega) (by omega) ⟨fun e3 => h0 ?_, fun e => h1 (by rw [e]; rfl)⟩⟩⟩⟩
    simp only [Bool.or_eq_false_iff, decide_eq_false_iff_not]
    exact ⟨e1, e2, e3⟩
  | 1 =>
    unfold bBi at h1 h0
    refine ⟨fun _ => ⟨fun q => absurd rfl q, fun _ => s4 (by omega) (by omega) (by omega) (by omega) ⟨fun e => h1 (by rw [e]; rfl), fun e1 => s3 (by omega) (by omega) (by omega) ⟨fun e2 => h0 ?_, fun e => h1 (by rw [e]; rfl)⟩⟩⟩, fun q => absurd q (by decide)⟩
    simp only [Bool.or_eq_false_iff, decide_eq_false_iff_not]
    exact ⟨e1, e2⟩
  | 2 =>
    unfold bBi at h1 h0
    refine ⟨fun _ => ⟨fun _ => ⟨fun q => absurd rfl q, fun _ => s4 (by omega) (by omega) (by omega) (by omega) ⟨fun e => h1 (by rw [e]; rfl), fun e1 => s4 (by omega) (by omega) (by omega) (by omega) ⟨fun e => h1 (by rw [e]; rfl), fun e2 => s2 (by omega) (by omega) ⟨fun e3 => h0 ?_, fun e => h1 (by rw [e]; rfl)⟩⟩⟩⟩, fun q => absurd q (by decide)⟩, fun q => absurd q (by decide)⟩
    simp only [Bool.or_eq_false_iff, decide_eq_false_iff_not]
    exact ⟨e1, e2, e3⟩
  | k' + 3 =>
    refine ⟨fun _ => ⟨fun _ => ⟨fun _ => h0 rfl, fun q => by omega⟩, fun q => by omega⟩, fun q => by omega⟩
