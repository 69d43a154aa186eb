/-! THE SEARCH, abstract: what both sides do -/
theorem sm_er {α : Type} [DecidableEq α] (f : α → Nat) (x : α) : ∀ l : List α, x ∈ l → (l.map f).sum = f x + ((l.erase x).map f).sum
  | [], h => by cases h
  | y :: r, h => by
    by_cases e : y = x
    · subst e
      rw [List.erase_cons_head]
      simp only [List.map_cons, List.sum_cons]
    · rw [List.erase_cons_tail (by simpa using e)]
      have := sm_er f x r (by
        rcases List.mem_cons.mp h with h | h
        · exact absurd h.symm e
        · exact h)
      simp only [List.map_cons, List.sum_cons]
      omega
/-- a list without doubles, inside of another -/
theorem sm_sub {α : Type} [DecidableEq α] (f : α → Nat) : ∀ l l' : List α, l.Nodup → (∀ x ∈ l, x ∈ l') → (l.map f).sum ≤ (l'.map f).sum
  | [], l', _, _ => Nat.zero_le _
  | x :: r, l', h, hs => by
    have hx := hs x (List.mem_cons_self ..)
    rw [sm_er f x l' hx]
    have := sm_sub f r (l'.erase x) (List.nodup_cons.mp h).2 (fun y hy => (List.mem_erase_of_ne (fun q => (List.nodup_cons.mp h).1 (by rw [← q]; exact hy))).mpr (hs y (List.mem_cons_of_mem _ hy)))
    simp only [List.map_cons, List.sum_cons]
    omega
theorem sm_one {α : Type} : ∀ l : List α, (l.map (fun _ => 1)).sum = l.length
  | [] => rfl
  | _ :: r => by
    simp only [List.map_cons, List.sum_cons, List.length_cons]
    rw [sm_one r]
    omega
theorem ln_sub {α : Type} [DecidableEq α] (l l' : List α) (h : l.Nodup) (hs : ∀ x ∈ l, x ∈ l') : l.length ≤ l'.length := by
  have := sm_sub (fun _ => 1) l l' h hs
  rw [sm_one, sm_one] at this
  exact this
/-- a variable that is free -/
def isv (x : Nat) : pE → Bool
  | .var y => decide ((y : Nat) = x)
  | _ => false
theorem isv_iff {x : Nat} {t : pE} : isv x t = true ↔ t = .var x := by
  cases t with
  | var y =>
    show decide ((y : Nat) = x) = true ↔ _
    rw [decide_eq_true_eq]
    exact ⟨fun e => by rw [e], fun e => by injection e⟩
  | _ => exact ⟨(fun e => by cases e), (fun e => by cases e)⟩
/-- how many variables below n were bound -/
def nbC (s s' : Nat → pE) (n : Nat) : Nat := ((List.range n).filter (fun w => isv w (s w) && !isv w (s' w))).length
theorem nb_len {nb : List Nat} {p : Nat → Bool} {n : Nat} (h : nb.Nodup) (hm : ∀ w, w ∈ nb ↔ w < n ∧ p w = true) : nb.length = ((List.range n).filter p).length := by
  refine Nat.le_antisymm (ln_sub _ _ h (fun x hx => ?_)) (ln_sub _ _ (List.Pairwise.filter _ List.nodup_range) (fun x hx => ?_))
  · have := (hm x).mp hx
    rw [List.mem_filter, List.mem_range]
    exact this
  · rw [List.mem_filter, List.mem_range] at hx
    exact (hm x).mpr hx
/-- solutions of what bindings come to -/
def SolS (s v : Nat → pE) : Prop := ∀ x, v x = sb v (s x)
theorem SolS_B {B : bM} {s : Nat → pE} (h : Res B s) (v : Nat → pE) : Sol B v ↔ SolS s v := by
  refine ⟨fun hv x => h.thru hv x, fun hv x t e => ?_⟩
  rw [hv x, ((h x).2 t e).1, sb_comp]
  exact sb_congr t (fun y _ => (hv y).symm)
theorem SolS_t {s v : Nat → pE} (hv : SolS s v) (t : pE) : sb v (sb s t) = sb v t := by
  rw [sb_comp]
  exact sb_congr t (fun y _ => (hv y).symm)
def unR (s : Nat → pE) (t u : pE) (s' : Nat → pE) : Prop := (∃ B, Res B s') ∧ ∀ v, SolS s' v ↔ SolS s v ∧ sb v t = sb v u
def unF (s : Nat → pE) (t u : pE) : Prop := ∀ v, SolS s v → sb v t ≠ sb v u
section AQ
variable {s s' s1 s2 : Nat → pE} {t u t' u' : pE}
theorem unR.one (h1 : unR s t u s1) (h2 : unR s t u s2) : s1 = s2 := by
  obtain ⟨⟨B1, r1⟩, e1⟩ := h1
  obtain ⟨⟨B2, r2⟩, e2⟩ := h2
  exact r1.one r2 (fun v => by rw [SolS_B r1, SolS_B r2, e1, e2])
theorem unR.sol (h : unR s t u s') : SolS s' s' := by
  obtain ⟨⟨B, r⟩, _⟩ := h
  exact (SolS_B r s').mp r.sol
theorem unR.noF (h : unR s t u s') (q : unF s t u) : False := by
  have := (h.2 s').mp h.sol
  exact q s' this.1 this.2
noncomputable def uni (s : Nat → pE) (t u : pE) : Option (Nat → pE) := @dite _ (∃ s', unR s t u s') (Classical.propDecidable _) (fun h => some (Classical.choose h)) (fun _ => none)
theorem uni_t (h : unR s t u s') : uni s t u = some s' := by
  have hx : ∃ s', unR s t u s' := ⟨s', h⟩
  unfold uni
  rw [dif_pos hx]
  exact congrArg some ((Classical.choose_spec hx).one h)
theorem uni_f (h : unF s t u) : uni s t u = none := by
  unfold uni
  rw [dif_neg]
  exact fun ⟨s', q⟩ => q.noF h
theorem unR_c (h1 : ∀ v, SolS s v → sb v t = sb v t') (h2 : ∀ v, SolS s v → sb v u = sb v u') (h : unR s t u s') : unR s t' u' s' := ⟨h.1, fun v => by
  rw [h.2 v]
  exact ⟨fun q => ⟨q.1, by rw [← h1 v q.1, ← h2 v q.1]; exact q.2⟩, fun q => ⟨q.1, by rw [h1 v q.1, h2 v q.1]; exact q.2⟩⟩⟩
theorem unF_c (h1 : ∀ v, SolS s v → sb v t = sb v t') (h2 : ∀ v, SolS s v → sb v u = sb v u') (h : unF s t u) : unF s t' u' := fun v hv e => h v hv (by rw [h1 v hv, h2 v hv]; exact e)
theorem unR_sy (h : unR s t u s') : unR s u t s' := ⟨h.1, fun v => by
  rw [h.2 v]
  exact ⟨fun q => ⟨q.1, q.2.symm⟩, fun q => ⟨q.1, q.2.symm⟩⟩⟩
theorem unF_sy (h : unF s t u) : unF s u t := fun v hv e => h v hv e.symm
theorem unR.mo (h : unR s t u s') {v : Nat → pE} (hv : SolS s' v) : SolS s v := ((h.2 v).mp hv).1
end AQ
/-- frames: instance, goals that are gone, cut, the goal of a not -/
abbrev qF : Type := Nat × Nat × Nat × Option pE
/-- choices: goal (none: a barrier), candidates left, frames, (instances, trail, cells), what bindings came to -/
abbrev qC : Type := Option pE × List Nat × List qF × (Nat × Nat × Nat) × (Nat → pE)
/-- numbers (0 status, 1 error, 2 inferences, 3 solutions, 4 tries, 5 most frames, 6 most choices, 7 trail, 8 cells), tried, unified, instances, what bindings come to, frames, choices -/
abbrev qA : Type := (Nat → Nat) × (Nat → Nat) × (Nat → Nat) × List Nat × (Nat → pE) × List qF × List qC
/-- program, goals of the query, its variables -/
abbrev qE : Type := List pCl × List pE × Nat
def qn (A : qA) (k : Nat) : Nat := A.1 k
def qt (A : qA) : Nat → Nat := A.2.1
def qu (A : qA) : Nat → Nat := A.2.2.1
def qi (A : qA) : List Nat := A.2.2.2.1
def qs (A : qA) : Nat → pE := A.2.2.2.2.1
def qp (A : qA) : List qF := A.2.2.2.2.2.1
def qh (A : qA) : List qC := A.2.2.2.2.2.2
def upn (f : Nat → Nat) (k v : Nat) : Nat → Nat := fun j => if j = k then v else f j
def nvO (E : qE) (c : Nat) : Nat := match E.1[c]? with
  | some cl => cl.2.2
  | none => 0
/-- variables of these instances, and of the query -/
def tot (E : qE) (l : List Nat) : Nat := E.2.2 + (l.map (nvO E)).sum
def plc (E : qE) (l : List Nat) (i : Nat) : Nat := if i = 0 then 0 else tot E (l.take (i - 2))
def gsO (E : qE) (l : List Nat) (i : Nat) : List pE := if i = 0 then E.2.1 else match l[i - 2]? with
  | some c => (match E.1[c]? with
    | some cl => cl.2.1
    | none => [])
  | none => []
def qlim (E : qE) (A : qA) : Nat := match qh A with
  | [] => 0
  | c :: _ => tot E ((qi A).take c.2.2.2.1.1)
def qfin (A : qA) (st er : Nat) : qA := (fun k => if k = 0 then st else if k = 1 then er else if k = 7 ∨ k = 8 then 0 else qn A k, qt A, qu A, [], (fun x => .var x), [], [])
def qbind (E : qE) (A : qA) (s' : Nat → pE) : qA := (upn A.1 7 (A.1 7 + nbC (qs A) s' (qlim E A)), A.2.1, A.2.2.1, A.2.2.2.1, s', A.2.2.2.2.2)
def qtop (A : qA) (L : List qF) : qA := (A.1, A.2.1, A.2.2.1, A.2.2.2.1, A.2.2.2.2.1, L, A.2.2.2.2.2.2)
def qcs (A : qA) (C : List qC) : qA := (A.1, A.2.1, A.2.2.1, A.2.2.2.1, A.2.2.2.2.1, A.2.2.2.2.2.1, C)
def qnum (A : qA) (k v : Nat) : qA := (upn A.1 k v, A.2)
/-- a new frame on these -/
def qpush (A : qA) (f : qF) (r : List qF) : qA := qtop (qnum A 8 (qn A 8 + 1)) (f :: r)
def qent (A : qA) (c : Nat) : qA := (upn A.1 4 (A.1 4 + 1), upn A.2.1 c (A.2.1 c + 1), A.2.2.1, A.2.2.2.1 ++ [c], A.2.2.2.2)
def qmat (A : qA) (c : Nat) : qA := (A.1, A.2.1, upn A.2.2.1 c (A.2.2.1 c + 1), A.2.2.2)
noncomputable def qtry (E : qE) (A : qA) (c : Nat) (g : pE) (cut : Nat) : qA × Bool := match E.1[c]? with
  | none => (qent A c, false)
  | some cl => match uni (qs A) g (rn (tot E (qi A)) cl.1) with
    | none => (qent A c, false)
    | some s' => (match cl.2.1 with
      | [] => qmat (qbind E (qent A c) s') c
      | _ :: _ => qpush (qmat (qbind E (qent A c) s') c) ((qi A).length + 2, 0, cut, none) (qp A), true)
def qrest (A : qA) (c : qC) (r : List qC) : qA := (upn (upn A.1 7 c.2.2.2.1.2.1) 8 c.2.2.2.1.2.2, A.2.1, A.2.2.1, A.2.2.2.1.take c.2.2.2.1.1, c.2.2.2.2, c.2.2.1, r)
def qmore (c : qC) (L : List Nat) (r : List qC) : List qC := match L with
  | [] => r
  | _ :: _ => (c.1, L, c.2.2) :: r
noncomputable def qback (E : qE) : Nat → qA → qA
  | 0, A => A
  | n + 1, A => match qh A with
    | [] => qfin A 3 0
    | c :: r => match c.1, c.2.1 with
      | some g, c0 :: L => if (qtry E (qrest A c (qmore c L r)) c0 g r.length).2 = true then (qtry E (qrest A c (qmore c L r)) c0 g r.length).1 else qback E n (qtry E (qrest A c (qmore c L r)) c0 g r.length).1
      | _, _ => qrest A c r
def qpot (A : qA) : Nat := ((qh A).map (fun c => c.2.1.length + 1)).sum
noncomputable def qbk (E : qE) (A : qA) : qA := qback E (qpot A + 1) A
def qkeep (A : qA) (k : Nat) : qA := qcs A ((qh A).drop ((qh A).length - k))
def qadd (A : qA) (g : Option pE) (L : List Nat) : qA := qcs A ((g, L, qp A, ((qi A).length, qn A 7, qn A 8), qs A) :: qh A)
/-- behind calls: the goal, and whether it stands in a body or in the query -/
def qcl : pE → Bool → Option (pE × Bool)
  | .mulL k (.add x r), own => if bI k (eN r + 1) = 4 then (if eCa x = true then qcl x false else none) else some (.mulL k (.add x r), own)
  | t, own => some (t, own)
def qcand (E : qE) (g : pE) : List Nat := (List.range E.1.length).filter (cdB E.1 (eKy g) (fk g) (fy g))
noncomputable def quni (E : qE) (A : qA) (t u : pE) : qA := match uni (qs A) t u with
  | some s' => qbind E A s'
  | none => qbk E A
noncomputable def qcall (E : qE) (A : qA) (own : Bool) (cut : Nat) (k : Int) (a : pE) : qA :=
  if bI k (eN a) = 1 then A
  else if bI k (eN a) = 2 then qbk E A
  else if bI k (eN a) = 3 then (if own = true then qkeep A cut else A)
  else if bI k (eN a) = 5 then (if eCa (eAr a 0) = true then qpush (qadd A none []) (0, 0, (qh A).length, some (eAr a 0)) (qp A) else qfin A 4 1)
  else if bI k (eN a) = 6 then quni E A (eAr a 0) (eAr a 1)
  else if bI k (eN a) = 7 then (match ev0 (eAr a 0), ev0 (eAr a 1) with
    | some x, some y => if x < y then A else qbk E A
    | _, _ => qfin A 4 2)
  else if bI k (eN a) = 8 then (match ev0 (eAr a 1) with
    | some v => quni E A (eAr a 0) (.num v)
    | none => qfin A 4 2)
  else (match qcand E (.mulL k a) with
    | [] => qbk E A
    | c :: L => qbk E (qadd A (some (.mulL k a)) (c :: L)))
def qgoal (E : qE) (A : qA) (f : qF) : pE := match f.2.2.2 with
  | some g => g
  | none => rn (plc E (qi A) f.1) ((gsO E (qi A) f.1).getD f.2.1 (.num 0))
/-- the first goal is taken away -/
def qdrop (E : qE) (A : qA) (f : qF) (r : List qF) : qA := match f.2.2.2 with
  | some g => qpush A (0, 1, f.2.2.1, some g) r
  | none => if f.2.1 + 1 < (gsO E (qi A) f.1).length then qpush A (f.1, f.2.1 + 1, f.2.2.1, none) r else qtop A r
def qcnt (A : qA) : qA := qnum (qnum (qnum A 2 (qn A 2 + 1)) 5 (max (qn A 5) (qp A).length)) 6 (max (qn A 6) (qh A).length)
noncomputable def qinf (E : qE) (A : qA) (f : qF) (r : List qF) : qA := match qcl (sb (qs A) (qgoal E A f)) f.2.2.2.isNone with
  | some (.mulL k a, own) => qcall E (qdrop E (qcnt A) f r) own f.2.2.1 k a
  | _ => qfin (qdrop E (qcnt A) f r) 4 1
def qend (f : qF) : Bool := f.2.2.2.isSome && decide (f.2.1 = 1)
noncomputable def qrun (E : qE) (lim : Nat) : Nat → Nat → qA → qA
  | 0, _, A => A
  | n + 1, made, A => if qn A 0 ≠ 1 then A else match qp A with
    | [] => qnum (qnum A 0 2) 3 (qn A 3 + 1)
    | f :: r => if qend f = true then qrun E lim n made (qbk E (qkeep A f.2.2.1))
      else if 300 ≤ qn A 2 then qfin A 4 3
      else if lim ≤ made then A
      else qrun E lim n (made + 1) (qinf E A f r)
noncomputable def qproc (E : qE) (lim : Nat) (A : qA) : qA := if qn A 0 = 2 then qrun E lim 2000 0 (qbk E (qnum A 0 1)) else qrun E lim 2000 0 A
def qask : qA := (fun k => if k = 0 ∨ k = 8 then 1 else 0, fun _ => 0, fun _ => 0, [], (fun x => .var x), [(0, 0, 0, none)], [])
def qno : qA := (fun _ => 0, fun _ => 0, fun _ => 0, [], (fun x => .var x), [], [])
