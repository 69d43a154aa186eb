/-! WHAT SHOWS THE SEARCH, abstract; THE MODEL COUNTS VARIABLES -/
/-- nodes of a tree (true: of a list of arguments) -/
def tn : pE → Bool → Nat
  | .num _, b => if b = true then 0 else 1
  | .mulL _ a, _ => 1 + tn a true
  | .add a r, _ => tn a false + tn r true
  | _, _ => 1
def tnS : List pE → Nat
  | [] => 0
  | t :: r => tn t false + tnS r
theorem tnS_app : ∀ l r : List pE, tnS (l ++ r) = tnS l + tnS r
  | [], r => by show tnS r = 0 + tnS r; omega
  | a :: l, r => by
    show tn a false + tnS (l ++ r) = tn a false + tnS l + tnS r
    rw [tnS_app l r]
    omega
theorem tn_eM {nv : Nat} : ∀ (t : pE) (b : Bool), eK nv t b → tn t b ≤ (if b = true then eN t else 1) + 2 * eM t
  | .num i, b, h => by
    cases b
    · exact Nat.le_refl 1
    · exact Nat.zero_le _
  | .var v, b, h => by
    rw [h.1]
    exact Nat.le_add_right 1 _
  | .mulL k a, b, h => by
    have ih := tn_eM a true h.2.2.2.2.2
    have h3 := h.2.2.1
    rw [h.1]
    rw [if_pos rfl] at ih
    show 1 + tn a true ≤ 1 + 2 * ((if eN a = 0 then 0 else if eN a = 3 then 2 else 1) + eM a)
    split
    · omega
    · split <;> omega
  | .add a r, b, h => by
    have i1 := tn_eM a false h.2.1
    have i2 := tn_eM r true h.2.2
    rw [if_pos rfl] at i2
    rw [if_neg (by decide)] at i1
    rw [h.1, if_pos rfl]
    show tn a false + tn r true ≤ (eN r + 1) + 2 * (eM a + eM r)
    omega
  | .sub a r, b, h => h.elim
  | .neg a, b, h => h.elim
  | .mulR a k, b, h => h.elim
theorem tnS_eMs {nv : Nat} : ∀ gs : List pE, (∀ g ∈ gs, eK nv g false) → tnS gs ≤ eMs gs
  | [], _ => Nat.le_refl _
  | g :: r, h => by
    have i1 := tn_eM g false (h g (List.mem_cons_self ..))
    have i2 := tnS_eMs r (fun x hx => h x (List.mem_cons_of_mem _ hx))
    rw [if_neg (by decide)] at i1
    show tn g false + tnS r ≤ 2 * eM g + 1 + eMs r
    omega
theorem tnS_len {nv : Nat} : ∀ S : List pE, (∀ g ∈ S, eK nv g false) → S.length ≤ tnS S
  | [], _ => Nat.le_refl _
  | g :: r, h => by
    have i2 := tnS_len r (fun x hx => h x (List.mem_cons_of_mem _ hx))
    have i1 : 1 ≤ tn g false := by
      have := h g (List.mem_cons_self ..)
      cases g with
      | mulL k a => exact Nat.le_add_right 1 _
      | num i => exact Nat.le_refl _
      | var v => exact Nat.le_refl _
      | add a r => exact absurd this.1 (by decide)
      | sub a r => exact this.elim
      | neg a => exact this.elim
      | mulR a k => exact this.elim
    show r.length + 1 ≤ tn g false + tnS r
    omega
theorem eRa_tn {nv : Nat} : ∀ a : pE, eK nv a true → tnS (eRa a (eN a)) = tn a true ∧ (∀ v, oL (eRa a (eN a)) v = oE a v) ∧ ∀ x ∈ eRa a (eN a), eK nv x false
  | .num i, h => ⟨rfl, fun _ => rfl, fun x hx => by cases hx⟩
  | .add a r, h => by
    obtain ⟨i1, i2, i3⟩ := eRa_tn r h.2.2
    have e : eRa (.add a r) (eN (.add a r)) = eRa r (eN r) ++ [a] := eRa_cons a r (eN r)
    rw [e]
    refine ⟨?_, fun v => ?_, fun x hx => ?_⟩
    · rw [tnS_app, i1]
      show tn r true + (tn a false + 0) = tn a false + tn r true
      omega
    · rw [oL_app, i2 v]
      show oE r v + (oE a v + 0) = oE a v + oE r v
      omega
    · rcases List.mem_append.mp hx with hx | hx
      · exact i3 x hx
      · rw [List.mem_singleton.mp hx]
        exact h.2.1
  | .var v, h => absurd h.1 (by decide)
  | .mulL k a, h => absurd h.1 (by decide)
  | .sub a r, h => h.elim
  | .neg a, h => h.elim
  | .mulR a k, h => h.elim
/-- goals that are left in a frame, and the variables in them -/
def fGo (E : qE) (A : qA) (f : qF) : Nat := match f.2.2.2 with
  | some _ => 2 - f.2.1
  | none => (gsO E (qi A) f.1).length - f.2.1
def fVa (E : qE) (A : qA) (f : qF) : Nat := match f.2.2.2 with
  | some _ => 0
  | none => cntP (oL ((gsO E (qi A) f.1).drop f.2.1)) 8
/-- stack of terms, top first -/
def stk (m : hy_m) : List pE → Prop
  | [] => True
  | t :: r => mN m t (m 93 (r.length : Int)) ∧ stk m r
def rF93 (m m' : hy_m) : Prop := ∀ (a : Nat) (e : Int), a ≠ 93 → m' a e = m a e
theorem stk_fr {m m' : hy_m} : ∀ S : List pE, (∀ (a : Nat) (e : Int), ¬ (a = 93 ∧ (S.length : Int) ≤ e) → m' a e = m a e) → stk m S → stk m' S
  | [], _, _ => trivial
  | t :: r, hf, h => by
    have hl : (t :: r).length = r.length + 1 := rfl
    refine ⟨?_, stk_fr r (fun a e q => hf a e (by rw [hl]; omega)) h.2⟩
    rw [hf 93 _ (by rw [hl]; omega)]
    exact rP_rw (fun a e q1 q2 => hf a e (by omega)) _ _ _ h.1
theorem k_sh {k v : Nat} (hk : k < 256) (hv : v < 8) : iA (iSr (k : Int) (v : Int)) 1 = if k.testBit v = true then 1 else 0 := by
  have e1 := iSr_n (x := (k : Int)) (k := v) (show -2147483648 ≤ _ ∧ _ < 2147483648 by omega) (by omega)
  have e2 := iA_m (iSr (k : Int) (v : Int)) (k := 1) (by decide)
  rw [show ((2 ^ 1 - 1 : Nat) : Int) = 1 from rfl, show ((2 ^ 1 : Nat) : Int) = 2 from rfl] at e2
  rw [e2, e1, Nat.testBit_eq_decide_div_mod_eq]
  have e3 : (k : Int) / ((2 ^ v : Nat) : Int) = ((k / 2 ^ v : Nat) : Int) := (Int.natCast_ediv k (2 ^ v)).symm
  rw [e3]
  by_cases c : k / 2 ^ v % 2 = 1
  · rw [decide_eq_true c, if_pos rfl]
    omega
  · rw [decide_eq_false c, if_neg (by decide)]
    omega
theorem mK_0 : mK 0 (fun _ => 0) := ⟨0, rfl, by decide, fun v _ => by
  rw [Nat.zero_testBit]
  exact ⟨(fun q => by cases q), (fun q => absurd q (Nat.lt_irrefl _))⟩⟩
section ND
variable {m m' : hy_m} {Q : Int → hy_m → Prop} {nv : Nat} {o : Nat → Nat}
theorem cntP_le (o : Nat → Nat) : ∀ n, cntP o n ≤ n
  | 0 => Nat.le_refl _
  | n + 1 => by
    have := cntP_le o n
    show cntP o n + (if 0 < o n then 1 else 0) ≤ n + 1
    split <;> omega
theorem sp_278_161 {x : Int} (h : mK x o) (hq : Q (cntP o 8 : Int) m) : wq_278_161 x 0 0 m Q := by
  obtain ⟨k, rfl, hk, hb⟩ := h
  unfold wq_278_161
  refine wL2_rule (Nat.lt_wfRel.wf) (fun x5 x6 m' => m' = m ∧ ∃ d : Nat, x6 = d ∧ d ≤ 8 ∧ x5 = (cntP o d : Nat)) (fun _ x6 _ => 20 - x6.toNat) ?_ ⟨rfl, 0, rfl, Nat.zero_le _, rfl⟩
  rintro P x5 x6 m1 ⟨rfl, d, rfl, hd, rfl⟩ hP
  unfold wf_278_161
  refine ⟨fun q => ?_, fun q => ?_⟩
  · have : d = 8 := by omega
    rw [this]
    exact hq
  · have hl := cntP_le o d
    have e : iA (iSr (k : Int) (d : Int)) 1 = ((if 0 < o d then 1 else 0 : Nat) : Int) := by
      rw [k_sh hk (by omega)]
      by_cases c : 0 < o d
      · rw [if_pos c, if_pos ((hb d (by omega)).mpr c)]; rfl
      · rw [if_neg c, if_neg (fun z => c ((hb d (by omega)).mp z))]; rfl
    have hi : (if 0 < o d then 1 else 0 : Nat) ≤ 1 := by split <;> omega
    rw [e]
    refine ⟨show -2147483648 ≤ _ ∧ _ < 2147483648 by omega, show -2147483648 ≤ _ ∧ _ < 2147483648 by omega, hP _ _ _ ⟨rfl, d + 1, by omega, by omega, ?_⟩ (show 20 - ((d : Int) + 1).toNat < 20 - ((d : Nat) : Int).toNat by omega)⟩
    show _ = ((cntP o d + (if 0 < o d then 1 else 0) : Nat) : Int)
    omega
/-- the arguments of a compound are pushed -/
theorem sp_278_113 {P : Int → Int → hy_m → Prop} {x : Int} {n : Int} {a : pE} {S : List pE} {m0 : hy_m} (h0 : 0 ≤ n ∧ n < 3584) (h78 : m0 78 n = (eN a : Nat)) (ha : rP m0 (fun z => 0 ≤ z ∧ z < 3584) a 0 n) (hk : eK nv a true) (h3 : eN a ≤ 3) (hb : S.length + eN a ≤ 300) (hq : ∀ m', rF93 m0 m' → stk m' (eRa a (eN a) ++ S) → P ((eRa a (eN a) ++ S).length : Int) x m') : ∀ (d j : Nat) (m : hy_m), j + d = eN a → rF93 m0 m → stk m (eRa a j ++ S) → wq_278_113 P ((eRa a j ++ S).length : Int) x n (j : Int) m Q := by
  intro d
  induction d with
  | zero =>
    intro j m hj hf hst P2 hP2
    refine hP2 _ _ _ ?_
    unfold wf_278_113
    have e78 : m 78 n = (eN a : Nat) := by rw [hf 78 n (by decide)]; exact h78
    rw [e78]
    have : j = eN a := by omega
    subst this
    exact ⟨h0.1, h0.2, fun _ => hq m hf hst, fun q => absurd q (by omega)⟩
  | succ d ih =>
    intro j m hj hf hst P2 hP2
    have el : (eRa a j ++ S).length = j + S.length := by rw [List.length_append, eRa_len]
    refine hP2 _ _ _ ?_
    unfold wf_278_113
    have e78 : m 78 n = (eN a : Nat) := by rw [hf 78 n (by decide)]; exact h78
    rw [e78, el]
    refine ⟨h0.1, h0.2, fun q => absurd q (by omega), fun _ => ⟨by omega, by omega, by omega, by omega, show -2147483648 ≤ _ ∧ _ < 2147483648 by omega, show -2147483648 ≤ _ ∧ _ < 2147483648 by omega, ?_⟩⟩
    have e79 : m 79 (3 * n + (j : Int)) = m0 79 (3 * n + (j : Int)) := hf 79 _ (by decide)
    have har := rP_ar a 0 j nv ha hk (by omega)
    rw [Nat.zero_add] at har
    have hn : (eRa a (j + 1) ++ S).length = j + S.length + 1 := by rw [List.length_append, eRa_len]; omega
    have hf2 : ∀ (a2 : Nat) (e : Int), ¬ (a2 = 93 ∧ e = ((j + S.length : Nat) : Int)) → hy_u m 93 ((j + S.length : Nat) : Int) (m 79 (3 * n + (j : Int))) a2 e = m a2 e := fun a2 e q => hy_uf q
    have hw := ih (j + 1) (hy_u m 93 ((j + S.length : Nat) : Int) (m 79 (3 * n + (j : Int)))) (by omega) (fun a2 e q => (hf2 a2 e (by omega)).trans (hf a2 e q)) ?_ P2 hP2
    · rw [hn] at hw
      exact hw
    · show stk _ (eAr a j :: (eRa a j ++ S))
      refine ⟨?_, stk_fr _ (fun a2 e q => hf2 a2 e (by omega)) hst⟩
      rw [el, hy_us]
      have e79' := e79.symm
      rw [e79'] at har
      exact rP_rw (fun a2 e q1 q2 => (hf2 a2 e (by omega)).trans (hf a2 e (by omega))) _ _ _ har
/-- a stack of terms is walked -/
theorem sp_278_65 {oG : Nat → Nat} {m0 : hy_m} (hnv : nv ≤ 8) (hq : ∀ m', rF93 m0 m' → Q (cntP oG 8 : Int) m') {P : Int → Int → hy_m → Prop} (hP : ∀ x y m, wf_278_65 Q P x y m → P x y m) : ∀ (n : Nat) (S : List pE) (o : Nat → Nat) (x : Int) (m : hy_m), tnS S ≤ n → n ≤ 250 → mK x o → (∀ v, o v + oL S v = oG v) → (∀ t ∈ S, eK nv t false) → rF93 m0 m → stk m S → P (S.length : Int) x m := by
  intro n
  induction n using Nat.strongRecOn with
  | ind n ih =>
    intro S o x m hn h250 hx ho hS hf hst
    refine hP _ _ _ ?_
    unfold wf_278_65
    cases S with
    | nil =>
      refine ⟨fun _ => sp_278_161 (o := oG) (mK_c hx (fun v => by have := ho v; exact this)) (hq m hf), fun q => absurd q (by decide)⟩
    | cons t S =>
      have hl : ((t :: S).length : Int) + -1 = (S.length : Int) := by rw [List.length_cons]; omega
      rw [hl]
      have hlen := tnS_len (t :: S) hS
      have hll : (t :: S).length = S.length + 1 := rfl
      obtain ⟨h1, h2⟩ := hst
      have hA := rP_A h1
      have hkt := hS t (List.mem_cons_self ..)
      have hSr : ∀ x ∈ S, eK nv x false := fun x hx => hS x (List.mem_cons_of_mem _ hx)
      have etn : tnS (t :: S) = tn t false + tnS S := rfl
      refine ⟨fun q => absurd q (by omega), fun _ => ⟨by omega, by omega, hA.1, hA.2, fun h76 => ⟨show -2147483648 ≤ _ ∧ _ < 2147483648 by omega, ?_⟩, fun h76 => ⟨hA.1, hA.2, show -2147483648 ≤ _ ∧ _ < 2147483648 by omega, ?_⟩⟩⟩
      · have hx0 : mK (iO x 0) o := mK_c (mK_or2 hx mK_0) (fun v => Nat.zero_add _)
        cases t with
        | var v => exact absurd h1.2.2.1 h76
        | num i =>
          have h78 : m 78 (m 93 (S.length : Int)) = ((0 : Nat) : Int) := by
            rcases h1 with h1 | h1
            · exact h1.2.2.2.2
            · exact absurd h1.1 (by decide)
          have := sp_278_113 (Q := Q) (P := P) (x := iO x 0) (nv := 0) (a := .num 0) (S := S) (m0 := m) hA h78 (Or.inr ⟨Int.le_refl _, rfl⟩) rfl (Nat.zero_le _) (by show S.length + 0 ≤ 300; omega) (fun m' g1 g2 => ?_) 0 0 m rfl (fun _ _ _ => rfl) h2
          · exact this
          · have e1 : tn (.num i : pE) false = 1 := rfl
            exact ih (tnS S) (by omega) S o _ m' (Nat.le_refl _) (by omega) hx0 (fun v => by have := ho v; show o v + oL S v = oG v; rw [← this]; show _ = o v + (0 + oL S v); omega) hSr (fun a e q => (g1 a e q).trans (hf a e q)) g2
        | mulL k a =>
          obtain ⟨i1, i2, i3⟩ := eRa_tn a hkt.2.2.2.2.2
          have e1 : tn (.mulL k a : pE) false = 1 + tn a true := rfl
          have el : (eRa a (eN a) ++ S).length = eN a + S.length := by rw [List.length_append, eRa_len]
          have h3 := hkt.2.2.1
          have := sp_278_113 (Q := Q) (P := P) (x := iO x 0) (nv := nv) (a := a) (S := S) (m0 := m) hA h1.2.2.2.1 h1.2.2.2.2.2.2 hkt.2.2.2.2.2 h3 (by omega) (fun m' g1 g2 => ?_) (eN a) 0 m (Nat.zero_add _) (fun _ _ _ => rfl) h2
          · exact this
          · refine ih (tnS (eRa a (eN a) ++ S)) (by rw [tnS_app, i1]; omega) _ o _ m' (Nat.le_refl _) (by rw [tnS_app, i1]; omega) hx0 (fun v => ?_) (fun x hx => ?_) (fun a e q => (g1 a e q).trans (hf a e q)) g2
            · rw [← ho v, oL_app, i2 v]
              rfl
            · rcases List.mem_append.mp hx with hx | hx
              · exact i3 x hx
              · exact hSr x hx
        | add a r => exact absurd hkt.1 (by decide)
        | sub a r => exact hkt.elim
        | neg a => exact hkt.elim
        | mulR a k => exact hkt.elim
      · cases t with
        | var v =>
          have hv : (v : Nat) < 8 := Nat.lt_of_lt_of_le hkt.2 hnv
          have h77 : m 77 (m 93 (S.length : Int)) = ((v : Nat) : Int) := h1.2.2.2.1
          rw [h77]
          have h78 : m 78 (m 93 (S.length : Int)) = ((0 : Nat) : Int) := h1.2.2.2.2
          have e1 : tn (.var v : pE) false = 1 := rfl
          have := sp_278_113 (Q := Q) (P := P) (x := iO x (iSl 1 ((v : Nat) : Int))) (nv := 0) (a := .num 0) (S := S) (m0 := m) hA h78 (Or.inr ⟨Int.le_refl _, rfl⟩) rfl (Nat.zero_le _) (by show S.length + 0 ≤ 300; omega) (fun m' g1 g2 => ?_) 0 0 m rfl (fun _ _ _ => rfl) h2
          · exact this
          · refine ih (tnS S) (by omega) S _ _ m' (Nat.le_refl _) (by omega) (mK_or hx hv) (fun w => ?_) hSr (fun a e q => (g1 a e q).trans (hf a e q)) g2
            rw [← ho w]
            show (if (v : Nat) = w then 1 else 0) + o w + oL S w = o w + ((if (v : Nat) = w then 1 else 0) + oL S w)
            omega
        | num i =>
          rcases h1 with h1 | h1
          · have := h1.2.2.1
            omega
          · exact absurd h1.1 (by decide)
        | mulL k a =>
          have := h1.2.2.2.2.1
          rw [h76] at this
          split at this <;> cases this
        | add a r => exact absurd hkt.1 (by decide)
        | sub a r => exact hkt.elim
        | neg a => exact hkt.elim
        | mulR a k => exact hkt.elim
/-- variablesLeft, of a frame with goals -/
theorem sp_278 {j sl g0 : Nat} {hd : Option pE} {gs : List pE} (hj : j < 1300) (hs : sl < 28) (h99 : m 99 (j : Int) = (sl : Nat)) (h100 : m 100 (j : Int) = (g0 : Nat)) (hc : clR m sl hd gs nv) (hk : kOK hd gs nv) (hg : g0 ≤ gs.length) (hq : ∀ m', rF93 m m' → Q (cntP (oL (gs.drop g0)) 8 : Int) m') : wq_278 (j : Int) m Q := by
  obtain ⟨g82, g84, gg, gh⟩ := clR_g hc (by omega)
  have hkg : ∀ g ∈ gs, eK nv g false := fun g hg => (hk.2.2.1 g hg).1
  have hkM := hk.2.2.2.2
  have hg5 := hk.2.2.2.1
  unfold wq_278
  rw [h99, h100]
  refine ⟨by omega, by omega, fun _ => ⟨by omega, by omega, ?_⟩, fun q => by omega⟩
  unfold wq_278_25
  intro P hP
  have key : ∀ (d i : Nat) (S : List pE) (m' : hy_m), i + d = gs.length → g0 ≤ i → (∀ v, oL S v + oL (gs.drop i) v = oL (gs.drop g0) v) → tnS S + tnS (gs.drop i) ≤ 119 → (∀ t ∈ S, eK nv t false) → rF93 m m' → stk m' S → P (S.length : Int) (i : Int) m' := by
    intro d
    induction d with
    | zero =>
      intro i S m' hi hi0 ho ht hS hf hst
      have hi : i = gs.length := by omega
      subst hi
      refine hP _ _ _ ?_
      unfold wf_278_25
      have e82 : m' 82 (sl : Int) = gs.length := by rw [hf 82 _ (by decide)]; exact g82
      rw [e82]
      refine ⟨by omega, by omega, fun _ => ?_, fun q => absurd q (by omega)⟩
      intro P2 hP2
      rw [List.drop_length] at ho ht
      exact sp_278_65 (nv := nv) (m0 := m) hk.1 hq hP2 (tnS S) S (fun _ => 0) 0 m' (Nat.le_refl _) (by omega) mK_0 (fun v => by have := ho v; show 0 + oL S v = _; rw [← this]; show _ = oL S v + 0; omega) hS hf hst
    | succ d ih =>
      intro i S m' hi hi0 ho ht hS hf hst
      have hlt : i < gs.length := by omega
      have hdr : gs.drop i = gs[i] :: gs.drop (i + 1) := List.drop_eq_getElem_cons hlt
      rw [hdr] at ho ht
      have ht' : tnS S + (tn gs[i] false + tnS (gs.drop (i + 1))) ≤ 119 := ht
      have hlen := tnS_len S hS
      refine hP _ _ _ ?_
      unfold wf_278_25
      have e82 : m' 82 (sl : Int) = gs.length := by rw [hf 82 _ (by decide)]; exact g82
      rw [e82]
      refine ⟨by omega, by omega, fun q => absurd q (by omega), fun _ => ⟨by omega, by omega, by omega, by omega, show -2147483648 ≤ _ ∧ _ < 2147483648 by omega, show -2147483648 ≤ _ ∧ _ < 2147483648 by omega, ?_⟩⟩
      have hf2 : ∀ (a2 : Nat) (e : Int), ¬ (a2 = 93 ∧ e = (S.length : Int)) → hy_u m' 93 (S.length : Int) (m' 83 (5 * (sl : Int) + (i : Int))) a2 e = m' a2 e := fun a2 e q => hy_uf q
      refine ih (i + 1) (gs[i] :: S) _ (by omega) (by omega) (fun v => ?_) ?_ (fun t ht => ?_) (fun a2 e q => (hf2 a2 e (by omega)).trans (hf a2 e q)) ⟨?_, stk_fr S (fun a2 e q => hf2 a2 e (by omega)) hst⟩
      · rw [← ho v]
        show oE gs[i] v + oL S v + oL (gs.drop (i + 1)) v = oL S v + (oE gs[i] v + oL (gs.drop (i + 1)) v)
        omega
      · show tn gs[i] false + tnS S + tnS (gs.drop (i + 1)) ≤ 119
        omega
      · rcases List.mem_cons.mp ht with rfl | ht
        · exact hkg _ (List.getElem_mem hlt)
        · exact hS t ht
      · rw [hy_us]
        have h83 := gg i hlt
        rw [← hf 83 _ (by decide)] at h83
        exact rP_rw (fun a2 e q1 q2 => (hf2 a2 e (by omega)).trans (hf a2 e (by omega))) _ _ _ h83
  have h119 : tnS (gs.drop g0) ≤ 119 := by
    have := tnS_eMs gs hkg
    have h2 : tnS gs = tnS (gs.take g0) + tnS (gs.drop g0) := by rw [← tnS_app, List.take_append_drop]
    omega
  exact key (gs.length - g0) g0 [] m (by omega) (Nat.le_refl _) (fun v => Nat.zero_add _) (by show 0 + _ ≤ _; omega) (fun t ht => by cases ht) (fun _ _ _ => rfl) trivial
end ND
