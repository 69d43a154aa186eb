/-! WHAT THE PARSER MAKES: trees that are in order, and small -/
def eK (nv : Nat) : pE → Bool → Prop
  | .num i, b => if b = true then i = 0 else 0 ≤ i ∧ i < 1000000
  | .var v, b => b = false ∧ v < nv
  | .mulL k a, b => b = false ∧ nmOK k ∧ eN a ≤ 3 ∧ (k = 1 → eN a = 0) ∧ (k = 2 → eN a = 2) ∧ eK nv a true
  | .add a r, b => b = true ∧ eK nv a false ∧ eK nv r true
  | _, _ => False
def eM : pE → Nat
  | .mulL _ a => (if eN a = 0 then 0 else if eN a = 3 then 2 else 1) + eM a
  | .add a r => eM a + eM r
  | _ => 0
def eMs : List pE → Nat
  | [] => 0
  | a :: r => 2 * eM a + 1 + eMs r
theorem eMs_app : ∀ l r : List pE, eMs (l ++ r) = eMs l + eMs r
  | [], r => by
    show eMs r = 0 + eMs r
    omega
  | a :: l, r => by
    show 2 * eM a + 1 + eMs (l ++ r) = 2 * eM a + 1 + eMs l + eMs r
    rw [eMs_app l r]
    omega
theorem eM_L : ∀ l : List pE, 2 * eM (eL l) + l.length = eMs l
  | [] => rfl
  | a :: r => by
    show 2 * (eM a + eM (eL r)) + (r.length + 1) = 2 * eM a + 1 + eMs r
    have := eM_L r
    omega
theorem eK_mono {n n' : Nat} (h : n ≤ n') : ∀ (t : pE) (b : Bool), eK n t b → eK n' t b
  | .num i, b, ht => ht
  | .var v, b, ht => ⟨ht.1, Nat.lt_of_lt_of_le ht.2 h⟩
  | .mulL k a, b, ht => ⟨ht.1, ht.2.1, ht.2.2.1, ht.2.2.2.1, ht.2.2.2.2.1, eK_mono h a true ht.2.2.2.2.2⟩
  | .add a r, b, ht => ⟨ht.1, eK_mono h a false ht.2.1, eK_mono h r true ht.2.2⟩
  | .sub _ _, _, ht => ht.elim
  | .neg _, _, ht => ht.elim
  | .mulR _ _, _, ht => ht.elim
theorem eK_L {nv : Nat} : ∀ l : List pE, (∀ a ∈ l, eK nv a false) → eK nv (eL l) true
  | [], _ => rfl
  | a :: r, h => ⟨rfl, h a (List.mem_cons_self ..), eK_L r (fun b hb => h b (List.mem_cons_of_mem _ hb))⟩
theorem eK_C {nv : Nat} {k : Int} {l : List pE} (hk : nmOK k) (hl : l.length ≤ 3) (h1 : k = 1 → l.length = 0) (h2 : k = 2 → l.length = 2) (h : ∀ a ∈ l, eK nv a false) : eK nv (eC k l) false := ⟨rfl, hk, by rw [eN_L]; exact hl, fun e => by rw [eN_L]; exact h1 e, fun e => by rw [eN_L]; exact h2 e, eK_L l h⟩
theorem eK_I {nv : Nat} {t : pE} (ht : eK nv t false) : ∀ l : List pE, (∀ a ∈ l, eK nv a false) → eK nv (eI t l) false
  | [], _ => ht
  | a :: r, h => by
    refine eK_C (Or.inr (Or.inl rfl)) (by show 2 ≤ 3; omega) (fun e => by omega) (fun _ => rfl) (fun b hb => ?_)
    rcases List.mem_cons.mp hb with rfl | hb
    · exact h _ (List.mem_cons_self ..)
    · have : b = eI t r := by simpa using hb
      rw [this]
      exact eK_I ht r (fun c hc => h c (List.mem_cons_of_mem _ hc))
theorem eM_C (k : Int) (l : List pE) (hl : l ≠ []) (h3 : l.length ≤ 3) : 2 * eM (eC k l) + 1 ≤ eMs l + l.length + 2 := by
  have := eM_L l
  have h1 : l.length ≠ 0 := fun e => hl (List.length_eq_zero_iff.mp e)
  show 2 * ((if eN (eL l) = 0 then 0 else if eN (eL l) = 3 then 2 else 1) + eM (eL l)) + 1 ≤ _
  rw [eN_L, if_neg h1]
  split <;> omega
theorem eM_I (t : pE) : ∀ l : List pE, 2 * eM (eI t l) = 2 * eM t + eMs l + l.length
  | [] => by
    show 2 * eM t = 2 * eM t + 0 + 0
    omega
  | a :: r => by
    have ih := eM_I t r
    show 2 * ((if eN (eL [a, eI t r]) = 0 then 0 else if eN (eL [a, eI t r]) = 3 then 2 else 1) + (eM a + (eM (eI t r) + 0))) = 2 * eM t + (2 * eM a + 1 + eMs r) + (r.length + 1)
    rw [show eN (eL [a, eI t r]) = 2 from rfl, if_neg (by decide), if_neg (by decide)]
    omega
/-- a goal or a head -/
def gOK (nv : Nat) (t : pE) : Prop := eK nv t false ∧ ∃ k a, t = .mulL k a ∧ wOK k
def fOK (nv : Nat) (f : pF) : Prop := (f.1 = 0 ∧ wOK f.2.1 ∧ f.2.2.length ≤ 2 ∨ (f.1 = 1 ∨ f.1 = 2) ∧ f.2.1 = 2) ∧ (f.1 = 2 → f.2.2 ≠ []) ∧ ∀ a ∈ f.2.2, eK nv a false
def fP (f : pF) : Nat := eMs f.2.2 + f.2.2.length + (if f.1 = 0 then 2 else 1)
def fPs : List pF → Nat
  | [] => 0
  | f :: r => fP f + fPs r
def hM (hd : Option pE) : Nat := match hd with
  | some h => 2 * eM h + 1
  | none => 0
/-- the last frame is that of a goal -/
def fBot : List pF → Prop
  | [] => True
  | [f] => f.1 = 0
  | _ :: r => fBot r
theorem fBot_c {f : pF} {r : List pF} (h : fBot (f :: r)) : fBot r := by
  cases r with
  | nil => trivial
  | cons g r => exact h
theorem fBot_s {f g : pF} {r : List pF} (h : fBot (f :: r)) (e : r = [] → g.1 = 0) : fBot (g :: r) := by
  cases r with
  | nil => exact e rfl
  | cons g' r => exact h
def pInv (s : pS) : Prop := match s with
  | (md, vs, hd, gs, t, nm, stk, p) => vs.length ≤ 8 ∧ (∀ h, hd = some h → gOK vs.length h) ∧ (∀ g ∈ gs, gOK vs.length g) ∧ gs.length ≤ 4 ∧ (∀ f ∈ stk, fOK vs.length f) ∧ fBot stk ∧
    (md = 3 → eK vs.length t false ∧ (stk = [] → gOK vs.length t) ∧ (nm = true → ∃ k, t = eA k ∧ wOK k)) ∧ (md = 1 ∨ md = 2 → stk ≠ []) ∧ (md = 0 → stk = []) ∧
    hM hd + eMs gs + fPs stk + (if md = 3 then 2 * eM t + 1 else if md = 2 then 1 else 0) ≤ p
theorem eK_A {nv : Nat} {k : Int} (h : wOK k) : eK nv (eA k) false := ⟨rfl, Or.inr (Or.inr h), Nat.zero_le _, fun _ => rfl, fun e => absurd e (wOK_ne h).2, rfl⟩
theorem pk_int {tx : List Int} {p : Nat} (h : pk1 tx p = 3) : 0 ≤ pin tx p ∧ pin tx p < 1000000 := by
  unfold pin
  unfold pk1 at h
  generalize tx.drop p = l at h ⊢
  cases l with
  | nil => exact absurd h (by decide)
  | cons c r =>
    by_cases h1 : cSm c = true
    · unfold tk at h
      dsimp only at h
      rw [if_pos h1] at h
      dsimp only at h
      split at h <;> omega
    · by_cases h2 : cLg c = true
      · unfold tk at h
        dsimp only at h
        rw [if_neg h1, if_pos h2] at h
        dsimp only at h
        split at h <;> omega
      · by_cases h3 : cDg c = true
        · have e : tk (c :: r) = (if ((c :: r).takeWhile cDg).length ≤ 6 then 3 else 12, ((c :: r).takeWhile cDg).length) := by
            unfold tk
            dsimp only
            rw [if_neg h1, if_neg h2, if_pos h3]
          rw [e] at h ⊢
          dsimp only at h ⊢
          by_cases h6 : ((c :: r).takeWhile cDg).length ≤ 6
          · rw [take_tw (p := cDg) _ _ (Nat.le_refl _)]
            have := pkI_b (l := (c :: r).takeWhile cDg) (fun c hc => tw_all _ c hc) _ h6
            exact ⟨this.1, this.2.1⟩
          · rw [if_neg h6] at h
            omega
        · unfold tk at h
          dsimp only at h
          rw [if_neg h1, if_neg h2, if_neg h3] at h
          unfold sgn at h
          repeat' split at h
          all_goals (dsimp only at h; omega)
theorem lix_lt : ∀ (l : List Int) (w : Int) (i : Nat), lix l w = some i → i < l.length
  | [], _, _, h => by cases h
  | a :: r, w, i, h => by
    unfold lix at h
    by_cases e : a = w
    · rw [if_pos e] at h
      cases h
      simp
    · rw [if_neg e] at h
      cases hr : lix r w with
      | none =>
        rw [hr] at h
        cases h
      | some j =>
        rw [hr] at h
        have : j + 1 = i := by simpa using h
        have := lix_lt r w j hr
        simp only [List.length_cons]
        omega
section PI
variable {tx : List Int} {qy : Bool}
theorem pInv_T {vs : List Int} {hd : Option pE} {gs : List pE} {stk : List pF} {p : Nat} {s' : pS} (hp : p ≤ tx.length) (h1 : vs.length ≤ 8) (h2 : ∀ h, hd = some h → gOK vs.length h) (h3 : ∀ g ∈ gs, gOK vs.length g) (h4 : gs.length ≤ 4) (h5 : ∀ f ∈ stk, fOK vs.length f) (h6 : fBot stk) (h7 : stk ≠ []) (h8 : hM hd + eMs gs + fPs stk ≤ p) (h : pT tx vs hd gs stk p = .inl s') : pInv s' := by
  have mono : ∀ {n' : Nat} {t : pE}, vs.length ≤ n' → gOK vs.length t → gOK n' t := fun hn ht => ⟨eK_mono hn _ _ ht.1, ht.2⟩
  have fmono : ∀ {n' : Nat} {f : pF}, vs.length ≤ n' → fOK vs.length f → fOK n' f := fun hn hf => ⟨hf.1, hf.2.1, fun a ha => eK_mono hn _ _ (hf.2.2 a ha)⟩
  unfold pT at h
  by_cases k1 : pk1 tx p = 1
  · rw [if_pos k1] at h
    have hw := (tk_word (Or.inl k1)).1
    have := pk_pos hp (show pk1 tx p ≠ 0 by omega)
    cases h
    refine ⟨h1, h2, h3, h4, h5, h6, fun _ => ⟨eK_A hw, fun e => absurd e h7, fun _ => ⟨_, rfl, hw⟩⟩, fun q => by omega, fun q => by omega, ?_⟩
    rw [if_pos rfl]
    show _ + (2 * 0 + 1) ≤ _
    omega
  · rw [if_neg k1] at h
    by_cases k3 : pk1 tx p = 3
    · rw [if_pos k3] at h
      have hi := pk_int k3
      have := pk_pos hp (show pk1 tx p ≠ 0 by omega)
      cases h
      refine ⟨h1, h2, h3, h4, h5, h6, fun _ => ⟨hi, fun e => absurd e h7, (fun q => by cases q)⟩, fun q => by omega, fun q => by omega, ?_⟩
      rw [if_pos rfl]
      show _ + (2 * 0 + 1) ≤ _
      omega
    · rw [if_neg k3] at h
      by_cases k2 : pk1 tx p = 2
      · rw [if_pos k2] at h
        have := pk_pos hp (show pk1 tx p ≠ 0 by omega)
        cases hl : lix vs (pwd tx p) with
        | some i =>
          rw [hl] at h
          cases h
          refine ⟨h1, h2, h3, h4, h5, h6, fun _ => ⟨⟨rfl, lix_lt _ _ _ hl⟩, fun e => absurd e h7, (fun q => by cases q)⟩, fun q => by omega, fun q => by omega, ?_⟩
          rw [if_pos rfl]
          show _ + (2 * 0 + 1) ≤ _
          omega
        | none =>
          rw [hl] at h
          dsimp only at h
          by_cases h8' : vs.length < 8
          · rw [if_pos h8'] at h
            cases h
            have hle : vs.length ≤ (vs ++ [pwd tx p]).length := by simp
            refine ⟨by simp; omega, fun t e => mono hle (h2 t e), fun g hg => mono hle (h3 g hg), h4, fun f hf => fmono hle (h5 f hf), h6, fun _ => ⟨⟨rfl, by simp⟩, fun e => absurd e h7, (fun q => by cases q)⟩, fun q => by omega, fun q => by omega, ?_⟩
            rw [if_pos rfl]
            show _ + (2 * 0 + 1) ≤ _
            omega
          · rw [if_neg h8'] at h
            cases h
      · rw [if_neg k2] at h
        by_cases k8 : pk1 tx p = 8
        · rw [if_pos k8] at h
          have := pk_pos hp (show pk1 tx p ≠ 0 by omega)
          cases h
          refine ⟨h1, h2, h3, h4, h5, h6, fun q => by omega, fun _ => h7, fun q => by omega, ?_⟩
          rw [if_neg (by decide), if_pos rfl]
          omega
        · rw [if_neg k8] at h
          cases h
theorem pInv_s {s s' : pS} (hm : s.1 ≤ 3) (hp : s.2.2.2.2.2.2.2 ≤ tx.length) (hI : pInv s) (h : pSt tx qy s = .inl s') : pInv s' := by
  obtain ⟨md, vs, hd, gs, t, nm, stk, p⟩ := s
  have hp : p ≤ tx.length := hp
  have hm : md ≤ 3 := hm
  obtain ⟨h1, h2, h3, h4, h5, h6, h7, h8, h8', h9⟩ := hI
  have hk0 : pk1 tx p ≠ 0 := by
    intro hz
    rw [pSt_0 (s := (md, vs, hd, gs, t, nm, stk, p)) hz] at h
    cases h
  have hadv := pk_pos hp hk0
  have wnm : ∀ {k : Int}, wOK k → nmOK k := fun hw => Or.inr (Or.inr hw)
  unfold pSt at h
  dsimp only at h
  by_cases m0 : md = 0
  · subst m0
    rw [if_pos rfl] at h
    have hst := h8' rfl
    subst hst
    rw [if_neg (by decide), if_neg (by decide)] at h9
    by_cases k1 : pk1 tx p = 1
    · rw [if_pos k1] at h
      have hw := (tk_word (Or.inl k1)).1
      split at h
      · cases h
      · cases h
        refine ⟨h1, h2, h3, h4, (fun f hf => by cases hf), trivial, fun _ => ⟨eK_A hw, fun _ => ⟨eK_A hw, _, _, rfl, hw⟩, fun _ => ⟨_, rfl, hw⟩⟩, fun q => by omega, fun q => by omega, ?_⟩
        rw [if_pos rfl]
        have : hM hd + eMs gs + 0 + 0 ≤ p := h9
        show hM hd + eMs gs + 0 + (2 * 0 + 1) ≤ _
        omega
    · rw [if_neg k1] at h
      cases h
  · rw [if_neg m0] at h
    by_cases m1 : md = 1
    · subst m1
      rw [if_pos rfl] at h
      rw [if_neg (by decide), if_neg (by decide)] at h9
      exact pInv_T hp h1 h2 h3 h4 h5 h6 (h8 (Or.inl rfl)) (by omega) h
    · rw [if_neg m1] at h
      by_cases m2 : md = 2
      · subst m2
        rw [if_pos rfl] at h
        rw [if_neg (by decide), if_pos rfl] at h9
        have hne := h8 (Or.inr rfl)
        by_cases k9 : pk1 tx p = 9
        · rw [if_pos k9] at h
          cases h
          refine ⟨h1, h2, h3, h4, h5, h6, fun _ => ⟨⟨rfl, Or.inl rfl, Nat.zero_le _, fun _ => rfl, fun e => by omega, rfl⟩, fun e => absurd e hne, (fun q => by cases q)⟩, fun q => by omega, fun q => by omega, ?_⟩
          rw [if_pos rfl]
          show _ + (2 * 0 + 1) ≤ _
          omega
        · rw [if_neg k9] at h
          refine pInv_T hp h1 h2 h3 h4 (fun f hf => ?_) ?_ (by simp) ?_ h
          · rcases List.mem_cons.mp hf with rfl | hf
            · exact ⟨Or.inr ⟨Or.inl rfl, rfl⟩, (fun e => by cases e), (fun a ha => by cases ha)⟩
            · exact h5 f hf
          · obtain ⟨g, r, rfl⟩ := List.exists_cons_of_ne_nil hne
            exact h6
          · show hM hd + eMs gs + (fP (1, 2, []) + fPs stk) ≤ p
            have : fP (1, 2, []) = 1 := rfl
            omega
      · rw [if_neg m2] at h
        by_cases m3 : md = 3
        · subst m3
          rw [if_pos rfl] at h9
          obtain ⟨e1, e2, e3⟩ := h7 rfl
          by_cases h6' : nm = true ∧ pk1 tx p = 6
          · rw [if_pos h6'] at h
            obtain ⟨k, rfl, hw⟩ := e3 h6'.1
            cases h
            refine ⟨h1, h2, h3, h4, fun f hf => ?_, ?_, fun q => by omega, fun _ => by simp, fun q => by omega, ?_⟩
            · rcases List.mem_cons.mp hf with rfl | hf
              · exact ⟨Or.inl ⟨rfl, hw, Nat.zero_le _⟩, (fun e => by cases e), (fun a ha => by cases ha)⟩
              · exact h5 f hf
            · cases stk with
              | nil => rfl
              | cons g r => exact h6
            · rw [if_neg (by decide), if_neg (by decide)]
              have h9 : hM hd + eMs gs + fPs stk + (2 * 0 + 1) ≤ p := h9
              show hM hd + eMs gs + (2 + fPs stk) + 0 ≤ _
              omega
          · rw [if_neg h6'] at h
            cases stk with
            | nil =>
              have hg := e2 rfl
              have h9 : hM hd + eMs gs + 0 + (2 * eM t + 1) ≤ p := h9
              have hG : pG tx qy vs hd gs t p = .inl s' := h
              clear h
              unfold pG at hG
              by_cases hh : (!qy && hd.isNone) = true
              · rw [if_pos hh] at hG
                have hnone : hd = none := by
                  cases hd with
                  | none => rfl
                  | some x => simp at hh
                subst hnone
                split at hG
                · cases hG
                · split at hG
                  · cases hG
                    refine ⟨h1, fun x e => by cases e; exact hg, (fun g hg => by cases hg), by decide, (fun f hf => by cases hf), trivial, fun q => by omega, fun q => by omega, fun _ => rfl, ?_⟩
                    rw [if_neg (by decide), if_neg (by decide)]
                    show 2 * eM t + 1 + 0 + 0 + 0 ≤ _
                    omega
                  · cases hG
              · rw [if_neg hh] at hG
                split at hG
                · cases hG
                · split at hG
                  · rename_i hc5
                    cases hG
                    refine ⟨h1, h2, fun g hgm => ?_, by simp; omega, (fun f hf => by cases hf), trivial, fun q => by omega, fun q => by omega, fun _ => rfl, ?_⟩
                    · rcases List.mem_append.mp hgm with hgm | hgm
                      · exact h3 g hgm
                      · have : g = t := by simpa using hgm
                        rw [this]
                        exact hg
                    · rw [if_neg (by decide), if_neg (by decide), eMs_app]
                      show hM hd + (eMs gs + (2 * eM t + 1 + 0)) + 0 + 0 ≤ _
                      omega
                  · cases hG
            | cons f r =>
              obtain ⟨f0, k, as⟩ := f
              dsimp only at h
              have hf := h5 _ (List.mem_cons_self ..)
              have hr : ∀ g ∈ r, fOK vs.length g := fun g hg => h5 g (List.mem_cons_of_mem _ hg)
              have hbr := fBot_c h6
              have hall : ∀ a ∈ as ++ [t], eK vs.length a false := by
                intro a ha
                rcases List.mem_append.mp ha with ha | ha
                · exact hf.2.2 a ha
                · have : a = t := by simpa using ha
                  rw [this]
                  exact e1
              have h9 : hM hd + eMs gs + (eMs as + as.length + (if f0 = 0 then 2 else 1) + fPs r) + (2 * eM t + 1) ≤ p := h9
              have hms : eMs (as ++ [t]) = eMs as + (2 * eM t + 1 + 0) := by rw [eMs_app]; rfl
              have hlen : (as ++ [t]).length = as.length + 1 := by simp
              have bot : ∀ g : pF, g.1 = f0 ∨ f0 ≠ 0 ∧ g.1 ≠ 0 → fBot (g :: r) := by
                intro g hg
                refine fBot_s h6 (fun e => ?_)
                subst e
                have h6 : f0 = 0 := h6
                omega
              by_cases f00 : f0 = 0
              · subst f00
                rw [if_pos rfl] at h h9
                have hw : wOK k ∧ as.length ≤ 2 := by
                  rcases hf.1 with a | a
                  · exact ⟨a.2.1, a.2.2⟩
                  · rcases a.1 with q | q
                    · exact absurd (show (0 : Nat) = 1 from q) (by decide)
                    · exact absurd (show (0 : Nat) = 2 from q) (by decide)
                split at h
                · split at h
                  · cases h
                  · cases h
                    have hC := eM_C k (as ++ [t]) (by simp) (by omega)
                    have hcl : eK vs.length (eC k (as ++ [t])) false := eK_C (wnm hw.1) (by omega) (fun e => absurd e (wOK_ne hw.1).1) (fun e => absurd e (wOK_ne hw.1).2) hall
                    refine ⟨h1, h2, h3, h4, hr, hbr, fun _ => ⟨hcl, fun _ => ⟨hcl, _, _, rfl, hw.1⟩, (fun q => by cases q)⟩, fun q => by omega, fun q => by omega, ?_⟩
                    rw [if_pos rfl]
                    omega
                · split at h
                  · rename_i hc5
                    cases h
                    refine ⟨h1, h2, h3, h4, fun g hg => ?_, bot _ (Or.inl rfl), fun q => by omega, fun _ => by simp, fun q => by omega, ?_⟩
                    · rcases List.mem_cons.mp hg with rfl | hg
                      · exact ⟨Or.inl ⟨rfl, hw.1, by show (as ++ [t]).length ≤ 2; omega⟩, (fun e => by cases e), hall⟩
                      · exact hr g hg
                    · rw [if_neg (by decide), if_neg (by decide)]
                      show hM hd + eMs gs + (eMs (as ++ [t]) + (as ++ [t]).length + 2 + fPs r) + 0 ≤ _
                      omega
                  · cases h
              · rw [if_neg f00] at h h9
                have hk2 : k = 2 := by
                  rcases hf.1 with a | a
                  · exact absurd a.1 f00
                  · exact a.2
                subst hk2
                have hnr : r ≠ [] := by
                  intro e
                  subst e
                  exact f00 h6
                by_cases f01 : f0 = 1
                · subst f01
                  rw [if_pos rfl] at h
                  split at h
                  · cases h
                    refine ⟨h1, h2, h3, h4, fun g hg => ?_, bot _ (Or.inl rfl), fun q => by omega, fun _ => by simp, fun q => by omega, ?_⟩
                    · rcases List.mem_cons.mp hg with rfl | hg
                      · exact ⟨Or.inr ⟨Or.inl rfl, rfl⟩, (fun e => by cases e), hall⟩
                      · exact hr g hg
                    · rw [if_neg (by decide), if_neg (by decide)]
                      show hM hd + eMs gs + (eMs (as ++ [t]) + (as ++ [t]).length + 1 + fPs r) + 0 ≤ _
                      omega
                  · split at h
                    · cases h
                      refine ⟨h1, h2, h3, h4, fun g hg => ?_, bot _ (Or.inr ⟨by decide, show (2 : Nat) ≠ 0 by decide⟩), fun q => by omega, fun _ => by simp, fun q => by omega, ?_⟩
                      · rcases List.mem_cons.mp hg with rfl | hg
                        · exact ⟨Or.inr ⟨Or.inr rfl, rfl⟩, (fun _ => by simp), hall⟩
                        · exact hr g hg
                      · rw [if_neg (by decide), if_neg (by decide)]
                        show hM hd + eMs gs + (eMs (as ++ [t]) + (as ++ [t]).length + 1 + fPs r) + 0 ≤ _
                        omega
                    · split at h
                      · cases h
                        have hI := eM_I eNil (as ++ [t])
                        have he0 : eM eNil = 0 := rfl
                        refine ⟨h1, h2, h3, h4, hr, hbr, fun _ => ⟨eK_I (show eK vs.length eNil false from ⟨rfl, Or.inl rfl, Nat.zero_le _, fun _ => rfl, fun e => by omega, rfl⟩) _ hall, fun e => absurd e hnr, (fun q => by cases q)⟩, fun q => by omega, fun q => by omega, ?_⟩
                        rw [if_pos rfl]
                        omega
                      · cases h
                · rw [if_neg f01] at h
                  split at h
                  · cases h
                    have hI := eM_I t as
                    refine ⟨h1, h2, h3, h4, hr, hbr, fun _ => ⟨eK_I e1 _ hf.2.2, fun e => absurd e hnr, (fun q => by cases q)⟩, fun q => by omega, fun q => by omega, ?_⟩
                    rw [if_pos rfl]
                    omega
                  · cases h
        · omega
end PI
