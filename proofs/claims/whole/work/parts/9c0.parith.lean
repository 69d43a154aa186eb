/-! ARITHMETIC: what is computed, and how much of it a clause can hold -/
def oI (k : Int) (n : Nat) : Int := if n = 2 then (if k = 1602148 then 0 else if k = 1899234 then 1 else if k = 1800940 then 2 else -9) else -9
def cmb (h a b : Int) : Int := iW (if h = 0 then a + b else if h = 1 then a - b else a * b)
/-- the value of a tree without variables -/
def ev0 : pE → Option Int
  | .num i => some i
  | .mulL k (.add a (.add b c)) => if oI k (eN c + 2) = -9 then none else match ev0 a, ev0 b with
    | some x, some y => some (cmb (oI k (eN c + 2)) x y)
    | _, _ => none
  | _ => none
def ari (k : Int) : Bool := decide (k = 1602148) || decide (k = 1899234) || decide (k = 1800940)
/-- how many operations -/
def aM : pE → Nat
  | .mulL k a => (if ari k = true ∧ eN a = 2 then 1 else 0) + aM a
  | .add a r => aM a + aM r
  | _ => 0
def aMs : List pE → Nat
  | [] => 0
  | a :: r => aM a + aMs r
theorem aM_L : ∀ l : List pE, aM (eL l) = aMs l
  | [] => rfl
  | a :: r => by
    show aM a + aM (eL r) = aM a + aMs r
    rw [aM_L r]
theorem aMs_app : ∀ l r : List pE, aMs (l ++ r) = aMs l + aMs r
  | [], r => by
    show aMs r = 0 + aMs r
    omega
  | a :: l, r => by
    show aM a + aMs (l ++ r) = aM a + aMs l + aMs r
    rw [aMs_app l r]
    omega
theorem aM_A (k : Int) : aM (eA k) = 0 := by
  show (if ari k = true ∧ (0 : Nat) = 2 then 1 else 0) + 0 = 0
  rw [if_neg (fun q => absurd q.2 (by decide))]
theorem aM_I (t : pE) : ∀ l : List pE, aM (eI t l) = aM t + aMs l
  | [] => rfl
  | a :: r => by
    show (if ari 2 = true ∧ _ then 1 else 0) + (aM a + (aM (eI t r) + 0)) = aM t + (aM a + aMs r)
    rw [if_neg (fun q => absurd q.1 (by decide)), aM_I t r]
    omega
theorem aM_C (k : Int) (l : List pE) : aM (eC k l) ≤ (if ari k = true then 1 else 0) + aMs l := by
  show (if ari k = true ∧ eN (eL l) = 2 then 1 else 0) + aM (eL l) ≤ _
  rw [aM_L]
  by_cases c : ari k = true
  · rw [if_pos c]
    split <;> omega
  · rw [if_neg c, if_neg (fun q => c q.1)]
    exact Nat.le_refl _
def aH (hd : Option pE) : Nat := match hd with
  | some h => aM h
  | none => 0
def aF (f : pF) : Nat := (if f.1 = 0 ∧ ari f.2.1 = true then 4 else 0) + 4 * aMs f.2.2
def aFs : List pF → Nat
  | [] => 0
  | f :: r => aF f + aFs r
def aT (nm : Bool) (t : pE) : Nat := if nm = true then (match t with
  | .mulL k _ => if ari k = true then 3 else 0
  | _ => 0) else 4 * aM t
def pAi (s : pS) : Prop := match s with
  | (md, _, hd, gs, t, nm, stk, p) => 4 * aH hd + 4 * aMs gs + aFs stk + (if md = 3 then aT nm t else 0) ≤ p ∧ (md = 3 → nm = true → ∃ k, t = eA k)
section PAR
variable {tx : List Int} {qy : Bool}
theorem ari_l {p : Nat} (hc : ∀ c ∈ tx, 32 ≤ c ∧ c ≤ 126) (hp : p ≤ tx.length) (hk : pk1 tx p ≠ 0) : (if ari (pwd tx p) = true then 3 else 0) + p ≤ pnx tx p := by
  have h1 := (pnx_ok hp).2
  have h2 := pk_pos hp hk
  by_cases c : ari (pwd tx p) = true
  · rw [if_pos c]
    refine Nat.le_trans ?_ h1
    refine Decidable.byContradiction fun q => ?_
    have hl : (tk (tx.drop p)).2 ≤ 2 := by omega
    have hb := pkM_b (l := tx.drop p) (fun c hc' => hc c (List.mem_of_mem_drop hc')) (tk (tx.drop p)).2 (by omega)
    have hw : pwd tx p = pkM ((tx.drop p).take (tk (tx.drop p)).2) := rfl
    unfold ari at c
    rw [hw, Bool.or_eq_true, Bool.or_eq_true, decide_eq_true_eq, decide_eq_true_eq, decide_eq_true_eq] at c
    have := hb.2.2.2.2.2.1 hl
    omega
  · rw [if_neg c]
    omega
theorem aT_t {nm : Bool} {t : pE} (h : nm = true → ∃ k, t = eA k) : 4 * aM t ≤ aT nm t := by
  unfold aT
  cases nm with
  | true =>
    obtain ⟨k, rfl⟩ := h rfl
    rw [aM_A]
    omega
  | false =>
    rw [if_neg Bool.false_ne_true]
    exact Nat.le_refl _
theorem pT_A {vs : List Int} {hd : Option pE} {gs : List pE} {stk : List pF} {p : Nat} {s' : pS} (hc : ∀ c ∈ tx, 32 ≤ c ∧ c ≤ 126) (hp : p ≤ tx.length) (hk : pk1 tx p ≠ 0) (hw : 4 * aH hd + 4 * aMs gs + aFs stk ≤ p) (h : pT tx vs hd gs stk p = .inl s') : pAi s' := by
  have ha := ari_l hc hp hk
  have h2 := pk_pos hp hk
  unfold pT at h
  split at h
  · cases h
    refine ⟨?_, fun _ _ => ⟨_, rfl⟩⟩
    show _ + (if ari (pwd tx p) = true then 3 else 0) ≤ pnx tx p
    omega
  · split at h
    · cases h
      refine ⟨?_, fun _ q => absurd q (by decide)⟩
      show _ + 4 * 0 ≤ pnx tx p
      omega
    · split at h
      · split at h
        · cases h
          refine ⟨?_, fun _ q => absurd q (by decide)⟩
          show _ + 4 * 0 ≤ pnx tx p
          omega
        · split at h
          · cases h
            refine ⟨?_, fun _ q => absurd q (by decide)⟩
            show _ + 4 * 0 ≤ pnx tx p
            omega
          · cases h
      · split at h
        · cases h
          refine ⟨?_, fun q => absurd q (by decide)⟩
          show _ + 0 ≤ pnx tx p
          omega
        · cases h
theorem pSt_A {s s' : pS} (hc : ∀ c ∈ tx, 32 ≤ c ∧ c ≤ 126) (hp : s.2.2.2.2.2.2.2 ≤ tx.length) (hm : s.1 ≤ 3) (hA : pAi s) (h : pSt tx qy s = .inl s') : pAi s' := by
  obtain ⟨md, vs, hd, gs, t, nm, stk, p⟩ := s
  have hp : p ≤ tx.length := hp
  have hm : md ≤ 3 := hm
  obtain ⟨h1, h2⟩ := hA
  have hk0 : pk1 tx p ≠ 0 := by
    intro hz
    rw [pSt_0 (s := (md, vs, hd, gs, t, nm, stk, p)) hz] at h
    cases h
  have hadv := pk_pos hp hk0
  have ha := ari_l hc hp hk0
  unfold pSt at h
  dsimp only at h
  by_cases m0 : md = 0
  · rw [if_pos m0] at h
    rw [if_neg (by omega)] at h1
    split at h
    · split at h
      · cases h
      · cases h
        refine ⟨?_, fun _ _ => ⟨_, rfl⟩⟩
        show _ + 0 + (if ari (pwd tx p) = true then 3 else 0) ≤ pnx tx p
        omega
    · cases h
  · rw [if_neg m0] at h
    by_cases m1 : md = 1
    · rw [if_pos m1] at h
      rw [if_neg (by omega)] at h1
      exact pT_A hc hp hk0 h1 h
    · rw [if_neg m1] at h
      by_cases m2 : md = 2
      · rw [if_pos m2] at h
        rw [if_neg (by omega)] at h1
        split at h
        · cases h
          refine ⟨?_, fun _ q => absurd q (by decide)⟩
          show _ + 4 * aM (eA 1) ≤ pnx tx p
          rw [aM_A]
          omega
        · refine pT_A hc hp hk0 ?_ h
          show _ + (0 + 4 * 0 + aFs stk) ≤ p
          omega
      · rw [if_neg m2] at h
        have m3 : md = 3 := by omega
        rw [if_pos m3] at h1
        have hT := aT_t (h2 m3)
        by_cases h6' : nm = true ∧ pk1 tx p = 6
        · rw [if_pos h6'] at h
          obtain ⟨k, rfl⟩ := h2 m3 h6'.1
          have h : Sum.inl (1, vs, hd, gs, eNil, false, (0, k, []) :: stk, pnx tx p) = (Sum.inl s' : Sum pS pR) := h
          cases h
          have e1 : aT nm (eA k) = if ari k = true then 3 else 0 := by
            unfold aT
            rw [if_pos h6'.1]
            rfl
          refine ⟨?_, fun q => absurd q (by decide)⟩
          show 4 * aH hd + 4 * aMs gs + ((if (0 : Nat) = 0 ∧ ari k = true then 4 else 0) + 4 * 0 + aFs stk) + 0 ≤ pnx tx p
          rw [e1] at h1
          by_cases c : ari k = true
          · rw [if_pos c] at h1
            rw [if_pos ⟨rfl, c⟩]
            omega
          · rw [if_neg c] at h1
            rw [if_neg (fun q => c q.2)]
            omega
        · rw [if_neg h6'] at h
          cases stk with
          | nil =>
            have h1 : 4 * aH hd + 4 * aMs gs + 0 + aT nm t ≤ p := h1
            have hG : pG tx qy vs hd gs t p = .inl s' := h
            clear h
            unfold pG at hG
            by_cases hq : (!qy && hd.isNone) = true
            · rw [if_pos hq] at hG
              have hn : hd = none := by
                cases hd with
                | none => rfl
                | some x => simp at hq
              split at hG
              · cases hG
              · split at hG
                · cases hG
                  refine ⟨?_, fun q => absurd q (by decide)⟩
                  show 4 * aM t + 4 * 0 + 0 + 0 ≤ pnx tx p
                  omega
                · cases hG
            · rw [if_neg hq] at hG
              split at hG
              · cases hG
              · split at hG
                · cases hG
                  refine ⟨?_, fun q => absurd q (by decide)⟩
                  show 4 * aH hd + 4 * aMs (gs ++ [t]) + 0 + 0 ≤ pnx tx p
                  rw [aMs_app]
                  show 4 * aH hd + 4 * (aMs gs + (aM t + 0)) + 0 + 0 ≤ pnx tx p
                  omega
                · cases hG
          | cons f r =>
            obtain ⟨f0, k, as⟩ := f
            have h1 : 4 * aH hd + 4 * aMs gs + ((if f0 = 0 ∧ ari k = true then 4 else 0) + 4 * aMs as + aFs r) + aT nm t ≤ p := h1
            have eS : aMs (as ++ [t]) = aMs as + aM t := by
              rw [aMs_app]
              rfl
            dsimp only at h
            by_cases hf : f0 = 0
            · rw [if_pos hf] at h
              split at h
              · split at h
                · cases h
                · cases h
                  refine ⟨?_, fun _ q => absurd q (by decide)⟩
                  show 4 * aH hd + 4 * aMs gs + aFs r + 4 * aM (eC k (as ++ [t])) ≤ pnx tx p
                  have := aM_C k (as ++ [t])
                  rw [eS] at this
                  by_cases c : ari k = true
                  · rw [if_pos c] at this
                    rw [if_pos ⟨hf, c⟩] at h1
                    omega
                  · rw [if_neg c] at this
                    rw [if_neg (fun q => c q.2)] at h1
                    omega
              · split at h
                · cases h
                  refine ⟨?_, fun q => absurd q (by decide)⟩
                  show 4 * aH hd + 4 * aMs gs + ((if (0 : Nat) = 0 ∧ ari k = true then 4 else 0) + 4 * aMs (as ++ [t]) + aFs r) + 0 ≤ pnx tx p
                  rw [eS]
                  rw [hf] at h1
                  omega
                · cases h
            · rw [if_neg hf] at h
              rw [if_neg (fun q => hf q.1)] at h1
              split at h
              · split at h
                · cases h
                  refine ⟨?_, fun q => absurd q (by decide)⟩
                  show 4 * aH hd + 4 * aMs gs + ((if (1 : Nat) = 0 ∧ ari k = true then 4 else 0) + 4 * aMs (as ++ [t]) + aFs r) + 0 ≤ pnx tx p
                  rw [if_neg (fun q => absurd q.1 (by decide)), eS]
                  omega
                · split at h
                  · cases h
                    refine ⟨?_, fun q => absurd q (by decide)⟩
                    show 4 * aH hd + 4 * aMs gs + ((if (2 : Nat) = 0 ∧ ari k = true then 4 else 0) + 4 * aMs (as ++ [t]) + aFs r) + 0 ≤ pnx tx p
                    rw [if_neg (fun q => absurd q.1 (by decide)), eS]
                    omega
                  · split at h
                    · cases h
                      refine ⟨?_, fun _ q => absurd q (by decide)⟩
                      show 4 * aH hd + 4 * aMs gs + aFs r + 4 * aM (eI (eA 1) (as ++ [t])) ≤ pnx tx p
                      rw [aM_I, aM_A, eS]
                      omega
                    · cases h
              · split at h
                · cases h
                  refine ⟨?_, fun _ q => absurd q (by decide)⟩
                  show 4 * aH hd + 4 * aMs gs + aFs r + 4 * aM (eI t as) ≤ pnx tx p
                  rw [aM_I]
                  omega
                · cases h
theorem pSt_AR {s : pS} {hd : Option pE} {gs : List pE} {nv p' : Nat} (hm : s.1 ≤ 3) (hA : pAi s) (h : pSt tx qy s = .inr (.inr (hd, gs, nv, p'))) : 4 * aH hd + 4 * aMs gs ≤ s.2.2.2.2.2.2.2 := by
  obtain ⟨md, vs, hd', gs', t, nm, stk, p⟩ := s
  have hm : md ≤ 3 := hm
  obtain ⟨h1, h2⟩ := hA
  have hT : ∀ (stk : List pF), pT tx vs hd' gs' stk p ≠ .inr (.inr (hd, gs, nv, p')) := by
    intro stk h
    unfold pT at h
    repeat' split at h
    all_goals cases h
  unfold pSt at h
  dsimp only at h
  by_cases m0 : md = 0
  · rw [if_pos m0] at h
    repeat' split at h
    all_goals cases h
  · rw [if_neg m0] at h
    by_cases m1 : md = 1
    · rw [if_pos m1] at h
      exact absurd h (hT _)
    · rw [if_neg m1] at h
      by_cases m2 : md = 2
      · rw [if_pos m2] at h
        split at h
        · cases h
        · exact absurd h (hT _)
      · rw [if_neg m2] at h
        have m3 : md = 3 := by omega
        rw [if_pos m3] at h1
        have hTt := aT_t (h2 m3)
        by_cases h6' : nm = true ∧ pk1 tx p = 6
        · rw [if_pos h6'] at h
          split at h <;> cases h
        · rw [if_neg h6'] at h
          cases stk with
          | nil =>
            have h1 : 4 * aH hd' + 4 * aMs gs' + 0 + aT nm t ≤ p := h1
            have hG : pG tx qy vs hd' gs' t p = .inr (.inr (hd, gs, nv, p')) := h
            clear h
            show _ ≤ p
            unfold pG at hG
            by_cases hq : (!qy && hd'.isNone) = true
            · rw [if_pos hq] at hG
              split at hG
              · cases hG
                show 4 * aM t + 4 * 0 ≤ p
                omega
              · split at hG <;> cases hG
            · rw [if_neg hq] at hG
              split at hG
              · cases hG
                rw [aMs_app]
                show 4 * aH hd + 4 * (aMs gs' + (aM t + 0)) ≤ p
                omega
              · split at hG <;> cases hG
          | cons f r =>
            obtain ⟨f0, k, as⟩ := f
            dsimp only at h
            repeat' split at h
            all_goals cases h
theorem pIt_A {hd : Option pE} {gs : List pE} {nv p' : Nat} (hc : ∀ c ∈ tx, 32 ≤ c ∧ c ≤ 126) : ∀ (n : Nat) (s : pS), s.2.2.2.2.2.2.2 ≤ tx.length → s.1 ≤ 3 → pAi s → pIt tx qy n s = some (.inr (hd, gs, nv, p')) → 4 * aH hd + 4 * aMs gs ≤ tx.length
  | 0, _, _, _, _, h => by cases h
  | n + 1, s, hp, hm, hA, h => by
    unfold pIt at h
    cases e : pSt tx qy s with
    | inl s' =>
      rw [e] at h
      refine pIt_A hc n s' ?_ (pSt_md e) (pSt_A hc hp hm hA e) h
      rw [pSt_p s s' e]
      exact (pnx_ok hp).1
    | inr r =>
      rw [e] at h
      have h : r = .inr (hd, gs, nv, p') := by simpa using h
      subst h
      exact Nat.le_trans (pSt_AR hm hA e) hp
theorem pRun_A {hd : Option pE} {gs : List pE} {nv p p' : Nat} (hc : ∀ c ∈ tx, 32 ≤ c ∧ c ≤ 126) (hp : p ≤ tx.length) (h : pRun tx qy (s00 p) (.inr (hd, gs, nv, p'))) : 4 * aH hd + 4 * aMs gs ≤ tx.length := by
  obtain ⟨n, h⟩ := h
  exact pIt_A hc n (s00 p) hp (Nat.zero_le _) ⟨Nat.zero_le _, (fun q => by cases q)⟩ h
theorem cR_A (hc : ∀ c ∈ tx, 32 ≤ c ∧ c ≤ 126) (hl : tx.length ≤ 120) : ∀ (n room p : Nat) (acc cls : List pCl), p ≤ tx.length → (∀ c ∈ acc, aM c.1 + aMs c.2.1 ≤ 30) → cRun tx n room p acc (.inr cls) → ∀ c ∈ cls, aM c.1 + aMs c.2.1 ≤ 30
  | 0, _, _, _, _, _, _, h => h.elim
  | n + 1, room, p, acc, cls, hp, ha, h => by
    unfold cRun at h
    by_cases k0 : pk1 tx p = 0
    · rw [if_pos k0] at h
      have : cls = acc := by simpa using h
      rw [this]
      exact ha
    · rw [if_neg k0] at h
      by_cases r0 : room = 0
      · rw [if_pos r0] at h
        cases h
      · rw [if_neg r0] at h
        rcases h with ⟨w, -, h⟩ | ⟨t, gs, nv, p', h1, h2⟩
        · cases h
        · obtain ⟨hk, -, hp'⟩ := pRun_R hl hp h1
          have hn := pRun_A hc hp h1
          have hn : 4 * aM t + 4 * aMs gs ≤ tx.length := hn
          exact cR_A hc hl n (room - 1) p' (acc ++ [(t, gs, nv)]) cls hp' (fun c hc => by
            rcases List.mem_append.mp hc with hc | hc
            · exact ha c hc
            · have : c = (t, gs, nv) := by simpa using hc
              rw [this]
              show aM t + aMs gs ≤ 30
              omega) h2
end PAR
