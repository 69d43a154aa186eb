/-! WHAT THE PARSER MAKES: clauses and queries -/
def kOK (hd : Option pE) (gs : List pE) (nv : Nat) : Prop := nv ≤ 8 ∧ (∀ h, hd = some h → gOK nv h) ∧ (∀ g ∈ gs, gOK nv g) ∧ gs.length ≤ 5 ∧ hM hd + eMs gs ≤ 119
section PJ
variable {tx : List Int} {qy : Bool}
theorem pSt_md {s s' : pS} (h : pSt tx qy s = .inl s') : s'.1 ≤ 3 := by
  obtain ⟨md, vs, hd, gs, t, nm, stk, p⟩ := s
  have hT : ∀ (stk : List pF), pT tx vs hd gs stk p = .inl s' → s'.1 ≤ 3 := by
    intro stk h
    unfold pT at h
    repeat' split at h
    all_goals first
      | (cases h; simp)
      | cases h
  unfold pSt at h
  dsimp only at h
  by_cases m0 : md = 0
  · rw [if_pos m0] at h
    repeat' split at h
    all_goals first
      | (cases h; simp)
      | cases h
  · rw [if_neg m0] at h
    by_cases m1 : md = 1
    · rw [if_pos m1] at h
      exact hT _ h
    · rw [if_neg m1] at h
      by_cases m2 : md = 2
      · rw [if_pos m2] at h
        split at h
        · (cases h; simp)
        · exact hT _ h
      · rw [if_neg m2] at h
        by_cases h6 : nm = true ∧ pk1 tx p = 6
        · rw [if_pos h6] at h
          split at h
          · (cases h; simp)
          · cases h
        · rw [if_neg h6] at h
          cases stk with
          | nil =>
            have hG : pG tx qy vs hd gs t p = .inl s' := h
            clear h
            unfold pG at hG
            repeat' split at hG
            all_goals first
              | (cases hG; simp)
              | cases hG
          | cons f r =>
            obtain ⟨f0, k, as⟩ := f
            dsimp only at h
            repeat' split at h
            all_goals first
              | (cases h; simp)
              | cases h
theorem pSt_R {s : pS} {hd : Option pE} {gs : List pE} {nv p' : Nat} (hp : s.2.2.2.2.2.2.2 ≤ tx.length) (hm : s.1 ≤ 3) (hI : pInv s) (hl : tx.length ≤ 120) (h : pSt tx qy s = .inr (.inr (hd, gs, nv, p'))) : kOK hd gs nv ∧ (qy = true → gs ≠ []) ∧ p' ≤ tx.length := by
  obtain ⟨md, vs, hd', gs', t, nm, stk, p⟩ := s
  have hp : p ≤ tx.length := hp
  have hm : md ≤ 3 := hm
  obtain ⟨h1, h2, h3, h4, h5, h6, h7, h8, h8', h9⟩ := hI
  have hk0 : pk1 tx p ≠ 0 := by
    intro hz
    rw [pSt_0 (s := (md, vs, hd', gs', t, nm, stk, p)) hz] at h
    cases h
  have hadv := pk_pos hp hk0
  have hp2 := (pnx_ok hp).1
  have hT : ∀ (stk : List pF), pT tx vs hd' gs' stk p ≠ .inr (.inr (hd, gs, nv, p')) := by
    intro stk h
    unfold pT at h
    repeat' split at h
    all_goals cases h
  unfold pSt at h
  dsimp only at h
  by_cases m0 : md = 0
  · rw [if_pos m0] at h
    repeat' split at h
    all_goals cases h
  · rw [if_neg m0] at h
    by_cases m1 : md = 1
    · rw [if_pos m1] at h
      exact absurd h (hT _)
    · rw [if_neg m1] at h
      by_cases m2 : md = 2
      · rw [if_pos m2] at h
        split at h
        · cases h
        · exact absurd h (hT _)
      · rw [if_neg m2] at h
        have m3 : md = 3 := by omega
        subst m3
        rw [if_pos rfl] at h9
        by_cases h6 : nm = true ∧ pk1 tx p = 6
        · rw [if_pos h6] at h
          split at h <;> cases h
        · rw [if_neg h6] at h
          cases stk with
          | nil =>
            have hg := (h7 rfl).2.1 rfl
            have h9 : hM hd' + eMs gs' + 0 + (2 * eM t + 1) ≤ p := h9
            have hG : pG tx qy vs hd' gs' t p = .inr (.inr (hd, gs, nv, p')) := h
            clear h
            unfold pG at hG
            by_cases hh : (!qy && hd'.isNone) = true
            · rw [if_pos hh] at hG
              split at hG
              · cases hG
                refine ⟨⟨h1, fun x e => by cases e; exact hg, (fun g hg => by cases hg), by decide, ?_⟩, fun q => ?_, hp2⟩
                · show 2 * eM t + 1 + 0 ≤ 119
                  omega
                · rw [q] at hh
                  exact absurd hh (by simp)
              · split at hG <;> cases hG
            · rw [if_neg hh] at hG
              split at hG
              · cases hG
                refine ⟨⟨h1, h2, fun g hgm => ?_, by simp; omega, ?_⟩, fun _ => by simp, hp2⟩
                · rcases List.mem_append.mp hgm with hgm | hgm
                  · exact h3 g hgm
                  · have : g = t := by simpa using hgm
                    rw [this]
                    exact hg
                · rw [eMs_app]
                  show hM hd + (eMs gs' + (2 * eM t + 1 + 0)) ≤ 119
                  omega
              · split at hG <;> cases hG
          | cons f r =>
            obtain ⟨f0, k, as⟩ := f
            dsimp only at h
            repeat' split at h
            all_goals cases h
theorem pIt_R {hd : Option pE} {gs : List pE} {nv p' : Nat} (hl : tx.length ≤ 120) : ∀ (n : Nat) (s : pS), s.2.2.2.2.2.2.2 ≤ tx.length → s.1 ≤ 3 → pInv s → pIt tx qy n s = some (.inr (hd, gs, nv, p')) → kOK hd gs nv ∧ (qy = true → gs ≠ []) ∧ p' ≤ tx.length
  | 0, _, _, _, _, h => by cases h
  | n + 1, s, hp, hm, hI, h => by
    unfold pIt at h
    cases e : pSt tx qy s with
    | inl s' =>
      rw [e] at h
      refine pIt_R hl n s' ?_ (pSt_md e) (pInv_s hm hp hI e) h
      rw [pSt_p s s' e]
      exact (pnx_ok hp).1
    | inr r =>
      rw [e] at h
      have h : r = .inr (hd, gs, nv, p') := by simpa using h
      subst h
      exact pSt_R hp hm hI hl e
theorem pRun_R {hd : Option pE} {gs : List pE} {nv p p' : Nat} (hl : tx.length ≤ 120) (hp : p ≤ tx.length) (h : pRun tx qy (s00 p) (.inr (hd, gs, nv, p'))) : kOK hd gs nv ∧ (qy = true → gs ≠ []) ∧ p' ≤ tx.length := by
  obtain ⟨n, h⟩ := h
  exact pIt_R hl n (s00 p) hp (Nat.zero_le _) ⟨show 0 ≤ 8 by omega, (fun h e => by cases e), (fun g hg => by cases hg), show 0 ≤ 4 by omega, (fun f hf => by cases hf), trivial, (fun q => by cases q), (fun q => by rcases q with q | q <;> cases q), fun _ => rfl, Nat.zero_le _⟩ h
/-- clauses of the text -/
theorem cR_R (hl : tx.length ≤ 120) : ∀ (n room p : Nat) (acc cls : List pCl), p ≤ tx.length → (∀ c ∈ acc, kOK (some c.1) c.2.1 c.2.2) → cRun tx n room p acc (.inr cls) → (∀ c ∈ cls, kOK (some c.1) c.2.1 c.2.2) ∧ cls.length ≤ acc.length + room
  | 0, _, _, _, _, _, _, h => h.elim
  | n + 1, room, p, acc, cls, hp, ha, h => by
    unfold cRun at h
    by_cases k0 : pk1 tx p = 0
    · rw [if_pos k0] at h
      have : cls = acc := by simpa using h
      rw [this]
      exact ⟨ha, by omega⟩
    · rw [if_neg k0] at h
      by_cases r0 : room = 0
      · rw [if_pos r0] at h
        cases h
      · rw [if_neg r0] at h
        rcases h with ⟨w, -, h⟩ | ⟨t, gs, nv, p', h1, h2⟩
        · cases h
        · obtain ⟨hk, -, hp'⟩ := pRun_R hl hp h1
          obtain ⟨g1, g2⟩ := cR_R hl n (room - 1) p' (acc ++ [(t, gs, nv)]) cls hp' (fun c hc => by
            rcases List.mem_append.mp hc with hc | hc
            · exact ha c hc
            · have : c = (t, gs, nv) := by simpa using hc
              rw [this]
              exact hk) h2
          exact ⟨g1, by simp at g2; omega⟩
end PJ
