/-! HEADS ARE NO BUILT INS -/
def nB (t : pE) : Prop := ∀ k a, t = .mulL k a → bBi k (eN a) = false
def pHi (tx : List Int) (s : pS) : Prop := match s with
  | (md, _, hd, _, t, nm, stk, p) => (∀ h, hd = some h → nB h) ∧ (hd = none → md = 3 → stk = [] → (nm = true ∧ pk1 tx p = 6) ∨ nB t)
section PHD
variable {tx : List Int}
theorem pT_H {vs : List Int} {hd : Option pE} {gs : List pE} {stk : List pF} {p : Nat} {s' : pS} (hh : ∀ h, hd = some h → nB h) (hs : stk ≠ []) (h : pT tx vs hd gs stk p = .inl s') : pHi tx s' := by
  unfold pT at h
  repeat' split at h
  all_goals first
    | (cases h; exact ⟨hh, fun _ _ q => absurd q hs⟩)
    | cases h
theorem pSt_H {s s' : pS} (hI : pInv s) (hm : s.1 ≤ 3) (hH : pHi tx s) (h : pSt tx false s = .inl s') : pHi tx s' := by
  obtain ⟨md, vs, hd, gs, t, nm, stk, p⟩ := s
  obtain ⟨h1, h2, h3, h4, h5, h6, h7, h8, h8', h9⟩ := hI
  obtain ⟨hh, ht⟩ := hH
  have hm : md ≤ 3 := hm
  unfold pSt at h
  dsimp only at h
  by_cases m0 : md = 0
  · rw [if_pos m0] at h
    split at h
    · split at h
      · cases h
      · rename_i q1 q2
        cases h
        refine ⟨hh, fun e _ _ => ?_⟩
        subst e
        by_cases c6 : pk1 tx (pnx tx p) = 6
        · exact Or.inl ⟨rfl, c6⟩
        · refine Or.inr (fun k a e => ?_)
          injection e with e1 e2
          rw [← e1, ← e2]
          cases cb : bBi (pwd tx p) 0 with
          | false => exact cb
          | true => exact absurd ⟨by rw [cb]; rfl, c6⟩ q2
    · cases h
  · rw [if_neg m0] at h
    by_cases m1 : md = 1
    · rw [if_pos m1] at h
      exact pT_H hh (h8 (Or.inl m1)) h
    · rw [if_neg m1] at h
      by_cases m2 : md = 2
      · rw [if_pos m2] at h
        split at h
        · cases h
          exact ⟨hh, fun _ _ q => absurd q (h8 (Or.inr m2))⟩
        · exact pT_H hh (List.cons_ne_nil _ _) h
      · rw [if_neg m2] at h
        by_cases h6' : nm = true ∧ pk1 tx p = 6
        · rw [if_pos h6'] at h
          split at h
          · cases h
            exact ⟨hh, fun _ q => absurd q (by decide)⟩
          · cases h
        · rw [if_neg h6'] at h
          cases stk with
          | nil =>
            have hG : pG tx false vs hd gs t p = .inl s' := h
            clear h
            unfold pG at hG
            by_cases hq : (!false && hd.isNone) = true
            · rw [if_pos hq] at hG
              have hn : hd = none := by simpa using hq
              repeat' split at hG
              · cases hG
              · cases hG
                refine ⟨fun x e => ?_, fun q => absurd q (by simp)⟩
                cases e
                rcases ht hn (by omega) rfl with z | z
                · exact absurd z h6'
                · exact z
              · cases hG
            · rw [if_neg hq] at hG
              repeat' split at hG
              all_goals first
                | (cases hG; exact ⟨hh, fun _ q => absurd q (by decide)⟩)
                | cases hG
          | cons f r =>
            obtain ⟨f0, k, as⟩ := f
            dsimp only at h
            by_cases hf : f0 = 0
            · rw [if_pos hf] at h
              by_cases k7 : pk1 tx p = 7
              · rw [if_pos k7] at h
                split at h
                · cases h
                · rename_i q2
                  cases h
                  refine ⟨hh, fun e _ er => Or.inr (fun k' a' e' => ?_)⟩
                  subst e
                  subst er
                  injection e' with e1 e2
                  rw [← e1, ← e2]
                  have el : eN (eL (as ++ [t])) = as.length + 1 := by
                    rw [eN_L, List.length_append]
                    rfl
                  rw [el]
                  cases cb : bBi k (as.length + 1) with
                  | false => rfl
                  | true => exact absurd (by rw [cb]; rfl) q2
              · rw [if_neg k7] at h
                split at h
                · cases h
                  exact ⟨hh, fun _ q => absurd q (by decide)⟩
                · cases h
            · have hr : r ≠ [] := fun e => by
                subst e
                exact hf h6
              rw [if_neg hf] at h
              repeat' split at h
              all_goals first
                | (cases h; exact ⟨hh, fun _ q => absurd q (by decide)⟩)
                | (cases h; exact ⟨hh, fun _ _ q => absurd q hr⟩)
                | cases h
theorem pSt_HR {s : pS} {x : pE} {gs : List pE} {nv p' : Nat} (hI : pInv s) (hm : s.1 ≤ 3) (hH : pHi tx s) (h : pSt tx false s = .inr (.inr (some x, gs, nv, p'))) : nB x := by
  obtain ⟨md, vs, hd, gs', t, nm, stk, p⟩ := s
  obtain ⟨hh, ht⟩ := hH
  have hm : md ≤ 3 := hm
  have hT : ∀ (stk : List pF), pT tx vs hd gs' stk p ≠ .inr (.inr (some x, gs, nv, p')) := by
    intro stk h
    unfold pT at h
    repeat' split at h
    all_goals cases h
  unfold pSt at h
  dsimp only at h
  by_cases m0 : md = 0
  · rw [if_pos m0] at h
    repeat' split at h
    all_goals cases h
  · rw [if_neg m0] at h
    by_cases m1 : md = 1
    · rw [if_pos m1] at h
      exact absurd h (hT _)
    · rw [if_neg m1] at h
      by_cases m2 : md = 2
      · rw [if_pos m2] at h
        split at h
        · cases h
        · exact absurd h (hT _)
      · rw [if_neg m2] at h
        by_cases h6' : nm = true ∧ pk1 tx p = 6
        · rw [if_pos h6'] at h
          split at h <;> cases h
        · rw [if_neg h6'] at h
          cases stk with
          | nil =>
            have hG : pG tx false vs hd gs' t p = .inr (.inr (some x, gs, nv, p')) := h
            clear h
            unfold pG at hG
            by_cases hq : (!false && hd.isNone) = true
            · rw [if_pos hq] at hG
              have hn : hd = none := by simpa using hq
              split at hG
              · cases hG
                rcases ht hn (by omega) rfl with z | z
                · exact absurd z h6'
                · exact z
              · split at hG <;> cases hG
            · rw [if_neg hq] at hG
              split at hG
              · cases hG
                exact hh x rfl
              · split at hG <;> cases hG
          | cons f r =>
            obtain ⟨f0, k, as⟩ := f
            dsimp only at h
            repeat' split at h
            all_goals cases h
theorem pIt_H {x : pE} {gs : List pE} {nv p' : Nat} (hl : tx.length ≤ 120) : ∀ (n : Nat) (s : pS), s.2.2.2.2.2.2.2 ≤ tx.length → s.1 ≤ 3 → pInv s → pHi tx s → pIt tx false n s = some (.inr (some x, gs, nv, p')) → nB x
  | 0, _, _, _, _, _, h => by cases h
  | n + 1, s, hp, hm, hI, hH, h => by
    unfold pIt at h
    cases e : pSt tx false s with
    | inl s' =>
      rw [e] at h
      refine pIt_H hl n s' ?_ (pSt_md e) (pInv_s hm hp hI e) (pSt_H hI hm hH e) h
      rw [pSt_p s s' e]
      exact (pnx_ok hp).1
    | inr r =>
      rw [e] at h
      have h : r = .inr (some x, gs, nv, p') := by simpa using h
      subst h
      exact pSt_HR hI hm hH e
theorem pRun_H {x : pE} {gs : List pE} {nv p p' : Nat} (hl : tx.length ≤ 120) (hp : p ≤ tx.length) (h : pRun tx false (s00 p) (.inr (some x, gs, nv, p'))) : nB x := by
  obtain ⟨n, h⟩ := h
  exact pIt_H hl n (s00 p) hp (Nat.zero_le _) ⟨show 0 ≤ 8 by omega, (fun h e => by cases e), (fun g hg => by cases hg), show 0 ≤ 4 by omega, (fun f hf => by cases hf), trivial, (fun q => by cases q), (fun q => by rcases q with q | q <;> cases q), fun _ => rfl, Nat.zero_le _⟩ ⟨(fun h e => by cases e), (fun _ q => by cases q)⟩ h
/-- clauses of the text: their heads -/
theorem cR_H (hl : tx.length ≤ 120) : ∀ (n room p : Nat) (acc cls : List pCl), p ≤ tx.length → (∀ c ∈ acc, nB c.1) → cRun tx n room p acc (.inr cls) → ∀ c ∈ cls, nB c.1
  | 0, _, _, _, _, _, _, h => h.elim
  | n + 1, room, p, acc, cls, hp, ha, h => by
    unfold cRun at h
    by_cases k0 : pk1 tx p = 0
    · rw [if_pos k0] at h
      have : cls = acc := by simpa using h
      rw [this]
      exact ha
    · rw [if_neg k0] at h
      by_cases r0 : room = 0
      · rw [if_pos r0] at h
        cases h
      · rw [if_neg r0] at h
        rcases h with ⟨w, -, h⟩ | ⟨t, gs, nv, p', h1, h2⟩
        · cases h
        · obtain ⟨hk, -, hp'⟩ := pRun_R hl hp h1
          have hn := pRun_H hl hp h1
          exact cR_H hl n (room - 1) p' (acc ++ [(t, gs, nv)]) cls hp' (fun c hc => by
            rcases List.mem_append.mp hc with hc | hc
            · exact ha c hc
            · have : c = (t, gs, nv) := by simpa using hc
              rw [this]
              exact hn) h2
end PHD
