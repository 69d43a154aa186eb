/-! A CALCULUS over the interpreter: more fuel and more depth change no answer; rules, goal first -/
theorem im_bk_le {rest : List Value} {o o' : Option im_R} (h : ∀ r, o = some r → o' = some r) {q : List Value × im_H} (hp : im_bk rest o = some q) : im_bk rest o' = some q := by
  cases o with
  | none => cases hp
  | some r => rw [h r rfl]; exact hp
section WP0
variable {tb : List im_M} {kd : Nat → Nat → Nat} {nf : Nat → Nat} {cal cal' : Nat → List Value → im_H → Option im_R} {mi : im_M}
theorem im_c_le (hc : ∀ (M : Nat) (as : List Value) (h : im_H) (r : im_R), cal M as h = some r → cal' M as h = some r) {e : im_E} {st : List Value} {h : im_H} {q : List Value × im_H} (hp : im_c tb cal e st h = some q) : im_c tb cal' e st h = some q := by
  unfold im_c at hp ⊢
  split at hp
  · rename_i h0; rw [if_pos h0]; exact hp
  · rename_i h0
    rw [if_neg h0]
    split at hp
    · rename_i h1; rw [if_pos h1]; exact hp
    · rename_i h1
      rw [if_neg h1]
      split at hp
      · rename_i h2; rw [if_pos h2]; exact hp
      · rename_i h2
        rw [if_neg h2]
        split at hp
        · rename_i h5; rw [if_pos h5]; exact hp
        rename_i h5
        rw [if_neg h5]
        split at hp
        · rename_i h6; rw [if_pos h6]; exact hp
        rename_i h6
        rw [if_neg h6]
        split at hp
        · rename_i h7; rw [if_pos h7]; exact hp
        rename_i h7
        rw [if_neg h7]
        split at hp
        · rename_i y hy
          split at hp
          · rename_i h3
            rw [if_pos h3]
            unfold im_cS at hp ⊢
            split at hp
            · rename_i w hw
              split at hp
              · rename_i h4
                rw [if_pos h4]
                exact im_bk_le (hc _ _ _) hp
              · cases hp
            · cases hp
          · rename_i h3
            rw [if_neg h3]
            unfold im_cI at hp ⊢
            split at hp
            · rename_i w hw
              split at hp
              · rename_i rb rest hr
                split at hp
                · rename_i h4
                  rw [if_pos h4]
                  split at hp
                  · rename_i c0 hb
                    split at hp
                    · rename_i h5
                      rw [if_pos h5]
                      exact im_bk_le (hc _ _ _) hp
                    · cases hp
                  · cases hp
                · cases hp
              · cases hp
            · cases hp
        · cases hp
theorem im_st_le (hc : ∀ (M : Nat) (as : List Value) (h : im_H) (r : im_R), cal M as h = some r → cal' M as h = some r) {e : im_E} {lv : im_L} {st : List Value} {h : im_H} {q : im_S ⊕ im_R} (hp : im_st tb kd nf cal mi e lv st h = some q) : im_st tb kd nf cal' mi e lv st h = some q := by
  unfold im_st at hp ⊢
  split at hp
  · exact hp
  · exact hp
  · exact hp
  · exact hp
  · split at hp
    · rename_i w hw
      rw [im_c_le hc hw]
      exact hp
    · cases hp
  · exact hp
theorem im_ex_le (hc : ∀ (M : Nat) (as : List Value) (h : im_H) (r : im_R), cal M as h = some r → cal' M as h = some r) {r : im_R} : ∀ (n n' pc : Nat) (lv : im_L) (st : List Value) (h : im_H), n ≤ n' → im_ex tb kd nf cal mi n pc lv st h = some r → im_ex tb kd nf cal' mi n' pc lv st h = some r := by
  intro n
  induction n with
  | zero => intro n' pc lv st h _ hp; cases hp
  | succ n ih =>
    intro n' pc lv st h hn hp
    cases n' with
    | zero => omega
    | succ n' =>
      unfold im_ex at hp ⊢
      split at hp
      · cases hp
      · rename_i e he
        split at hp
        · cases hp
        · rename_i q hq
          rw [im_st_le hc hq]
          exact ih _ _ _ _ _ (by omega) hp
        · rename_i q hq
          rw [im_st_le hc hq]
          exact hp
end WP0
theorem im_rn_le {tb : List im_M} {kd : Nat → Nat → Nat} {nf : Nat → Nat} {F F' : Nat} (hF : F ≤ F') : ∀ (d d' M : Nat) (as : List Value) (h : im_H) (r : im_R), d ≤ d' → im_rn tb kd nf F d M as h = some r → im_rn tb kd nf F' d' M as h = some r := by
  intro d
  induction d with
  | zero => intro d' M as h r _ hp; cases hp
  | succ d ih =>
    intro d' M as h r hd hp
    cases d' with
    | zero => omega
    | succ d' =>
      unfold im_rn at hp ⊢
      split at hp
      · cases hp
      · rename_i mi hm
        split at hp
        · rename_i h0
          rw [if_pos h0]
          exact im_ex_le (fun M as h r => ih d' M as h r (by omega)) _ _ _ _ _ _ hF hp
        · cases hp
