/-! EVERY RUN KEEPS kinds, tags and lengths -/
theorem ob_at {h : im_H} {a t n : Nat} {f : Nat → Value} (hw : ob_W h) (ha : h.2.2 a = some (t, n, f)) : ∀ k, k < n → ob_k t k (f k) = true := hw.1 a t n f ha
set_option maxHeartbeats 4000000 in
theorem im_h_ob {e : im_E} {st st' : List Value} {h h' : im_H} (he : ∀ ix, e.2.1 = .putfield ix ∨ e.2.1 = .new ix → e.2.2.2.1 < 50) (hp : im_h mx_kd mx_nf e st h = some (st', h')) : ob_S h h' := by
  obtain ⟨pc, i, len, ea, eb, ec, ev⟩ := e
  cases i
  case putfield ix =>
    have h50 : ea < 50 := he ix (Or.inl rfl)
    dsimp only [im_h] at hp
    split at hp
    · split at hp
      · rename_i t n f ha
        split at hp
        · rename_i hc
          cases hp
          obtain ⟨rfl, -, hk⟩ := hc
          exact ob_S.wr ha (fun hw => ob_upd (ob_at hw ha) (ob_k_kf h50 hk))
        · cases hp
      · cases hp
    · cases hp
  case iastore =>
    dsimp only [im_h] at hp
    split at hp
    · split at hp
      · rename_i t n f ha
        split at hp
        · rename_i hc
          split at hp
          · cases hp
            subst hc
            exact ob_S.wr ha (fun hw => ob_upd (ob_at hw ha) rfl)
          · cases hp
        · cases hp
      · cases hp
    · cases hp
  case lastore =>
    dsimp only [im_h] at hp
    split at hp
    · split at hp
      · rename_i t n f ha
        split at hp
        · rename_i hc
          split at hp
          · cases hp
            subst hc
            exact ob_S.wr ha (fun hw => ob_upd (ob_at hw ha) rfl)
          · cases hp
        · cases hp
      · cases hp
    · cases hp
  case castore =>
    dsimp only [im_h] at hp
    split at hp
    · split at hp
      · rename_i t n f ha
        split at hp
        · rename_i hc
          split at hp
          · cases hp
            subst hc
            exact ob_S.wr ha (fun hw => ob_upd (ob_at hw ha) rfl)
          · cases hp
        · cases hp
      · cases hp
    · cases hp
  case aastore =>
    have key : ∀ t k : Nat, 110 ≤ t → (if t < 50 then Nat.beq (mx_kd t k) 3 else decide (110 ≤ t)) = true := fun t k ht => by rw [if_neg (by omega), decide_eq_true_eq]; exact ht
    dsimp only [im_h] at hp
    split at hp
    · split at hp
      · rename_i t n f ha
        split at hp
        · rename_i hc
          split at hp
          · cases hp
            exact ob_S.wr ha (fun hw => ob_upd (ob_at hw ha) (key t _ hc))
          · cases hp
        · cases hp
      · cases hp
    · split at hp
      · rename_i t n f ha
        split at hp
        · split at hp
          · rename_i hc
            split at hp
            · cases hp
              exact ob_S.wr ha (fun hw => ob_upd (ob_at hw ha) (key t _ hc.1))
            · cases hp
          · cases hp
        · cases hp
      · cases hp
    · cases hp
  case new ix =>
    have h50 : ea < 50 := he ix (Or.inr rfl)
    dsimp only [im_h] at hp
    cases hp
    exact ob_S.mk (fun _ k _ => ob_k_dv ea k h50)
  case newarray at0 =>
    cases at0 <;> first | (cases hp; done) | skip
    all_goals
      dsimp only [im_h] at hp
      split at hp
      · split at hp
        · cases hp
        · split at hp
          · cases hp
          · cases hp
            exact ob_S.mk (fun _ k _ => rfl)
      · cases hp
  case anewarray ix =>
    dsimp only [im_h] at hp
    split at hp
    · split at hp
      · cases hp
      · split at hp
        · cases hp
        · cases hp
          refine ob_S.mk (fun _ k _ => ?_)
          show (if 110 + ea < 50 then _ else decide (110 ≤ 110 + ea)) = true
          rw [if_neg (by omega), decide_eq_true_eq]
          omega
    · cases hp
  all_goals
    dsimp only [im_h] at hp
    repeat' split at hp
    all_goals first | (cases hp; exact ob_S.rf) | (cases hp; done)
theorem ob_k_ix {t : Nat} (ht : 50 ≤ t) {k : Nat} (k' : Nat) {v : Value} : ob_k t k v = ob_k t k' v := by
  have hn : ¬ t < 50 := by omega
  cases v with
  | int x => show (if t < 50 then _ else _) = (if t < 50 then _ else _); rw [if_neg hn, if_neg hn]
  | long x => show (if t < 50 then _ else _) = (if t < 50 then _ else _); rw [if_neg hn, if_neg hn]
  | null => show (if t < 50 then _ else _) = (if t < 50 then _ else _); rw [if_neg hn, if_neg hn]
  | ref x => show (if t < 50 then _ else _) = (if t < 50 then _ else _); rw [if_neg hn, if_neg hn]
  | _ => rfl
theorem im_c_ob {tb : List im_M} {cal : Nat → List Value → im_H → Option im_R} (IH : ∀ (M : Nat) (as : List Value) (h : im_H) (r : im_R), cal M as h = some r → ob_S h r.1) {e : im_E} {st st' : List Value} {h h' : im_H} (hp : im_c tb cal e st h = some (st', h')) : ob_S h h' := by
  have bk : ∀ (rest : List Value) (M : Nat) (as : List Value), im_bk rest (cal M as h) = some (st', h') → ob_S h h' := by
    intro rest M as hq
    unfold im_bk at hq
    split at hq
    · rename_i r hr
      cases hq
      exact IH _ _ _ _ hr
    · cases hq
  unfold im_c at hp
  split at hp
  · unfold im_c0 at hp
    repeat' split at hp
    all_goals first | (cases hp; exact ob_S.rf) | (cases hp; done)
  split at hp
  · unfold im_c8 at hp
    split at hp
    · split at hp
      · rename_i t0 n0 f ha0
        split at hp
        · rename_i t1 n1 g ha1
          split at hp
          · rename_i hc
            cases hp
            obtain ⟨rfl, htt, h1, h2, h3, h4, h5, -⟩ := hc
            refine ob_S.wr ha1 (fun hw k hk => ?_)
            unfold im_cp
            split
            · rename_i hr
              refine (ob_k_ix (by omega) _).trans (ob_at hw ha0 _ ?_)
              omega
            · exact ob_at hw ha1 k hk
          · cases hp
        · cases hp
      · cases hp
    · cases hp
  split at hp
  · unfold im_c9 at hp
    split at hp
    · split at hp
      · rename_i t n f ha
        split at hp
        · cases hp
          exact ob_S.mk (fun hw => ob_at hw ha)
        · cases hp
      · cases hp
    · cases hp
  split at hp
  · unfold im_c10 at hp
    repeat' split at hp
    all_goals first | (cases hp; exact ob_S.rf) | (cases hp; done)
  split at hp
  · unfold im_c11 at hp
    repeat' split at hp
    all_goals first | (cases hp; exact ob_S.rf) | (cases hp; done)
  split at hp
  · unfold im_c12 at hp
    repeat' split at hp
    all_goals first | (cases hp; exact ob_S.rf) | (cases hp; done)
  split at hp
  · split at hp
    · unfold im_cS at hp
      repeat' split at hp
      all_goals first | exact bk _ _ _ hp | (cases hp; done)
    · unfold im_cI at hp
      repeat' split at hp
      all_goals first | exact bk _ _ _ hp | (cases hp; done)
  · cases hp
theorem im_st_ob {tb : List im_M} {cal : Nat → List Value → im_H → Option im_R} {mi : im_M} (IH : ∀ (M : Nat) (as : List Value) (h : im_H) (r : im_R), cal M as h = some r → ob_S h r.1) {e : im_E} (he : ∀ ix, e.2.1 = .putfield ix ∨ e.2.1 = .new ix → e.2.2.2.1 < 50) {lv : im_L} {st : List Value} {h : im_H} {q : im_S} (hp : im_st tb mx_kd mx_nf cal mi e lv st h = some (.inl q)) : ob_S h q.2.2.2 := by
  unfold im_st at hp
  split at hp
  · split at hp <;> cases hp
    exact ob_S.rf
  · split at hp <;> cases hp
    exact ob_S.rf
  · split at hp
    · cases hp
      exact ob_S.rf
    · split at hp <;> cases hp
      exact ob_S.rf
    · cases hp
  · split at hp
    · rename_i hq
      cases hp
      exact im_h_ob he hq
    · cases hp
  · split at hp
    · rename_i hq
      cases hp
      exact im_c_ob IH hq
    · cases hp
  · split at hp <;> cases hp
theorem im_ex_ob {tb : List im_M} {cal : Nat → List Value → im_H → Option im_R} {mi : im_M} (IH : ∀ (M : Nat) (as : List Value) (h : im_H) (r : im_R), cal M as h = some r → ob_S h r.1) (he : ∀ e ∈ mi.2.2.2.2.2, ∀ ix, e.2.1 = .putfield ix ∨ e.2.1 = .new ix → e.2.2.2.1 < 50) {r : im_R} : ∀ (n pc : Nat) (lv : im_L) (st : List Value) (h : im_H), im_ex tb mx_kd mx_nf cal mi n pc lv st h = some r → ob_S h r.1 := by
  intro n
  induction n with
  | zero => intro pc lv st h hp; cases hp
  | succ n ih =>
    intro pc lv st h hp
    unfold im_ex at hp
    split at hp
    · cases hp
    · rename_i e hat
      split at hp
      · cases hp
      · rename_i q hq
        exact (im_st_ob IH (he e (im_at_mem hat).1) hq).tr (ih _ _ _ _ hp)
      · rename_i q hq
        cases hp
        rw [(im_st_ret hq).1]
        exact ob_S.rf
noncomputable def ob_tb : Bool := mm_tb.all (fun mi => mi.2.2.2.2.2.all (fun e => match e.2.1 with
  | .putfield _ => Nat.blt e.2.2.2.1 50
  | .new _ => Nat.blt e.2.2.2.1 50
  | _ => true))
theorem ob_tb_ok : ob_tb = true := by decide +kernel
theorem ob_tb_e : ∀ (M : Nat) (mi : im_M), mm_tb[M]? = some mi → ∀ e ∈ mi.2.2.2.2.2, ∀ ix, e.2.1 = .putfield ix ∨ e.2.1 = .new ix → e.2.2.2.1 < 50 := by
  intro M mi hm e he ix hi
  have h1 := List.all_eq_true.mp ob_tb_ok mi (List.mem_of_getElem? hm)
  have h2 := List.all_eq_true.mp h1 e he
  rcases hi with hi | hi
  · rw [hi] at h2
    exact Nat.le_of_ble_eq_true h2
  · rw [hi] at h2
    exact Nat.le_of_ble_eq_true h2
/-- EVERY RUN KEEPS kinds, tags and lengths -/
theorem im_rn_ob {F : Nat} : ∀ (d M : Nat) (as : List Value) (h : im_H) (r : im_R), im_rn mm_tb mx_kd mx_nf F d M as h = some r → ob_S h r.1 := by
  intro d
  induction d with
  | zero => intro M as h r hp; cases hp
  | succ d ih =>
    intro M as h r hp
    unfold im_rn at hp
    split at hp
    · cases hp
    · rename_i mi hm
      split at hp
      · exact im_ex_ob ih (ob_tb_e M mi hm) _ _ _ _ _ hp
      · cases hp
/-- so a contract may be read with it -/
theorem wp_M.keep {d M : Nat} {as : List Value} {h : im_H} {Q : im_R → Prop} (hw : wp_M d M as h Q) : wp_M d M as h (fun r => Q r ∧ ob_S h r.1) := by
  obtain ⟨F, r, h1, h2⟩ := hw
  exact ⟨F, r, h1, h2, im_rn_ob _ _ _ _ _ h1⟩
