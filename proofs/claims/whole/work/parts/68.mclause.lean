/-! THE MODEL'S PARSER: slots, clauses, the fault -/
/-- slots that are in use -/
def uOK (m : hy_m) (us : Nat → Bool) : Prop := 0 ≤ m 85 0 ∧ m 85 0 ≤ 20 ∧ 0 ≤ m 74 13 ∧ m 74 13 ≤ 6 ∧ (∀ i : Nat, (i : Int) < m 74 13 → 0 ≤ m 86 (21 * (i : Int)) ∧ m 86 (21 * (i : Int)) ≤ 20) ∧ ∀ j : Nat, us j = true ↔ ((∃ k : Nat, 1 ≤ k ∧ (k : Int) ≤ m 85 0 ∧ m 85 (k : Int) = j) ∨ ∃ i k : Nat, (i : Int) < m 74 13 ∧ 1 ≤ k ∧ (k : Int) ≤ m 86 (21 * (i : Int)) ∧ m 86 (21 * (i : Int) + (k : Int)) = j)
def cu (us : Nat → Bool) : Nat → Nat
  | 0 => 0
  | j + 1 => cu us j + (if us j = true then 1 else 0)
theorem cu_run {us : Nat → Bool} {st : Nat} : ∀ d : Nat, (∀ j, st ≤ j → j < st + d → us j = true) → cu us (st + d) = cu us st + d
  | 0, _ => rfl
  | d + 1, h => by
    have ih := cu_run d (fun j h1 h2 => h j h1 (by omega))
    show cu us (st + d) + (if us (st + d) = true then 1 else 0) = _
    rw [if_pos (h (st + d) (by omega) (by omega)), ih]
    omega
def s00 (p : Nat) : pS := (0, [], none, [], eNil, false, [], p)
abbrev pCl : Type := pE × List pE × Nat
def cRun (tx : List Int) : Nat → Nat → Nat → List pCl → Sum Nat (List pCl) → Prop
  | 0, _, _, _, _ => False
  | n + 1, room, p, acc, R => if pk1 tx p = 0 then R = .inr acc else if room = 0 then R = .inl p else ((∃ w, pRun tx false (s00 p) (.inl w) ∧ R = .inl w) ∨ ∃ h gs nv p', pRun tx false (s00 p) (.inr (some h, gs, nv, p')) ∧ cRun tx n (room - 1) p' (acc ++ [(h, gs, nv)]) R)
def cR (tx : List Int) (room p : Nat) (acc : List pCl) (R : Sum Nat (List pCl)) : Prop := ∃ n, cRun tx n room p acc R
theorem cRun_d {tx : List Int} {R R' : Sum Nat (List pCl)} : ∀ (n k room p : Nat) (acc : List pCl), cRun tx n room p acc R → cRun tx k room p acc R' → R = R'
  | 0, _, _, _, _, h, _ => h.elim
  | _ + 1, 0, _, _, _, _, h => h.elim
  | n + 1, k + 1, room, p, acc, h1, h2 => by
    unfold cRun at h1 h2
    by_cases e0 : pk1 tx p = 0
    · rw [if_pos e0] at h1 h2
      rw [h1, h2]
    · rw [if_neg e0] at h1 h2
      by_cases e1 : room = 0
      · rw [if_pos e1] at h1 h2
        rw [h1, h2]
      · rw [if_neg e1] at h1 h2
        rcases h1 with ⟨w, a1, a2⟩ | ⟨h, gs, nv, p', a1, a2⟩
        · rcases h2 with ⟨w', b1, b2⟩ | ⟨h', gs', nv', p'', b1, b2⟩
          · have := pRun_d tx false a1 b1
            injection this with this
            rw [a2, b2, this]
          · have := pRun_d tx false a1 b1
            cases this
        · rcases h2 with ⟨w', b1, b2⟩ | ⟨h', gs', nv', p'', b1, b2⟩
          · have := pRun_d tx false a1 b1
            cases this
          · have := pRun_d tx false a1 b1
            injection this with this
            simp only [Prod.mk.injEq, Option.some.injEq] at this
            obtain ⟨rfl, rfl, rfl, rfl⟩ := this
            exact cRun_d n k _ _ _ a2 b2
theorem cR_d {tx : List Int} {R R' : Sum Nat (List pCl)} {room p : Nat} {acc : List pCl} (h1 : cR tx room p acc R) (h2 : cR tx room p acc R') : R = R' := by
  obtain ⟨n, h1⟩ := h1
  obtain ⟨k, h2⟩ := h2
  exact cRun_d n k room p acc h1 h2
theorem cR_0 {tx : List Int} {room p : Nat} {acc : List pCl} (h : pk1 tx p = 0) : cR tx room p acc (.inr acc) := ⟨1, by unfold cRun; rw [if_pos h]⟩
theorem cR_f {tx : List Int} {p : Nat} {acc : List pCl} (h : pk1 tx p ≠ 0) : cR tx 0 p acc (.inl p) := ⟨1, by unfold cRun; rw [if_neg h, if_pos rfl]⟩
theorem cR_w {tx : List Int} {room p w : Nat} {acc : List pCl} (h : pk1 tx p ≠ 0) (hr : room ≠ 0) (hw : pRun tx false (s00 p) (.inl w)) : cR tx room p acc (.inl w) := ⟨1, by unfold cRun; rw [if_neg h, if_neg hr]; exact Or.inl ⟨w, hw, rfl⟩⟩
theorem cR_s {tx : List Int} {room p p' nv : Nat} {acc : List pCl} {t : pE} {gs : List pE} (h : pk1 tx p ≠ 0) (hr : room ≠ 0) (hw : pRun tx false (s00 p) (.inr (some t, gs, nv, p'))) {R : Sum Nat (List pCl)} (hR : cR tx (room - 1) p' (acc ++ [(t, gs, nv)]) R) : cR tx room p acc R := by
  obtain ⟨n, hn⟩ := hR
  refine ⟨n + 1, ?_⟩
  unfold cRun
  rw [if_neg h, if_neg hr]
  exact Or.inr ⟨t, gs, nv, p', hw, hn⟩
/-- the text as a query -/
def qR (tx : List Int) (R : Sum Nat (List pE × Nat)) : Prop := (∃ w, pRun tx true (s00 (sk tx 0)) (.inl w) ∧ R = .inl w) ∨ ∃ gs nv p, pRun tx true (s00 (sk tx 0)) (.inr (none, gs, nv, p)) ∧ R = if pk1 tx p = 0 then .inr (gs, nv) else .inl p
theorem qR_d {tx : List Int} {R R' : Sum Nat (List pE × Nat)} (h1 : qR tx R) (h2 : qR tx R') : R = R' := by
  rcases h1 with ⟨w, a1, a2⟩ | ⟨gs, nv, p, a1, a2⟩
  · rcases h2 with ⟨w', b1, b2⟩ | ⟨gs', nv', p', b1, b2⟩
    · have := pRun_d tx true a1 b1
      injection this with this
      rw [a2, b2, this]
    · have := pRun_d tx true a1 b1
      cases this
  · rcases h2 with ⟨w', b1, b2⟩ | ⟨gs', nv', p', b1, b2⟩
    · have := pRun_d tx true a1 b1
      cases this
    · have := pRun_d tx true a1 b1
      injection this with this
      simp only [Prod.mk.injEq, true_and] at this
      obtain ⟨rfl, rfl, rfl⟩ := this
      rw [a2, b2]
section NB
variable {m m' m'' : hy_m} {tx : List Int} {sl c : Nat} {vs : List Int} {K : List (pE × Int)} {p p' : Nat} {Q : Int → hy_m → Prop} {qy : Bool} {hd : Option pE} {gs : List pE} {us : Nat → Bool}
theorem sp_196 {j : Nat} (hu : uOK m us) (h1 : us j = true → Q 1 m) (h0 : us j = false → Q 0 m) : wq_196 (j : Int) m Q := by
  obtain ⟨u1, u2, u3, u4, u5, u6⟩ := hu
  have hno : ((∃ k : Nat, 1 ≤ k ∧ (k : Int) ≤ m 85 0 ∧ m 85 (k : Int) = j) ∨ ∃ i k : Nat, (i : Int) < m 74 13 ∧ 1 ≤ k ∧ (k : Int) ≤ m 86 (21 * (i : Int)) ∧ m 86 (21 * (i : Int) + (k : Int)) = j) → Q 1 m := fun q => h1 ((u6 j).mpr q)
  unfold wq_196 wq_196_2
  refine wL1_rule (Nat.lt_wfRel.wf) (fun x m' => m' = m ∧ ∃ k : Nat, x = k ∧ 1 ≤ k ∧ k ≤ 21 ∧ ∀ i : Nat, 1 ≤ i → i < k → m 85 (i : Int) ≠ j) (fun x _ => 30 - x.toNat) ?_ ⟨rfl, 1, rfl, by omega, by omega, fun i q1 q2 => by omega⟩
  rintro P x m' ⟨rfl, k, rfl, k1, k2, hk⟩ hP
  unfold wf_196_2
  refine ⟨by omega, by omega, fun hlt => ?_, fun hle => ⟨by omega, by omega, fun hne => ⟨show -2147483648 ≤ _ ∧ _ < 2147483648 by omega, hP _ _ ⟨rfl, k + 1, by omega, by omega, by omega, fun i q1 q2 => ?_⟩ ?_⟩, fun heq => hno (Or.inl ⟨k, k1, hle, heq⟩)⟩⟩
  · unfold wq_196_32
    refine wL1_rule (Nat.lt_wfRel.wf) (fun x m'' => m'' = m' ∧ ∃ i : Nat, x = i ∧ i ≤ 6 ∧ ∀ i' k' : Nat, i' < i → (i' : Int) < m' 74 13 → 1 ≤ k' → (k' : Int) ≤ m' 86 (21 * (i' : Int)) → m' 86 (21 * (i' : Int) + (k' : Int)) ≠ j) (fun x _ => 30 - x.toNat) ?_ ⟨rfl, 0, rfl, by omega, fun i' k' q => by omega⟩
    rintro P2 x m'' ⟨rfl, i, rfl, hi6, hi⟩ hP2
    unfold wf_196_32
    refine ⟨fun hge => h0 ?_, fun hlt2 => ?_⟩
    · cases hu : us j with
      | false => rfl
      | true =>
        rcases (u6 j).mp hu with ⟨k', q1, q2, q3⟩ | ⟨i', k', q1, q2, q3, q4⟩
        · exact absurd q3 (hk k' q1 (by omega))
        · exact absurd q4 (hi i' k' (by omega) q1 q2 q3)
    · have u5i := u5 i hlt2
      unfold wq_196_42
      refine wL1_rule (Nat.lt_wfRel.wf) (fun x m3 => m3 = m'' ∧ ∃ k : Nat, x = k ∧ 1 ≤ k ∧ k ≤ 21 ∧ ∀ k' : Nat, 1 ≤ k' → k' < k → m'' 86 (21 * (i : Int) + (k' : Int)) ≠ j) (fun x _ => 30 - x.toNat) ?_ ⟨rfl, 1, rfl, by omega, by omega, fun k' q1 q2 => by omega⟩
      rintro P3 x m3 ⟨rfl, k', rfl, g1, g2, hk'⟩ hP3
      unfold wf_196_42
      refine ⟨by omega, by omega, fun hl => ⟨show -2147483648 ≤ _ ∧ _ < 2147483648 by omega, hP2 _ _ ⟨rfl, i + 1, by omega, by omega, fun i2 k2 q1 q2 q3 q4 => ?_⟩ ?_⟩, fun hl => ⟨by omega, by omega, fun hne => ⟨show -2147483648 ≤ _ ∧ _ < 2147483648 by omega, hP3 _ _ ⟨rfl, k' + 1, by omega, by omega, by omega, fun k2 q1 q2 => ?_⟩ ?_⟩, fun heq => hno (Or.inr ⟨i, k', hlt2, g1, hl, heq⟩)⟩⟩
      · by_cases e : i2 = i
        · subst e
          exact hk' k2 q3 (by omega)
        · exact hi i2 k2 (by omega) q2 q3 q4
      · show 30 - _ < 30 - _
        omega
      · by_cases e : k2 = k'
        · subst e
          exact hne
        · exact hk' k2 q1 (by omega)
      · show 30 - _ < 30 - _
        omega
  · by_cases e : i = k
    · subst e
      exact hne
    · exact hk i q1 (by omega)
  · show 30 - _ < 30 - _
    omega
theorem sp_197 {n st : Nat} (hu : uOK m us) (h27 : m 74 27 = n) (hn : n ≤ 20) (h0 : n = 0 → st = 0) (h1 : n ≠ 0 → m 91 ((n : Int) - 1) = (st : Int) - 1) (hex : ∃ j, st ≤ j ∧ j ≤ 25 ∧ us j = false) (hq : ∀ j, st ≤ j → j ≤ 25 → us j = false → (∀ i, st ≤ i → i < j → us i = true) → Q (j : Int) m) : wq_197 m Q := by
  obtain ⟨j0, e1, e2, e3⟩ := hex
  have go : wq_197_25 (st : Int) m Q := by
    unfold wq_197_25
    refine wL1_rule (Nat.lt_wfRel.wf) (fun x m' => m' = m ∧ ∃ k : Nat, x = k ∧ st ≤ k ∧ k ≤ j0 ∧ ∀ i, st ≤ i → i < k → us i = true) (fun x _ => 30 - x.toNat) ?_ ⟨rfl, st, rfl, by omega, e1, fun i q1 q2 => by omega⟩
    rintro P x m' ⟨rfl, k, rfl, k1, k2, hk⟩ hP
    unfold wf_197_25
    refine sp_196 hu (fun hy => ⟨fun q => absurd q (by decide), fun _ => ⟨show -2147483648 ≤ _ ∧ _ < 2147483648 by omega, hP _ _ ⟨rfl, k + 1, by omega, by omega, ?_, fun i q1 q2 => ?_⟩ ?_⟩⟩) (fun hf => ⟨fun _ => hq k k1 (by omega) hf hk, fun q => absurd rfl q⟩)
    · by_cases e : k = j0
      · subst e
        rw [hy] at e3
        cases e3
      · omega
    · by_cases e : i = k
      · subst e
        exact hy
      · exact hk i q1 (by omega)
    · show 30 - _ < 30 - _
      omega
  unfold wq_197
  rw [h27]
  refine ⟨fun hne => ?_, fun he => ?_⟩
  · have g := h1 (by omega)
    rw [g]
    refine ⟨by omega, by omega, show -2147483648 ≤ _ ∧ _ < 2147483648 by omega, ?_⟩
    rw [show (st : Int) - 1 + 1 = (st : Int) by omega]
    exact go
  · have : st = 0 := h0 (by omega)
    subst this
    exact go
theorem clR_fr {nv : Nat} (h : clR m sl hd gs nv) (h1 : ∀ (a : Nat) (e : Int), (a = 76 ∨ a = 77 ∨ a = 78) → 128 * (sl : Int) ≤ e → e < 128 * (sl : Int) + 128 → m' a e = m a e) (h2 : ∀ e : Int, 384 * (sl : Int) ≤ e → e < 384 * (sl : Int) + 384 → m' 79 e = m 79 e) (h3 : ∀ (a : Nat), (a = 80 ∨ a = 81 ∨ a = 82 ∨ a = 84) → m' a (sl : Int) = m a (sl : Int)) (h4 : ∀ e : Int, 5 * (sl : Int) ≤ e → e < 5 * (sl : Int) + 5 → m' 83 e = m 83 e) : clR m' sl hd gs nv := by
  obtain ⟨c, a1, a2, a3, a4, a5, a6, a7, a8, a9⟩ := h
  have hE : rEq m m' (nA sl c []) := fun n hn => by
    have q1 := hn.1
    have q2 := hn.2.1
    exact ⟨h1 _ _ (by omega) (by omega) (by omega), h1 _ _ (by omega) (by omega) (by omega), h1 _ _ (by omega) (by omega) (by omega), fun j _ _ => h2 _ (by omega) (by omega)⟩
  refine ⟨c, a1, ?_, ?_, a4, ?_, a6, fun i hi => ?_, fun t ht => ?_, fun v => ?_⟩
  · rw [h3 80 (by omega)]; exact a2
  · rw [h3 82 (by omega)]; exact a3
  · rw [h3 84 (by omega)]; exact a5
  · rw [h4 _ (by omega) (by omega)]
    exact rP_eq hE _ (-1) _ (fun z => by omega) (a7 i hi)
  · rw [h3 81 (by omega)]
    exact rP_eq hE _ (-1) _ (fun z => by omega) (a8 t ht)
  · rw [vC_eq c (fun n q1 q2 => ?_) v]
    · exact a9 v
    · rw [h1 76 n (by omega) (by omega) (by omega), h1 77 n (by omega) (by omega) (by omega)]
      exact ⟨Iff.rfl, rfl⟩
theorem clR_z {nv : Nat} {S : Int → Prop} (h : clR m sl hd gs nv) (hz : zFr m m' S) (hS : ¬ S (sl : Int)) : clR m' sl hd gs nv := by
  have hd1 : ∀ e : Int, 128 * (sl : Int) ≤ e → e < 128 * (sl : Int) + 128 → e / 128 = sl := fun e q1 q2 => by omega
  have hd2 : ∀ e : Int, 384 * (sl : Int) ≤ e → e < 384 * (sl : Int) + 384 → e / 384 = sl := fun e q1 q2 => by omega
  have hd3 : ∀ e : Int, 5 * (sl : Int) ≤ e → e < 5 * (sl : Int) + 5 → e / 5 = sl := fun e q1 q2 => by omega
  refine clR_fr h (fun a e q q1 q2 => hz a e (by omega) (fun z => hS (by rw [← hd1 e q1 q2]; exact z.2)) (by omega) (by omega) (by omega) (by omega) (by omega) (by omega) (by omega) (by omega)) (fun e q1 q2 => hz 79 e (by omega) (by omega) (fun z => hS (by rw [← hd2 e q1 q2]; exact z.2)) (by omega) (by omega) (by omega) (by omega) (by omega) (by omega) (by omega)) (fun a q => hz a _ (by omega) (by omega) (by omega) (fun z => hS z.2) (by omega) (by omega) (by omega) (by omega) (by omega) (by omega)) (fun e q1 q2 => hz 83 e (by omega) (by omega) (by omega) (by omega) (fun z => hS (by rw [← hd3 e q1 q2]; exact z.2)) (by omega) (by omega) (by omega) (by omega) (by omega))
/-- parts of nodes and goals are nodes, in all slots that are read into -/
def aPg (m : hy_m) : Prop := ∀ sl : Nat, sl < 28 → sl ≠ 26 → mPg m sl ∧ gPg m sl
theorem aPg_z (h : aPg m) (hz : zFr m m' (fun s => s = sl)) (h1 : mPg m' sl) (h2 : gPg m' sl) : aPg m' := by
  intro s hs hs6
  by_cases e : s = sl
  · subst e
    exact ⟨h1, h2⟩
  · refine ⟨fun e q1 q2 => ?_, fun e q1 q2 => ?_⟩
    · rw [hz 79 e (by omega) (by omega) (by omega) (by omega) (by omega) (by omega) (by omega) (by omega) (by omega) (by omega)]
      exact (h s hs hs6).1 e q1 q2
    · rw [hz 83 e (by omega) (by omega) (by omega) (by omega) (by omega) (by omega) (by omega) (by omega) (by omega) (by omega)]
      exact (h s hs hs6).2 e q1 q2
/-- a slot is begun -/
def mBs (m : hy_m) (sl : Nat) : hy_m := hy_u (hy_u (hy_u (hy_u (hy_u m 74 19 (sl : Int)) 80 (sl : Int) 0) 82 (sl : Int) 0) 81 (sl : Int) (-9)) 74 21 0
theorem sp_193 (hsl : sl < 28) (hq : Q 0 (mBs m sl)) : wq_193 (sl : Int) m Q := by
  unfold wq_193
  exact ⟨by omega, by omega, by omega, by omega, by omega, by omega, hq⟩
theorem mBs_r (m : hy_m) (sl : Nat) (a : Nat) (e : Int) (h1 : ¬ (a = 74 ∧ (e = 19 ∨ e = 21))) (h2 : ¬ ((a = 80 ∨ a = 81 ∨ a = 82) ∧ e = sl)) : mBs m sl a e = m a e := by
  unfold mBs hy_u
  rw [if_neg (by omega), if_neg (by omega), if_neg (by omega), if_neg (by omega), if_neg (by omega)]
theorem mBs_v (m : hy_m) (sl : Nat) : mBs m sl 74 19 = sl ∧ mBs m sl 80 (sl : Int) = 0 ∧ mBs m sl 82 (sl : Int) = 0 ∧ mBs m sl 74 21 = 0 := by
  unfold mBs
  refine ⟨?_, ?_, ?_, ?_⟩
  · rw [hy_uk (by decide), hy_ua (by decide), hy_ua (by decide), hy_ua (by decide), hy_us]
  · rw [hy_ua (by decide), hy_ua (by decide), hy_ua (by decide), hy_us]
  · rw [hy_ua (by decide), hy_ua (by decide), hy_us]
  · rw [hy_us]
theorem mS_begin (h : mAt m tx p) (hsl : sl < 28) : mS (hy_u (mBs m sl) 74 25 0) tx sl 0 [] [] [] [] p := by
  obtain ⟨h1, h2, h3⟩ := h
  have hr := mBs_r m sl
  have hv := mBs_v m sl
  have g : ∀ e : Int, e ≠ 19 → e ≠ 21 → e ≠ 25 → hy_u (mBs m sl) 74 25 0 74 e = m 74 e := fun e q1 q2 q3 => by rw [hy_uk q3, hr _ _ (by omega) (by omega)]
  refine ⟨⟨?_, h1.2.1, fun i hi => ?_, h1.2.2.2⟩, ⟨h2.1, ?_, ?_, ?_, fun z => ?_, fun z => ?_⟩, ⟨?_, by decide, fun i hi => absurd hi (Nat.not_lt_zero _)⟩, ⟨?_, ?_, hsl, ?_, hy_us _ _ _ _⟩, ⟨List.nodup_nil, (fun n hn => by cases hn)⟩, trivial, (fun q hq => by cases hq)⟩
  · rw [g _ (by decide) (by decide) (by decide)]; exact h1.1
  · rw [hy_ua (by decide), hr _ _ (by omega) (by omega)]; exact h1.2.2.1 i hi
  · rw [g _ (by decide) (by decide) (by decide)]; exact h2.2.1
  · rw [g _ (by decide) (by decide) (by decide)]; exact h2.2.2.1
  · rw [g _ (by decide) (by decide) (by decide)]; exact h2.2.2.2.1
  · rw [g _ (by decide) (by decide) (by decide)]; exact h2.2.2.2.2.1 z
  · rw [g _ (by decide) (by decide) (by decide)]; exact h2.2.2.2.2.2 z
  · rw [hy_uk (by decide), hv.2.2.2]; rfl
  · rw [g _ (by decide) (by decide) (by decide)]; exact h3
  · rw [hy_uk (by decide)]; exact hv.1
  · rw [hy_ua (by decide), hv.2.1]; rfl
end NB
