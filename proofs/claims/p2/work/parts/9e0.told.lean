/-! TOLD AND CLAUSE, ON BOTH SIDES -/
def tdA (PL : List pCl) (PH : List (List pCl)) (tx : List Int) (w : Int) : Int := if w = 0 then PL.length else if w = 1 then (cntB (fcB PL) 20 : Nat) else if w = 2 then (dsM (noB PL) [] (calB PL PL.length 0) : Nat) else if w = 3 then PH.length else if w = 4 then tx.length else -1
def clI (PL : List pCl) (cl : pCl) (w a6 a7 r : Int) : Prop := (w = 0 ∧ r = cl.2.1.length) ∨ (w = 1 ∧ r = cl.2.2) ∨ (w = 2 ∧ r = (cnt1 (fun v => oH (some cl.1) v + oL cl.2.1 v) cl.2.2 : Nat)) ∨ (w = 3 ∧ fsI (hdB PL (eKy cl.1)) r) ∨ (w = 4 ∧ r = fk cl.1) ∨ (w = 5 ∧ r = if ewB cl.1 cl.2.1 = true then 1 else 0) ∨ (w = 6 ∧ r = a6) ∨ (w = 7 ∧ r = a7) ∨ ((w < 0 ∨ 7 < w) ∧ r = -1)
theorem clI_uq {PL : List pCl} {cl : pCl} {w a6 a7 r r' : Int} (h : clI PL cl w a6 a7 r) (h' : clI PL cl w a6 a7 r') : r = r' := by
  rcases h with ⟨e, a⟩ | ⟨e, a⟩ | ⟨e, a⟩ | ⟨e, a⟩ | ⟨e, a⟩ | ⟨e, a⟩ | ⟨e, a⟩ | ⟨e, a⟩ | ⟨e, a⟩ <;> rcases h' with ⟨e', a'⟩ | ⟨e', a'⟩ | ⟨e', a'⟩ | ⟨e', a'⟩ | ⟨e', a'⟩ | ⟨e', a'⟩ | ⟨e', a'⟩ | ⟨e', a'⟩ | ⟨e', a'⟩
  all_goals first
    | exact fsI_uq a a' (fun _ _ => rfl)
    | (exfalso; omega)
    | exact a.trans a'.symm
section TOL
variable {T : hy_T} {m : hy_m} {F : Nat → Prop} {Q : Int → hy_m → Prop} {PL : List pCl} {PH : List (List pCl)} {ss : List Nat} {HS : List (List Nat)} {tx : List Int} {w x : Int}
/-- told -/
theorem sp_8 (hp : cPs T m F PL PH) (hT : cTx m tx) (hq : Q (tdA PL PH tx w) m) : wq_8 w T m Q := by
  unfold tdA at hq
  unfold wq_8
  refine ⟨⟨fun e => ?_, fun e => ?_, fun e => ?_, fun e => ?_, fun e => ?_, trivial⟩, fun e => ?_⟩
  · rw [if_pos (by omega)] at hq
    rw [hp.1.2.2.2.1]
    exact hq
  · rw [if_neg (by omega), if_pos (by omega)] at hq
    exact sp_61 (a := 21) hp.1 hq
  · rw [if_neg (by omega), if_neg (by omega), if_pos (by omega)] at hq
    exact sp_62 (a := 21) hp.1 hq
  · rw [if_neg (by omega), if_neg (by omega), if_neg (by omega), if_pos (by omega)] at hq
    rw [hp.2.1]
    exact hq
  · rw [if_neg (by omega), if_neg (by omega), if_neg (by omega), if_neg (by omega), if_pos (by omega)] at hq
    rw [hT.1]
    exact hq
  · rw [if_neg (by omega), if_neg (by omega), if_neg (by omega), if_neg (by omega), if_neg (by omega)] at hq
    exact hq
theorem sp_219 (hp : mPz m PL ss PH HS) (hT : mTx m tx) (hq : ∀ m', qFr m m' → Q (tdA PL PH tx w) m') : wq_219 w m Q := by
  have hp' := mLo_P hp.1
  have hq0 := hq m (fun _ _ _ _ => rfl)
  unfold tdA at hq0 hq
  unfold wq_219
  refine ⟨⟨fun e => ⟨by decide, by decide, ?_⟩, fun e => ?_, fun e => ?_, fun e => ?_, fun e => ?_, trivial⟩, fun e => ?_⟩
  · rw [if_pos (by omega)] at hq0
    rw [hp'.1]
    exact hq0
  · rw [if_neg (by omega), if_pos (by omega)] at hq0
    exact sp_213 hp' hq0
  · refine sp_218 hp' (fun m' f' => ?_)
    have := hq m' f'
    rw [if_neg (by omega), if_neg (by omega), if_pos (by omega)] at this
    exact this
  · rw [if_neg (by omega), if_neg (by omega), if_neg (by omega), if_pos (by omega)] at hq0
    rw [hp.2.1]
    exact hq0
  · rw [if_neg (by omega), if_neg (by omega), if_neg (by omega), if_neg (by omega), if_pos (by omega)] at hq0
    rw [hT.1]
    exact hq0
  · rw [if_neg (by omega), if_neg (by omega), if_neg (by omega), if_neg (by omega), if_neg (by omega)] at hq0
    exact hq0
/-- clause -/
theorem sp_9 (hp : cPo T m F 21 22 PL) (h0 : ¬ (0 ≤ x ∧ x < PL.length) → Q (-1) m) (hq : ∀ (c : Nat) cl r, x = c → PL[c]? = some cl → clI PL cl w (if m 36 10 = 0 then 0 else m 39 x) (if m 36 10 = 0 then 0 else m 40 x) r → Q r m) : wq_9 x w T m Q := by
  have h20 := hp.2.2.2.2.1
  unfold wq_9
  refine sp_52 (a := 21) hp (fun a1 a2 => ⟨fun q => absurd q (by decide), fun _ => ?_⟩) (fun q => ⟨fun _ => h0 q, fun z => absurd rfl z⟩)
  obtain ⟨c, rfl⟩ : ∃ c : Nat, x = c := ⟨x.toNat, by omega⟩
  have hc : c < PL.length := by omega
  have hg := List.getElem?_eq_getElem hc
  have hq := fun r => hq c _ r rfl hg
  refine ⟨fun q => hq _ (Or.inr (Or.inr (Or.inr (Or.inr (Or.inr (Or.inr (Or.inr (Or.inr ⟨Or.inl (by omega), rfl⟩)))))))), fun q1 => ⟨fun q2 => ?_, fun q2 => hq _ (Or.inr (Or.inr (Or.inr (Or.inr (Or.inr (Or.inr (Or.inr (Or.inr ⟨Or.inr (by omega), rfl⟩))))))))⟩⟩
  refine sp_53 (a := 21) hp hg (fun a c1 c2 _ => ?_)
  have hTa := cCl_T c1
  have c1' := c1
  obtain ⟨cc, k0, k1, k2, k4, k7, k8, hK, e1, e2, e3, e4, e5, e6, e7, e8, e9, e10, e11, e12, e13, -⟩ := c1'
  rw [Int.toNat_natCast, e2, Int.toNat_natCast, e12, e13]
  refine ⟨⟨fun e => ⟨hTa, 100, _, e3, by decide, hq _ (Or.inl ⟨by omega, rfl⟩)⟩, fun e => ⟨hTa, hq _ (Or.inr (Or.inl ⟨by omega, rfl⟩))⟩, fun e => ⟨hTa, hq _ (Or.inr (Or.inr (Or.inl ⟨by omega, rfl⟩)))⟩, fun e => ⟨hTa, sp_45 c1 c2 (sp_58 (a := 21) hp (fun y hy => hq _ (Or.inr (Or.inr (Or.inr (Or.inl ⟨by omega, hy⟩))))))⟩, fun e => ⟨hTa, sp_46 c1 c2 (hq _ (Or.inr (Or.inr (Or.inr (Or.inr (Or.inl ⟨by omega, rfl⟩))))))⟩, fun e => ⟨hTa, sp_48 c1 c2 ?_⟩, fun e => ?_, trivial⟩, fun e => ?_⟩
  · by_cases b : ewB PL[c].1 PL[c].2.1 = true
    · rw [if_pos b]
      exact ⟨fun q => absurd q (by decide), fun _ => hq _ (Or.inr (Or.inr (Or.inr (Or.inr (Or.inr (Or.inl ⟨by omega, by rw [if_pos b]⟩))))))⟩
    · rw [if_neg b]
      exact ⟨fun _ => hq _ (Or.inr (Or.inr (Or.inr (Or.inr (Or.inr (Or.inl ⟨by omega, by rw [if_neg b]⟩)))))), fun q => absurd rfl q⟩
  · have h6 := hq (if m 36 10 = 0 then 0 else m 39 (c : Int)) (Or.inr (Or.inr (Or.inr (Or.inr (Or.inr (Or.inr (Or.inl ⟨by omega, rfl⟩)))))))
    unfold wq_105
    refine ⟨fun z => ?_, fun z => ⟨fun y => by omega, fun _ => ⟨fun _ => ⟨by omega, by omega, ?_⟩, fun y => by omega⟩⟩⟩
    · rw [if_pos z] at h6
      exact h6
    · rw [if_neg z] at h6
      exact h6
  · have h7 := hq (if m 36 10 = 0 then 0 else m 40 (c : Int)) (Or.inr (Or.inr (Or.inr (Or.inr (Or.inr (Or.inr (Or.inr (Or.inl ⟨by omega, rfl⟩))))))))
    unfold wq_106
    refine ⟨fun z => ?_, fun z => ⟨fun y => by omega, fun _ => ⟨fun _ => ⟨by omega, by omega, ?_⟩, fun y => by omega⟩⟩⟩
    · rw [if_pos z] at h7
      exact h7
    · rw [if_neg z] at h7
      exact h7
theorem sp_223 (hp : mPo m PL ss) (h0 : ¬ (0 ≤ x ∧ x < PL.length) → Q (-1) m) (hq : ∀ (c : Nat) cl r, x = c → PL[c]? = some cl → clI PL cl w (m 95 x) (m 96 x) r → Q r m) : wq_223 x w m Q := by
  have h20 := hp.2.1
  unfold wq_223
  refine sp_205 hp (fun a1 a2 => ⟨fun _ => ?_, fun q => absurd q (by decide)⟩) (fun q => ⟨fun z => absurd rfl z, fun _ => h0 q⟩)
  obtain ⟨c, rfl⟩ : ∃ c : Nat, x = c := ⟨x.toNat, by omega⟩
  have hc : c < PL.length := by omega
  have hg := List.getElem?_eq_getElem hc
  have hq := fun r => hq c _ r rfl hg
  obtain ⟨s, -, s1, s2, s3, s4, s5⟩ := mPo_i hp hc
  obtain ⟨g1, g2, g3, g4⟩ := clR_g s3 (by omega)
  have hh := g4 _ rfl
  have hr := mN_r hh
  obtain ⟨kx, z1, z2, z3, z4, z5, z6⟩ := hd_1 s4 hh
  refine sp_206 (by omega) s2 ?_
  rw [g1, g2]
  refine ⟨⟨fun e => ⟨by omega, by omega, hq _ (Or.inl ⟨by omega, rfl⟩)⟩, fun e => ⟨by omega, by omega, hq _ (Or.inr (Or.inl ⟨by omega, rfl⟩))⟩, fun e => sp_221 s3 (by omega) (hq _ (Or.inr (Or.inr (Or.inl ⟨by omega, rfl⟩)))), fun e => ⟨by omega, by omega, sp_212 hp hh (kOK_cb s4) (fun y hy => hq _ (Or.inr (Or.inr (Or.inr (Or.inl ⟨by omega, hy⟩)))))⟩, fun e => ⟨by omega, by omega, hr.1, hr.2, fun q => ?_, fun q => ?_⟩, fun e => sp_222 s3 s4 (by omega) (hq _ (Or.inr (Or.inr (Or.inr (Or.inr (Or.inr (Or.inl ⟨by omega, rfl⟩))))))), fun e => ⟨by omega, by omega, hq _ (Or.inr (Or.inr (Or.inr (Or.inr (Or.inr (Or.inr (Or.inl ⟨by omega, rfl⟩)))))))⟩, fun e => ⟨by omega, by omega, hq _ (Or.inr (Or.inr (Or.inr (Or.inr (Or.inr (Or.inr (Or.inr (Or.inl ⟨by omega, rfl⟩))))))))⟩, trivial⟩, fun e => hq _ (Or.inr (Or.inr (Or.inr (Or.inr (Or.inr (Or.inr (Or.inr (Or.inr ⟨e, rfl⟩))))))))⟩
  · rw [z1] at q
    obtain ⟨y, y1, y2, y3, y4⟩ := z6 (by omega)
    have ry := mN_r y1
    refine ⟨by omega, by omega, by omega, by omega, ry.1, ry.2, ?_⟩
    rw [rP_kd y1, ← y3]
    exact hq _ (Or.inr (Or.inr (Or.inr (Or.inr (Or.inl ⟨by omega, rfl⟩)))))
  · rw [z1] at q
    exact hq _ (Or.inr (Or.inr (Or.inr (Or.inr (Or.inl ⟨by omega, (z5 (by omega)).symm⟩)))))
end TOL
