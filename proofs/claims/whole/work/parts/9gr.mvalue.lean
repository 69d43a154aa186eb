/-! THE MODEL SHOWS THE SEARCH: variable, value, goal -/
def alI (s : Nat → pE) (w : Nat) (r : Int) : Prop := ∃ u : Nat, r = u ∧ s u = .var w ∧ ∀ u', u' < u → s u' ≠ .var w
def vaI (s : Nat → pE) (v : Nat) (w r : Int) : Prop := (w = 0 ∧ r = if eKd (s v) = 1 then 0 else 1) ∨ (w = 1 ∧ r = eKd (s v)) ∨ (w = 2 ∧ ((∃ i, s v = .num i ∧ r = i) ∨ (eKd (s v) ≠ 2 ∧ r = -9))) ∨ (w = 3 ∧ ((∃ x : Nat, s v = .var x ∧ alI s x r) ∨ (eKd (s v) ≠ 1 ∧ r = -9))) ∨ ((w < 0 ∨ 3 < w) ∧ r = -1)
theorem alI_uq {s : Nat → pE} {w : Nat} {r r' : Int} (h : alI s w r) (h' : alI s w r') : r = r' := by
  obtain ⟨u, e, h1, h2⟩ := h
  obtain ⟨u', e', h1', h2'⟩ := h'
  rcases Nat.lt_trichotomy u u' with q | q | q
  · exact absurd h1 (h2' u q)
  · rw [e, e', q]
  · exact absurd h1' (h2 u' q)
theorem vaI_uq {s : Nat → pE} {v : Nat} {w r r' : Int} (h : vaI s v w r) (h' : vaI s v w r') : r = r' := by
  rcases h with ⟨e, a⟩ | ⟨e, a⟩ | ⟨e, a⟩ | ⟨e, a⟩ | ⟨e, a⟩ <;> rcases h' with ⟨e', a'⟩ | ⟨e', a'⟩ | ⟨e', a'⟩ | ⟨e', a'⟩ | ⟨e', a'⟩
  all_goals first
    | (exfalso; omega)
    | exact a.trans a'.symm
    | skip
  · rcases a with ⟨i, b1, b2⟩ | ⟨b1, b2⟩ <;> rcases a' with ⟨i', b1', b2'⟩ | ⟨b1', b2'⟩
    · rw [b1] at b1'
      injection b1' with q
      rw [b2, b2', q]
    · rw [b1] at b1'
      exact absurd rfl b1'
    · rw [b1'] at b1
      exact absurd rfl b1
    · rw [b2, b2']
  · rcases a with ⟨i, b1, b2⟩ | ⟨b1, b2⟩ <;> rcases a' with ⟨i', b1', b2'⟩ | ⟨b1', b2'⟩
    · rw [b1] at b1'
      injection b1' with q
      rw [← q] at b2'
      exact alI_uq b2 b2'
    · rw [b1] at b1'
      exact absurd rfl b1'
    · rw [b1'] at b1
      exact absurd rfl b1
    · rw [b2, b2']
/-- a sign of a text -/
def tsA (o : List Int) (k : Int) : Int := o.getD k.toNat (-9)
section NG
variable {E : qE} {ss : List Nat} {m m' : hy_m} {A : qA} {Q : Int → hy_m → Prop} {f : qF} {r : List qF} {o : List Int} {x : Int}
theorem m_out (ho : mOu m o) (hx : 0 ≤ x) (hq : Q (tsA o x) m) : (m 74 70 ≤ x → Q (-9) m) ∧ (x < m 74 70 → (0 ≤ x ∧ x < 120 ∧ Q (m 117 x) m)) := by
  obtain ⟨h1, h2, h3⟩ := ho
  obtain ⟨k, rfl⟩ : ∃ k : Nat, x = k := ⟨x.toNat, by omega⟩
  unfold tsA at hq
  rw [Int.toNat_natCast, List.getD_eq_getElem?_getD] at hq
  rw [h1]
  refine ⟨fun q => ?_, fun q => ⟨hx, by omega, ?_⟩⟩
  · rw [List.getElem?_eq_none (by omega)] at hq
    exact hq
  · have hk : k < o.length := by omega
    rw [List.getElem?_eq_getElem hk] at hq
    rw [h3 k _ (List.getElem?_eq_getElem hk)]
    exact hq
/-- put, also where the text is full -/
theorem sp_294f {G : Nat → Nat → Prop} {D : Nat → Prop} {B : bM} {s : Nat → pE} {y : Int} {t : pE} {nm : List Nat} (hg : gC G m) (hB : mBd G m D B) (hR : Res B s) (ht : mTm G m y t) (hD : ∀ w, vIn w t → D w) (ho : mOu m o) (hn : o.length < 120 → mNa m nm ∧ nm.length ≤ o.length) (h1 : ∀ m', wFx m m' → mOu m' (tkp o (wM (sb s t) 0 nm).1) → ((tkp o (wM (sb s t) 0 nm).1).length < 120 → mNa m' (wM (sb s t) 0 nm).2 ∧ (wM (sb s t) 0 nm).2.length ≤ (tkp o (wM (sb s t) 0 nm).1).length) → Q 0 m') : wq_294 y m Q := by
  by_cases hl : o.length < 120
  · exact sp_294 hg hB hR ht hD ho (hn hl).1 hl (hn hl).2 h1
  · have hl : o.length = 120 := by have := ho.2.1; omega
    unfold wq_294
    refine sp_290 (many := 0) (by rw [hy_us]; rfl) (by decide) ?_
    intro P hP
    have h70 : hy_u (hy_u (hy_u m 74 73 0) 112 ((0 : Nat) : Int) y) 74 73 (((0 : Nat) : Int) + 1) 74 70 = 120 := by
      rw [hy_uk (by decide), hy_ua (by decide), hy_uk (by decide), ho.1, hl]
      rfl
    refine hP _ ⟨fun q => ?_, fun _ => ⟨fun _ => ?_, fun q => ?_⟩⟩
    · rw [hy_us] at q
      exact absurd q (by decide)
    · have f0 : wFx m (hy_u (hy_u (hy_u m 74 73 0) 112 ((0 : Nat) : Int) y) 74 73 (((0 : Nat) : Int) + 1)) := fun a e q1 q2 q3 q4 => by rw [hy_uf (by omega), hy_ua q1, hy_uf (by omega)]
      refine h1 _ f0 ?_ (fun q => ?_)
      · rw [tkp_full hl]
        refine ⟨by rw [h70, hl]; rfl, ho.2.1, fun i c hc => ?_⟩
        rw [hy_ua (by decide), hy_ua (by decide), hy_ua (by decide)]
        exact ho.2.2 i c hc
      · rw [tkp_full hl] at q
        omega
    · rw [h70] at q
      exact absurd q (by decide)
/-- beginText -/
theorem sp_295 (hq : ∀ m', (∀ (a : Nat) (e : Int), ¬ (a = 74 ∧ (e = 70 ∨ e = 72)) → m' a e = m a e) → mOu m' [] → mNa m' [] → Q 0 m') : wq_295 m Q := by
  unfold wq_295
  refine hq _ (fun a e q => by rw [hy_uf (by omega), hy_uf (by omega)]) ⟨by rw [hy_uk (by decide), hy_us]; rfl, Nat.zero_le _, fun i c hc => by cases hc⟩ ⟨by rw [hy_us]; rfl, List.nodup_nil, fun i v hv => by cases hv⟩
/-- isVariable -/
theorem sp_283 (hP : mPr E ss m) {st : Nat} (h32 : m 74 32 = st) (h1 : st ≠ 0 → 0 ≤ x → x < (E.2.2 : Int) → Q 1 m) (h0 : ¬ (st ≠ 0 ∧ 0 ≤ x ∧ x < (E.2.2 : Int)) → Q 0 m) : wq_283 x m Q := by
  have g84 : m 84 26 = (E.2.2 : Nat) := (clR_g hP.2.1 (by decide)).2.1
  have h8 := hP.2.2.1.1
  unfold wq_283 wq_170
  rw [h32, g84]
  refine ⟨fun q => h0 (by omega), fun q => ⟨by decide, by decide, show -2147483648 ≤ _ ∧ _ < 2147483648 by omega, fun z => ⟨fun _ => h0 (by omega), fun z2 => absurd rfl z2⟩, fun z => ⟨fun z2 => ⟨fun _ => h0 (by omega), fun z3 => absurd rfl z3⟩, fun z2 => ⟨fun z3 => absurd z3 (by decide), fun _ => h1 (by omega) z (by omega)⟩⟩⟩⟩
/-- where a variable of the query leads -/
theorem vr_fo {B : bM} {s : Nat → pE} {v : Nat} {D : Nat → Prop} {G : Nat → Nat → Prop} {y : Int} {t' : pE} (hR : Res B s) (hf : mFo G m D B y t') (hs : ∀ u, Sol B u → sb u (.var v) = sb u t') : (∃ w : Nat, y = mF w ∧ s v = .var w ∧ w < 2500 ∧ t' = .var w) ∨ ((∀ w : Nat, w < 2500 → y ≠ mF w) ∧ eKd (s v) = eKd t' ∧ eKd t' ≠ 1 ∧ s v = sb s t') := by
  have e : s v = sb s t' := hs s hR.sol
  obtain ⟨h1, h2, h3⟩ := hf
  rcases h3 with ⟨w, a1, a2, a3, a4⟩ | ⟨a1, a2⟩
  · refine Or.inl ⟨w, a1, ?_, a4, a2⟩
    rw [e, a2]
    exact (hR w).1 a3
  · refine Or.inr ⟨a2, ?_, fun q => ?_, e⟩
    · rw [e]
      exact (eK_sb s a1 (fun k b hb => by rw [hb] at h1; exact (mTm_L h1).1)).1
    · obtain ⟨w, hw⟩ := eKd_1 q
      exact a1 w hw
theorem mF_inj {v w : Nat} (h : mF v = mF w) : v = w := by unfold mF at h; omega
/-- variable -/
theorem sp_285 {w : Int} (hO : qOK E A) (hA : mAl E ss m A) (h0 : ¬ (qn A 0 ≠ 0 ∧ 0 ≤ x ∧ x < (E.2.2 : Int)) → Q (-1) m) (hq : ∀ (v : Nat) (r : Int), x = v → v < E.2.2 → qn A 0 ≠ 0 → vaI (qs A) v w r → Q r m) : wq_285 x w m Q := by
  obtain ⟨hS, h32, h33⟩ := hA
  obtain ⟨hln, hlc, h4, h8⟩ := hO.len
  obtain ⟨hP, hN, ⟨s3, s4, s5⟩, B, T, s6, s7, s8⟩ := hS
  have hto := mPr_tot hP hO.2.2.1 hln
  have hn8 := hP.2.2.1.1
  unfold wq_285
  refine sp_283 hP h32 (fun a1 a2 a3 => ⟨fun _ => ?_, fun q => absurd q (by decide)⟩) (fun q => ⟨fun z => absurd rfl z, fun _ => h0 q⟩)
  obtain ⟨v, rfl⟩ : ∃ v : Nat, x = v := ⟨x.toNat, by omega⟩
  have hv : v < E.2.2 := by omega
  have hvt : ∀ u, u < E.2.2 → u < tot E (qi A) := fun u hu => by unfold tot; omega
  have hq := fun r => hq v r rfl hv a1
  have fol : ∀ (u : Nat) (Q' : Int → hy_m → Prop), u < E.2.2 → (∀ y t', mFo (mG E ss m (qi A)) m (fun w => w < tot E (qi A)) B y t' → ((∃ w : Nat, y = mF w ∧ qs A u = .var w ∧ w < 2500 ∧ t' = .var w) ∨ ((∀ w : Nat, w < 2500 → y ≠ mF w) ∧ eKd (qs A u) = eKd t' ∧ eKd t' ≠ 1 ∧ qs A u = sb (qs A) t')) → Q' y m) → wq_237 (jO 2305843009213693952 (u : Int)) m Q' := by
    intro u Q' hu h
    rw [jO_F (by omega)]
    refine sp_237 s6.1 s7 (t := .var u) (Or.inl ⟨u, by omega, rfl, rfl⟩) (fun z hz => ?_) (fun y t' q1 q2 => h y t' q1 (vr_fo s7 q1 q2))
    have hz : (u : Nat) = z := hz
    rw [← hz]
    exact hvt u hu
  refine fol v _ hv (fun y t' q1 q2 => ⟨⟨fun e => ?_, fun e => ?_, fun e => ?_, fun e => ?_, trivial⟩, fun e => hq _ (Or.inr (Or.inr (Or.inr (Or.inr ⟨e, rfl⟩))))⟩)
  · refine sp_230 q1.1 (fun z z1 z2 z3 => ⟨fun q => absurd q (by decide), fun _ => hq _ (Or.inl ⟨by omega, ?_⟩)⟩) (fun z => ⟨fun _ => hq _ (Or.inl ⟨by omega, ?_⟩), fun q => absurd rfl q⟩)
    · rcases q2 with ⟨u, b1, b2, b3, b4⟩ | ⟨b1, -⟩
      · rw [b2]; rfl
      · exact absurd z2 (b1 z z1)
    · rcases q2 with ⟨u, b1, b2, b3, b4⟩ | ⟨-, b1, b2, -⟩
      · exact absurd b1 (z u b3)
      · rw [b1, if_neg b2]
  · refine sp_238 q1.1 (hq _ (Or.inr (Or.inl ⟨by omega, ?_⟩)))
    rcases q2 with ⟨u, b1, b2, b3, b4⟩ | ⟨-, b1, b2, -⟩
    · rw [b2, b4]
    · exact b1.symm
  · refine sp_238 q1.1 ⟨fun hne => hq _ (Or.inr (Or.inr (Or.inl ⟨by omega, Or.inr ⟨?_, rfl⟩⟩))), fun he => ?_⟩
    · rcases q2 with ⟨u, b1, b2, b3, b4⟩ | ⟨-, b1, b2, -⟩
      · rw [b2]
        show ¬ ((1 : Int) = 2)
        decide
      · rw [b1]; exact hne
    · have hn : ∃ i, t' = .num i := by
        cases t' with
        | num i => exact ⟨i, rfl⟩
        | var u => exact absurd he (by show ¬ ((1 : Int) = 2); decide)
        | mulL k a =>
          exfalso
          have : (if eN a = 0 then 3 else 4 : Int) = 2 := he
          split at this <;> cases this
        | add a b => exact absurd he (by show ¬ ((0 : Int) = 2); decide)
        | sub a b => exact absurd he (by show ¬ ((0 : Int) = 2); decide)
        | neg a => exact absurd he (by show ¬ ((0 : Int) = 2); decide)
        | mulR a k => exact absurd he (by show ¬ ((0 : Int) = 2); decide)
      obtain ⟨i, rfl⟩ := hn
      refine sp_239 q1.1 (mTm_num q1.1) (hq _ (Or.inr (Or.inr (Or.inl ⟨by omega, Or.inl ⟨i, ?_, rfl⟩⟩))))
      rcases q2 with ⟨u, b1, b2, b3, b4⟩ | ⟨-, -, -, b1⟩
      · cases b4
      · exact b1
  · refine sp_230 q1.1 (fun z z1 z2 z3 => ⟨fun q => absurd q (by decide), fun _ => ?_⟩) (fun z => ⟨fun _ => hq _ (Or.inr (Or.inr (Or.inr (Or.inl ⟨by omega, Or.inr ⟨?_, rfl⟩⟩)))), fun q => absurd rfl q⟩)
    · obtain ⟨w', b1, b2, b3, b4⟩ : ∃ w : Nat, y = mF w ∧ qs A v = .var w ∧ w < 2500 ∧ t' = .var w := by
        rcases q2 with b | ⟨b1, -⟩
        · exact b
        · exact absurd z2 (b1 z z1)
      unfold wq_284
      refine wL1_rule (Nat.lt_wfRel.wf) (fun x3 m' => m' = m ∧ ∃ d : Nat, x3 = d ∧ d ≤ v ∧ ∀ u', u' < d → qs A u' ≠ .var w') (fun x3 _ => 100 - x3.toNat) ?_ ⟨rfl, 0, rfl, Nat.zero_le _, fun u' h => absurd h (Nat.not_lt_zero _)⟩
      rintro P x3 m1 ⟨rfl, d, rfl, hd, hno⟩ hP2
      unfold wf_284_2
      refine fol d _ (by omega) (fun y2 t2 p1 p2 => ⟨fun he => hq _ (Or.inr (Or.inr (Or.inr (Or.inl ⟨by omega, Or.inl ⟨w', b2, d, rfl, ?_, hno⟩⟩)))), fun hne => ⟨show -2147483648 ≤ _ ∧ _ < 2147483648 by omega, hP2 _ _ ⟨rfl, d + 1, by omega, ?_, fun u' hu => ?_⟩ (show 100 - ((d : Int) + 1).toNat < 100 - ((d : Nat) : Int).toNat by omega)⟩⟩)
      · rcases p2 with ⟨w2, c1, c2, c3, c4⟩ | ⟨c1, -⟩
        · rw [c2]
          rw [c1, b1] at he
          rw [mF_inj he]
        · exact absurd (he.trans b1) (c1 w' b3)
      · by_cases q : d = v
        · exfalso
          subst q
          rcases p2 with ⟨w2, c1, c2, c3, c4⟩ | ⟨-, c1, c2, -⟩
          · rw [b2] at c2
            injection c2 with c2
            rw [b1, c2] at hne
            exact hne c1
          · rw [b2] at c1
            exact c2 c1.symm
        · omega
      · by_cases q : u' = d
        · rw [q]
          intro hc
          rcases p2 with ⟨w2, c1, c2, c3, c4⟩ | ⟨-, c1, c2, -⟩
          · rw [hc] at c2
            injection c2 with c2
            rw [b1, c2] at hne
            exact hne c1
          · rw [hc] at c1
            exact c2 c1.symm
        · exact hno u' (by omega)
    · rcases q2 with ⟨u, b1, b2, b3, b4⟩ | ⟨-, b1, b2, -⟩
      · exact absurd b1 (z u b3)
      · rw [b1]; exact b2
/-- value -/
theorem sp_297 {k : Int} (hO : qOK E A) (hA : mAl E ss m A) (h0 : ¬ (qn A 0 ≠ 0 ∧ 0 ≤ x ∧ x < (E.2.2 : Int) ∧ 0 ≤ k) → Q (-1) m) (hq : ∀ (v : Nat) m', x = v → v < E.2.2 → qn A 0 ≠ 0 → 0 ≤ k → wFx m m' → Q (tsA (tkp [] (wM (qs A v) 0 []).1) k) m') : wq_297 x k m Q := by
  obtain ⟨hS, h32, h33⟩ := hA
  obtain ⟨hln, hlc, h4, h8⟩ := hO.len
  obtain ⟨hP, hN, ⟨s3, s4, s5⟩, B, T, s6, s7, s8⟩ := hS
  have hn8 := hP.2.2.1.1
  unfold wq_297
  refine sp_283 hP h32 (fun a1 a2 a3 => ⟨fun q => absurd q (by decide), fun _ => ⟨fun hk => ?_, fun hk => h0 (by omega)⟩⟩) (fun q => ⟨fun _ => h0 (by omega), fun z => absurd rfl z⟩)
  obtain ⟨v, rfl⟩ : ∃ v : Nat, x = v := ⟨x.toNat, by omega⟩
  have hv : v < E.2.2 := by omega
  refine sp_295 (fun m1 f1 o1 n1 => ?_)
  have hr1 : mRw m m1 := fun a e q1 q2 => f1 a e (by omega)
  rw [jO_F (by omega)]
  have hB1 : mBd (mG E ss m (qi A)) m1 (fun w => w < tot E (qi A)) B := mBd_fr s6.1 (fun a e q => f1 a e (by omega))
  have hG1 : gC (mG E ss m (qi A)) m1 := by
    rw [← mG_rw hr1]
    exact mG_C (mPr_rw hr1 (fun e => f1 _ _ (by omega)) hP) hO.2.2.1
  refine sp_294f hG1 hB1 s7 (t := .var v) (Or.inl ⟨v, by omega, rfl, rfl⟩) (fun z hz => ?_) o1 (nm := []) (fun _ => ⟨n1, Nat.zero_le _⟩) (fun m2 f2 o2 _ => m_out o2 hk (hq v m2 rfl hv a1 hk (fun a e q1 q2 q3 q4 => (f2 a e q1 q2 q3 q4).trans (f1 a e (by omega)))))
  have hz : (v : Nat) = z := hz
  rw [← hz]
  show v < tot E (qi A)
  unfold tot
  omega
/-- goal -/
theorem sp_298 (hO : qOK E A) (hS : mSe E ss m A) (hend : ∀ f r, qp A = f :: r → qend f = false) (h0 : x < 0 → Q (-1) m) (h9 : 0 ≤ x → qp A = [] → Q (-9) m) (hq : ∀ f r m', 0 ≤ x → qp A = f :: r → wFx m m' → Q (tsA (tkp [] (wM (sb (qs A) (qgoal E A f)) 0 []).1) x) m') : wq_298 x m Q := by
  have hS' := hS
  obtain ⟨hln, hlc, h4, h8⟩ := hO.len
  obtain ⟨hP, hN, ⟨s3, s4, s5⟩, B, T, s6, s7, s8⟩ := hS
  unfold wq_298
  refine ⟨fun hx => ?_, h0⟩
  cases he : qp A with
  | nil =>
    rw [he] at s5
    have s5 : m 74 52 = -9 := s5
    exact ⟨fun q => absurd s5 q, fun _ => h9 hx he⟩
  | cons f r =>
    rw [he] at s5
    obtain ⟨j, e52, hj, hF, hr⟩ := s5
    refine ⟨fun _ => sp_295 (fun m1 f1 o1 n1 => ?_), fun q => by omega⟩
    have hr1 : mRw m m1 := fun a e q1 q2 => f1 a e (by omega)
    have hS1 : mSe E ss m1 A := by
      refine ⟨mPr_rw hr1 (fun e => f1 _ _ (by omega)) hP, mNm_fr (A := A) hN (fun e q1 q2 => f1 _ _ (by omega)) (fun e => f1 _ _ (by omega)) (fun e => f1 _ _ (by omega)), ⟨by rw [f1 _ _ (by omega)]; exact s3, by rw [f1 _ _ (by omega)]; exact s4, ?_⟩, B, T, ?_, s7, s8⟩
      · rw [f1 74 52 (by omega)]
        exact mCh_fr (N := qn A 8) hr1 (fun a j q1 q2 _ => f1 a j (by omega)) _ _ hS'.2.2.1.2.2
      · exact mDy_fr (A := A) (N := qn A 8) hr1 (fun e => f1 _ _ (by omega)) (fun e => f1 _ _ (by omega)) (f1 _ _ (by omega)) (f1 _ _ (by omega)) (fun a p q1 q2 _ => f1 _ _ (by omega)) (fun a j q1 q2 _ => f1 _ _ (by omega)) (fun c hc => (chK_all _ hO.1 c hc).2.2) s6
    have hkO := hO.2.1
    rw [he] at hkO
    rw [f1 74 52 (by omega), e52]
    refine sp_269 hO hS1 (by omega) hkO.1 (hend f r he) (mF1_fr hr1 (fun a q1 q2 => f1 a _ (by omega)) hF) (fun y t t1 t2 t3 t4 => ?_)
    have hP1 := hS1.1
    obtain ⟨B1, T1, d1, d2, d3⟩ := hS1.2.2.2
    refine sp_294f (mG_C hP1 hO.2.2.1) d1.1 d2 t1 t2 o1 (nm := []) (fun _ => ⟨n1, Nat.zero_le _⟩) (fun m2 f2 o2 _ => m_out o2 hx ?_)
    rw [t4]
    exact hq f r m2 hx he (fun a e q1 q2 q3 q4 => (f2 a e q1 q2 q3 q4).trans (f1 a e (by omega)))
end NG
