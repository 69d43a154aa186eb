/-! THE MODEL SHOWS THE SEARCH: state, frame, choice -/
def sumF (g : qF → Nat) : List qF → Nat
  | [] => 0
  | f :: r => g f + sumF g r
def barN : List qC → Nat
  | [] => 0
  | c :: r => (if c.1.isNone = true then 1 else 0) + barN r
/-- state: what the numbers are -/
def shS (E : qE) (A : qA) (w : Int) : Int := if w = 0 then qn A 0 else if w = 1 then qn A 2 else if w = 2 then qn A 3 else if w = 3 then (qp A).length else if w = 4 then sumF (fGo E A) (qp A) else if w = 5 then sumF (fVa E A) (qp A) else if w = 6 then (qh A).length else if w = 7 then barN (qh A) else if w = 8 then qn A 7 else if w = 9 then qn A 4 else if w = 10 then qn A 1 else if w = 11 then qn A 5 else if w = 12 then qn A 6 else -1
/-- number of a frame's clause -/
def fNo (A : qA) (f : qF) : Int := match f.2.2.2 with
  | some _ => -9
  | none => if f.1 = 0 then -9 else ((qi A).getD (f.1 - 2) 0 : Nat)
def frI (E : qE) (A : qA) (x w : Int) : Int := if x < 0 then -1 else match (qp A)[x.toNat]? with
  | none => -1
  | some f => if w = 0 then fGo E A f else if w = 1 then fVa E A f else if w = 2 then fNo A f else -1
def coI (A : qA) (x w : Int) : Int := if x < 0 then -1 else match (qh A)[x.toNat]? with
  | none => -1
  | some c => if w = 0 then (match c.2.1 with
      | [] => -9
      | c0 :: _ => (c0 : Nat)) else if w = 1 then c.2.1.length else if w = 2 then c.2.2.1.length else if w = 3 then (qn A 7 : Int) - c.2.2.2.1.2.1 else -1
section NE
variable {E : qE} {ss : List Nat} {m m' : hy_m} {A : qA} {Q : Int → hy_m → Prop} {f : qF} {r : List qF}
/-- the clause or the query of a frame -/
theorem fr_cl (hP : mPr E ss m) (hl : lOK E (qi A)) (hk : frK E (qi A) (qi A).length f) (hf : f.2.2.2 = none) : ∃ hd nv, clR m (sO ss (qi A) f.1) hd (gsO E (qi A) f.1) nv ∧ kOK hd (gsO E (qi A) f.1) nv ∧ sO ss (qi A) f.1 < 28 ∧ f.2.1 < (gsO E (qi A) f.1).length := by
  unfold frK at hk
  rw [hf] at hk
  obtain ⟨k1, k2, k3⟩ := hk
  rcases k1 with k1 | k1
  · have esl : sO ss (qi A) f.1 = 26 := by unfold sO; rw [if_pos k1]
    have egs : gsO E (qi A) f.1 = E.2.1 := by unfold gsO; rw [if_pos k1]
    rw [egs] at k3
    rw [esl, egs]
    exact ⟨none, E.2.2, hP.2.1, hP.2.2.1, by decide, k3⟩
  · have hlt : f.1 - 2 < (qi A).length := by omega
    obtain ⟨c, hc⟩ : ∃ c, (qi A)[f.1 - 2]? = some c := ⟨_, List.getElem?_eq_getElem hlt⟩
    obtain ⟨hcl, egs⟩ := gsO_i k1 hc hl
    obtain ⟨s0, z1, z2, z3, z4, z5, z6, z7⟩ := mPr_cl hP hcl
    have esl : sO ss (qi A) f.1 = s0 := by
      unfold sO
      rw [if_neg (by omega), List.getD_eq_getElem?_getD (l := qi A), hc]
      exact z1
    rw [esl, egs]
    rw [egs] at k3
    exact ⟨_, _, z4, z5, by omega, k3⟩
theorem fGo_le (hP : mPr E ss m) (hl : lOK E (qi A)) (hk : frK E (qi A) (qi A).length f) : fGo E A f ≤ 5 ∧ fVa E A f ≤ 8 := by
  unfold fGo fVa
  cases hf : f.2.2.2 with
  | some g => exact ⟨show 2 - f.2.1 ≤ 5 by omega, Nat.zero_le _⟩
  | none =>
    obtain ⟨hd, nv, -, h2, -⟩ := fr_cl hP hl hk hf
    have := h2.2.2.2.1
    exact ⟨show _ - _ ≤ 5 by omega, cntP_le _ 8⟩
/-- goalsLeft -/
theorem sp_279 {j : Nat} (hP : mPr E ss m) (hl : lOK E (qi A)) (hk : frK E (qi A) (qi A).length f) (hj : j < 1300) (h1 : mF1 E ss m (qi A) (qs A) f j) (hq : Q (fGo E A f : Int) m) : wq_279 (j : Int) m Q := by
  obtain ⟨a1, a2, a3⟩ := h1
  unfold fGo at hq
  unfold wq_279
  rw [a1]
  cases hf : f.2.2.2 with
  | some g =>
    rw [hf] at a3 hq
    have hq : Q ((2 - f.2.1 : Nat) : Int) m := hq
    unfold frK at hk
    rw [hf] at hk
    have hk : f.2.1 ≤ 1 := hk
    refine ⟨by omega, by omega, fun q => absurd a3.1 q, fun _ => ⟨by omega, by omega, show -2147483648 ≤ _ ∧ _ < 2147483648 by omega, ?_⟩⟩
    rw [show (2 : Int) - (f.2.1 : Nat) = ((2 - f.2.1 : Nat) : Int) by omega]
    exact hq
  | none =>
    rw [hf] at a3 hq
    have hq : Q (((gsO E (qi A) f.1).length - f.2.1 : Nat) : Int) m := hq
    obtain ⟨hd, nv, h2, h3, h4, h5⟩ := fr_cl (m := m) hP hl hk hf
    have g82 := (clR_g h2 (by omega)).1
    have h6 := h3.2.2.2.1
    rw [a3.1, g82]
    refine ⟨by omega, by omega, fun _ => ⟨by omega, by omega, by omega, by omega, by omega, by omega, show -2147483648 ≤ _ ∧ _ < 2147483648 by omega, ?_⟩, fun q => by omega⟩
    rw [show ((gsO E (qi A) f.1).length : Int) - (f.2.1 : Nat) = (((gsO E (qi A) f.1).length - f.2.1 : Nat) : Int) by omega]
    exact hq
theorem sp_278f {j : Nat} (hP : mPr E ss m) (hl : lOK E (qi A)) (hk : frK E (qi A) (qi A).length f) (hj : j < 1300) (h1 : mF1 E ss m (qi A) (qs A) f j) (hq : ∀ m', rF93 m m' → Q (fVa E A f : Int) m') : wq_278 (j : Int) m Q := by
  obtain ⟨a1, a2, a3⟩ := h1
  unfold fVa at hq
  cases hf : f.2.2.2 with
  | some g =>
    rw [hf] at a3 hq
    unfold wq_278
    exact ⟨by omega, by omega, fun q => absurd a3.1 q, fun _ => hq m (fun _ _ _ => rfl)⟩
  | none =>
    rw [hf] at a3 hq
    obtain ⟨hd, nv, h2, h3, h4, h5⟩ := fr_cl (m := m) hP hl hk hf
    exact sp_278 hj h4 a3.1 a1 h2 h3 (Nat.le_of_lt h5) hq
theorem rF93.rw {m m' : hy_m} (h : rF93 m m') : mRw m m' := fun a e q1 q2 => h a e (by omega)
theorem rF93.tr {m m' m'' : hy_m} (h : rF93 m m') (h' : rF93 m' m'') : rF93 m m'' := fun a e q => (h' a e q).trans (h a e q)
/-- sums over frames -/
theorem sp_280 {x : Int} (hP : mPr E ss m) (hl : lOK E (qi A)) {n N : Nat} (hN : N ≤ 700) (hok : okF E (qi A) (qi A).length (qp A) n) (hch : mCh E ss m (qi A) (qs A) N (qp A) (m 74 52)) (hq4 : x = 4 → Q (sumF (fGo E A) (qp A) : Int) m) (hq5 : x = 5 → ∀ m', rF93 m m' → Q (sumF (fVa E A) (qp A) : Int) m') (hx : x = 4 ∨ x = 5) : wq_280 x m Q := by
  unfold wq_280 wq_280_7
  intro P hP2
  rcases hx with rfl | rfl
  · have hq := hq4 rfl
    have key : ∀ (L : List qF) (k N n : Nat) (y : Int), mCh E ss m (qi A) (qs A) N L y → okF E (qi A) (qi A).length L n → N ≤ 700 → k + 5 * N ≤ 5000 → k + sumF (fGo E A) L = sumF (fGo E A) (qp A) → P (k : Int) y m := by
      intro L
      induction L with
      | nil =>
        intro k N n y h1 h2 h3 h4 h5
        have h1 : y = -9 := h1
        subst h1
        refine hP2 _ _ _ ⟨fun _ => ?_, fun q => absurd rfl q⟩
        have h5 : k + 0 = sumF (fGo E A) (qp A) := h5
        rw [show k = sumF (fGo E A) (qp A) by omega]
        exact hq
      | cons f r ih =>
        intro k N n y h1 h2 h3 h4 h5
        obtain ⟨j, rfl, hj, hF, hr⟩ := h1
        have hle := fGo_le (m := m) hP hl h2.1
        refine hP2 _ _ _ ⟨fun q => by omega, fun _ => ⟨fun q => absurd rfl q, fun _ => sp_279 hP hl h2.1 (by omega) hF ⟨by omega, by omega, show -2147483648 ≤ _ ∧ _ < 2147483648 by omega, ?_⟩⟩⟩
        have h5 : k + (fGo E A f + sumF (fGo E A) r) = sumF (fGo E A) (qp A) := h5
        have := ih (k + fGo E A f) j f.2.2.1 _ hr h2.2.2 (by omega) (by omega) (by omega)
        rw [Int.natCast_add] at this
        exact this
    exact key (qp A) 0 N n _ hch hok hN (by omega) (Nat.zero_add _)
  · have hq := hq5 rfl
    have key : ∀ (L : List qF) (k N n : Nat) (y : Int) (m1 : hy_m), rF93 m m1 → mCh E ss m1 (qi A) (qs A) N L y → okF E (qi A) (qi A).length L n → N ≤ 700 → k + 8 * N ≤ 8000 → k + sumF (fVa E A) L = sumF (fVa E A) (qp A) → P (k : Int) y m1 := by
      intro L
      induction L with
      | nil =>
        intro k N n y m1 hf h1 h2 h3 h4 h5
        have h1 : y = -9 := h1
        subst h1
        refine hP2 _ _ _ ⟨fun _ => ?_, fun q => absurd rfl q⟩
        have h5 : k + 0 = sumF (fVa E A) (qp A) := h5
        rw [show k = sumF (fVa E A) (qp A) by omega]
        exact hq m1 hf
      | cons f r ih =>
        intro k N n y m1 hf h1 h2 h3 h4 h5
        obtain ⟨j, rfl, hj, hF, hr⟩ := h1
        have hP1 : mPr E ss m1 := mPr_rw hf.rw (fun e => hf _ _ (by decide)) hP
        have hle := fGo_le (m := m) hP hl h2.1
        refine hP2 _ _ _ ⟨fun q => by omega, fun _ => ⟨fun _ => sp_278f hP1 hl h2.1 (by omega) hF (fun m2 g => ⟨by omega, by omega, show -2147483648 ≤ _ ∧ _ < 2147483648 by omega, ?_⟩), fun q => absurd q (by decide)⟩⟩
        have h5 : k + (fVa E A f + sumF (fVa E A) r) = sumF (fVa E A) (qp A) := h5
        rw [g 102 _ (by decide)]
        have := ih (k + fVa E A f) j f.2.2.1 _ m2 (hf.tr g) (mCh_fr g.rw (fun a i q1 q2 _ => g a i (by omega)) _ _ hr) h2.2.2 (by omega) (by omega) (by omega)
        rw [Int.natCast_add] at this
        exact this
    exact key (qp A) 0 N n _ m (fun _ _ _ => rfl) hch hok hN (by omega) (Nat.zero_add _)
theorem mCc_dr {T : List Nat} {B : bM} : ∀ (C : List qC) (n : Nat), mCc E ss m (qi A) T B C → mCc E ss m (qi A) T B (C.drop n)
  | [], n, h => by rw [List.drop_nil]; exact h
  | c :: r, 0, h => h
  | c :: r, n + 1, h => mCc_dr r n h.2.2.2.2.2.2
theorem barN_le : ∀ C : List qC, barN C ≤ C.length
  | [] => Nat.le_refl _
  | c :: r => by
    have := barN_le r
    show (if c.1.isNone = true then 1 else 0) + barN r ≤ r.length + 1
    split <;> omega
/-- a choice's row of candidates -/
theorem cho_106 {T : List Nat} {B : bM} {c : qC} {r : List qC} (h : mCc E ss m (qi A) T B (c :: r)) : m 106 (r.length : Int) = -9 ↔ c.1.isNone = true := by
  have h3 := h.2.2.1
  cases hc : c.1 with
  | none =>
    rw [hc] at h3
    exact ⟨fun _ => rfl, fun _ => h3⟩
  | some g =>
    rw [hc] at h3
    obtain ⟨k, e, -⟩ := h3.1
    exact ⟨fun q => by omega, fun q => by cases q⟩
/-- barriers -/
theorem sp_281 {T : List Nat} {B : bM} (h59 : m 74 59 = (qh A).length) (h300 : (qh A).length ≤ 300) (hC : mCc E ss m (qi A) T B (qh A)) (hq : Q (barN (qh A) : Int) m) : wq_281 m Q := by
  unfold wq_281 wq_281_4
  refine wL2_rule (Nat.lt_wfRel.wf) (fun x1 x2 m' => m' = m ∧ ∃ d : Nat, x2 = d ∧ d ≤ (qh A).length ∧ x1 = (barN ((qh A).drop ((qh A).length - d)) : Nat)) (fun _ x2 _ => 1000 - x2.toNat) ?_ ⟨rfl, 0, rfl, Nat.zero_le _, by rw [Nat.sub_zero, List.drop_length]; rfl⟩
  rintro P x1 x2 m1 ⟨rfl, d, rfl, hd, rfl⟩ hPP
  unfold wf_281_4
  rw [h59]
  refine ⟨fun q => ?_, fun q => ?_⟩
  · have : d = (qh A).length := by omega
    rw [this, Nat.sub_self, List.drop_zero]
    exact hq
  · have hlt : (qh A).length - (d + 1) < (qh A).length := by omega
    have hdr : (qh A).drop ((qh A).length - (d + 1)) = (qh A)[(qh A).length - (d + 1)] :: (qh A).drop ((qh A).length - d) := by
      rw [List.drop_eq_getElem_cons hlt, show (qh A).length - (d + 1) + 1 = (qh A).length - d by omega]
    have hC2 := mCc_dr (qh A) ((qh A).length - (d + 1)) hC
    rw [hdr] at hC2
    have hb := cho_106 hC2
    have el : ((qh A).drop ((qh A).length - d)).length = d := by rw [List.length_drop]; omega
    rw [el] at hb
    have hbl := barN_le ((qh A).drop ((qh A).length - d))
    have hnx : barN ((qh A).drop ((qh A).length - (d + 1))) = (if (qh A)[(qh A).length - (d + 1)].1.isNone = true then 1 else 0) + barN ((qh A).drop ((qh A).length - d)) := by rw [hdr]; rfl
    refine ⟨by omega, by omega, fun h => ⟨show -2147483648 ≤ _ ∧ _ < 2147483648 by omega, show -2147483648 ≤ _ ∧ _ < 2147483648 by omega, hPP _ _ _ ⟨rfl, d + 1, by omega, by omega, ?_⟩ (show 1000 - ((d : Int) + 1).toNat < 1000 - ((d : Nat) : Int).toNat by omega)⟩, fun h => ⟨show -2147483648 ≤ _ ∧ _ < 2147483648 by omega, show -2147483648 ≤ _ ∧ _ < 2147483648 by omega, hPP _ _ _ ⟨rfl, d + 1, by omega, by omega, ?_⟩ (show 1000 - ((d : Int) + 1).toNat < 1000 - ((d : Nat) : Int).toNat by omega)⟩⟩
    · rw [hnx, if_neg (fun z => h (hb.mpr z))]
      omega
    · rw [hnx, if_pos (hb.mp h)]
      omega
/-- state -/
theorem sp_282 {x : Int} (hO : qOK E A) (hA : mAl E ss m A) (hq : ∀ m', rF93 m m' → Q (shS E A x) m') : wq_282 x m Q := by
  obtain ⟨hS, h32, h33⟩ := hA
  obtain ⟨hln, hlc, h4, h8⟩ := hO.len
  obtain ⟨hP, ⟨n1, n2, n3, n4, n5, n6⟩, ⟨s3, s4, s5⟩, B, T, s6, s7, s8⟩ := hS
  have hq0 := hq m (fun _ _ _ => rfl)
  have e44 : m 74 44 = (qn A 7 : Nat) := by rw [s6.2.1.1, s8]
  unfold wq_282
  rw [h32, n1, n2, s6.2.2.2.2.2, e44, n3, h33, n4, n5]
  unfold shS at hq0 hq
  refine ⟨⟨fun e => ?_, fun e => ?_, fun e => ?_, fun e => ?_, fun e => ?_, fun e => ?_, fun e => ?_, fun e => ?_, fun e => ?_, fun e => ?_, fun e => ?_, fun e => ?_, fun e => ?_, trivial⟩, fun e => ?_⟩
  · rw [if_pos (by omega)] at hq0; exact hq0
  · rw [if_neg (by omega), if_pos (by omega)] at hq0; exact hq0
  · rw [if_neg (by omega), if_neg (by omega), if_pos (by omega)] at hq0; exact hq0
  · rw [if_neg (by omega), if_neg (by omega), if_neg (by omega), if_pos (by omega)] at hq0
    exact sp_268 s5 (by omega) hq0
  · rw [if_neg (by omega), if_neg (by omega), if_neg (by omega), if_neg (by omega), if_pos (by omega)] at hq0
    exact sp_280 (A := A) hP hO.2.2.1 (N := qn A 8) (by omega) hO.2.1 s5 (fun _ => hq0) (fun q => by omega) (Or.inl (by omega))
  · refine sp_280 (A := A) hP hO.2.2.1 (N := qn A 8) (by omega) hO.2.1 s5 (fun q => by omega) (fun _ m' f' => ?_) (Or.inr (by omega))
    have := hq m' f'
    rw [if_neg (by omega), if_neg (by omega), if_neg (by omega), if_neg (by omega), if_neg (by omega), if_pos (by omega)] at this
    exact this
  · iterate 6 rw [if_neg (by omega)] at hq0
    rw [if_pos (by omega)] at hq0; exact hq0
  · iterate 7 rw [if_neg (by omega)] at hq0
    rw [if_pos (by omega)] at hq0
    exact sp_281 s6.2.2.2.2.2 hlc s6.2.2.2.2.1 hq0
  · iterate 8 rw [if_neg (by omega)] at hq0
    rw [if_pos (by omega)] at hq0; exact hq0
  · iterate 9 rw [if_neg (by omega)] at hq0
    rw [if_pos (by omega)] at hq0; exact hq0
  · iterate 10 rw [if_neg (by omega)] at hq0
    rw [if_pos (by omega)] at hq0; exact hq0
  · iterate 11 rw [if_neg (by omega)] at hq0
    rw [if_pos (by omega)] at hq0; exact hq0
  · iterate 12 rw [if_neg (by omega)] at hq0
    rw [if_pos (by omega)] at hq0; exact hq0
  · iterate 13 rw [if_neg (by omega)] at hq0
    exact hq0
/-- clauseOfSlot -/
theorem sp_299 (hP : mPr E ss m) {x : Int} {r : Int} (hr : (∃ c : Nat, c < E.1.length ∧ x = (ss.getD c 0 : Nat) ∧ r = c) ∨ ((∀ c : Nat, c < E.1.length → x ≠ (ss.getD c 0 : Nat)) ∧ r = -9)) (hq : Q r m) : wq_299 x m Q := by
  have h20 := hP.1.2.1
  have hlen := hP.1.2.2.1
  have hnd := hP.1.2.2.2.1
  have e85 : m 85 0 = (E.1.length : Nat) := hP.1.1
  unfold wq_299 wq_299_2
  refine wL1_rule (Nat.lt_wfRel.wf) (fun x2 m' => m' = m ∧ ∃ d : Nat, x2 = d ∧ d ≤ E.1.length ∧ ∀ c, c < d → x ≠ (ss.getD c 0 : Nat)) (fun x2 _ => 100 - x2.toNat) ?_ ⟨rfl, 0, rfl, Nat.zero_le _, fun c hc => absurd hc (Nat.not_lt_zero _)⟩
  rintro P x2 m1 ⟨rfl, d, rfl, hd, hno⟩ hPP
  unfold wf_299_2
  rw [e85]
  refine ⟨by decide, by decide, fun q => ?_, fun q => ?_⟩
  · have hd : d = E.1.length := by omega
    rcases hr with ⟨c, c1, c2, c3⟩ | ⟨-, c3⟩
    · exact absurd c2 (hno c (by omega))
    · rw [← c3]; exact hq
  · have hlt : d < E.1.length := by omega
    obtain ⟨s0, z1, z2, z3, -⟩ := mPr_cl hP hlt
    refine sp_206 (by omega) z3 ⟨fun hne => ⟨show -2147483648 ≤ _ ∧ _ < 2147483648 by omega, hPP _ _ ⟨rfl, d + 1, by omega, by omega, fun c hc => ?_⟩ (show 100 - ((d : Int) + 1).toNat < 100 - ((d : Nat) : Int).toNat by omega)⟩, fun heq => ?_⟩
    · by_cases e : c = d
      · rw [e, z1]
        exact fun z => hne z.symm
      · exact hno c (by omega)
    · rcases hr with ⟨c, c1, c2, c3⟩ | ⟨c2, c3⟩
      · have : c = d := by
          have g1 : ss[c]? = ss[d]? := by
            rw [List.getD_eq_getElem?_getD, List.getElem?_eq_getElem (by omega : c < ss.length)] at c2
            rw [List.getD_eq_getElem?_getD, List.getElem?_eq_getElem (by omega : d < ss.length)] at z1
            rw [List.getElem?_eq_getElem (by omega : c < ss.length), List.getElem?_eq_getElem (by omega : d < ss.length)]
            have z1 : ss[d] = s0 := z1
            have c2 : x = ((ss[c]'(by omega) : Nat) : Int) := c2
            congr 1
            omega
          exact (List.getElem?_inj (by omega) hnd).mp g1
        rw [← this, ← c3]
        exact hq
      · exact absurd heq.symm (by rw [← z1]; exact c2 d hlt)
/-- a frame of the row -/
theorem frm_at {N : Nat} {l : List Nat} {s : Nat → pE} : ∀ (L : List qF) (N : Nat) (x : Int) (k : Nat), mCh E ss m l s N L x → ∀ f, L[k]? = some f → ∃ r, L.drop k = f :: r
  | L, N, x, k, _, f, h => by
    obtain ⟨h1, h2⟩ := List.getElem?_eq_some_iff.mp h
    exact ⟨L.drop (k + 1), by rw [List.drop_eq_getElem_cons h1, h2]⟩
theorem okF_at {l : List Nat} {N : Nat} : ∀ (L : List qF) (n k : Nat), okF E l N L n → ∀ f, L[k]? = some f → frK E l N f
  | [], _, k, _, f, h => by cases k <;> cases h
  | g :: r, n, 0, ho, f, h => by
    have h : some g = some f := h
    injection h with h
    rw [← h]
    exact ho.1
  | g :: r, n, k + 1, ho, f, h => okF_at r _ k ho.2.2 f h
/-- frame -/
theorem sp_300 {x w : Int} (hO : qOK E A) (hS : mSe E ss m A) (hq : ∀ m', rF93 m m' → Q (frI E A x w) m') : wq_300 x w m Q := by
  obtain ⟨hln, hlc, h4, h8⟩ := hO.len
  obtain ⟨hP, hN, ⟨s3, s4, s5⟩, B, T, s6, s7, s8⟩ := hS
  have hl : lOK E (qi A) := hO.2.2.1
  have hq0 := hq m (fun _ _ _ => rfl)
  unfold wq_300
  refine ⟨fun h => ?_, fun h => sp_268 s5 (by omega) ⟨fun h2 => ?_, fun h2 => ?_⟩⟩
  · unfold frI at hq0
    rw [if_pos h] at hq0
    exact hq0
  · obtain ⟨k, rfl⟩ : ∃ k : Nat, x = k := ⟨x.toNat, by omega⟩
    have hk : k < (qp A).length := by omega
    have hg := List.getElem?_eq_getElem hk
    unfold frI at hq
    rw [if_neg (by omega), Int.toNat_natCast, hg] at hq
    unfold wq_300_26
    intro P hPP
    have hlen := mCh_len _ _ s5
    have key : ∀ (d e N : Nat) (y : Int), d + e = k → mCh E ss m (qi A) (qs A) N ((qp A).drop d) y → N ≤ 700 → P y (d : Int) m := by
      intro d e
      induction e generalizing d with
      | zero =>
        intro N y hd hc hN
        have hd : d = k := by omega
        subst hd
        rw [List.drop_eq_getElem_cons hk] at hc
        obtain ⟨j, rfl, hj, hF, hr⟩ := hc
        have hfk := okF_at (qp A) _ d hO.2.1 _ hg
        generalize (qp A)[d] = f at hF hfk hq hr
        refine hPP _ _ _ ⟨fun _ => ⟨⟨fun e => sp_279 hP hl hfk (by omega) hF ?_, fun e => sp_278f hP hl hfk (by omega) hF (fun m' g => ?_), fun e => ⟨by omega, by omega, ?_⟩, trivial⟩, fun e => ?_⟩, fun q => by omega⟩
        · have := hq m (fun _ _ _ => rfl)
          dsimp only at this
          rw [if_pos (by omega)] at this
          exact this
        · have := hq m' g
          dsimp only at this
          rw [if_neg (by omega), if_pos (by omega)] at this
          exact this
        · have := hq m (fun _ _ _ => rfl)
          dsimp only at this
          rw [if_neg (by omega), if_neg (by omega), if_pos (by omega)] at this
          refine sp_299 hP ?_ this
          obtain ⟨a1, a2, a3⟩ := hF
          unfold fNo
          cases hf : f.2.2.2 with
          | some g =>
            rw [hf] at a3
            rw [a3.1]
            exact Or.inr ⟨fun c hc => by omega, rfl⟩
          | none =>
            rw [hf] at a3
            unfold frK at hfk
            rw [hf] at hfk
            obtain ⟨k1, k2, k3⟩ := hfk
            rw [a3.1]
            dsimp only
            rcases k1 with k1 | k1
            · rw [if_pos k1]
              refine Or.inr ⟨fun c hc => ?_, rfl⟩
              obtain ⟨s0, z1, z2, -⟩ := mPr_cl hP hc
              rw [z1]
              unfold sO
              rw [if_pos k1]
              omega
            · rw [if_neg (by omega)]
              have hlt : f.1 - 2 < (qi A).length := by omega
              have hin : (qi A).getD (f.1 - 2) 0 < E.1.length := by
                rw [List.getD_eq_getElem?_getD, List.getElem?_eq_getElem hlt]
                exact hl _ (List.getElem_mem hlt)
              refine Or.inl ⟨_, hin, ?_, rfl⟩
              unfold sO
              rw [if_neg (by omega)]
        · have := hq m (fun _ _ _ => rfl)
          dsimp only at this
          rw [if_neg (by omega), if_neg (by omega), if_neg (by omega)] at this
          exact this
      | succ e ih =>
        intro N y hd hc hN
        have hdl : d < (qp A).length := by omega
        rw [List.drop_eq_getElem_cons hdl] at hc
        obtain ⟨j, rfl, hj, hF, hr⟩ := hc
        exact hPP _ _ _ ⟨fun q => by omega, fun _ => ⟨by omega, by omega, show -2147483648 ≤ _ ∧ _ < 2147483648 by omega, ih (d + 1) j _ (by omega) hr (by omega)⟩⟩
    exact key 0 k (qn A 8) _ (Nat.zero_add _) (by rw [List.drop_zero]; exact s5) (by omega)
  · obtain ⟨k, rfl⟩ : ∃ k : Nat, x = k := ⟨x.toNat, by omega⟩
    unfold frI at hq0
    rw [if_neg (by omega), Int.toNat_natCast, List.getElem?_eq_none (by omega)] at hq0
    exact hq0
/-- bitsOf -/
theorem sp_301 {x : Int} {p : Nat → Bool} (h : bS x p) (hq : Q (cntB p 20 : Nat) m) : wq_301 x m Q := by
  have hle : ∀ n, cntB p n ≤ n := fun n => by
    induction n with
    | zero => exact Nat.le_refl _
    | succ n ih =>
      show cntB p n + (if p n = true then 1 else 0) ≤ n + 1
      split <;> omega
  unfold wq_301 wq_301_4
  refine wL2_rule (Nat.lt_wfRel.wf) (fun x1 x2 m' => m' = m ∧ ∃ d : Nat, x2 = d ∧ d ≤ 20 ∧ x1 = (cntB p d : Nat)) (fun _ x2 _ => 40 - x2.toNat) ?_ ⟨rfl, 0, rfl, Nat.zero_le _, rfl⟩
  rintro P x1 x2 m1 ⟨rfl, d, rfl, hd, rfl⟩ hP
  unfold wf_301_4
  refine ⟨fun q => ?_, fun q => ?_⟩
  · have : d = 20 := by omega
    rw [this]
    exact hq
  · have hl := hle d
    rw [bS_sh h (by omega)]
    have hi : (0 : Int) ≤ (if p d = true then 1 else 0) ∧ (if p d = true then 1 else 0 : Int) ≤ 1 := by split <;> omega
    refine ⟨show -2147483648 ≤ _ ∧ _ < 2147483648 by omega, show -2147483648 ≤ _ ∧ _ < 2147483648 by omega, hP _ _ _ ⟨rfl, d + 1, by omega, by omega, ?_⟩ (show 40 - ((d : Int) + 1).toNat < 40 - ((d : Nat) : Int).toNat by omega)⟩
    show _ = ((cntB p d + (if p d = true then 1 else 0) : Nat) : Int)
    split <;> omega
theorem cnt_len : ∀ (n : Nat) (L : List Nat), L.Pairwise (· < ·) → (∀ v ∈ L, v < n) → cntB (fun v => decide (v ∈ L)) n = L.length := by
  intro n
  induction n with
  | zero =>
    intro L hp hl
    cases L with
    | nil => rfl
    | cons a L => exact absurd (hl a (List.mem_cons_self ..)) (Nat.not_lt_zero _)
  | succ n ih =>
    intro L hp hl
    show cntB (fun v => decide (v ∈ L)) n + (if decide (n ∈ L) = true then 1 else 0) = L.length
    have hcon : ∀ (L' : List Nat), (∀ v, v < n → (v ∈ L' ↔ v ∈ L)) → cntB (fun v => decide (v ∈ L')) n = cntB (fun v => decide (v ∈ L)) n := by
      exact fun L' h => cntB_c n (fun v hv => decide_eq_decide.mpr (h v hv))
    by_cases hn : n ∈ L
    · have h1 := ih (L.erase n) (List.Pairwise.sublist (List.erase_sublist ..) hp) (fun v hv => by
        have h2 := hl v (List.mem_of_mem_erase hv)
        have h3 : v ≠ n := fun q => by
          rw [q] at hv
          have hnd : L.Nodup := List.Pairwise.imp (fun h => Nat.ne_of_lt h) hp
          exact (List.Nodup.not_mem_erase hnd) hv
        omega)
      rw [hcon (L.erase n) (fun v hv => List.mem_erase_of_ne (by omega)), List.length_erase_of_mem hn] at h1
      have := List.length_pos_of_mem hn
      rw [h1, decide_eq_true hn, if_pos rfl]
      omega
    · rw [ih L hp (fun v hv => by
        have := hl v hv
        have : v ≠ n := fun q => hn (q ▸ hv)
        omega), decide_eq_false hn, if_neg (by decide), Nat.add_zero]
/-- choice -/
theorem sp_302 {x w : Int} (hO : qOK E A) (hS : mSe E ss m A) (hq : Q (coI A x w) m) : wq_302 x w m Q := by
  obtain ⟨hln, hlc, h4, h8⟩ := hO.len
  obtain ⟨hP, hN, ⟨s3, s4, s5⟩, B, T, s6, s7, s8⟩ := hS
  have h20 := hP.1.2.1
  have e44 : m 74 44 = (qn A 7 : Nat) := by rw [s6.2.1.1, s8]
  unfold wq_302
  unfold coI at hq
  rw [s6.2.2.2.2.2, e44]
  refine ⟨fun h => ?_, fun h => ⟨fun h2 => ?_, fun h2 => ?_⟩⟩
  · rw [if_pos h] at hq
    exact hq
  · obtain ⟨k, rfl⟩ : ∃ k : Nat, x = k := ⟨x.toNat, by omega⟩
    have hk : k < (qh A).length := by omega
    rw [if_neg (by omega), Int.toNat_natCast, List.getElem?_eq_getElem hk] at hq
    have hC := mCc_dr (qh A) k s6.2.2.2.2.1
    rw [List.drop_eq_getElem_cons hk] at hC
    have hch : ∃ I tr ce ni, chK E (qi A) I ((qh A).drop k) ni tr ce := by
      have : ∀ (C : List qC) (k I ni tr ce : Nat), chK E (qi A) I C ni tr ce → ∃ I tr ce ni, chK E (qi A) I (C.drop k) ni tr ce := by
        intro C
        induction C with
        | nil => exact fun k I ni tr ce h => ⟨I, tr, ce, ni, by rw [List.drop_nil]; exact h⟩
        | cons c r ih =>
          intro k I ni tr ce h
          cases k with
          | zero => exact ⟨I, tr, ce, ni, h⟩
          | succ k => exact ih k _ _ _ _ h.2.2.2.2.2.2
      exact this _ k _ _ _ _ hO.1
    obtain ⟨I, tr, ce, ni, hch⟩ := hch
    rw [List.drop_eq_getElem_cons hk] at hch
    have hce := (chK_all _ hO.1 _ (List.getElem_mem hk)).2.2
    have hct := (chK_all _ hO.1 _ (List.getElem_mem hk)).2.1
    have hT2 : qn A 7 ≤ 2500 := by
      have hto := mPr_tot hP hO.2.2.1 hln
      have h5 : ∀ w ∈ T, w < 2500 := fun w hw => by
        by_cases q : w < tot E (qi A)
        · omega
        · exact absurd ((s6.1 w).2 q) (s6.2.2.2.1 w hw)
      have := fc_T s6.2.2.1 s6.2.2.2.1 h5
      omega
    have el : ((qh A).drop (k + 1)).length = (qh A).length - 1 - k := by rw [List.length_drop]; omega
    have ei : ((qh A).length : Int) - 1 - (k : Int) = (((qh A).drop (k + 1)).length : Nat) := by rw [el]; omega
    rw [ei]
    have hb := cho_106 hC
    have hr3 : ((qh A).drop (k + 1)).length < 300 := by rw [el]; omega
    generalize (qh A)[k] = c at hC hq hch hb hce hct
    generalize (qh A).drop (k + 1) = r at hC hch hb hr3
    obtain ⟨⟨c1, c2, c3⟩, c4, c5, c6, -⟩ := hC
    dsimp only at hq
    have w2 : w = 0 + 2 → wq_268 (m 107 (r.length : Int)) m (fun r3 m3 => Q r3 m3) := fun e => by
      rw [if_neg (by omega), if_neg (by omega), if_pos (by omega)] at hq
      exact sp_268 c6 (by omega) hq
    have w3 : w = 0 + 3 → hy_r 0 ((qn A 7 : Int) - m 108 (r.length : Int)) ∧ Q ((qn A 7 : Int) - m 108 (r.length : Int)) m := fun e => by
      rw [if_neg (by omega), if_neg (by omega), if_neg (by omega), if_pos (by omega)] at hq
      rw [c1]
      exact ⟨show -2147483648 ≤ _ ∧ _ < 2147483648 by omega, hq⟩
    have w4 : w < 0 ∨ 3 < w → Q (-1) m := fun e => by
      rw [if_neg (by omega), if_neg (by omega), if_neg (by omega), if_neg (by omega)] at hq
      exact hq
    refine ⟨by omega, by omega, fun hne => ?_, fun heq => ?_⟩
    · cases hg : c.1 with
      | none => exact absurd (hb.mpr (by rw [hg]; rfl)) hne
      | some g =>
        rw [hg] at c5
        obtain ⟨b1, -, -⟩ := c5
        have d1 := hch.2.2.2.1
        have d2 := hch.2.2.2.2.1
        have d3 := hch.2.2.2.2.2.1
        cases hL : c.2.1 with
        | nil =>
          have := d1.mpr hL
          rw [hg] at this
          cases this
        | cons c0 L =>
          rw [hL] at b1 d2 d3 hq
          have h20' : ∀ v ∈ c0 :: L, v < 20 := fun v hv => Nat.lt_of_lt_of_le (d3 v hv) h20
          refine ⟨⟨fun e => ⟨fun _ => ⟨by omega, by omega, (bS_hd b1 d2 h20').1 _ _ ?_⟩, fun q => absurd rfl q⟩, fun e => ⟨fun _ => ⟨by omega, by omega, sp_301 b1 ?_⟩, fun q => absurd rfl q⟩, fun e => ⟨by omega, by omega, w2 e⟩, fun e => ⟨by omega, by omega, w3 e⟩, trivial⟩, w4⟩
          · rw [if_pos (by omega)] at hq
            exact hq
          · rw [if_neg (by omega), if_pos (by omega)] at hq
            rw [cnt_len 20 _ d2 h20']
            exact hq
    · have hg := hb.mp heq
      have hg : c.1 = none := by
        cases hc : c.1 with
        | none => rfl
        | some g => rw [hc] at hg; cases hg
      have hL := hch.2.2.2.1.mp hg
      rw [hL] at hq
      refine ⟨⟨fun e => ⟨fun q => absurd q (by decide), fun _ => ?_⟩, fun e => ⟨fun q => absurd q (by decide), fun _ => ?_⟩, fun e => ⟨by omega, by omega, w2 e⟩, fun e => ⟨by omega, by omega, w3 e⟩, trivial⟩, w4⟩
      · rw [if_pos (by omega)] at hq
        exact hq
      · rw [if_neg (by omega), if_pos (by omega)] at hq
        exact hq
  · obtain ⟨k, rfl⟩ : ∃ k : Nat, x = k := ⟨x.toNat, by omega⟩
    rw [if_neg (by omega), Int.toNat_natCast, List.getElem?_eq_none (by omega)] at hq
    exact hq
end NE
