/-! THE CLASS'S SEARCH: unification of two terms of a state -/
def gN (c : Nat) : Nat × Nat := if c = 20 then (0, 0) else if c = 80 then (11, 25120) else (22, 119948)
def zN (Z : cZ) : Nat := (zF Z).length + (zC Z).length + (gN (zc Z)).1
def zS (Z : cZ) : Nat := 5 * (zF Z).length + 6 * (zC Z).length + (gN (zc Z)).2
/-- cells that the search leaves alone -/
def kFs (F : Nat → Prop) (m m' : hy_m) : Prop := ∀ (a : Nat) (e : Int), a < 36 ∨ (69 ≤ a ∧ a ≤ 73) ∨ F a → m' a e = m a e
theorem kFs.tr {F : Nat → Prop} {m m' m'' : hy_m} (h : kFs F m m') (h' : kFs F m' m'') : kFs F m m'' := fun a e q => (h' a e q).trans (h a e q)
/-- from one state to another -/
def zSp (F : Nat → Prop) (T : hy_T) (m : hy_m) (T' : hy_T) (m' : hy_m) : Prop := (∀ b x, T.1 b = some x → T'.1 b = some x) ∧ kFs F m m'
theorem zSp.tr {F : Nat → Prop} {T T' T'' : hy_T} {m m' m'' : hy_m} (h : zSp F T m T' m') (h' : zSp F T' m' T'' m'') : zSp F T m T'' m'' := ⟨fun b x q => h'.1 _ _ (h.1 _ _ q), h.2.tr h'.2⟩
/-- the room -/
def zOk (n0 u0 : Nat) (Z : cZ) (T : hy_T) (n u : Nat) : Prop := (zc Z = 20 ∨ zc Z = 80 ∨ zc Z = 302) ∧ sWf T n ∧ 74 ≤ n ∧ n = n0 + zN Z ∧ u = u0 + zS Z ∧ T.1 47 = some (10, 11)
/-- status, error, counters: room for J unifications and evaluations more -/
def cCt (m : hy_m) (A : qA) (K J : Nat) : Prop := (m 36 10 = qn A 0 ∧ m 36 11 = qn A 1) ∧ m 47 10 + 2 * (J : Int) ≤ ((K + 2 * (qn A 4 + qn A 2) : Nat) : Int) ∧ m 53 7 + 2 * (J : Int) ≤ ((K + 2 * qn A 2 : Nat) : Int)
section CS
variable {E : qE} {l l' TI TI' TL : List Nat} {F : Nat → Prop} {T T' : hy_T} {m m' : hy_m} {Z Z' : cZ} {N N' n u k : Nat} {A : qA} {B B' : bM} {s s' : Nat → pE} {Q : Int → hy_m → Prop}
theorem cSb.se (h : cSb E F Z N T m A B TI) : cSe E F Z N T m A := ⟨h.1, h.2.1, h.2.2.1, B, TI, h.2.2.2⟩
theorem cSe.sb (h : cSe E F Z N T m A) : ∃ B TI, cSb E F Z N T m A B TI := by
  obtain ⟨h1, h2, h3, B, TI, h4⟩ := h
  exact ⟨B, TI, h1, h2, h3, h4⟩
theorem cSe.fl (h : cSe E F Z N T m A) : cFl E F Z N T m A := by
  obtain ⟨h1, h2, h4, B, TI, h3, -⟩ := h
  exact ⟨h1, h2, ⟨B, TI, h3⟩, h4.2.2.1⟩
/-- unify -/
theorem sp_uc {x y f : Int} {ta tb : pE} {I tr ce : Nat} {O : Nat → Prop} (hk : chK E (qi A) I (qh A) (qi A).length tr ce) (hS : cSb E F Z N T m A B TI) (hm1 : m 47 10 < 2147483000) (h1 : cTm (zX Z (qi A).length N) m x ta) (h2 : cTm (zX Z (qi A).length N) m y tb) (v1 : ∀ w, vIn w ta → w < tot E (qi A)) (v2 : ∀ w, vIn w tb → w < tot E (qi A)) (o1 : ∀ w t w', O w → B w = some t → vIn w' t → O w') (o2 : ∀ w, ¬ O w → B w = none) (o3 : ∀ w z, O w → z < w → O z) (o4 : ∀ i n j n' : Nat, xL (zX Z (qi A).length N) i → n < xV (zX Z (qi A).length N) i → xL (zX Z (qi A).length N) j → n' < xV (zX Z (qi A).length N) j → f ≤ 128 * (i : Int) + (n : Int) → 128 * (j : Int) < f → ¬ O (xP (zX Z (qi A).length N) i + n) ∧ O (xP (zX Z (qi A).length N) j + n')) (g1 : ∀ m' s', (∀ (a : Nat) (e : Int), a < 41 ∨ a = 46 ∨ a = 53 ∨ (69 ≤ a ∧ a ≤ 73) ∨ F a → m' a e = m a e) → (∀ e : Int, e ≠ 6 → m' 41 e = m 41 e) → (m 47 10 ≤ m' 47 10 ∧ m' 47 10 ≤ m 47 10 + 2) → uni (qs A) ta tb = some s' → cSe E F Z N T m' (qbind E A s') → Q 1 m') (g0 : ∀ m', (∀ (a : Nat) (e : Int), a < 41 ∨ a = 46 ∨ a = 53 ∨ (69 ≤ a ∧ a ≤ 73) ∨ F a → m' a e = m a e) → (∀ e : Int, e ≠ 6 → m' 41 e = m 41 e) → (m 47 10 ≤ m' 47 10 ∧ m' 47 10 ≤ m 47 10 + 2) → uni (qs A) ta tb = none → cFl E F Z N T m' A → Q 0 m') : wq_148 x y f T m Q := by
  obtain ⟨hP, hNm, ⟨h3, h5, h8, hch⟩, ⟨d1, ⟨TL, dt, dl, dv⟩, d4, d5, d6, d7⟩, hRes, hTI⟩ := hS
  have hU := zX_uPr hP N
  have frame : ∀ {m' B'}, uZ (zX Z (qi A).length N) (zU Z) m B TL m' B' → (∀ (a : Nat) (e : Int), a < 41 ∨ a = 46 ∨ a = 53 ∨ (69 ≤ a ∧ a ≤ 73) ∨ F a → m' a e = m a e) ∧ (∀ e : Int, e ≠ 6 → m' 41 e = m 41 e) ∧ (m 47 10 ≤ m' 47 10 ∧ m' 47 10 ≤ m 47 10 + 2) := by
    intro m' B' hZ
    refine ⟨fun a e q => ?_, fun e he => hZ.1 41 e (fun q => by have := (urw_no hP.1 q).1; omega) (fun q => he q.2) (fun q => absurd q.1 (by decide)), hZ.2.2.2.2.2.2.2.1, hZ.2.2.2.2.2.2.2.2.1⟩
    have hf := hP.1.2.1
    refine hZ.1 a e (fun z => ?_) (fun z => ?_) (fun z => ?_)
    · obtain ⟨b1, b2, b3, b4, b5, b6, -⟩ := urw_no hP.1 z
      rcases q with q | q | q | q | q
      · omega
      · exact b2 q
      · exact b4 q
      · exact b5 q
      · exact b6 q
    · rcases q with q | q | q | q | q
      · omega
      · omega
      · omega
      · omega
      · have := hf a q
        omega
    · rcases q with q | q | q | q | q
      · omega
      · omega
      · omega
      · omega
      · have := hf a q
        omega
  refine sp_148 hU hm1 d1 hRes dt h1 h2 (fun w hw => (zX_dm hP N w).mpr (v1 w hw)) (fun w hw => (zX_dm hP N w).mpr (v2 w hw)) o1 o2 (fun w z _ _ a b => o3 w z a b) o4 (fun m3 B3 s3 hZ hR3 hso => ?_) (fun m3 B3 hZ hno => ?_)
  · obtain ⟨TI3, y1, y2, y3, y4⟩ := uZ_dy hk (Nat.le_refl _) hP d1 dt dl dv d4 d5 d6 d7 hRes hR3 hZ
    obtain ⟨f1, f2, f3⟩ := frame hZ
    have hsol : ∀ v, SolS s3 v ↔ SolS (qs A) v ∧ sb v ta = sb v tb := fun v => by rw [← SolS_B hR3, hso v, SolS_B hRes]
    have hO := hP.2.2.2.2.1
    refine g1 m3 s3 f1 f2 f3 (uni_t ⟨⟨B3, hR3⟩, hsol⟩) ⟨y3, cNm_fr (A := A) hNm (fun e _ _ => f1 _ _ (Or.inl (by decide))) (fun e => f1 _ _ (Or.inl (by decide))) (fun e => f1 _ _ (Or.inl (by decide))), ⟨by rw [f2 _ (by decide)]; exact h3, by rw [f1 _ _ (Or.inl (by decide))]; exact h5, h8, ?_⟩, B3, TI3, y1, hR3, ?_⟩
    · rw [f1 36 6 (Or.inl (by decide))]
      exact cCh_mo (tE_u hP (Nat.le_refl _) hZ.1) (Nat.le_refl _) (fun v q => ((hsol v).mp q).1) _ _ _ (fun j c' _ q => ⟨q, fun z => uFx_c hP.1 hZ.1 (by have := (hO.1.2.1 j c' q).2.1; simp only [this, true_or, or_true]) (by have := (hO.1.2.1 j c' q).2.2.1; omega) (by have := (hO.1.2.1 j c' q).2.2.1; omega) z⟩) hch
    · rw [y2, hTI]
      rfl
  · obtain ⟨f1, f2, f3⟩ := frame hZ
    obtain ⟨TI3, y⟩ := uZ_dn hk (Nat.le_refl _) hP d1 dt dl dv d4 d5 d6 d7 hZ
    exact g0 m3 f1 f2 f3 (uni_f (fun v hv => hno v ((SolS_B hRes v).mpr hv))) ⟨cPr_u hP hZ, cNm_fr (A := A) hNm (fun e _ _ => f1 _ _ (Or.inl (by decide))) (fun e => f1 _ _ (Or.inl (by decide))) (fun e => f1 _ _ (Or.inl (by decide))), ⟨B3, TI3, y⟩, h8⟩
end CS
