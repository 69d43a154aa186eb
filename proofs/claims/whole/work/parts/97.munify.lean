def uFr (m m' : hy_m) : Prop := ∀ (a : Nat) (e : Int), a ≠ 97 → a ≠ 98 → a ≠ 111 → a ≠ 112 → a ≠ 113 → a ≠ 115 → ¬ (a = 74 ∧ (e = 44 ∨ e = 64 ∨ e = 66)) → m' a e = m a e
/-- places below this one are trailed -/
def mLim (m : hy_m) : Int := if 0 < m 74 59 then m 109 (m 74 59 - 1) else 0
def tR (m : hy_m) (l : List Nat) : Prop := m 74 44 = l.length ∧ ∀ i (hi : i < l.length), m 98 (i : Int) = (l[i] : Nat)
section UV
variable {G : Nat → Nat → Prop} {m : hy_m} {Q : Int → hy_m → Prop} {D : Nat → Prop} {B : bM} {W k : Nat}
theorem tR_bi {l : List Nat} {w : Nat} {y : Int} (h : tR m l) : tR (mBi m w y) (if (w : Int) < mLim m then l ++ [w] else l) := by
  unfold mLim mBi
  by_cases hc : 0 < m 74 59
  · rw [if_pos hc]
    by_cases hl : (w : Int) < m 109 (m 74 59 - 1)
    · rw [if_pos hl, if_pos ⟨hc, hl⟩]
      refine ⟨?_, fun i hi => ?_⟩
      · rw [hy_us, h.1]
        simp
      · rw [hy_ua (by decide)]
        by_cases e : i = l.length
        · subst e
          rw [h.1, hy_us]
          simp
        · have hi' : i < l.length := by simp at hi; omega
          rw [h.1, hy_uk (by omega), hy_ua (by decide), h.2 i hi', List.getElem_append_left hi']
    · rw [if_neg hl, if_neg (fun q => hl q.2)]
      exact ⟨by rw [hy_ua (by decide)]; exact h.1, fun i hi => by rw [hy_ua (by decide)]; exact h.2 i hi⟩
  · rw [if_neg hc, if_neg (fun q => hc q.1), if_neg (show ¬ (w : Int) < 0 by omega)]
    exact ⟨by rw [hy_ua (by decide)]; exact h.1, fun i hi => by rw [hy_ua (by decide)]; exact h.2 i hi⟩
theorem ch_popS {S : (Nat → pE) → Prop} : ∀ (ps : List sgq), (∀ v, S v → chOK G m v ps) → (∀ q ∈ ps, q.2.2.length ≤ eNa q.2.1) → (∀ q ∈ ps.tail, q.2.2.length + 1 ≤ eNa q.2.1) → (∀ q ∈ ps, 1 ≤ eNa q.2.1) → ∀ (e : pE) (L : List pE), sgs ps = e :: L → ∃ ps' : List sgq, L = sgs ps' ∧ (∀ v, S v → chOK G m v ps') ∧ (∀ q ∈ ps', q.2.2.length + 1 ≤ eNa q.2.1) ∧ (∀ v, S v → ∀ q ∈ ps', sz (sb v e) < sz (sb v q.2.1)) ∧ (∀ q ∈ ps', 1 ≤ eNa q.2.1)
  | [], _, _, _, _, _, _, h => by cases h
  | q :: ps, hc, h1, h2, h3, e, L, h => by
    obtain ⟨c, T, es⟩ := q
    have h : es ++ sgs ps = e :: L := h
    have h2 : ∀ q ∈ ps, q.2.2.length + 1 ≤ eNa q.2.1 := h2
    cases es with
    | nil =>
      refine ch_popS ps (fun v hv => (hc v hv).2.2.2.2) (fun q hq => by have := h2 q hq; omega) (fun q hq => h2 q (List.mem_of_mem_tail hq)) (fun q hq => h3 q (List.mem_cons_of_mem _ hq)) e L h
    | cons e' es =>
      have h : e' :: (es ++ sgs ps) = e :: L := h
      injection h with e1 e2
      subst e1
      subst e2
      have hb := h1 (c, T, e' :: es) (List.mem_cons_self ..)
      have hse : ∀ v, S v → sz (sb v e') < sz (sb v T) := fun v hv => (hc v hv).2.2.1 e' (List.mem_cons_self ..)
      refine ⟨(c, T, es) :: ps, rfl, fun v hv => ⟨(hc v hv).1, (hc v hv).2.1, fun x hx => (hc v hv).2.2.1 x (List.mem_cons_of_mem _ hx), (hc v hv).2.2.2.1, (hc v hv).2.2.2.2⟩, fun q hq => ?_, fun v hv q hq => ?_, fun q hq => ?_⟩
      · rcases List.mem_cons.mp hq with rfl | hq
        · exact hb
        · exact h2 q hq
      · rcases List.mem_cons.mp hq with rfl | hq
        · exact hse v hv
        · exact Nat.lt_trans (hse v hv) ((hc v hv).2.2.2.1 q hq)
      · rcases List.mem_cons.mp hq with rfl | hq
        · exact h3 (c, T, e' :: es) (List.mem_cons_self ..)
        · exact h3 q (List.mem_cons_of_mem _ hq)
theorem Sol_mono {B B' : bM} (h : ∀ v t, B v = some t → B' v = some t) {v : Nat → pE} (hv : Sol B' v) : Sol B v := fun x t e => hv x t (h x t e)
/-- terms that aren't alike have no common solution -/
theorem nsim {x1 x3 : Int} {t1 t2 : pE} (h1 : mTm G m x1 t1) (h2 : mTm G m x3 t2) (n1 : ∀ w : Nat, t1 ≠ .var w) (n2 : ∀ w : Nat, t2 ≠ .var w) (v : Nat → pE) (e : sb v t1 = sb v t2) : eSim t1 t2 := by
  cases t1 with
  | var w => exact absurd rfl (n1 w)
  | num i =>
    cases t2 with
    | num j =>
      have e : (.num i : pE) = .num j := e
      injection e
    | var w => exact absurd rfl (n2 w)
    | mulL k a => cases e
    | add a r => cases e
    | sub a r => cases e
    | neg a => cases e
    | mulR a k => cases e
  | mulL k a =>
    cases t2 with
    | mulL k' a' =>
      have e : (.mulL k (sb v a) : pE) = .mulL k' (sb v a') := e
      injection e with e1 e2
      refine ⟨e1, ?_⟩
      rw [← isL_N v a (mTm_L h1).1, ← isL_N v a' (mTm_L h2).1, e2]
    | var w => exact absurd rfl (n2 w)
    | num j => cases e
    | add a r => cases e
    | sub a r => cases e
    | neg a => cases e
    | mulR a k => cases e
  | add a r => exact (mTm_nadd h1).elim
  | sub a r => exact (mTm_nsub h1 trivial).elim
  | neg a => exact (mTm_nsub h1 trivial).elim
  | mulR a k => exact (mTm_nsub h1 trivial).elim
theorem isL0 {a : pE} (h : isL a) (h0 : eN a = 0) : a = .num 0 := by
  cases a with
  | num i =>
    have h : i = 0 := h
    rw [h]
  | add x r =>
    have h0 : eN r + 1 = 0 := h0
    omega
  | var w => exact h.elim
  | mulL k a => exact h.elim
  | sub a r => exact h.elim
  | neg a => exact h.elim
  | mulR a k => exact h.elim
theorem fc_pos {B : bM} {w : Nat} (hw : B w = none) (n : Nat) (h : w < n) : 1 ≤ fc B n := by
  have := fc_u (t := .num 0) hw n h
  omega
/-- the body of the loop, behind the look into the table -/
def uBd (P : Int → hy_m → Prop) (n : Int) (m3 : hy_m) (Q : Int → hy_m → Prop) : Prop := (0 ≤ (2 * n) ∧ (2 * n) < 50000 ∧ (wq_237 (m3 111 (2 * n)) m3 (fun r4 m4 => 0 ≤ ((2 * n) + 1) ∧ ((2 * n) + 1) < 50000 ∧ (wq_237 (m4 111 ((2 * n) + 1)) m4 (fun r5 m5 => wq_230 r4 m5 (fun r6 m6 => (r6 ≠ 0 → (wq_244 r4 r5 m6 (fun r7 m7 => (r7 ≠ 0 → (hy_r 0 n ∧ (P n m7))) ∧ (r7 = 0 → (Q 0 m7))))) ∧ (r6 = 0 → (wq_230 r5 m6 (fun r8 m8 => (r8 = 0 → (wq_245 r4 r5 m8 (fun r9 m9 => (r9 ≠ 0 → ((r4 = r5 → (hy_r 0 n ∧ (P n m9))) ∧ (r4 ≠ r5 → (wq_238 r4 m9 (fun r10 m10 => (r10 ≠ 4 → (hy_r 0 n ∧ (P n m10))) ∧ (r10 = 4 → (wq_232 r4 m10 (fun r11 m11 => 0 ≤ r11 ∧ r11 < 3584 ∧ (hy_r 0 n ∧ (hy_r 0 ((m11 78 r11) - 1) ∧ (wq_247_179 P n r4 r5 ((m11 78 r11) - 1) m11 Q))))))))))) ∧ (r9 = 0 → (Q 0 m9))))) ∧ (r8 ≠ 0 → (wq_244 r4 r5 m8 (fun r12 m12 => (r12 ≠ 0 → (hy_r 0 n ∧ (P n m12))) ∧ (r12 = 0 → (Q 0 m12))))))))))))))
/-- behind a call of unifies, whatever it answers -/
def uO (G : Nat → Nat → Prop) (m m' : hy_m) (D : Nat → Prop) (B B' : bM) (k r : Nat) (l : List Nat) : Prop := uFr m m' ∧ mBd G m' D B' ∧ (∃ s', Res B' s') ∧ ((∀ v t, B v = some t → B' v = some t) ∧ ∀ v : Nat, B v ≠ none ∨ ¬ D v → m' 97 (v : Int) = m 97 (v : Int)) ∧ (∃ k' : Nat, rOK m' k' ∧ k' + fc B' 2500 ≤ k + fc B 2500 + 1) ∧ tOK m' (r + 1) ∧ ∃ nb : List Nat, nb.Nodup ∧ (∀ w : Nat, w ∈ nb ↔ (B w = none ∧ B' w ≠ none ∧ (w : Int) < mLim m)) ∧ tR m' (l ++ nb) ∧ (l ++ nb).length + fc B' 2500 ≤ 2500
set_option maxHeartbeats 4000000 in
theorem sp_247 {x1 x3 : Int} {ta tb : pE} {s : Nat → pE} {r : Nat} {l : List Nat} (hg : gC G m) (hW : mGW G m W) (hW3 : W ≤ 20000) (hB : mBd G m D B) (hR : Res B s) (hr : rOK m k) (hk : k + 3000 < 4294967295) (hc : m 74 59 ≤ 700) (ht : tR m l) (htl : l.length + fc B 2500 ≤ 2500) (htb : tOK m r) (hrr : r < 999999990) (h1 : mTm G m x1 ta) (h2 : mTm G m x3 tb) (hD1 : ∀ z, vIn z ta → D z) (hD2 : ∀ z, vIn z tb → D z) (hq1 : ∀ m' B', uO G m m' D B B' k r l → (∀ v, Sol B' v ↔ Sol B v ∧ sb v ta = sb v tb) → Q 1 m') (hq0 : ∀ m' B', uO G m m' D B B' k r l → (∀ v, Sol B v → sb v ta ≠ sb v tb) → Q 0 m') : wq_247 x1 x3 m Q := by
  obtain ⟨tb1, tb2, tb3⟩ := htb
  have hfc := fc_le B 2500
  unfold wq_247
  rw [tb1]
  refine ⟨by decide, by decide, by decide, by decide, show -9223372036854775808 ≤ _ ∧ _ < 9223372036854775808 by omega, ?_⟩
  have f0 : ∀ (a : Nat) (e : Int), a ≠ 111 → ¬ (a = 74 ∧ e = 66) → hy_u (hy_u (hy_u m 111 0 x1) 111 1 x3) 74 66 ((r : Int) + 1) a e = m a e := fun a e q1 q2 => by rw [hy_uf q2, hy_ua q1, hy_ua q1]
  have f66 : hy_u (hy_u (hy_u m 111 0 x1) 111 1 x3) 74 66 ((r : Int) + 1) 74 66 = (r : Int) + 1 := hy_us _ _ _ _
  have f111 : hy_u (hy_u (hy_u m 111 0 x1) 111 1 x3) 74 66 ((r : Int) + 1) 111 0 = x1 := by rw [hy_ua (by decide), hy_uk (by decide), hy_us]
  have f111' : hy_u (hy_u (hy_u m 111 0 x1) 111 1 x3) 74 66 ((r : Int) + 1) 111 1 = x3 := by rw [hy_ua (by decide), hy_us]
  generalize hy_u (hy_u (hy_u m 111 0 x1) 111 1 x3) 74 66 ((r : Int) + 1) = m0 at f0 f66 f111 f111'
  unfold wq_247_27
  refine wL1_h (fun N1 N2 x m' => ∃ (B' : bM) (s' : Nat → pE) (L : List (pE × pE)) (ps : List sgq) (R : List pE) (nb : List Nat) (k' : Nat), x = L.length ∧ N1 = fc B' 2500 ∧ N2 = szs s' (L.map Prod.fst) ∧ pW G m' L ∧ uFr m m' ∧ mBd G m' D B' ∧ Res B' s' ∧ (∀ v t, B v = some t → B' v = some t) ∧ (∀ v, Sol B v → sb v ta = sb v tb → Sol B' v ∧ ∀ q ∈ L, sb v q.1 = sb v q.2) ∧ (∀ v, Sol B' v → (∀ q ∈ L, sb v q.1 = sb v q.2) → sb v ta = sb v tb) ∧ (∀ u1 u2 : Nat, u1 < 2500 → u2 < 2500 → m' 115 (hsh u1 u2) = kyy ((r : Int) + 1) u1 u2 → ∀ v, Sol B' v → (∀ q ∈ L, sz (sb v q.1) < sz (v u1) → sb v q.1 = sb v q.2) → v u1 = v u2) ∧ (L.map Prod.fst = sgs ps ++ R ∧ (ps = [] ∧ R.length ≤ 1 ∨ R = [])) ∧ (∀ v, Sol B' v → chOK G m v ps) ∧ ((∀ q ∈ ps, q.2.2.length ≤ eNa q.2.1) ∧ (∀ q ∈ ps.tail, q.2.2.length + 1 ≤ eNa q.2.1) ∧ (∀ q ∈ ps, 1 ≤ eNa q.2.1)) ∧ (∀ q ∈ L, (∀ z, vIn z q.1 → D z) ∧ ∀ z, vIn z q.2 → D z) ∧ (rOK m' k' ∧ k' + fc B' 2500 ≤ k + fc B 2500 ∧ ∀ v : Nat, B v ≠ none ∨ ¬ D v → m' 97 (v : Int) = m 97 (v : Int)) ∧ (tR m' (l ++ nb) ∧ (l ++ nb).length + fc B' 2500 ≤ 2500 ∧ nb.Nodup ∧ ∀ w : Nat, w ∈ nb ↔ (B w = none ∧ B' w ≠ none ∧ (w : Int) < mLim m)) ∧ (m' 74 66 = (r : Int) + 1 ∧ ∀ e : Int, 0 ≤ e → e < 4096 → m' 115 e < ((r : Int) + 2) * 6250000)) ?_ (n := fc B 2500) (k := szs s [ta]) ⟨B, s, [(ta, tb)], [], [ta], [], k, rfl, rfl, rfl, ⟨?_, ?_, trivial⟩, fun a e q1 q2 q3 q4 q5 q6 q7 => f0 a e q3 (by omega), mBd_fr hB (fun a e q => f0 a e (by omega) (by omega)), hR, fun _ _ e => e, fun v hv e => ⟨hv, fun q hq => ?_⟩, fun v hv g => g (ta, tb) (List.mem_cons_self ..), fun u1 u2 q1 q2 e => ?_, ⟨rfl, Or.inl ⟨rfl, Nat.le_refl _⟩⟩, fun _ _ => trivial, ⟨(fun q hq => by cases hq), (fun q hq => by cases hq), (fun q hq => by cases hq)⟩, fun q hq => ?_, ⟨⟨by rw [f0 _ _ (by decide) (by omega)]; exact hr.1, hr.2.1, fun v hv => by rw [f0 _ _ (by decide) (by omega)]; exact hr.2.2 v hv⟩, by omega, fun v _ => f0 _ _ (by decide) (by omega)⟩, ⟨⟨by rw [f0 _ _ (by decide) (by omega), List.append_nil]; exact ht.1, fun i hi => by rw [f0 _ _ (by decide) (by omega)]; simp only [List.append_nil] at hi ⊢; exact ht.2 i hi⟩, by rw [List.append_nil]; exact htl, List.nodup_nil, fun w => ⟨(fun q => by cases q), fun q => absurd q.1 q.2.1⟩⟩, f66, fun e q1 q2 => by rw [f0 _ _ (by decide) (by omega)]; have := tb3 e q1 q2; omega⟩
  · rintro P N1 N2 x m' ⟨B', s', L, ps, R, nb, k', rfl, rfl, rfl, hS, hf, hB', hR', hext, hsol, hsol2, hJ, ⟨hL, hR1⟩, hch, ⟨hle, hlt, hge⟩, hLD, ⟨hrk, hkf, h97⟩, ⟨htr, htl', hnd, hnb⟩, h66, h115⟩ hP
    have out : ∀ (m2 : hy_m) (k2 : Nat), (∀ (a : Nat) (e : Int), a ≠ 112 → a ≠ 113 → a ≠ 115 → ¬ (a = 74 ∧ e = 64) → m2 a e = m' a e) → rOK m2 k2 → k2 ≤ k' + 1 → (∀ e : Int, 0 ≤ e → e < 4096 → m2 115 e < ((r : Int) + 2) * 6250000) → uO G m m2 D B B' k r l := by
      intro m2 k2 hf2 hr2 hk2 h2
      refine ⟨fun a e q1 q2 q3 q4 q5 q6 q7 => (hf2 a e q4 q5 q6 (by omega)).trans (hf a e q1 q2 q3 q4 q5 q6 q7), mBd_fr hB' (fun a e q => hf2 a e (by omega) (by omega) (by omega) (by omega)), ⟨s', hR'⟩, ⟨hext, fun v hv => (hf2 97 _ (by decide) (by decide) (by decide) (by omega)).trans (h97 v hv)⟩, ⟨k2, hr2, by omega⟩, ⟨by rw [hf2 _ _ (by decide) (by decide) (by decide) (by omega), h66]; omega, by omega, fun e q1 q2 => by have := h2 e q1 q2; omega⟩, nb, hnd, hnb, ⟨by rw [hf2 _ _ (by decide) (by decide) (by decide) (by omega)]; exact htr.1, fun i hi => by rw [hf2 _ _ (by decide) (by decide) (by decide) (by omega)]; exact htr.2 i hi⟩, htl'⟩
    unfold wf_247_27
    refine ⟨fun h0 => ?_, fun h0 => ?_⟩
    · have hnil : L = [] := List.length_eq_zero_iff.mp (by omega)
      subst hnil
      exact hq1 m' B' (out m' k' (fun _ _ _ _ _ _ => rfl) hrk (by omega) h115) (fun v => ⟨fun hv => ⟨Sol_mono hext hv, hsol2 v hv (fun q hq => by cases hq)⟩, fun hv => (hsol v hv.1 hv.2).1⟩)
    · cases L with
      | nil => simp at h0
      | cons q L =>
        obtain ⟨a, b⟩ := q
        have hlen : ((((a, b) :: L).length : Nat) : Int) + (-1) = (L.length : Int) := by simp only [List.length_cons]; omega
        rw [hlen]
        obtain ⟨ps', hps1, hps2, hps3, hps4, hps5⟩ : ∃ ps' : List sgq, L.map Prod.fst = sgs ps' ∧ (∀ v, Sol B' v → chOK G m v ps') ∧ (∀ q ∈ ps', q.2.2.length + 1 ≤ eNa q.2.1) ∧ (∀ v, Sol B' v → ∀ q ∈ ps', sz (sb v a) < sz (sb v q.2.1)) ∧ (∀ q ∈ ps', 1 ≤ eNa q.2.1) := by
          have hL : a :: L.map Prod.fst = sgs ps ++ R := hL
          rcases hR1 with ⟨hp0, hR1⟩ | hR0
          · subst hp0
            have hL : a :: L.map Prod.fst = R := hL
            have : L.map Prod.fst = [] := by
              rw [← hL] at hR1
              simp only [List.length_cons] at hR1
              exact List.length_eq_zero_iff.mp (by omega)
            exact ⟨[], this, fun _ _ => trivial, (fun q hq => by cases hq), (fun v _ q hq => by cases hq), (fun q hq => by cases hq)⟩
          · subst hR0
            rw [List.append_nil] at hL
            exact ch_popS (S := Sol B') ps hch hle hlt hge a _ hL.symm
        have hlenW : L.length ≤ W := by
          have e : L.length = (sgs ps').length := by rw [← hps1, List.length_map]
          rw [e]
          exact Nat.le_trans (sgs_le ps' hps3) (ch_w hW ps' (hps2 s' hR'.sol))
        obtain ⟨hDa, hDb⟩ := hLD (a, b) (List.mem_cons_self ..)
        have hLD' : ∀ q ∈ L, (∀ z, vIn z q.1 → D z) ∧ ∀ z, vIn z q.2 → D z := fun q hq => hLD q (List.mem_cons_of_mem _ hq)
        have hN : szs s' (((a, b) :: L).map Prod.fst) = sz (sb s' a) + szs s' (L.map Prod.fst) := rfl
        have hpa := sz_pos (sb s' a)
        -- the pair says nothing new
        have keep : ∀ m3 : hy_m, (∀ (a : Nat) (e : Int), a ≠ 115 → m3 a e = m' a e) → (∀ e : Int, 0 ≤ e → e < 4096 → m3 115 e < ((r : Int) + 2) * 6250000) → (∀ u1 u2 : Nat, u1 < 2500 → u2 < 2500 → m3 115 (hsh u1 u2) = kyy ((r : Int) + 1) u1 u2 → ∀ v, Sol B' v → (∀ q ∈ L, sz (sb v q.1) < sz (v u1) → sb v q.1 = sb v q.2) → v u1 = v u2) → (∀ v, Sol B' v → (∀ q ∈ L, sb v q.1 = sb v q.2) → sb v a = sb v b) → P (L.length : Int) m3 := by
          intro m3 hf3 ht3 hJ3 heq
          refine hP (fc B' 2500) (szs s' (L.map Prod.fst)) _ _ ⟨B', s', L, ps', [], nb, k', rfl, rfl, rfl, pW_fr L hS.2.2 (fun a e q => hf3 a e (by omega)) (fun e _ _ => hf3 _ _ (by decide)), fun a e q1 q2 q3 q4 q5 q6 q7 => (hf3 a e q6).trans (hf a e q1 q2 q3 q4 q5 q6 q7), mBd_fr hB' (fun a e q => hf3 a e (by omega)), hR', hext, fun v hv e => ⟨(hsol v hv e).1, fun q hq => (hsol v hv e).2 q (List.mem_cons_of_mem _ hq)⟩, fun v hv g => hsol2 v hv (fun q hq => ?_), hJ3, ⟨by rw [List.append_nil]; exact hps1, Or.inr rfl⟩, hps2, ⟨fun q hq => by have := hps3 q hq; omega, fun q hq => hps3 q (List.mem_of_mem_tail hq), hps5⟩, hLD', ⟨⟨by rw [hf3 _ _ (by decide)]; exact hrk.1, hrk.2.1, fun v hv => by rw [hf3 _ _ (by decide)]; exact hrk.2.2 v hv⟩, hkf, fun v hv => (hf3 97 _ (by decide)).trans (h97 v hv)⟩, ⟨⟨by rw [hf3 _ _ (by decide)]; exact htr.1, fun i hi => by rw [hf3 _ _ (by decide)]; exact htr.2 i hi⟩, htl', hnd, hnb⟩, by rw [hf3 _ _ (by decide)]; exact h66, ht3⟩ (Or.inr ⟨rfl, by omega⟩)
          rcases List.mem_cons.mp hq with rfl | hq
          · exact heq v hv g
          · exact g q hq
        -- the body
        have fin : ∀ m3 : hy_m, (∀ (a : Nat) (e : Int), a ≠ 115 → m3 a e = m' a e) → (∀ e : Int, 0 ≤ e → e < 4096 → m3 115 e < ((r : Int) + 2) * 6250000) → (∀ u1 u2 : Nat, u1 < 2500 → u2 < 2500 → m3 115 (hsh u1 u2) = kyy ((r : Int) + 1) u1 u2 → ∀ v, Sol B' v → (∀ q ∈ L, sz (sb v q.1) < sz (v u1) → sb v q.1 = sb v q.2) → (sz (sb v a) ≤ sz (v u1) → sb v a = sb v b) → v u1 = v u2) → uBd P (L.length : Int) m3 Q := by
          intro m3 hf3 ht3 hJ3
          have hB3 : mBd G m3 D B' := mBd_fr hB' (fun a e q => hf3 a e (by omega))
          have hfm : uFr m m3 := fun a e q1 q2 q3 q4 q5 q6 q7 => (hf3 a e q6).trans (hf a e q1 q2 q3 q4 q5 q6 q7)
          have hg3 : gC G m3 := fun n p j hG hj => by
            rw [hfm 78 _ (by decide) (by decide) (by decide) (by decide) (by decide) (by decide) (by omega)] at hj
            rw [hfm 79 _ (by decide) (by decide) (by decide) (by decide) (by decide) (by decide) (by omega)]
            exact hg n p j hG hj
          have hW3' : mGW G m3 W := fun xs h1 h2 => by
            have e : (fun x : Int => (m3 78 (x % 4096)).toNat - 1) = fun x => (m 78 (x % 4096)).toNat - 1 := by
              funext x
              rw [hfm 78 _ (by decide) (by decide) (by decide) (by decide) (by decide) (by decide) (by omega)]
            rw [e]
            exact hW xs h1 h2
          have hrk3 : rOK m3 k' := ⟨by rw [hf3 _ _ (by decide)]; exact hrk.1, hrk.2.1, fun v hv => by rw [hf3 _ _ (by decide)]; exact hrk.2.2 v hv⟩
          have htr3 : tR m3 (l ++ nb) := ⟨by rw [hf3 _ _ (by decide)]; exact htr.1, fun i hi => by rw [hf3 _ _ (by decide)]; exact htr.2 i hi⟩
          have hS3 : pW G m3 L := pW_fr L hS.2.2 (fun a e q => hf3 a e (by omega)) (fun e _ _ => hf3 _ _ (by decide))
          have hc3 : m3 74 59 ≤ 700 := by rw [hfm _ _ (by decide) (by decide) (by decide) (by decide) (by decide) (by decide) (by decide)]; exact hc
          have ha3 : mTm G m3 (m3 111 (2 * (L.length : Int))) a := by rw [hf3 _ _ (by decide)]; exact mTm_fr hS.1 (fun a e q => hf3 a e (by omega))
          have hb3 : mTm G m3 (m3 111 (2 * (L.length : Int) + 1)) b := by rw [hf3 _ _ (by decide)]; exact mTm_fr hS.2.1 (fun a e q => hf3 a e (by omega))
          unfold uBd
          refine ⟨by omega, by omega, sp_237 hB3 hR' ha3 hDa (fun y1 t1 fo1 so1 => ⟨by omega, by omega, sp_237 hB3 hR' hb3 hDb (fun y2 t2 fo2 so2 => ?_)⟩)⟩
          have eqv : ∀ v, Sol B' v → (sb v a = sb v b ↔ sb v t1 = sb v t2) := fun v hv => by rw [so1 v hv, so2 v hv]
          have keep3 : (∀ v, Sol B' v → sb v t1 = sb v t2) → P (L.length : Int) m3 := fun heq => keep m3 hf3 ht3 (fun u1 u2 q1 q2 e v hv g => hJ3 u1 u2 q1 q2 e v hv g (fun _ => (eqv v hv).mpr (heq v hv))) (fun v hv _ => (eqv v hv).mpr (heq v hv))
          have fail : ∀ (m4 : hy_m) (k4 : Nat), oFr m3 m4 → rOK m4 k4 → k4 ≤ k' + 1 → (∀ v, Sol B' v → sb v t1 ≠ sb v t2) → Q 0 m4 := by
            intro m4 k4 hf4 hr4 hk4 hno
            refine hq0 m4 B' (out m4 k4 (fun a e q1 q2 q3 q4 => (hf4 a e q1 q2 q4).trans (hf3 a e q3)) hr4 hk4 (fun e q1 q2 => by rw [hf4 _ _ (by decide) (by decide) (by omega)]; exact ht3 e q1 q2)) (fun v hv e => ?_)
            obtain ⟨g1, g2⟩ := hsol v hv e
            exact hno v g1 ((eqv v g1).mp (g2 (a, b) (List.mem_cons_self ..)))
          have hfr1 : ∀ w : Nat, t1 = .var w → B' w = none ∧ w < 2500 := fun w e => by
            rcases fo1.2.2 with ⟨w', -, e', g1, g2⟩ | ⟨g, -⟩
            · rw [e] at e'
              injection e' with e'
              rw [e']
              exact ⟨g1, g2⟩
            · exact absurd e (g w)
          have hfr2 : ∀ w : Nat, t2 = .var w → B' w = none ∧ w < 2500 := fun w e => by
            rcases fo2.2.2 with ⟨w', -, e', g1, g2⟩ | ⟨g, -⟩
            · rw [e] at e'
              injection e' with e'
              rw [e']
              exact ⟨g1, g2⟩
            · exact absurd e (g w)
          have bb : ((∃ w : Nat, t1 = .var w) ∨ ∃ w : Nat, t2 = .var w) → wq_244 y1 y2 m3 (fun r7 m7 => (r7 ≠ 0 → (hy_r 0 (L.length : Int) ∧ (P (L.length : Int) m7))) ∧ (r7 = 0 → (Q 0 m7))) := by
            intro hfree
            have hfc1 : 1 ≤ fc B' 2500 := by
              rcases hfree with ⟨w, e⟩ | ⟨w, e⟩
              · exact fc_pos (hfr1 w e).1 2500 (hfr1 w e).2
              · exact fc_pos (hfr2 w e).1 2500 (hfr2 w e).2
            have htl3 := htr3.1
            refine sp_244 hg3 hW3' hW3 hB3 hR' hrk3 (by omega) hc3 (by omega) fo1 fo2 hfree (fun e => ⟨fun _ => ⟨show -2147483648 ≤ _ ∧ _ < 2147483648 by omega, keep3 (fun v _ => by rw [e])⟩, fun q => absurd q (by decide)⟩) (fun w y t m4 hw hDw hw5 hy hDt hno hor hcase hf4 hr4 => ⟨fun _ => ⟨show -2147483648 ≤ _ ∧ _ < 2147483648 by omega, ?_⟩, fun q => absurd q (by decide)⟩) (fun m4 hf4 hr4 hno => ⟨fun q => absurd rfl q, fun _ => fail m4 (k' + 1) hf4 hr4 (by omega) hno⟩)
            -- one more binding
            have eqw : ∀ v, v w = sb v t ↔ sb v t1 = sb v t2 := fun v => by
              rcases hcase with ⟨c1, c2⟩ | ⟨c1, c2⟩
              · rw [c1, c2]
                exact Iff.rfl
              · rw [c1, c2]
                exact ⟨fun e => e.symm, fun e => e.symm⟩
            have hBw : B w = none := by
              cases e : B w with
              | none => rfl
              | some u =>
                have := hext w u e
                rw [hw] at this
                cases this
            have hfcu := fc_u (t := t) hw 2500 hw5
            have hb4 := mBi_r m4 w y
            have g4 : ∀ (a : Nat) (e : Int), a ≠ 97 → a ≠ 98 → a ≠ 112 → a ≠ 113 → ¬ (a = 74 ∧ (e = 44 ∨ e = 64)) → mBi m4 w y a e = m3 a e := fun a e q1 q2 q3 q4 q5 => (hb4 a e (by omega) (by omega) (by omega)).trans (hf4 a e q3 q4 (by omega))
            have hB4 : mBd G m4 D B' := mBd_fr hB3 (fun a e q => hf4 a e (by omega) (by omega) (by omega))
            have htr4 : tR m4 (l ++ nb) := ⟨by rw [hf4 _ _ (by decide) (by decide) (by omega)]; exact htr3.1, fun i hi => by rw [hf4 _ _ (by decide) (by decide) (by omega)]; exact htr3.2 i hi⟩
            have hlim : mLim m4 = mLim m := by
              unfold mLim
              rw [hf4 74 59 (by decide) (by decide) (by omega), hfm 74 59 (by decide) (by decide) (by decide) (by decide) (by decide) (by decide) (by decide), hf4 109 _ (by decide) (by decide) (by omega), hfm 109 _ (by decide) (by decide) (by decide) (by decide) (by decide) (by decide) (by omega)]
            have htr5 := tR_bi (w := w) (y := y) htr4
            rw [hlim] at htr5
            obtain ⟨k2, hr2, hk2⟩ : ∃ k2, rOK m4 k2 ∧ k2 ≤ k' + 1 := by
              rcases hr4 with g | g
              · exact ⟨k', g, by omega⟩
              · exact ⟨k' + 1, g, Nat.le_refl _⟩
            have hr5 : rOK (mBi m4 w y) k2 := ⟨by rw [hb4 _ _ (by omega) (by omega) (by omega)]; exact hr2.1, hr2.2.1, fun v hv => by rw [hb4 _ _ (by omega) (by omega) (by omega)]; exact hr2.2.2 v hv⟩
            have hnbw : w ∉ nb := fun q => ((hnb w).mp q).2.1 hw
            have rest : ∀ nb' : List Nat, tR (mBi m4 w y) (l ++ nb') → nb'.length ≤ nb.length + 1 → nb'.Nodup → (∀ w' : Nat, w' ∈ nb' ↔ (B w' = none ∧ bU B' w t w' ≠ none ∧ (w' : Int) < mLim m)) → P (L.length : Int) (mBi m4 w y) := by
              intro nb' g1 g2 g3 g5
              have hll : (l ++ nb').length ≤ (l ++ nb).length + 1 := by rw [List.length_append, List.length_append]; omega
              refine hP (fc (bU B' w t) 2500) _ _ _ ⟨bU B' w t, _, L, ps', [], nb', k2, rfl, rfl, rfl, pW_fr L hS3 (fun a e q => g4 a e (by omega) (by omega) (by omega) (by omega) (by omega)) (fun e _ _ => g4 _ _ (by decide) (by decide) (by decide) (by decide) (by omega)), fun a e q1 q2 q3 q4 q5 q6 q7 => (g4 a e q1 q2 q4 q5 (by omega)).trans (hfm a e q1 q2 q3 q4 q5 q6 q7), mBd_bi hB4 hDw hy hDt, hR'.bind hw hno hor, fun v u e => ?_, fun v hv e => ?_, fun v hv g => ?_, fun u1 u2 q1 q2 e v hv g => ?_, ⟨by rw [List.append_nil]; exact hps1, Or.inr rfl⟩, fun v hv => hps2 v ((Sol_U hw v).mp hv).1, ⟨fun q hq => by have := hps3 q hq; omega, fun q hq => hps3 q (List.mem_of_mem_tail hq), hps5⟩, hLD', ⟨hr5, by omega, fun v hv => ?_⟩, ⟨g1, by omega, g3, g5⟩, by rw [g4 _ _ (by decide) (by decide) (by decide) (by decide) (by omega), hf3 _ _ (by decide)]; exact h66, fun e q1 q2 => by rw [g4 _ _ (by decide) (by decide) (by decide) (by decide) (by omega)]; exact ht3 e q1 q2⟩ (Or.inl (by omega))
              · have := hext v u e
                rw [bU_o (fun q => by rw [q, hw] at this; cases this)]
                exact this
              · obtain ⟨g6, g7⟩ := hsol v hv e
                exact ⟨(Sol_U hw v).mpr ⟨g6, (eqw v).mpr ((eqv v g6).mp (g7 (a, b) (List.mem_cons_self ..)))⟩, fun q hq => g7 q (List.mem_cons_of_mem _ hq)⟩
              · obtain ⟨g6, g7⟩ := (Sol_U hw v).mp hv
                refine hsol2 v g6 (fun q hq => ?_)
                rcases List.mem_cons.mp hq with rfl | hq
                · exact (eqv v g6).mpr ((eqw v).mp g7)
                · exact g q hq
              · obtain ⟨g6, g7⟩ := (Sol_U hw v).mp hv
                rw [g4 _ _ (by decide) (by decide) (by decide) (by decide) (by omega)] at e
                exact hJ3 u1 u2 q1 q2 e v g6 g (fun _ => (eqv v g6).mpr ((eqw v).mp g7))
              · have vw : v ≠ w := fun q => hv.elim (fun h => h (by rw [q]; exact hBw)) (fun h => h (by rw [q]; exact hDw))
                rw [hb4 97 _ (fun q => vw (by have := q.2; omega)) (by omega) (by omega), hf4 97 _ (by decide) (by decide) (by omega), hf3 97 _ (by decide)]
                exact h97 v hv
            by_cases hwl : (w : Int) < mLim m
            · rw [if_pos hwl, List.append_assoc] at htr5
              refine rest (nb ++ [w]) htr5 (by simp) ?_ (fun w' => ?_)
              · rw [List.nodup_append]
                refine ⟨hnd, by simp, fun x hx z hz e => ?_⟩
                have : z = w := by simpa using hz
                rw [e, this] at hx
                exact hnbw hx
              · rw [List.mem_append, hnb w']
                by_cases e : w' = w
                · subst e
                  rw [bU_s]
                  exact ⟨fun _ => ⟨hBw, by simp, hwl⟩, fun _ => Or.inr (by simp)⟩
                · rw [bU_o e]
                  exact ⟨fun q => by
                    rcases q with q | q
                    · exact q
                    · exact absurd (by simpa using q) e, fun q => Or.inl q⟩
            · rw [if_neg hwl] at htr5
              refine rest nb htr5 (by omega) hnd (fun w' => ?_)
              rw [hnb w']
              by_cases e : w' = w
              · subst e
                exact ⟨fun q => absurd q.2.2 hwl, fun q => absurd q.2.2 hwl⟩
              · rw [bU_o e]
          refine sp_230 fo1.1 (fun w hw _ e => ⟨fun _ => bb (Or.inl ⟨w, e⟩), fun q => absurd q (by decide)⟩) (fun hn1 => ⟨fun q => absurd rfl q, fun _ => sp_230 fo2.1 (fun w hw _ e => ⟨fun q => absurd q (by decide), fun _ => bb (Or.inr ⟨w, e⟩)⟩) (fun hn2 => ⟨fun _ => ?_, fun q => absurd rfl q⟩)⟩)
          have n1 : ∀ w : Nat, t1 ≠ .var w := by
            rcases fo1.2.2 with ⟨w', g1, -, -, g2⟩ | ⟨g, -⟩
            · exact absurd g1 (hn1 w' g2)
            · exact g
          have n2 : ∀ w : Nat, t2 ≠ .var w := by
            rcases fo2.2.2 with ⟨w', g1, -, -, g2⟩ | ⟨g, -⟩
            · exact absurd g1 (hn2 w' g2)
            · exact g
          refine sp_245 fo1.1 fo2.1 n1 n2 (fun hsim => ⟨fun _ => ⟨fun he => ⟨show -2147483648 ≤ _ ∧ _ < 2147483648 by omega, keep3 (fun v _ => ?_)⟩, fun hne => sp_238 fo1.1 ⟨fun n4 => ⟨show -2147483648 ≤ _ ∧ _ < 2147483648 by omega, keep3 (fun v _ => ?_)⟩, fun k4 => ?_⟩⟩, fun q => absurd q (by decide)⟩) (fun hsim => ⟨fun q => absurd rfl q, fun _ => fail m3 k' (fun _ _ _ _ _ => rfl) hrk3 (by omega) (fun v _ e => hsim (nsim fo1.1 fo2.1 n1 n2 v e))⟩)
          · have h2' := fo2.1
            rw [← he] at h2'
            rw [mTm_one fo1.1 h2']
          · cases t1 with
            | num i =>
              cases t2 with
              | num j =>
                have hsim : i = j := hsim
                rw [hsim]
              | mulL k2 b1 => exact hsim.elim
              | var w => exact hsim.elim
              | add x y => exact hsim.elim
              | sub x y => exact hsim.elim
              | neg x => exact hsim.elim
              | mulR x y => exact hsim.elim
            | mulL k1 a1 =>
              cases t2 with
              | mulL k2 b1 =>
                obtain ⟨c1, c2⟩ := hsim
                have h0 : eN a1 = 0 := by
                  by_cases q : eN a1 = 0
                  · exact q
                  · exact absurd (show eKd (.mulL k1 a1) = 4 from if_neg q) n4
                rw [c1, isL0 (mTm_L fo1.1).1 h0, isL0 (mTm_L fo2.1).1 (by omega)]
              | num j => exact hsim.elim
              | var w => exact hsim.elim
              | add x y => exact hsim.elim
              | sub x y => exact hsim.elim
              | neg x => exact hsim.elim
              | mulR x y => exact hsim.elim
            | var w => exact absurd rfl (n1 w)
            | add x y => exact hsim.elim
            | sub x y => exact hsim.elim
            | neg x => exact hsim.elim
            | mulR x y => exact hsim.elim
          · cases t1 with
            | mulL k1 a1 =>
              cases t2 with
              | mulL k2 b1 =>
                obtain ⟨c1, c2⟩ := hsim
                have hl1 := (mTm_L fo1.1).1
                have hl2 := (mTm_L fo2.1).1
                have hn3 := (mTm_L fo1.1).2
                have hn0 : eN a1 ≠ 0 := by
                  intro q
                  have : eKd (.mulL k1 a1) = 3 := if_pos q
                  rw [this] at k4
                  exact absurd k4 (by decide)
                obtain ⟨n, p, rfl, e1, e2, e3⟩ := mTm_mul fo1.1
                refine sp_232Q e1 ⟨by omega, by omega, show -2147483648 ≤ _ ∧ _ < 2147483648 by omega, ?_⟩
                rw [e3]
                refine ⟨show -2147483648 ≤ _ ∧ _ < 2147483648 by omega, sp_247_179 hg3 fo1.1 fo2.1 c2 hS3 (by omega) (fun m4 hf4 hS4 => ?_)⟩
                have eqa : ∀ v, (∀ q ∈ ePs a1 b1 (eN a1) (eN a1), sb v q.1 = sb v q.2) ↔ sb v (.mulL k1 a1) = sb v (.mulL k2 b1) := by
                  intro v
                  have hae := ar_eq v a1 b1 hl1 hl2 c2
                  constructor
                  · intro g
                    have := hae.mp (fun i hi => g _ (ePs_in a1 b1 _ _ i (Nat.le_refl _) (by omega) hi))
                    show (.mulL k1 (sb v a1) : pE) = .mulL k2 (sb v b1)
                    rw [c1, this]
                  · intro g q hq
                    have g : (.mulL k1 (sb v a1) : pE) = .mulL k2 (sb v b1) := g
                    injection g with _ g
                    obtain ⟨i, hi, rfl⟩ := ePs_mem a1 b1 _ _ q (Nat.le_refl _) hq
                    exact hae.mpr g i hi
                have hsz : ∀ v, ∀ q ∈ ePs a1 b1 (eN a1) (eN a1), sz (sb v q.1) < sz (sb v (.mulL k1 a1)) := by
                  intro v q hq
                  obtain ⟨i, hi, rfl⟩ := ePs_mem a1 b1 _ _ q (Nat.le_refl _) hq
                  have := ar_sz v a1 i hl1 hi
                  show sz (sb v (eAr a1 i)) < 1 + sz (sb v a1)
                  omega
                have hsum : szs s' ((ePs a1 b1 (eN a1) (eN a1)).map Prod.fst) < sz (sb s' a) := by
                  have g1 := ePs_sum s' a1 b1 (eN a1) hl1 rfl (eN a1) (Nat.le_refl _)
                  have g2 := ar_sum s' a1 hl1
                  rw [so1 s' hR'.sol]
                  show _ < 1 + sz (sb s' a1)
                  omega
                have hfm4 : uFr m m4 := fun a e q1 q2 q3 q4 q5 q6 q7 => (hf4 a e q3).trans (hfm a e q1 q2 q3 q4 q5 q6 q7)
                refine hP (fc B' 2500) _ _ _ ⟨B', s', ePs a1 b1 (eN a1) (eN a1) ++ L, (mQ n p, .mulL k1 a1, (ePs a1 b1 (eN a1) (eN a1)).map Prod.fst) :: ps', [], nb, k', rfl, rfl, rfl, hS4, hfm4, mBd_fr hB3 (fun a e q => hf4 a e (by omega)), hR', hext, fun v hv e => ⟨(hsol v hv e).1, fun q hq => ?_⟩, fun v hv g => hsol2 v hv (fun q hq => ?_), fun u1 u2 q1 q2 e v hv g => ?_, ⟨?_, Or.inr rfl⟩, fun v hv => ⟨⟨k1, a1, rfl⟩, mTm_fr fo1.1 (fun a e q => (hfm a e (by omega) (by omega) (by omega) (by omega) (by omega) (by omega) (by omega)).symm), fun x hx => ?_, fun q hq => ?_, hps2 v hv⟩, ⟨fun q hq => ?_, hps3, fun q hq => ?_⟩, fun q hq => ?_, ⟨⟨by rw [hf4 _ _ (by decide)]; exact hrk3.1, hrk3.2.1, fun v hv => by rw [hf4 _ _ (by decide)]; exact hrk3.2.2 v hv⟩, hkf, fun v hv => (hf4 97 _ (by decide)).trans ((hf3 97 _ (by decide)).trans (h97 v hv))⟩, ⟨⟨by rw [hf4 _ _ (by decide)]; exact htr3.1, fun i hi => by rw [hf4 _ _ (by decide)]; exact htr3.2 i hi⟩, htl', hnd, hnb⟩, by rw [hf4 _ _ (by decide), hf3 _ _ (by decide)]; exact h66, fun e q1 q2 => by rw [hf4 _ _ (by decide)]; exact ht3 e q1 q2⟩ (Or.inr ⟨rfl, ?_⟩)
                · obtain ⟨g6, g7⟩ := hsol v hv e
                  rcases List.mem_append.mp hq with hq | hq
                  · exact (eqa v).mpr ((eqv v g6).mp (g7 (a, b) (List.mem_cons_self ..))) q hq
                  · exact g7 q (List.mem_cons_of_mem _ hq)
                · rcases List.mem_cons.mp hq with rfl | hq
                  · exact (eqv v hv).mpr ((eqa v).mp (fun q' hq' => g q' (List.mem_append_left _ hq')))
                  · exact g q (List.mem_append_right _ hq)
                · rw [hf4 _ _ (by decide)] at e
                  refine hJ3 u1 u2 q1 q2 e v hv (fun q hq => g q (List.mem_append_right _ hq)) (fun hle => (eqv v hv).mpr ((eqa v).mp (fun q' hq' => g q' (List.mem_append_left _ hq') ?_)))
                  have := hsz v q' hq'
                  rw [so1 v hv] at hle
                  omega
                · rw [List.append_nil, List.map_append, hps1]
                  rfl
                · obtain ⟨q, hq, rfl⟩ := List.mem_map.mp hx
                  exact hsz v q hq
                · have := hps4 v hv q hq
                  rw [so1 v hv] at this
                  exact this
                · rcases List.mem_cons.mp hq with rfl | hq
                  · show ((ePs a1 b1 (eN a1) (eN a1)).map Prod.fst).length ≤ eN a1
                    rw [List.length_map, ePs_len]
                    exact Nat.le_refl _
                  · have := hps3 q hq
                    omega
                · rcases List.mem_cons.mp hq with rfl | hq
                  · show 1 ≤ eN a1
                    omega
                  · exact hps5 q hq
                · rcases List.mem_append.mp hq with hq | hq
                  · obtain ⟨i, hi, rfl⟩ := ePs_mem a1 b1 _ _ q (Nat.le_refl _) hq
                    exact ⟨fun z hz => fo1.2.1 z (vIn_ar z a1 i hl1 hi hz), fun z hz => fo2.2.1 z (vIn_ar z b1 i hl2 (by omega) hz)⟩
                  · exact hLD' q hq
                · rw [List.map_append, szs_app, hN]
                  omega
              | num j => exact hsim.elim
              | var w => exact hsim.elim
              | add x y => exact hsim.elim
              | sub x y => exact hsim.elim
              | neg x => exact hsim.elim
              | mulR x y => exact hsim.elim
            | num i => exact absurd (show (2 : Int) = 4 from k4) (by decide)
            | var w => exact absurd (show (1 : Int) = 4 from k4) (by decide)
            | add x y => exact hsim.elim
            | sub x y => exact hsim.elim
            | neg x => exact hsim.elim
            | mulR x y => exact hsim.elim
        -- the look into the table
        have hJold : ∀ u1 u2 : Nat, u1 < 2500 → u2 < 2500 → m' 115 (hsh u1 u2) = kyy ((r : Int) + 1) u1 u2 → ∀ v, Sol B' v → (∀ q ∈ L, sz (sb v q.1) < sz (v u1) → sb v q.1 = sb v q.2) → (sz (sb v a) ≤ sz (v u1) → sb v a = sb v b) → v u1 = v u2 := fun u1 u2 q1 q2 e v hv g1 g2 => hJ u1 u2 q1 q2 e v hv (fun q hq hl => by
          rcases List.mem_cons.mp hq with rfl | hq
          · exact g2 (Nat.le_of_lt hl)
          · exact g1 q hq hl)
        have base : uBd P (L.length : Int) m' Q := fin m' (fun _ _ _ => rfl) h115 hJold
        refine ⟨by omega, by omega, sp_241 hS.1 (fun u1 e1 hu1 => ⟨by omega, by omega, sp_241 hS.2.1 (fun u2 e2 hu2 => sp_246 hu1 hu2 (by omega) ⟨fun _ => base, fun q => absurd rfl q⟩ (fun hkn => ⟨fun q => absurd q (by decide), fun _ => ⟨show -2147483648 ≤ _ ∧ _ < 2147483648 by omega, ?_⟩⟩) (fun b1 b2 hun => ⟨fun _ => ?_, fun q => absurd rfl q⟩)) (fun _ => sp_246n (Or.inr rfl) ⟨fun _ => base, fun q => absurd rfl q⟩)⟩) (fun _ => ⟨by omega, by omega, sp_241 hS.2.1 (fun u2 e2 hu2 => sp_246n (Or.inl rfl) ⟨fun _ => base, fun q => absurd rfl q⟩) (fun _ => sp_246n (Or.inl rfl) ⟨fun _ => base, fun q => absurd rfl q⟩)⟩)⟩
        · -- the pair is known
          rw [h66] at hkn
          have e1 : a = .var u1 := e1
          have e2 : b = .var u2 := e2
          have skip : ∀ v, Sol B' v → (∀ q ∈ L, sz (sb v q.1) < sz (v u1) → sb v q.1 = sb v q.2) → v u1 = v u2 := fun v hv g => hJ u1 u2 hu1 hu2 hkn v hv (fun q hq hl => by
            rcases List.mem_cons.mp hq with rfl | hq
            · exfalso
              have hl : sz (sb v a) < sz (v u1) := hl
              rw [e1] at hl
              exact Nat.lt_irrefl _ hl
            · exact g q hq hl)
          refine keep m' (fun _ _ _ => rfl) h115 (fun u3 u4 q1 q2 e v hv g => hJ u3 u4 q1 q2 e v hv (fun q hq hl => ?_)) (fun v hv g => ?_)
          · rcases List.mem_cons.mp hq with rfl | hq
            · have hl : sz (sb v a) < sz (v u3) := hl
              show sb v a = sb v b
              rw [e1] at hl
              rw [e1, e2]
              exact skip v hv (fun q' hq' hl' => g q' hq' (Nat.lt_trans hl' hl))
            · exact g q hq hl
          · rw [e1, e2]
            exact skip v hv (fun q hq _ => g q hq)
        · -- the pair is new
          rw [h66] at hun ⊢
          have e1 : a = .var u1 := e1
          have e2 : b = .var u2 := e2
          have hh : 0 ≤ hsh u1 u2 ∧ hsh u1 u2 < 4096 := by unfold hsh; omega
          refine fin _ (fun a e q => hy_ua q) (fun e q1 q2 => ?_) (fun u3 u4 q1 q2 e v hv g1 g2 => ?_)
          · by_cases q : e = hsh u1 u2
            · rw [q, hy_us]
              have := (kyy_r (r := (r : Int) + 1) hu1 hu2).2
              omega
            · rw [hy_uk q]
              exact h115 e q1 q2
          · by_cases q : hsh u3 u4 = hsh u1 u2
            · rw [q, hy_us] at e
              obtain ⟨g3, g4⟩ := kyy_inj hu1 hu2 q1 q2 e
              subst g3
              subst g4
              rw [e1, e2] at g2
              exact g2 (Nat.le_refl _)
            · rw [hy_uk q] at e
              exact hJold u3 u4 q1 q2 e v hv g1 g2
  · show mTm G m0 (m0 111 0) ta
    rw [f111]
    exact mTm_fr h1 (fun a e q => f0 a e (by omega) (by omega))
  · show mTm G m0 (m0 111 1) tb
    rw [f111']
    exact mTm_fr h2 (fun a e q => f0 a e (by omega) (by omega))
  · have : q = (ta, tb) := by simpa using hq
    rw [this]
    exact e
  · exfalso
    rw [f0 _ _ (by decide) (by omega)] at e
    have := tb3 (hsh u1 u2) (by unfold hsh; omega) (by unfold hsh; omega)
    have := (kyy_r (r := (r : Int) + 1) q1 q2).1
    omega
  · have : q = (ta, tb) := by simpa using hq
    rw [this]
    exact ⟨hD1, hD2⟩
end UV
