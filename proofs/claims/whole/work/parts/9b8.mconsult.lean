/-! CONSULT, IN THE MODEL -/
section MCO
variable {T : hy_T} {m m' : hy_m} {Q : Int → hy_m → Prop} {PL PL' : List pCl} {ss ss' : List Nat} {PH : List (List pCl)} {HS : List (List Nat)} {tx : List Int} {room : Nat}
theorem mLo_z {S : Int → Prop} {a : Nat} {o : Int} {X : List pCl} {s : List Nat} (h : mLo m a o X s) (hz : zFr m m' S) (ha : a = 85 ∨ a = 86) (hS : ∀ sl ∈ s, ¬ S (sl : Int)) : mLo m' a o X s := by
  have he : ∀ e, m' a e = m a e := fun e => hz a e (by omega) (by omega) (by omega) (by omega) (by omega) (by omega) (by omega) (by omega) (by omega) (by omega)
  obtain ⟨p1, p2, p3, p4, p5⟩ := h
  refine ⟨by rw [he]; exact p1, p2, p3, p4, fun i cl s h1 h2 => ?_⟩
  obtain ⟨s1, s2, s3, s4⟩ := p5 i cl s h1 h2
  exact ⟨s1, by rw [he]; exact s2, clR_z s3 hz (hS s (List.mem_of_getElem? h2)), s4⟩
theorem mPz_z {S : Int → Prop} (h : mPz m PL ss PH HS) (hz : zFr m m' S) (hS : ∀ sl : Nat, usF HS ss sl = true → ¬ S (sl : Int)) : mPz m' PL ss PH HS := by
  obtain ⟨p1, p2, p3, p4, p5, p6⟩ := h
  refine ⟨mLo_z p1 hz (Or.inl rfl) (fun sl hs => hS sl (usF_t.mpr (Or.inl hs))), ?_, p3, p4, p5, fun i X s h1 h2 => mLo_z (p6 i X s h1 h2) hz (Or.inr rfl) (fun sl hs => hS sl (usF_t.mpr (Or.inr ⟨s, List.mem_of_getElem? h2, hs⟩)))⟩
  rw [hz 74 13 (by omega) (by omega) (by omega) (by omega) (by omega) (by omega) (by omega) (by omega) (by omega) (by omega)]
  exact p2
theorem aPg_rw (h : aPg m) (hr : mRw m m') : aPg m' := fun sl h1 h2 => by
  obtain ⟨g1, g2⟩ := h sl h1 h2
  exact ⟨fun e e1 e2 => by rw [hr 79 e (by decide) (by decide)]; exact g1 e e1 e2, fun e e1 e2 => by rw [hr 83 e (by decide) (by decide)]; exact g2 e e1 e2⟩
theorem rFr_rw (h : rFr m m') : mRw m m' := fun a e a1 a2 => h.1 a e (by omega) (by omega) (by omega) (by unfold cEx; omega)
set_option maxHeartbeats 4000000 in
theorem sp_207 (hT : mTt T) (h : mPz m PL ss PH HS) (hTx : mTx m tx) (hPg : aPg m) (hroom : PL.length + room = 20) (h0 : ∀ m1 (w : Nat), zFr m m1 (fun s => 0 ≤ s ∧ s ≤ 25 ∧ usF HS ss s.toNat = false) → aPg m1 → cR tx room (sk tx 0) [] (.inl w) → Q (-2) m1) (hq : ∀ cls fs m1 m', cR tx room (sk tx 0) [] (.inr cls) → zFr m m1 (fun s => 0 ≤ s ∧ s ≤ 25 ∧ usF HS ss s.toNat = false) → rFr m1 m' → aPg m' → mPz m' (PL ++ cls) (ss ++ fs) (phN PH PL) (hsN HS ss) → Q (cls.length : Int) m') : wq_207 T m Q := by
  have hl1 := h.1.2.2.1
  have h20 := h.1.2.1
  have hHS := h.2.2.2.1
  have hPH := h.2.2.1
  have hcu := cu_le h.2.2.2.2.1 26
  have hl120 := hTx.2.1
  have hs := sk_le (tx := tx) (p := 0) (Nat.zero_le _)
  unfold wq_207
  refine sp_199c (room := room) (mPz_uOK h) hTx hPg (by rw [h.1.1]; omega) (by omega) (by decide) (fun r m1 z1 pg1 hres => ⟨fun q => ?_, fun q => ?_⟩)
  · obtain ⟨cls, fs, st, hkL, hcls, hcr⟩ : ∃ cls fs st, kL m1 (usF HS ss) cls fs st ∧ cR tx room (sk tx 0) [] (.inr cls) ∧ cls.length ≤ room := by
      rcases hres with ⟨cls, fs, st, -, a, b, c⟩ | ⟨w, e, -⟩
      · exact ⟨cls, fs, st, a, b, c⟩
      · omega
    have hk1 : ∀ c ∈ cls, kOK (some c.1) c.2.1 c.2.2 := by
      obtain ⟨n, hn⟩ := hcls
      exact (cR_R hl120 n room _ [] cls hs.2 (fun c hc => absurd hc (List.not_mem_nil)) hn).1
    have hk2 : ∀ c ∈ cls, nB c.1 := by
      obtain ⟨n, hn⟩ := hcls
      exact cR_H hl120 n room _ [] cls hs.2 (fun c hc => absurd hc (List.not_mem_nil)) hn
    have h1 : mPz m1 PL ss PH HS := mPz_z h z1 (fun sl hu z => by
      have := z.2.2
      rw [Int.toNat_natCast, hu] at this
      cases this)
    obtain ⟨L1, L2, L3, L4, L5, -, -, L8⟩ := hkL
    refine sp_204 hT h1 (fun m2 g1 g2 g3 => ?_)
    have rw2 := rFr_rw g2
    have e27 : m2 74 27 = cls.length := by rw [g2.1 74 27 (by decide) (by decide) (by decide) (by unfold cEx; omega)]; exact L2
    have e91 : ∀ e, m2 91 e = m1 91 e := fun e => g2.1 91 e (by decide) (by decide) (by omega) (by unfold cEx; omega)
    unfold wq_207_19
    refine wL1_rule (Nat.lt_wfRel.wf) (fun x1 m' => ∃ d : Nat, x1 = d ∧ d ≤ cls.length ∧ (∀ (z : Nat) (e : Int), z ≠ 85 → m' z e = m2 z e) ∧ m' 85 0 = ((PL.length + d : Nat) : Int) ∧ (∀ i : Nat, i < PL.length → m' 85 (1 + (i : Int)) = m2 85 (1 + (i : Int))) ∧ ∀ (j : Nat) (f : Nat), j < d → fs[j]? = some f → m' 85 (1 + ((PL.length + j : Nat) : Int)) = (f : Int)) (fun x1 _ => 30 - x1.toNat) ?_ ⟨0, rfl, Nat.zero_le _, fun _ _ _ => rfl, g1.1.1, fun _ _ => rfl, fun j f hj => absurd hj (Nat.not_lt_zero _)⟩
    rintro P x1 m3 ⟨d, rfl, hd, hf, h85, hlo, hhi⟩ hP
    unfold wf_207_19
    rw [hf 74 27 (by decide), e27, hf 91 _ (by decide), e91, h85]
    refine ⟨fun qq => ?_, fun qq => ?_⟩
    · have hdl : d = cls.length := by omega
      subst hdl
      have hrw : mRw m2 m3 := fun a e a1 a2 => hf a e (by omega)
      have hdis : ∀ f ∈ fs, f ∉ ss := fun f hf' hs' => by
        obtain ⟨j, hj⟩ := List.getElem?_of_mem hf'
        have hjl := (List.getElem?_eq_some_iff.mp hj).1
        obtain ⟨-, -, a3, -⟩ := L8 j (by omega) hjl
        have hj2 : fs[j] = f := by
          rw [List.getElem?_eq_getElem hjl] at hj
          injection hj
        rw [hj2, usF_t.mpr (Or.inl hs')] at a3
        cases a3
      refine hq cls fs m1 m3 hcls z1 (rFr_85 g2 hf) (aPg_rw (aPg_rw pg1 rw2) hrw) (mPz_85 g1 hf ⟨?_, ?_, ?_, ?_, fun i cl sl i1 i2 => ?_⟩ ⟨0, fun z hz => Or.inl (List.mem_append.mpr (Or.inl hz))⟩)
      · rw [h85, List.length_append]
      · rw [List.length_append]
        omega
      · rw [List.length_append, List.length_append]
        omega
      · refine List.nodup_append.mpr ⟨h.1.2.2.2.1, L5, fun a ha b hb e => ?_⟩
        subst e
        exact hdis a hb ha
      · rw [show (0 : Int) + 1 + (i : Int) = 1 + (i : Int) by omega]
        by_cases c : i < PL.length
        · rw [List.getElem?_append_left c] at i1
          rw [List.getElem?_append_left (by omega)] at i2
          obtain ⟨s1, s2, s3, s4⟩ := g1.1.2.2.2.2 i cl sl i1 i2
          rw [show (0 : Int) + 1 + (i : Int) = 1 + (i : Int) by omega] at s2
          exact ⟨s1, by rw [hlo i c]; exact s2, clR_rw hrw s3, s4⟩
        · rw [List.getElem?_append_right (by omega)] at i1
          rw [List.getElem?_append_right (by omega), hl1] at i2
          have hj := (List.getElem?_eq_some_iff.mp i1).1
          have hj2 : i - PL.length < fs.length := by omega
          obtain ⟨b1, b2, b3, b4⟩ := L8 (i - PL.length) hj hj2
          have e1 : cls[i - PL.length] = cl := by
            rw [List.getElem?_eq_getElem hj] at i1
            injection i1
          have e2 : fs[i - PL.length] = sl := by
            rw [List.getElem?_eq_getElem hj2] at i2
            injection i2
          have := hhi (i - PL.length) sl hj i2
          rw [show ((PL.length + (i - PL.length) : Nat) : Int) = (i : Int) by omega] at this
          rw [e1, e2] at b4
          rw [e2] at b2
          have hm := List.getElem_mem hj
          rw [e1] at hm
          exact ⟨by omega, this, clR_rw hrw (clR_rw rw2 b4), hk1 cl hm, hk2 cl hm⟩
    · have hdf : d < fs.length := by omega
      obtain ⟨b1, -, -, -⟩ := L8 d (by omega) hdf
      rw [b1]
      refine ⟨by decide, by decide, by decide, by decide, show -2147483648 ≤ _ ∧ _ < 2147483648 by omega, by decide, by decide, by omega, by omega, by omega, by omega, show -2147483648 ≤ _ ∧ _ < 2147483648 by omega, hP _ _ ⟨d + 1, by omega, by omega, fun z e hz => ?_, ?_, fun i hi => ?_, fun j f hj hjf => ?_⟩ ?_⟩
      · rw [hy_ua hz, hy_ua hz]
        exact hf z e hz
      · rw [hy_uk (by omega), hy_us]
        omega
      · rw [hy_uk (by omega), hy_uk (by omega)]
        exact hlo i hi
      · by_cases w : j = d
        · subst w
          rw [List.getElem?_eq_getElem hdf] at hjf
          injection hjf with hjf
          rw [show 1 + ((PL.length + j : Nat) : Int) = ((PL.length + j : Nat) : Int) + 1 by omega, hy_us, hjf]
        · rw [hy_uk (by omega), hy_uk (by omega)]
          exact hhi j f (by omega) hjf
      · show 30 - _ < 30 - _
        omega
  · rcases hres with ⟨cls, fs, st, e, -⟩ | ⟨w, e, hw⟩
    · exact absurd e q
    · exact h0 m1 w z1 pg1 hw
end MCO
