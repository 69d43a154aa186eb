/-! THE CLASS'S ARITHMETIC: a term is computed -/
def aSt (X : cX) (U : uX) (V : aX) (s : Nat → pE) (m0 m : hy_m) : Prop := aFr U V m0 m ∧ (∀ z : Int, m V.2 z ≤ m0 53 7) ∧ ∀ z w : Nat, sV X z w → m V.2 (z : Int) = m0 53 7 → ∃ x, ev0 (s w) = some x ∧ m V.1 (z : Int) = x
/-- what variables may still cost that weren't looked at -/
def aPh (X : cX) (V : aX) (m0 m : hy_m) (pv : List Nat) : Nat := slS (fun z => if m V.2 (z : Int) = m0 53 7 ∨ z ∈ pv then 0 else 123) (8 * xcap X)
def aGo (X : cX) (U : uX) (V : aX) (T : hy_T) (s : Nat → pE) (m0 : hy_m) (Q : Int → hy_m → Prop) (P : Int → Int → hy_m → Prop) (t : pE) (x : Int) : Prop := ∀ (many n k : Nat) (m : hy_m) (pc : List Int) (pv : List Nat) (R : Int → hy_m → Prop), (∀ r m1, P r (k : Int) m1 → R r m1) → aSt X U V s m0 m → m 53 2 = many → m 53 4 = n → many ≤ 2 * pc.length + pv.length → n ≤ pc.length → pc.Nodup → pv.Nodup → (∀ c ∈ pc, ∃ k b, cTm X m0 c (.mulL k b) ∧ oI k (eN b) ≠ -9 ∧ sz (sb s t) < sz (sb s (.mulL k b))) → (∀ z ∈ pv, ∃ w, sV X z w ∧ dLt s t w) → k + aPh X V m0 m pv + 4 * aM t ≤ 999000 → (∀ v m' (k' : Nat), ev0 (sb s t) = some v → aSt X U V s m0 m' → m' 53 2 = many → m' 53 4 = ((n + 1 : Nat) : Int) → (∀ i : Int, 0 ≤ i → i < many → m' (yp U) i = m (yp U) i) → (∀ i : Int, 0 ≤ i → i < n → m' (yq U) i = m (yq U) i) → m' (yq U) (n : Int) = v → k' + aPh X V m0 m' pv ≤ k + aPh X V m0 m pv + 4 * aM t → P 1 (k' : Int) m') → (ev0 (sb s t) = none → ∀ m', aSt X U V s m0 m' → Q 0 m') → wq_31 x T m R
def cAW (X : cX) (m : hy_m) : Prop := ∀ L : List Int, L.Nodup → (∀ c ∈ L, ∃ k b, cTm X m c (.mulL k b) ∧ oI k (eN b) ≠ -9) → L.length ≤ 30 * xcap X
theorem kC_add : kC 1602148 2 = 6605190 := by decide
theorem kC_sub : kC 1899234 2 = 6482894 := by decide
theorem kC_mul : kC 1800940 2 = 7138230 := by decide
theorem kC_op {k : Int} {n : Nat} (h : nmOK k) (hn : n ≤ 3) : (kC k n = 6605190 ↔ oI k n = 0) ∧ (kC k n = 6482894 ↔ oI k n = 1) ∧ (kC k n = 7138230 ↔ oI k n = 2) := by
  have key : ∀ {k' : Int} {c : Int}, nmOK k' → kC k' 2 = c → (kC k n = c ↔ (k = k' ∧ n = 2)) := fun hw hc => ⟨fun e => kC_inj h hw hn (by decide) (e.trans hc.symm), fun ⟨e1, e2⟩ => by rw [e1, e2]; exact hc⟩
  rw [key wOK_add kC_add, key wOK_sub kC_sub, key wOK_mul kC_mul]
  rcases oI_c (k := k) (n := n) with q | ⟨q, ⟨q1, e⟩ | ⟨q1, e⟩ | ⟨q1, e⟩⟩
  · refine ⟨⟨fun z => ?_, fun z => by omega⟩, ⟨fun z => ?_, fun z => by omega⟩, ⟨fun z => ?_, fun z => by omega⟩⟩
    · rw [z.1, z.2] at q
      exact absurd q (by decide)
    · rw [z.1, z.2] at q
      exact absurd q (by decide)
    · rw [z.1, z.2] at q
      exact absurd q (by decide)
  · rw [e]
    omega
  · rw [e]
    omega
  · rw [e]
    omega
section CEV
variable {X : cX} {U : uX} {V : aX} {T : hy_T} {m m0 m' : hy_m} {B : bM} {s : Nat → pE} {Q : Int → hy_m → Prop} {P : Int → Int → hy_m → Prop} {x : Int} {t : pE}
theorem aSt_k {f : hy_m} (h : aSt X U V s m0 m) (hf : aFr U V m f) (h1 : ∀ z, f V.1 z = m V.1 z) (h2 : ∀ z, f V.2 z = m V.2 z) : aSt X U V s m0 f := by
  refine ⟨h.1.tr hf, fun z => by rw [h2]; exact h.2.1 z, fun z w hz hl => ?_⟩
  rw [h2] at hl
  rw [h1]
  exact h.2.2 z w hz hl
theorem aPh_k {f : hy_m} {pv : List Nat} (h2 : ∀ z, f V.2 z = m V.2 z) : aPh X V m0 f pv = aPh X V m0 m pv := by
  unfold aPh
  exact slS_eq _ (fun e _ => by rw [h2])
/-- tasks and values leave the rows of what was kept alone -/
theorem aTk_k (hs : aSep X U V) {n : Nat} {v : Int} : (∀ z, aTk U m n v V.1 z = m V.1 z) ∧ (∀ z, aTk U m n v V.2 z = m V.2 z) ∧ aFr U V m (aTk U m n v) := by
  have hn := hs.ne
  unfold aTk
  refine ⟨fun z => ?_, fun z => ?_, (aFr.row (Or.inl rfl)).tr (aFr.f53 (Or.inl rfl))⟩
  · rw [hy_ua hn.2.2.2.2.2.2.2.2.1, hy_ua (fun q => hn.2.1 q.symm)]
  · rw [hy_ua hn.2.2.2.2.2.2.2.2.2, hy_ua (fun q => hn.2.2.1 q.symm)]
theorem aVl_k (hs : aSep X U V) {n : Nat} {v : Int} : (∀ z, aVl U m n v V.1 z = m V.1 z) ∧ (∀ z, aVl U m n v V.2 z = m V.2 z) ∧ aFr U V m (aVl U m n v) := by
  have hn := hs.ne
  unfold aVl
  refine ⟨fun z => ?_, fun z => ?_, (aFr.row (Or.inr (Or.inl rfl))).tr (aFr.f53 (Or.inr (Or.inl rfl)))⟩
  · rw [hy_ua hn.2.2.2.2.2.2.2.2.1, hy_ua (fun q => hn.2.2.2.1 q.symm)]
  · rw [hy_ua hn.2.2.2.2.2.2.2.2.2, hy_ua (fun q => hn.2.2.2.2.1 q.symm)]
theorem aTk_v (hs : aSep X U V) {n : Nat} {v : Int} : aTk U m n v 53 2 = ((n + 1 : Nat) : Int) ∧ aTk U m n v 53 4 = m 53 4 ∧ (∀ e, aTk U m n v (yq U) e = m (yq U) e) ∧ aTk U m n v (yp U) (n : Int) = v ∧ ∀ e : Int, e ≠ n → aTk U m n v (yp U) e = m (yp U) e := by
  have hn := hs.ne
  unfold aTk
  refine ⟨hy_us .., ?_, fun e => ?_, ?_, fun e he => ?_⟩
  · rw [hy_uk (by decide), hy_ua (fun q => hn.2.2.2.2.2.2.1 q.symm)]
  · rw [hy_ua hn.2.2.2.2.2.2.2.1, hy_ua (fun q => hn.1 q.symm)]
  · rw [hy_ua hn.2.2.2.2.2.2.1, hy_us]
  · rw [hy_ua hn.2.2.2.2.2.2.1, hy_uk he]
theorem aVl_v (hs : aSep X U V) {n : Nat} {v : Int} : aVl U m n v 53 4 = ((n + 1 : Nat) : Int) ∧ aVl U m n v 53 2 = m 53 2 ∧ (∀ e, aVl U m n v (yp U) e = m (yp U) e) ∧ aVl U m n v (yq U) (n : Int) = v ∧ ∀ e : Int, e ≠ n → aVl U m n v (yq U) e = m (yq U) e := by
  have hn := hs.ne
  unfold aVl
  refine ⟨hy_us .., ?_, fun e => ?_, ?_, fun e he => ?_⟩
  · rw [hy_uk (by decide), hy_ua (fun q => hn.2.2.2.2.2.2.2.1 q.symm)]
  · rw [hy_ua hn.2.2.2.2.2.2.1, hy_ua hn.1]
  · rw [hy_ua hn.2.2.2.2.2.2.2.1, hy_us]
  · rw [hy_ua hn.2.2.2.2.2.2.2.1, hy_uk he]
/-- nothing is possible any more -/
theorem aFail {k : Int} (hP : ∀ x2 x3 m, (∀ P' : Int → Int → hy_m → Prop, (∀ a b c, P a b c → P' a b c) → wf_30_28 T Q P' x2 x3 m) → P x2 x3 m) (hs : aSep X U V) (hw : aW X U V T m0) (hc : 0 < xcap X) (hS : aSt X U V s m0 m) (h0 : ∀ m', aSt X U V s m0 m' → Q 0 m') : P 0 k m := by
  have hn := hs.ne
  have hw' := aW_fr hs hS.1 hw
  have fin : ∀ v, aSt X U V s m0 (hy_u m 53 8 v) := fun v => aSt_k hS (aFr.f53 (Or.inr (Or.inr rfl))) (fun z => hy_ua hn.2.2.2.2.2.2.2.2.1) (fun z => hy_ua hn.2.2.2.2.2.2.2.2.2)
  refine hP _ _ _ (fun P' hPP => ?_)
  unfold wf_30_28 wq_30_131
  rw [hw'.2.1.1, Int.toNat_natCast]
  refine ⟨fun _ => ⟨fun _ => ⟨fun _ => h0 _ (fin _), fun q => absurd rfl q⟩, fun _ => ⟨_, hw'.2.1.2, by decide, by omega, fun _ => h0 _ (fin _), fun q => absurd rfl q⟩⟩, fun q => absurd rfl q⟩
/-- the bounds -/
theorem aBd {many n : Nat} {pc : List Int} {pv : List Nat} (hcw : cW X T m') (hW : cAW X m0) (h1 : many ≤ 2 * pc.length + pv.length) (h2 : n ≤ pc.length) (n1 : pc.Nodup) (n2 : pv.Nodup) (hp : ∀ c ∈ pc, ∃ k b, cTm X m0 c (.mulL k b) ∧ oI k (eN b) ≠ -9 ∧ sz (sb s t) < sz (sb s (.mulL k b))) (hv : ∀ z ∈ pv, ∃ w, sV X z w ∧ dLt s t w) : many ≤ 68 * xcap X ∧ n ≤ 30 * xcap X := by
  have a1 := hW pc n1 (fun c hc => by
    obtain ⟨k, b, q1, q2, -⟩ := hp c hc
    exact ⟨k, b, q1, q2⟩)
  have a2 := nd_lt n2 (fun e he => by
    obtain ⟨w, hw, -⟩ := hv e he
    exact sV_lt hcw hw)
  omega
/-- a value stands there at once -/
theorem aGo_v {many n k : Nat} {v : Int} {pv : List Nat} (hs : aSep X U V) (hS : aSt X U V s m0 m) (hw : aW X U V T m) (hc : xcap X ≤ 302) (h2 : m 53 2 = many) (h4 : m 53 4 = n) (hn : n < 60 * xcap X) (hk : ∀ m' (k' : Nat), aSt X U V s m0 m' → m' 53 2 = many → m' 53 4 = ((n + 1 : Nat) : Int) → (∀ i : Int, 0 ≤ i → i < many → m' (yp U) i = m (yp U) i) → (∀ i : Int, 0 ≤ i → i < n → m' (yq U) i = m (yq U) i) → m' (yq U) (n : Int) = v → k' + aPh X V m0 m' pv ≤ k + aPh X V m0 m pv → P 1 (k' : Int) m') {R : Int → hy_m → Prop} (hR : ∀ r m1, P r (k : Int) m1 → R r m1) : wq_36 v T m R := by
  obtain ⟨k1, k2, k3⟩ := aVl_k (m := m) (n := n) (v := v) hs
  obtain ⟨v1, v2, v3, v4, v5⟩ := aVl_v (m := m) (n := n) (v := v) hs
  refine sp_36 hs hw hc h4 hn (hR _ _ (hk _ k (aSt_k hS k3 k1 k2) (v2.trans h2) v1 (fun i _ _ => v3 i) (fun i i1 i2 => v5 i (by omega)) v4 ?_))
  rw [aPh_k k2]
  exact Nat.le_refl _
/-- a task is taken: its kind -/
theorem aPop {many k w v : Nat} (hP : ∀ x2 x3 m, (∀ P' : Int → Int → hy_m → Prop, (∀ a b c, P a b c → P' a b c) → wf_30_28 T Q P' x2 x3 m) → P x2 x3 m) (hw : aW X U V T m) (hc : xcap X ≤ 302) (hn53 : yp U ≠ 53) (h2 : m 53 2 = ((many + 1 : Nat) : Int)) (hm : many < 76 * xcap X) (hk : k < 1000000) (hwk : w < 3) (hv : v < 65536) (ht : m (yp U) (many : Int) = tC w v) (h0 : ∀ P' : Int → Int → hy_m → Prop, (∀ a b c, P a b c → P' a b c) → w = 0 → wq_31 (v : Int) T (hy_u m 53 2 (many : Int)) (fun r m1 => hy_r 0 ((k : Int) + 1) ∧ P' r ((k : Int) + 1) m1)) (h1 : ∀ P' : Int → Int → hy_m → Prop, (∀ a b c, P a b c → P' a b c) → w = 1 → wq_130 (v : Int) T (hy_u m 53 2 (many : Int)) (fun r3 m3 => wq_33 r3 T m3 (fun r4 m4 => hy_r 0 ((k : Int) + 1) ∧ P' r4 ((k : Int) + 1) m4))) (h3 : ∀ P' : Int → Int → hy_m → Prop, (∀ a b c, P a b c → P' a b c) → w = 2 → wq_34 (v : Int) T (hy_u m 53 2 (many : Int)) (fun r2 m2 => hy_r 0 ((k : Int) + 1) ∧ P' r2 ((k : Int) + 1) m2)) : P 1 (k : Int) m := by
  obtain ⟨e1, e2⟩ := tC_w hwk hv
  refine hP _ _ _ (fun P' hPP => ?_)
  unfold wf_30_28
  rw [hw.1.1, Int.toNat_natCast, h2, show ((many + 1 : Nat) : Int) - 1 = (many : Int) by omega, hy_ua hn53, ht, e1, e2]
  refine ⟨fun q => absurd q (by decide), fun _ => ⟨fun q => by omega, fun _ => ⟨fun q => by omega, fun _ => ⟨show -2147483648 ≤ _ ∧ _ < 2147483648 by omega, _, hw.1.2, by omega, by omega, fun q => ⟨fun q2 => h3 P' hPP (by omega), fun q2 => h1 P' hPP (by omega)⟩, fun q => h0 P' hPP (by omega)⟩⟩⟩⟩
end CEV
