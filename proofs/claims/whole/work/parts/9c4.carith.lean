/-! THE CLASS'S ARITHMETIC: its rows -/
/-- the store's cells are the same, bindings aside -/
def cAg (X : cX) (m m' : hy_m) : Prop := (∀ e, m' 46 e = m 46 e) ∧ (∀ e : Int, e = 1 ∨ e = 4 → m' 41 e = m 41 e) ∧ (∀ e, m' (xc1 X) e = m (xc1 X) e) ∧ ∀ i, xL X i → (∀ e, m' (xA X i) e = m (xA X i) e) ∧ (∀ e, m' (xK0 X i) e = m (xK0 X i) e) ∧ (∀ e, m' (xK1 X i) e = m (xK1 X i) e) ∧ ∀ e, m' (xK2 X i) e = m (xK2 X i) e
/-- rows of the values that were kept, and of when -/
abbrev aX : Type := Nat × Nat
def aRw (U : uX) (V : aX) (a : Nat) : Prop := a = yp U ∨ a = yq U ∨ a = V.1 ∨ a = V.2
def aSep (X : cX) (U : uX) (V : aX) : Prop := (∀ a, aRw U V a → a ≠ 41 ∧ a ≠ 46 ∧ a ≠ 53 ∧ a ≠ xc1 X ∧ a ≠ xb4 X ∧ ∀ i, xL X i → a ≠ xA X i ∧ a ≠ xK0 X i ∧ a ≠ xK1 X i ∧ a ≠ xK2 X i) ∧ [yp U, yq U, V.1, V.2].Nodup ∧ xc1 X ≠ 53 ∧ xb4 X ≠ 53 ∧ ∀ i, xL X i → xA X i ≠ 53 ∧ xK0 X i ≠ 53 ∧ xK1 X i ≠ 53 ∧ xK2 X i ≠ 53
def aW (X : cX) (U : uX) (V : aX) (T : hy_T) (m : hy_m) : Prop := (m 53 1 = yp U ∧ T.1 (yp U) = some (100, 76 * xcap X)) ∧ (m 53 3 = yq U ∧ T.1 (yq U) = some (100, 60 * xcap X)) ∧ (m 53 5 = V.1 ∧ T.1 V.1 = some (100, 8 * xcap X)) ∧ m 53 6 = V.2 ∧ T.1 V.2 = some (100, 8 * xcap X)
def aFr (U : uX) (V : aX) (m m' : hy_m) : Prop := ∀ (a : Nat) (e : Int), ¬ aRw U V a → ¬ (a = 53 ∧ (e = 2 ∨ e = 4 ∨ e = 8)) → m' a e = m a e
section CAA
variable {X : cX} {U : uX} {V : aX} {T : hy_T} {m m' m'' : hy_m} {B : bM} {Q : Int → hy_m → Prop} {x : Int} {t : pE}
theorem cTm_ag (h : cAg X m m') (hx : cTm X m x t) : cTm X m' x t := by
  obtain ⟨h46, -, -, hK⟩ := h
  rcases hx with ⟨j, hj, e, e2, hr⟩ | ⟨i, n, u, hi, e, hn, hc, hk, e2⟩
  · exact Or.inl ⟨j, hj, e, by rw [h46]; exact e2, by rw [h46]; exact hr⟩
  · obtain ⟨-, k0, k1, k2⟩ := hK i hi
    exact Or.inr ⟨i, n, u, hi, e, hn, cP_eq (fun n _ => ⟨k0 _, k1 _, fun j _ _ => k2 _⟩) _ (-1) _ (fun q => by omega) hc, hk, e2⟩
theorem cW_ag (h : cAg X m m') (hw : cW X T m) : cW X T m' := by
  obtain ⟨h46, h41, hc1, hK⟩ := h
  obtain ⟨w1, w2, w3, w4, w5, w6⟩ := hw
  refine ⟨by rw [h41 1 (Or.inl rfl)]; exact w1, w2, w3, by rw [h41 4 (Or.inr rfl)]; exact w4, w5, fun i hi => ?_⟩
  obtain ⟨g1, g2, ⟨k1, k2, k3, k4, k5, k6, k7, k8⟩, g4, g5⟩ := w6 i hi
  obtain ⟨a0, ak, a1, a2⟩ := hK i hi
  exact ⟨g1, by rw [hc1]; exact g2, ⟨k1, by rw [a0]; exact k2, k3, by rw [a0]; exact k4, k5, by rw [a0]; exact k6, k7, k8⟩, g4, g5.1, fun n z j => by rw [ak, a1, a2]; exact g5.2 n z j⟩
theorem cBd_ag (h : cAg X m m') (hb : ∀ e, m' (xb4 X) e = m (xb4 X) e) (hB : cBd X m B) : cBd X m' B := by
  refine ⟨fun i n hi hn => ?_, hB.2⟩
  rw [hb]
  rcases hB.1 i n hi hn with g | ⟨t, g1, g2, g3, g4⟩
  · exact Or.inl g
  · exact Or.inr ⟨t, g1, g2, cTm_ag h g3, g4⟩
theorem cAg.sy (h : cAg X m m') : cAg X m' m := ⟨fun e => (h.1 e).symm, fun e he => (h.2.1 e he).symm, fun e => (h.2.2.1 e).symm, fun i hi => ⟨fun e => ((h.2.2.2 i hi).1 e).symm, fun e => ((h.2.2.2 i hi).2.1 e).symm, fun e => ((h.2.2.2 i hi).2.2.1 e).symm, fun e => ((h.2.2.2 i hi).2.2.2 e).symm⟩⟩
theorem aFr_ag (hs : aSep X U V) (h : aFr U V m m') : cAg X m m' := by
  obtain ⟨s1, s2, s3, s4, s5⟩ := hs
  refine ⟨fun e => h 46 e (fun q => (s1 _ q).2.1 rfl) (by omega), fun e _ => h 41 e (fun q => (s1 _ q).1 rfl) (by omega), fun e => h _ e (fun q => (s1 _ q).2.2.2.1 rfl) (fun q => s3 q.1), fun i hi => ⟨fun e => h _ e (fun q => ((s1 _ q).2.2.2.2.2 i hi).1 rfl) (fun q => (s5 i hi).1 q.1), fun e => h _ e (fun q => ((s1 _ q).2.2.2.2.2 i hi).2.1 rfl) (fun q => (s5 i hi).2.1 q.1), fun e => h _ e (fun q => ((s1 _ q).2.2.2.2.2 i hi).2.2.1 rfl) (fun q => (s5 i hi).2.2.1 q.1), fun e => h _ e (fun q => ((s1 _ q).2.2.2.2.2 i hi).2.2.2 rfl) (fun q => (s5 i hi).2.2.2 q.1)⟩⟩
theorem aFr_b4 (hs : aSep X U V) (h : aFr U V m m') (e : Int) : m' (xb4 X) e = m (xb4 X) e := h _ e (fun q => (hs.1 _ q).2.2.2.2.1 rfl) (fun q => hs.2.2.2.1 q.1)
theorem aFr_53 (hs : aSep X U V) (h : aFr U V m m') {e : Int} (he : ¬ (e = 2 ∨ e = 4 ∨ e = 8)) : m' 53 e = m 53 e := h 53 e (fun q => (hs.1 _ q).2.2.1 rfl) (fun q => he q.2)
theorem aW_fr (hs : aSep X U V) (h : aFr U V m m') (hw : aW X U V T m) : aW X U V T m' := by
  obtain ⟨⟨a1, a2⟩, ⟨a3, a4⟩, ⟨a5, a6⟩, a7, a8⟩ := hw
  exact ⟨⟨by rw [aFr_53 hs h (by decide)]; exact a1, a2⟩, ⟨by rw [aFr_53 hs h (by decide)]; exact a3, a4⟩, ⟨by rw [aFr_53 hs h (by decide)]; exact a5, a6⟩, by rw [aFr_53 hs h (by decide)]; exact a7, a8⟩
theorem aFr.rfl' : aFr U V m m := fun _ _ _ _ => rfl
theorem aFr.tr (h : aFr U V m m') (h' : aFr U V m' m'') : aFr U V m m'' := fun a e q1 q2 => (h' a e q1 q2).trans (h a e q1 q2)
theorem aFr.row {a : Nat} {e v : Int} (ha : aRw U V a) : aFr U V m (hy_u m a e v) := fun a' e' q1 _ => hy_ua (fun q => q1 (q ▸ ha))
theorem aFr.f53 {e v : Int} (he : e = 2 ∨ e = 4 ∨ e = 8) : aFr U V m (hy_u m 53 e v) := fun a' e' _ q2 => hy_uf (fun q => q2 ⟨q.1, q.2 ▸ he⟩)
theorem aSep.ne (hs : aSep X U V) : yp U ≠ yq U ∧ yp U ≠ V.1 ∧ yp U ≠ V.2 ∧ yq U ≠ V.1 ∧ yq U ≠ V.2 ∧ V.1 ≠ V.2 ∧ yp U ≠ 53 ∧ yq U ≠ 53 ∧ V.1 ≠ 53 ∧ V.2 ≠ 53 := by
  have h := hs.2.1
  simp only [List.nodup_cons, List.mem_cons, not_or] at h
  obtain ⟨⟨a1, a2, a3, -⟩, ⟨b1, b2, -⟩, ⟨c1, -⟩, -⟩ := h
  exact ⟨a1, a2, a3, b1, b2, c1, (hs.1 _ (Or.inl rfl)).2.2.1, (hs.1 _ (Or.inr (Or.inl rfl))).2.2.1, (hs.1 _ (Or.inr (Or.inr (Or.inl rfl)))).2.2.1, (hs.1 _ (Or.inr (Or.inr (Or.inr rfl)))).2.2.1⟩
/-- a value is added -/
def aVl (U : uX) (m : hy_m) (n : Nat) (v : Int) : hy_m := hy_u (hy_u m (yq U) (n : Int) v) 53 4 ((n : Int) + 1)
/-- a task is added -/
def aTk (U : uX) (m : hy_m) (n : Nat) (v : Int) : hy_m := hy_u (hy_u m (yp U) (n : Int) v) 53 2 ((n : Int) + 1)
theorem sp_36 {n : Nat} {v : Int} (hs : aSep X U V) (hw : aW X U V T m) (hc : xcap X ≤ 302) (h4 : m 53 4 = n) (hn : n < 60 * xcap X) (hq : Q 1 (aVl U m n v)) : wq_36 v T m Q := by
  unfold wq_36
  rw [hw.2.1.1, Int.toNat_natCast, h4, hy_ua (fun q => hs.ne.2.2.2.2.2.2.2.1 q.symm), h4]
  exact ⟨100, _, hw.2.1.2, by decide, fun _ => ⟨_, hw.2.1.2, by omega, by omega, show -2147483648 ≤ _ ∧ _ < 2147483648 by omega, hq⟩, fun q => by omega⟩
theorem sp_35 {n : Nat} {w v : Int} (hs : aSep X U V) (hw : aW X U V T m) (hc : xcap X ≤ 302) (h4 : m 53 2 = n) (hn : n < 76 * xcap X) (hq : Q 1 (aTk U m n (iO (iSl w 16) v))) : wq_35 w v T m Q := by
  unfold wq_35
  rw [hw.1.1, Int.toNat_natCast, h4, hy_ua (fun q => hs.ne.2.2.2.2.2.2.1 q.symm), h4]
  exact ⟨100, _, hw.1.2, by decide, fun _ => ⟨_, hw.1.2, by omega, by omega, show -2147483648 ≤ _ ∧ _ < 2147483648 by omega, hq⟩, fun q => by omega⟩
/-- tasks: what and whom -/
def tC (w : Nat) (v : Nat) : Int := ((65536 * w + v : Nat) : Int)
theorem tC_o {w v : Nat} (hw : w < 3) (hv : v < 65536) : iO (iSl (w : Int) 16) (v : Int) = tC w v := by
  have e1 := iSl_n (a := w) (k := 16) (by omega) (by omega)
  have e1 : iSl (w : Int) 16 = ((w * 2 ^ 16 : Nat) : Int) := e1
  rw [e1, iO_n (by omega) (by omega), Nat.mul_comm, ← Nat.two_pow_add_eq_or_of_lt (show v < 2 ^ 16 by omega) w]
  rfl
theorem tC_w {w v : Nat} (hw : w < 3) (hv : v < 65536) : iSr (tC w v) 16 = w ∧ iA (tC w v) 65535 = v := by
  unfold tC
  have e1 := iSr_n (x := (((65536 * w + v : Nat)) : Int)) (k := 16) (show -2147483648 ≤ _ ∧ _ < 2147483648 by omega) (by decide)
  have e2 := iA_m (((65536 * w + v : Nat)) : Int) (k := 16) (by omega)
  refine ⟨?_, ?_⟩
  · have e1 : iSr (((65536 * w + v : Nat)) : Int) 16 = (((65536 * w + v : Nat)) : Int) / 65536 := e1
    rw [e1]
    omega
  · rw [show ((2 ^ 16 - 1 : Nat) : Int) = 65535 from rfl, show ((2 ^ 16 : Nat) : Int) = 65536 from rfl] at e2
    rw [e2]
    omega
end CAA
