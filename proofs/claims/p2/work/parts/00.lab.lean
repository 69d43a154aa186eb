abbrev hy_m : Type := Nat → Int → Int
abbrev hy_T : Type := (Nat → Option (Nat × Nat)) × (Nat → Nat → Option Nat)
abbrev iI (x : Int) : Int32 := Int32.ofInt x
abbrev jI (x : Int) : Int64 := Int64.ofInt x
def hy_r (q : Nat) (x : Int) : Prop := match q with
  | 1 => -9223372036854775808 ≤ x ∧ x < 9223372036854775808
  | 2 => x = 0 ∨ x = 1
  | 3 => 0 ≤ x
  | 4 => 0 ≤ x ∧ x < 65536
  | _ => -2147483648 ≤ x ∧ x < 2147483648
def hy_u (m : hy_m) (a : Nat) (e v : Int) : hy_m := fun b j => if b = a ∧ j = e then v else m b j
theorem hy_us (m : hy_m) (a : Nat) (e v : Int) : hy_u m a e v a e = v := if_pos ⟨rfl, rfl⟩
theorem hy_ua {m : hy_m} {a b : Nat} {e v j : Int} (h : b ≠ a) : hy_u m a e v b j = m b j := if_neg (fun q => h q.1)
theorem hy_uk {m : hy_m} {a b : Nat} {e v j : Int} (h : j ≠ e) : hy_u m a e v b j = m b j := if_neg (fun q => h q.2)
theorem hy_c {x : Int} (h : (decide (-2147483648 ≤ x) && decide (x < 2147483648)) = true) : hy_r 0 x := by
  rw [Bool.and_eq_true, decide_eq_true_eq, decide_eq_true_eq] at h
  exact h
theorem hy_cl {x : Int} (h : (decide (-9223372036854775808 ≤ x) && decide (x < 9223372036854775808)) = true) : hy_r 1 x := by
  rw [Bool.and_eq_true, decide_eq_true_eq, decide_eq_true_eq] at h
  exact h
theorem hy_20 {x : Int} (h : hy_r 2 x) : hy_r 0 x := by
  have h : x = 0 ∨ x = 1 := h
  show -2147483648 ≤ x ∧ x < 2147483648
  omega
theorem hy_40 {x : Int} (h : hy_r 4 x) : hy_r 0 x := by
  have h : 0 ≤ x ∧ x < 65536 := h
  show -2147483648 ≤ x ∧ x < 2147483648
  omega
theorem hy_01 {x : Int} (h : hy_r 0 x) : hy_r 1 x := by
  have h : -2147483648 ≤ x ∧ x < 2147483648 := h
  show -9223372036854775808 ≤ x ∧ x < 9223372036854775808
  omega
def bi (p : Prop) [Decidable p] : Int := if p then 1 else 0
theorem hy_bi (p : Prop) [Decidable p] : hy_r 2 (bi p) := by
  show bi p = 0 ∨ bi p = 1
  unfold bi
  split
  · exact Or.inr rfl
  · exact Or.inl rfl
theorem bi_1 {p : Prop} [Decidable p] (h : p) : bi p = 1 := if_pos h
theorem bi_0 {p : Prop} [Decidable p] (h : ¬ p) : bi p = 0 := if_neg h
theorem iI_t {x : Int} (h : hy_r 0 x) : (iI x).toInt = x := by
  have h : -2147483648 ≤ x ∧ x < 2147483648 := h
  exact Int32.toInt_ofInt_of_le (by omega) (by omega)
theorem jI_t {x : Int} (h : hy_r 1 x) : (jI x).toInt = x := by
  have h : -9223372036854775808 ≤ x ∧ x < 9223372036854775808 := h
  exact Int64.toInt_ofInt_of_le (by omega) (by omega)
theorem iI_r (w : Int32) : hy_r 0 w.toInt := by
  have h1 := Int32.toInt_lt w
  have h2 := Int32.le_toInt w
  show -2147483648 ≤ w.toInt ∧ w.toInt < 2147483648
  omega
theorem jI_r (w : Int64) : hy_r 1 w.toInt := by
  have h1 := Int64.toInt_lt w
  have h2 := Int64.le_toInt w
  show -9223372036854775808 ≤ w.toInt ∧ w.toInt < 9223372036854775808
  omega
theorem iI_lt {x y : Int} (hx : hy_r 0 x) (hy : hy_r 0 y) : iI x < iI y ↔ x < y := by rw [Int32.lt_iff_toInt_lt, iI_t hx, iI_t hy]
theorem iI_le {x y : Int} (hx : hy_r 0 x) (hy : hy_r 0 y) : iI x ≤ iI y ↔ x ≤ y := by rw [Int32.le_iff_toInt_le, iI_t hx, iI_t hy]
theorem iI_eq {x y : Int} (hx : hy_r 0 x) (hy : hy_r 0 y) : iI x = iI y ↔ x = y := by rw [← Int32.toInt_inj, iI_t hx, iI_t hy]
theorem jI_lt {x y : Int} (hx : hy_r 1 x) (hy : hy_r 1 y) : jI x < jI y ↔ x < y := by rw [Int64.lt_iff_toInt_lt, jI_t hx, jI_t hy]
theorem jI_eq {x y : Int} (hx : hy_r 1 x) (hy : hy_r 1 y) : jI x = jI y ↔ x = y := by rw [← Int64.toInt_inj, jI_t hx, jI_t hy]
def iW (x : Int) : Int := (iI x).toInt
theorem iW_r (x : Int) : hy_r 0 (iW x) := iI_r _
theorem iW_i (x : Int) : iI (iW x) = iI x := Int32.ofInt_toInt _
def iA (x y : Int) : Int := (iI x &&& iI y).toInt
def iO (x y : Int) : Int := (iI x ||| iI y).toInt
def iX (x y : Int) : Int := (iI x ^^^ iI y).toInt
def iSl (x y : Int) : Int := (iI x <<< (iI y &&& 31)).toInt
def iSr (x y : Int) : Int := (iI x >>> (iI y &&& 31)).toInt
def iSu (x y : Int) : Int := ((iI x).toUInt32 >>> ((iI y).toUInt32 &&& Int32.toUInt32 31)).toInt32.toInt
def jA (x y : Int) : Int := (jI x &&& jI y).toInt
def jO (x y : Int) : Int := (jI x ||| jI y).toInt
def jSl (x y : Int) : Int := (jI x <<< ((iI y).toInt64 &&& 63)).toInt
def jSr (x y : Int) : Int := (jI x >>> ((iI y).toInt64 &&& 63)).toInt
def jc (x y : Int) : Int := if y < x then 1 else if x = y then 0 else -1
abbrev sS : Type := hy_T × Nat × Nat × hy_m
abbrev sQ : Type := Int → sS → Prop
theorem hy_div {x y : Int} (h1 : hy_r 1 x) (hx : 0 ≤ x) (hy : 0 < y) : hy_r 1 (x / y) ∧ hy_r 1 (x % y) := by
  have h1 : -9223372036854775808 ≤ x ∧ x < 9223372036854775808 := h1
  have hle : x / y ≤ x := Int.ediv_le_self _ hx
  have h0 : 0 ≤ x / y := Int.ediv_nonneg hx (by omega)
  have h2 : 0 ≤ x % y := Int.emod_nonneg _ (by omega)
  have h3 : x % y ≤ x := by
    have e1 := Int.mul_ediv_add_emod x y
    have e2 : 0 ≤ y * (x / y) := Int.mul_nonneg (by omega) h0
    omega
  exact ⟨show -9223372036854775808 ≤ _ ∧ _ < 9223372036854775808 by omega, show -9223372036854775808 ≤ _ ∧ _ < 9223372036854775808 by omega⟩
theorem hy_div0 {x y : Int} (h1 : hy_r 0 x) (hx : 0 ≤ x) (hy : 0 < y) : hy_r 0 (x / y) := by
  have h1 : -2147483648 ≤ x ∧ x < 2147483648 := h1
  have hle : x / y ≤ x := Int.ediv_le_self _ hx
  have h0 : 0 ≤ x / y := Int.ediv_nonneg hx (by omega)
  exact (show -2147483648 ≤ _ ∧ _ < 2147483648 by omega)
def sU (s : sS) (a : Nat) (e v : Int) : sS := (s.1, s.2.1, s.2.2.1, hy_u s.2.2.2 a e v)
def hy_z (m : hy_m) (a : Nat) : hy_m := fun b k => if b = a then 0 else m b k
def hy_e (T : hy_T) (a t n : Nat) : hy_T := (fun b => if b = a then some (t, n) else T.1 b, T.2)
def sN (s : sS) (t n : Nat) : sS := (hy_e s.1 s.2.1 t n, s.2.1 + 1, s.2.2.1 + n, hy_z s.2.2.2 s.2.1)
theorem hy_r0 (q : Nat) : hy_r q 0 := by
  unfold hy_r
  split
  · omega
  · exact Or.inl rfl
  · omega
  · omega
  · omega
def hy_cp (m : hy_m) (a0 : Nat) (sp : Int) (a : Nat) (dp n : Int) : hy_m := fun b k => if b = a ∧ dp ≤ k ∧ k < dp + n then m a0 (sp + (k - dp)) else m b k
def hy_cq (m : hy_m) (a0 a : Nat) : hy_m := fun b k => if b = a then m a0 k else m b k
def sM (s : sS) (m : hy_m) : sS := (s.1, s.2.1, s.2.2.1, m)
def wL0 (σ : Type) (F : (σ → Prop) → σ → Prop) (s : σ) : Prop := ∀ P : σ → Prop, (∀ s, F P  s → P  s) → P  s
def wL1 (σ : Type) (F : (Int → σ → Prop) → Int → σ → Prop) (x0 : Int) (s : σ) : Prop := ∀ P : Int → σ → Prop, (∀ x0 s, F P x0 s → P x0 s) → P x0 s
def wL2 (σ : Type) (F : (Int → Int → σ → Prop) → Int → Int → σ → Prop) (x0 x1 : Int) (s : σ) : Prop := ∀ P : Int → Int → σ → Prop, (∀ x0 x1 s, F P x0 x1 s → P x0 x1 s) → P x0 x1 s
def wL3 (σ : Type) (F : (Int → Int → Int → σ → Prop) → Int → Int → Int → σ → Prop) (x0 x1 x2 : Int) (s : σ) : Prop := ∀ P : Int → Int → Int → σ → Prop, (∀ x0 x1 x2 s, F P x0 x1 x2 s → P x0 x1 x2 s) → P x0 x1 x2 s
def wL4 (σ : Type) (F : (Int → Int → Int → Int → σ → Prop) → Int → Int → Int → Int → σ → Prop) (x0 x1 x2 x3 : Int) (s : σ) : Prop := ∀ P : Int → Int → Int → Int → σ → Prop, (∀ x0 x1 x2 x3 s, F P x0 x1 x2 x3 s → P x0 x1 x2 x3 s) → P x0 x1 x2 x3 s
def wL5 (σ : Type) (F : (Int → Int → Int → Int → Int → σ → Prop) → Int → Int → Int → Int → Int → σ → Prop) (x0 x1 x2 x3 x4 : Int) (s : σ) : Prop := ∀ P : Int → Int → Int → Int → Int → σ → Prop, (∀ x0 x1 x2 x3 x4 s, F P x0 x1 x2 x3 x4 s → P x0 x1 x2 x3 x4 s) → P x0 x1 x2 x3 x4 s
def wL6 (σ : Type) (F : (Int → Int → Int → Int → Int → Int → σ → Prop) → Int → Int → Int → Int → Int → Int → σ → Prop) (x0 x1 x2 x3 x4 x5 : Int) (s : σ) : Prop := ∀ P : Int → Int → Int → Int → Int → Int → σ → Prop, (∀ x0 x1 x2 x3 x4 x5 s, F P x0 x1 x2 x3 x4 x5 s → P x0 x1 x2 x3 x4 x5 s) → P x0 x1 x2 x3 x4 x5 s
theorem wL0_rule {σ β : Type} {F : (σ → Prop) → σ → Prop} {r : β → β → Prop} (hr : WellFounded r) (Iv : σ → Prop) (μ : σ → β) (hs : ∀ P  s, Iv  s → (∀  t, Iv  t → r (μ  t) (μ  s) → P  t) → F P  s) {s : σ} (h : Iv  s) : wL0 σ F  s := by
  intro P hP
  have : ∀ y  s, μ  s = y → Iv  s → P  s := by
    intro y
    induction y using hr.induction with
    | _ y ih =>
      intro  s ha hi
      refine hP  s (hs P  s hi (fun  t hb hrb => ?_))
      rw [ha] at hrb
      exact ih _ hrb  t rfl hb
  exact this _  s rfl h
theorem wL1_rule {σ β : Type} {F : (Int → σ → Prop) → Int → σ → Prop} {r : β → β → Prop} (hr : WellFounded r) (Iv : Int → σ → Prop) (μ : Int → σ → β) (hs : ∀ P x0 s, Iv x0 s → (∀ y0 t, Iv y0 t → r (μ y0 t) (μ x0 s) → P y0 t) → F P x0 s) {x0 : Int} {s : σ} (h : Iv x0 s) : wL1 σ F x0 s := by
  intro P hP
  have : ∀ y x0 s, μ x0 s = y → Iv x0 s → P x0 s := by
    intro y
    induction y using hr.induction with
    | _ y ih =>
      intro x0 s ha hi
      refine hP x0 s (hs P x0 s hi (fun y0 t hb hrb => ?_))
      rw [ha] at hrb
      exact ih _ hrb y0 t rfl hb
  exact this _ x0 s rfl h
theorem wL2_rule {σ β : Type} {F : (Int → Int → σ → Prop) → Int → Int → σ → Prop} {r : β → β → Prop} (hr : WellFounded r) (Iv : Int → Int → σ → Prop) (μ : Int → Int → σ → β) (hs : ∀ P x0 x1 s, Iv x0 x1 s → (∀ y0 y1 t, Iv y0 y1 t → r (μ y0 y1 t) (μ x0 x1 s) → P y0 y1 t) → F P x0 x1 s) {x0 x1 : Int} {s : σ} (h : Iv x0 x1 s) : wL2 σ F x0 x1 s := by
  intro P hP
  have : ∀ y x0 x1 s, μ x0 x1 s = y → Iv x0 x1 s → P x0 x1 s := by
    intro y
    induction y using hr.induction with
    | _ y ih =>
      intro x0 x1 s ha hi
      refine hP x0 x1 s (hs P x0 x1 s hi (fun y0 y1 t hb hrb => ?_))
      rw [ha] at hrb
      exact ih _ hrb y0 y1 t rfl hb
  exact this _ x0 x1 s rfl h
theorem wL3_rule {σ β : Type} {F : (Int → Int → Int → σ → Prop) → Int → Int → Int → σ → Prop} {r : β → β → Prop} (hr : WellFounded r) (Iv : Int → Int → Int → σ → Prop) (μ : Int → Int → Int → σ → β) (hs : ∀ P x0 x1 x2 s, Iv x0 x1 x2 s → (∀ y0 y1 y2 t, Iv y0 y1 y2 t → r (μ y0 y1 y2 t) (μ x0 x1 x2 s) → P y0 y1 y2 t) → F P x0 x1 x2 s) {x0 x1 x2 : Int} {s : σ} (h : Iv x0 x1 x2 s) : wL3 σ F x0 x1 x2 s := by
  intro P hP
  have : ∀ y x0 x1 x2 s, μ x0 x1 x2 s = y → Iv x0 x1 x2 s → P x0 x1 x2 s := by
    intro y
    induction y using hr.induction with
    | _ y ih =>
      intro x0 x1 x2 s ha hi
      refine hP x0 x1 x2 s (hs P x0 x1 x2 s hi (fun y0 y1 y2 t hb hrb => ?_))
      rw [ha] at hrb
      exact ih _ hrb y0 y1 y2 t rfl hb
  exact this _ x0 x1 x2 s rfl h
theorem wL4_rule {σ β : Type} {F : (Int → Int → Int → Int → σ → Prop) → Int → Int → Int → Int → σ → Prop} {r : β → β → Prop} (hr : WellFounded r) (Iv : Int → Int → Int → Int → σ → Prop) (μ : Int → Int → Int → Int → σ → β) (hs : ∀ P x0 x1 x2 x3 s, Iv x0 x1 x2 x3 s → (∀ y0 y1 y2 y3 t, Iv y0 y1 y2 y3 t → r (μ y0 y1 y2 y3 t) (μ x0 x1 x2 x3 s) → P y0 y1 y2 y3 t) → F P x0 x1 x2 x3 s) {x0 x1 x2 x3 : Int} {s : σ} (h : Iv x0 x1 x2 x3 s) : wL4 σ F x0 x1 x2 x3 s := by
  intro P hP
  have : ∀ y x0 x1 x2 x3 s, μ x0 x1 x2 x3 s = y → Iv x0 x1 x2 x3 s → P x0 x1 x2 x3 s := by
    intro y
    induction y using hr.induction with
    | _ y ih =>
      intro x0 x1 x2 x3 s ha hi
      refine hP x0 x1 x2 x3 s (hs P x0 x1 x2 x3 s hi (fun y0 y1 y2 y3 t hb hrb => ?_))
      rw [ha] at hrb
      exact ih _ hrb y0 y1 y2 y3 t rfl hb
  exact this _ x0 x1 x2 x3 s rfl h
theorem wL5_rule {σ β : Type} {F : (Int → Int → Int → Int → Int → σ → Prop) → Int → Int → Int → Int → Int → σ → Prop} {r : β → β → Prop} (hr : WellFounded r) (Iv : Int → Int → Int → Int → Int → σ → Prop) (μ : Int → Int → Int → Int → Int → σ → β) (hs : ∀ P x0 x1 x2 x3 x4 s, Iv x0 x1 x2 x3 x4 s → (∀ y0 y1 y2 y3 y4 t, Iv y0 y1 y2 y3 y4 t → r (μ y0 y1 y2 y3 y4 t) (μ x0 x1 x2 x3 x4 s) → P y0 y1 y2 y3 y4 t) → F P x0 x1 x2 x3 x4 s) {x0 x1 x2 x3 x4 : Int} {s : σ} (h : Iv x0 x1 x2 x3 x4 s) : wL5 σ F x0 x1 x2 x3 x4 s := by
  intro P hP
  have : ∀ y x0 x1 x2 x3 x4 s, μ x0 x1 x2 x3 x4 s = y → Iv x0 x1 x2 x3 x4 s → P x0 x1 x2 x3 x4 s := by
    intro y
    induction y using hr.induction with
    | _ y ih =>
      intro x0 x1 x2 x3 x4 s ha hi
      refine hP x0 x1 x2 x3 x4 s (hs P x0 x1 x2 x3 x4 s hi (fun y0 y1 y2 y3 y4 t hb hrb => ?_))
      rw [ha] at hrb
      exact ih _ hrb y0 y1 y2 y3 y4 t rfl hb
  exact this _ x0 x1 x2 x3 x4 s rfl h
theorem wL6_rule {σ β : Type} {F : (Int → Int → Int → Int → Int → Int → σ → Prop) → Int → Int → Int → Int → Int → Int → σ → Prop} {r : β → β → Prop} (hr : WellFounded r) (Iv : Int → Int → Int → Int → Int → Int → σ → Prop) (μ : Int → Int → Int → Int → Int → Int → σ → β) (hs : ∀ P x0 x1 x2 x3 x4 x5 s, Iv x0 x1 x2 x3 x4 x5 s → (∀ y0 y1 y2 y3 y4 y5 t, Iv y0 y1 y2 y3 y4 y5 t → r (μ y0 y1 y2 y3 y4 y5 t) (μ x0 x1 x2 x3 x4 x5 s) → P y0 y1 y2 y3 y4 y5 t) → F P x0 x1 x2 x3 x4 x5 s) {x0 x1 x2 x3 x4 x5 : Int} {s : σ} (h : Iv x0 x1 x2 x3 x4 x5 s) : wL6 σ F x0 x1 x2 x3 x4 x5 s := by
  intro P hP
  have : ∀ y x0 x1 x2 x3 x4 x5 s, μ x0 x1 x2 x3 x4 x5 s = y → Iv x0 x1 x2 x3 x4 x5 s → P x0 x1 x2 x3 x4 x5 s := by
    intro y
    induction y using hr.induction with
    | _ y ih =>
      intro x0 x1 x2 x3 x4 x5 s ha hi
      refine hP x0 x1 x2 x3 x4 x5 s (hs P x0 x1 x2 x3 x4 x5 s hi (fun y0 y1 y2 y3 y4 y5 t hb hrb => ?_))
      rw [ha] at hrb
      exact ih _ hrb y0 y1 y2 y3 y4 y5 t rfl hb
  exact this _ x0 x1 x2 x3 x4 x5 s rfl h
