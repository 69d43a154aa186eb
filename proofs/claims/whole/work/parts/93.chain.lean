/-! HOW MUCH WAITS ON A STACK: siblings along a path -/
def eNa : pE → Nat
  | .mulL _ b => eN b
  | _ => 0
/-- arguments, beyond the first, of different compounds -/
def mGW (G : Nat → Nat → Prop) (m : hy_m) (W : Nat) : Prop := ∀ xs : List Int, xs.Nodup → (∀ x ∈ xs, ∃ n p : Nat, x = mQ n p ∧ n < 3584 ∧ G n p) → (xs.map (fun x => (m 78 (x % 4096)).toNat - 1)).sum ≤ W
/-- a compound on the path, its tree, and those of its parts that wait -/
abbrev sgq : Type := Int × pE × List pE
def sgs : List sgq → List pE
  | [] => []
  | q :: ps => q.2.2 ++ sgs ps
def chOK (G : Nat → Nat → Prop) (m : hy_m) (v : Nat → pE) : List sgq → Prop
  | [] => True
  | q :: ps => (∃ (k : Int) (b : pE), q.2.1 = .mulL k b) ∧ mTm G m q.1 q.2.1 ∧ (∀ e ∈ q.2.2, sz (sb v e) < sz (sb v q.2.1)) ∧ (∀ q' ∈ ps, sz (sb v q.2.1) < sz (sb v q'.2.1)) ∧ chOK G m v ps
/-- the code of a compound tells its tree -/
theorem mTm_fun {G : Nat → Nat → Prop} {m : hy_m} {x : Int} {k : Int} {b : pE} (h : mTm G m x (.mulL k b)) : ∃ n p : Nat, x = mQ n p ∧ n < 3584 ∧ G n p ∧ m 78 (n : Int) = eN b := by
  rcases h with ⟨v, hv, rfl, e⟩ | ⟨i, hi, rfl, e⟩ | ⟨n, p, nv, u, rfl, hn, hnv, hp, hr, hk, e, hG⟩
  · cases e
  · cases e
  · cases u with
    | mulL k' a =>
      have e : (.mulL k b : pE) = .mulL k' (sb (fun v => .var (p + v)) a) := e
      injection e with e1 e2
      refine ⟨n, p, rfl, hn, hG, ?_⟩
      rw [hr.2.2.2.1, e2, eN_sb _ a nv hk.2.2.2.2.2]
    | var v => cases e
    | num i => cases e
    | add a r => cases e
    | sub a r => cases e
    | neg a => cases e
    | mulR a k => cases e
/-- a node stands for one tree -/
theorem rP_fun {m : hy_m} {A : Int → Prop} {nv : Nat} : ∀ (t t' : pE) (j n : Int) (b : Bool), rP m A t j n → rP m A t' j n → eK nv t b → eK nv t' b → (b = true ↔ 0 ≤ j) → (b = true → eN t = eN t') → t = t'
  | .var v, .var v', j, n, b, h, h', _, _, _, _ => by
    have : ((v : Nat) : Int) = ((v' : Nat) : Int) := h.2.2.2.1.symm.trans h'.2.2.2.1
    have : (v : Nat) = v' := Int.ofNat.inj this
    rw [this]
  | .num i, .num i', j, n, b, h, h', hk, hk', hb, _ => by
    rcases h with h | h
    · rcases h' with h' | h'
      · have : i = i' := h.2.2.2.1.symm.trans h'.2.2.2.1
        rw [this]
      · have := h.1
        have := h'.1
        omega
    · rcases h' with h' | h'
      · have := h.1
        have := h'.1
        omega
      · rw [h.2, h'.2]
  | .mulL k a, .mulL k' a', j, n, b, h, h', hk, hk', hb, _ => by
    have e1 : k = k' := h.2.2.1.symm.trans h'.2.2.1
    have e2 : ((eN a : Nat) : Int) = (eN a' : Nat) := h.2.2.2.1.symm.trans h'.2.2.2.1
    rw [e1, rP_fun a a' 0 n true h.2.2.2.2.2.2 h'.2.2.2.2.2.2 hk.2.2.2.2.2 hk'.2.2.2.2.2 ⟨fun _ => Int.le_refl 0, fun _ => rfl⟩ (fun _ => by omega)]
  | .add a r, .add a' r', j, n, b, h, h', hk, hk', hb, he => by
    have he : eN r + 1 = eN r' + 1 := he hk.1
    have hj := h.1
    rw [rP_fun a a' (-1) _ false h.2.2.1 h'.2.2.1 hk.2.1 hk'.2.1 ⟨(fun q => by cases q), fun q => by omega⟩ (fun q => by cases q), rP_fun r r' (j + 1) n true h.2.2.2 h'.2.2.2 hk.2.2 hk'.2.2 ⟨fun _ => by omega, fun _ => rfl⟩ (fun _ => by omega)]
  | .num i, .add a r, j, n, b, h, h', hk, hk', hb, he => by
    have : 0 = eN r + 1 := he hk'.1
    omega
  | .add a r, .num i, j, n, b, h, h', hk, hk', hb, he => by
    have : eN r + 1 = 0 := he hk.1
    omega
  | .var v, .num i, j, n, b, h, h', hk, hk', hb, he => by
    have h1 := h.1
    rcases h' with h' | h'
    · exact absurd (h.2.2.1.symm.trans h'.2.2.1) (by decide)
    · have := h'.1
      omega
  | .num i, .var v, j, n, b, h, h', hk, hk', hb, he => by
    have h1 := h'.1
    rcases h with h | h
    · exact absurd (h'.2.2.1.symm.trans h.2.2.1) (by decide)
    · have := h.1
      omega
  | .var v, .mulL k a, j, n, b, h, h', hk, hk', hb, he => by
    have e := h.2.2.1.symm.trans h'.2.2.2.2.1
    split at e <;> exact absurd e (by decide)
  | .mulL k a, .var v, j, n, b, h, h', hk, hk', hb, he => by
    have e := h'.2.2.1.symm.trans h.2.2.2.2.1
    split at e <;> exact absurd e (by decide)
  | .num i, .mulL k a, j, n, b, h, h', hk, hk', hb, he => by
    have h1 := h'.1
    rcases h with h | h
    · have e := h.2.2.1.symm.trans h'.2.2.2.2.1
      split at e <;> exact absurd e (by decide)
    · have := h.1
      omega
  | .mulL k a, .num i, j, n, b, h, h', hk, hk', hb, he => by
    have h1 := h.1
    rcases h' with h' | h'
    · have e := h'.2.2.1.symm.trans h.2.2.2.2.1
      split at e <;> exact absurd e (by decide)
    · have := h'.1
      omega
  | .var v, .add a r, j, n, b, h, h', hk, hk', hb, he => by
    have := hk.1.symm.trans hk'.1
    cases this
  | .add a r, .var v, j, n, b, h, h', hk, hk', hb, he => by
    have := hk.1.symm.trans hk'.1
    cases this
  | .mulL k a, .add a' r, j, n, b, h, h', hk, hk', hb, he => by
    have := hk.1.symm.trans hk'.1
    cases this
  | .add a' r, .mulL k a, j, n, b, h, h', hk, hk', hb, he => by
    have := hk.1.symm.trans hk'.1
    cases this
  | .sub _ _, _, _, _, _, h, _, _, _, _, _ => h.elim
  | .neg _, _, _, _, _, h, _, _, _, _, _ => h.elim
  | .mulR _ _, _, _, _, _, h, _, _, _, _, _ => h.elim
  | _, .sub _ _, _, _, _, _, h, _, _, _, _ => h.elim
  | _, .neg _, _, _, _, _, h, _, _, _, _ => h.elim
  | _, .mulR _ _, _, _, _, _, h, _, _, _, _ => h.elim
theorem mTm_one {G : Nat → Nat → Prop} {m : hy_m} {x : Int} {t t' : pE} (h : mTm G m x t) (h' : mTm G m x t') : t = t' := by
  rcases h with ⟨v, hv, e, rfl⟩ | ⟨i, hi, e, rfl⟩ | ⟨n, p, nv, u, e, hn, hnv, hp, hr, hk, rfl, hG⟩
  · rcases h' with ⟨v', hv', e', rfl⟩ | ⟨i', hi', e', rfl⟩ | ⟨n', p', nv', u', e', hn', hnv', hp', hr', hk', rfl, hG'⟩
    · have : v = v' := by rw [e] at e'; unfold mF at e'; omega
      rw [this]
    · exfalso
      have := Int.emod_nonneg i' (b := 4294967296) (by decide)
      rw [e] at e'
      unfold mF mI at e'
      omega
    · exfalso
      rw [e] at e'
      unfold mF mQ at e'
      omega
  · rcases h' with ⟨v', hv', e', rfl⟩ | ⟨i', hi', e', rfl⟩ | ⟨n', p', nv', u', e', hn', hnv', hp', hr', hk', rfl, hG'⟩
    · exfalso
      have := Int.emod_nonneg i (b := 4294967296) (by decide)
      rw [e] at e'
      unfold mF mI at e'
      omega
    · have h1 : -2147483648 ≤ i ∧ i < 2147483648 := hi
      have h2 : -2147483648 ≤ i' ∧ i' < 2147483648 := hi'
      have : i = i' := by rw [e] at e'; unfold mI at e'; omega
      rw [this]
    · exfalso
      have := Int.emod_nonneg i (b := 4294967296) (by decide)
      rw [e] at e'
      unfold mI mQ at e'
      omega
  · rcases h' with ⟨v', hv', e', rfl⟩ | ⟨i', hi', e', rfl⟩ | ⟨n', p', nv', u', e', hn', hnv', hp', hr', hk', rfl, hG'⟩
    · exfalso
      rw [e] at e'
      unfold mF mQ at e'
      omega
    · exfalso
      have := Int.emod_nonneg i' (b := 4294967296) (by decide)
      rw [e] at e'
      unfold mI mQ at e'
      omega
    · have e1 : n = n' ∧ p = p' := by rw [e] at e'; unfold mQ at e'; omega
      obtain ⟨rfl, rfl⟩ := e1
      have : u = u' := rP_fun (nv := 8) u u' (-1) _ false hr hr' (eK_mono hnv _ _ hk) (eK_mono hnv' _ _ hk') ⟨(fun q => by cases q), fun q => by omega⟩ (fun q => by cases q)
      rw [this]
section CHN
variable {G : Nat → Nat → Prop} {m : hy_m} {v : Nat → pE} {W : Nat}
theorem ch_sz : ∀ (ps : List sgq) (x : Int), chOK G m v ps → ∀ q ∈ ps, mTm G m q.1 q.2.1 ∧ ∃ (k : Int) (b : pE), q.2.1 = .mulL k b
  | [], _, _, _, h => by cases h
  | q :: ps, x, h, q', hq => by
    rcases List.mem_cons.mp hq with rfl | hq
    · exact ⟨h.2.1, h.1⟩
    · exact ch_sz ps x h.2.2.2.2 q' hq
theorem ch_nd : ∀ (ps : List sgq), chOK G m v ps → (ps.map Prod.fst).Nodup
  | [], _ => List.nodup_nil
  | q :: ps, h => by
    rw [List.map_cons, List.nodup_cons]
    refine ⟨fun hq => ?_, ch_nd ps h.2.2.2.2⟩
    obtain ⟨q', hq', e⟩ := List.mem_map.mp hq
    have hs := h.2.2.2.1 q' hq'
    have ht := (ch_sz ps 0 h.2.2.2.2 q' hq').1
    rw [e] at ht
    rw [mTm_one h.2.1 ht] at hs
    exact absurd hs (Nat.lt_irrefl _)
theorem ch_w (hW : mGW G m W) (ps : List sgq) (h : chOK G m v ps) : (ps.map (fun q => eNa q.2.1 - 1)).sum ≤ W := by
  have h1 := hW (ps.map Prod.fst) (ch_nd ps h) (fun x hx => by
    obtain ⟨q, hq, rfl⟩ := List.mem_map.mp hx
    obtain ⟨g1, k, b, g2⟩ := ch_sz ps 0 h q hq
    rw [g2] at g1
    obtain ⟨n, p, e1, e2, e3, -⟩ := mTm_fun g1
    exact ⟨n, p, e1, e2, e3⟩)
  rw [List.map_map] at h1
  have e : ps.map (fun q => eNa q.2.1 - 1) = ps.map ((fun x => (m 78 (x % 4096)).toNat - 1) ∘ Prod.fst) := by
    refine List.map_congr_left (fun q hq => ?_)
    obtain ⟨g1, k, b, g2⟩ := ch_sz ps 0 h q hq
    rw [g2] at g1
    obtain ⟨n, p, e1, e2, e3, e4⟩ := mTm_fun g1
    show eNa q.2.1 - 1 = (m 78 (q.1 % 4096)).toNat - 1
    rw [g2, e1, show mQ n p % 4096 = (n : Int) by unfold mQ; omega, e4]
    show eN b - 1 = ((eN b : Nat) : Int).toNat - 1
    rw [Int.toNat_natCast]
  rw [e]
  exact h1
/-- all but the newest have given one away -/
theorem sgs_le : ∀ (ps : List sgq), (∀ q ∈ ps, q.2.2.length + 1 ≤ eNa q.2.1) → (sgs ps).length ≤ (ps.map (fun q => eNa q.2.1 - 1)).sum
  | [], _ => Nat.le_refl _
  | q :: ps, h => by
    have ih := sgs_le ps (fun q' hq => h q' (List.mem_cons_of_mem _ hq))
    have h1 := h q (List.mem_cons_self ..)
    rw [List.map_cons, List.sum_cons]
    show (q.2.2 ++ sgs ps).length ≤ _
    rw [List.length_append]
    omega
end CHN
