/-! GLUE: a call of one side at the heap -/
theorem g_call {D : Nat → Bool} {d N : Nat} {f : sFS} {as : List sv} {vs : List Value} {s : sS} {Q : Int → sS → Prop} {h : im_H} (hS : kS D d N 0 f) (ho : okS as) (hv : as.map svV = vs) (hc : scall f as s Q) (hd : d ≤ 11) (hk : kR D h.2.2 h s) : ∃ h1 x s', wp_M 11 N vs h (fun r => r = (h1, some (.int (iI x)))) ∧ kR D h.2.2 h1 s' ∧ Q x s' := by
  obtain ⟨F, r, h1, x, s', k1, k2, k3, k4⟩ := kS_call hS ho hc h.2.2 h hk
  subst hv
  have k2 : r.2 = some (.int (iI x)) := k2
  exact ⟨r.1, x, s', wp_M.deep ⟨F, r, h1, by rw [← k2]⟩ hd, k1, k4⟩
theorem g_ii (w : Int32) : Value.int (iI w.toInt) = .int w := congrArg Value.int (Int32.ofInt_toInt w)
theorem g_ok0 {z : Int} (hz : 0 < z) : okS [((5, true, z) : sv)] := fun q hq => by
  rw [List.mem_singleton.mp hq]
  exact hz
theorem g_ok1 {z : Int} (hz : 0 < z) (w : Int32) : okS [((5, true, z) : sv), (0, true, w.toInt)] := fun q hq => by
  rcases List.mem_cons.mp hq with rfl | hq
  · exact hz
  · rw [List.mem_singleton.mp hq]
    exact fun _ => iI_r w
theorem g_ok2 {z : Int} (hz : 0 < z) (w v : Int32) : okS [((5, true, z) : sv), (0, true, w.toInt), (0, true, v.toInt)] := fun q hq => by
  rcases List.mem_cons.mp hq with rfl | hq
  · exact hz
  · rcases List.mem_cons.mp hq with rfl | hq
    · exact fun _ => iI_r w
    · rw [List.mem_singleton.mp hq]
      exact fun _ => iI_r v
theorem g_v0 {xs : Nat → Int32} {k z : Nat} : [((5, true, (z : Int)) : sv)].map svV = .ref z :: lw_as xs k 0 := rfl
theorem g_v1 {xs : Nat → Int32} {k z : Nat} : [((5, true, (z : Int)) : sv), (0, true, (xs (3 * k + 1)).toInt)].map svV = .ref z :: lw_as xs k 1 := by
  show [Value.ref z, .int (iI (xs (3 * k + 1)).toInt)] = [.ref z, .int (xs (3 * k + 1))]
  rw [g_ii]
theorem g_v2 {xs : Nat → Int32} {k z : Nat} : [((5, true, (z : Int)) : sv), (0, true, (xs (3 * k + 1)).toInt), (0, true, (xs (3 * k + 2)).toInt)].map svV = .ref z :: lw_as xs k 2 := by
  show [Value.ref z, .int (iI (xs (3 * k + 1)).toInt), .int (iI (xs (3 * k + 2)).toInt)] = [.ref z, .int (xs (3 * k + 1)), .int (xs (3 * k + 2))]
  rw [g_ii, g_ii]
/-- what a call of the class leaves -/
def gKc (j : Nat) (a b : Int) (A : jst) (k : Nat) (T : hy_T) (x : Int) (s : sS) : Prop := ∃ A', jS j a b A x A' ∧ jC (k + 1) A' s.1 s.2.1 s.2.2.1 s.2.2.2 ∧ ∀ b y, T.1 b = some y → s.1.1 b = some y
def gKm (j : Nat) (a b : Int) (A : jst) (k : Nat) (T : hy_T) (n u : Nat) (x : Int) (s : sS) : Prop := ∃ A' m', s = (T, n, u, m') ∧ jS j a b A x A' ∧ jM (k + 1) A' m'
theorem g_lt (w : Int32) : w.toInt < 2147483648 := (iI_r w).2
set_option maxRecDepth 4000 in
theorem gc_step {xs : Nat → Int32} {L k : Nat} {A : jst} {T : hy_T} {n u : Nat} {m : hy_m} {h : im_H} (hk : k ≤ 511) (hV : jV k A) (hC : jC k A T n u m) (hR : kR dC h.2.2 h (T, n, u, m)) (j M1 M2 nn : Nat) (hj : lw_ops[j]? = some (M1, M2, nn)) : ∃ h1 x s', wp_M 11 M1 (.ref 1 :: lw_as xs k nn) h (fun r => r = (h1, some (.int (iI x)))) ∧ kR dC h.2.2 h1 s' ∧ gKc j (xs (3 * k + 1)).toInt (xs (3 * k + 2)).toInt A k T x s' := by
  generalize hQ : gKc j (xs (3 * k + 1)).toInt (xs (3 * k + 2)).toInt A k T = Q
  match j, hj, hQ with
  | 0, hj, hQ =>
    have hj : some (1, 200, 1) = some (M1, M2, nn) := hj
    cases hj
    subst hQ
    have hw : we_1 [((5, true, ((1 : Nat) : Int)) : sv), (0, true, (xs (3 * k + 1)).toInt)] (T, n, u, m) (fun x m' => ∃ A', jx0 (xs (3 * k + 1)).toInt A x A' ∧ jC (k + 1) A' T n u m' ∧ jG m m') := jc_0 hV hC
    exact g_call we_1_ok (g_ok1 (by decide) _) g_v1 ⟨_, hw, fun x m' ⟨A', j1, j2, _⟩ => ⟨A', j1, j2, fun _ _ q => q⟩⟩ (by decide) hR
  | 1, hj, hQ =>
    have hj : some (2, 201, 0) = some (M1, M2, nn) := hj
    cases hj
    subst hQ
    have hw : we_2 [((5, true, ((1 : Nat) : Int)) : sv)] (T, n, u, m) (fun x m' => ∃ A', jx1 A x A' ∧ jC (k + 1) A' T n u m' ∧ jG m m') := jc_1 hV hC
    exact g_call we_2_ok (g_ok0 (by decide)) g_v0 ⟨_, hw, fun x m' ⟨A', j1, j2, _⟩ => ⟨A', j1, j2, fun _ _ q => q⟩⟩ (by decide) hR
  | 2, hj, hQ =>
    have hj : some (3, 202, 1) = some (M1, M2, nn) := hj
    cases hj
    subst hQ
    have hw : we_3 [((5, true, ((1 : Nat) : Int)) : sv), (0, true, (xs (3 * k + 1)).toInt)] (T, n, u, m) (fun x m' => ∃ A', jx2 (xs (3 * k + 1)).toInt A x A' ∧ jC (k + 1) A' T n u m' ∧ jG m m') := jc_2 hV hC
    exact g_call we_3_ok (g_ok1 (by decide) _) g_v1 ⟨_, hw, fun x m' ⟨A', j1, j2, _⟩ => ⟨A', j1, j2, fun _ _ q => q⟩⟩ (by decide) hR
  | 3, hj, hQ =>
    have hj : some (4, 207, 0) = some (M1, M2, nn) := hj
    cases hj
    subst hQ
    have hw : we_4 [((5, true, ((1 : Nat) : Int)) : sv)] (T, n, u, m) (fun x s' => ∃ A', jx3 A x A' ∧ jC (k + 1) A' s'.1 s'.2.1 s'.2.2.1 s'.2.2.2 ∧ jG m s'.2.2.2 ∧ ∀ b y, T.1 b = some y → s'.1.1 b = some y) := jc_3 hV hC
    exact g_call we_4_ok (g_ok0 (by decide)) g_v0 ⟨_, hw, fun x s' ⟨A', j1, j2, _, j4⟩ => ⟨A', j1, j2, j4⟩⟩ (by decide) hR
  | 4, hj, hQ =>
    have hj : some (5, 208, 1) = some (M1, M2, nn) := hj
    cases hj
    subst hQ
    have hw : we_5 [((5, true, ((1 : Nat) : Int)) : sv), (0, true, (xs (3 * k + 1)).toInt)] (T, n, u, m) (fun x m' => ∃ A', jx4 (xs (3 * k + 1)).toInt A x A' ∧ jC (k + 1) A' T n u m' ∧ jG m m') := jc_4 hV hC
    exact g_call we_5_ok (g_ok1 (by decide) _) g_v1 ⟨_, hw, fun x m' ⟨A', j1, j2, _⟩ => ⟨A', j1, j2, fun _ _ q => q⟩⟩ (by decide) hR
  | 5, hj, hQ =>
    have hj : some (6, 209, 2) = some (M1, M2, nn) := hj
    cases hj
    subst hQ
    have hw : we_6 [((5, true, ((1 : Nat) : Int)) : sv), (0, true, (xs (3 * k + 1)).toInt), (0, true, (xs (3 * k + 2)).toInt)] (T, n, u, m) (fun x m' => ∃ A', jx5 (xs (3 * k + 1)).toInt (xs (3 * k + 2)).toInt A x A' ∧ jC (k + 1) A' T n u m' ∧ jG m m') := jc_5 hV hC
    exact g_call we_6_ok (g_ok2 (by decide) _ _) g_v2 ⟨_, hw, fun x m' ⟨A', j1, j2, _⟩ => ⟨A', j1, j2, fun _ _ q => q⟩⟩ (by decide) hR
  | 6, hj, hQ =>
    have hj : some (7, 210, 0) = some (M1, M2, nn) := hj
    cases hj
    subst hQ
    have hw : we_7 [((5, true, ((1 : Nat) : Int)) : sv)] (T, n, u, m) (fun x m' => ∃ A', jx6 A x A' ∧ jC (k + 1) A' T n u m' ∧ jG m m') := jc_6 hV hC
    exact g_call we_7_ok (g_ok0 (by decide)) g_v0 ⟨_, hw, fun x m' ⟨A', j1, j2, _⟩ => ⟨A', j1, j2, fun _ _ q => q⟩⟩ (by decide) hR
  | 7, hj, hQ =>
    have hj : some (8, 219, 1) = some (M1, M2, nn) := hj
    cases hj
    subst hQ
    have hw : we_8 [((5, true, ((1 : Nat) : Int)) : sv), (0, true, (xs (3 * k + 1)).toInt)] (T, n, u, m) (fun x m' => ∃ A', jx7 (xs (3 * k + 1)).toInt A x A' ∧ jC (k + 1) A' T n u m' ∧ jG m m') := jc_7 hV hC
    exact g_call we_8_ok (g_ok1 (by decide) _) g_v1 ⟨_, hw, fun x m' ⟨A', j1, j2, _⟩ => ⟨A', j1, j2, fun _ _ q => q⟩⟩ (by decide) hR
  | 8, hj, hQ =>
    have hj : some (9, 223, 2) = some (M1, M2, nn) := hj
    cases hj
    subst hQ
    have hw : we_9 [((5, true, ((1 : Nat) : Int)) : sv), (0, true, (xs (3 * k + 1)).toInt), (0, true, (xs (3 * k + 2)).toInt)] (T, n, u, m) (fun x m' => ∃ A', jx8 (xs (3 * k + 1)).toInt (xs (3 * k + 2)).toInt A x A' ∧ jC (k + 1) A' T n u m' ∧ jG m m') := jc_8 hV hC
    exact g_call we_9_ok (g_ok2 (by decide) _ _) g_v2 ⟨_, hw, fun x m' ⟨A', j1, j2, _⟩ => ⟨A', j1, j2, fun _ _ q => q⟩⟩ (by decide) hR
  | 9, hj, hQ =>
    have hj : some (10, 296, 2) = some (M1, M2, nn) := hj
    cases hj
    subst hQ
    have hw : we_10 [((5, true, ((1 : Nat) : Int)) : sv), (0, true, (xs (3 * k + 1)).toInt), (0, true, (xs (3 * k + 2)).toInt)] (T, n, u, m) (fun x m' => ∃ A', jx9 (xs (3 * k + 1)).toInt (xs (3 * k + 2)).toInt A x A' ∧ jC (k + 1) A' T n u m' ∧ jG m m') := jc_9 hV hC
    exact g_call we_10_ok (g_ok2 (by decide) _ _) g_v2 ⟨_, hw, fun x m' ⟨A', j1, j2, _⟩ => ⟨A', j1, j2, fun _ _ q => q⟩⟩ (by decide) hR
  | 10, hj, hQ =>
    have hj : some (11, 225, 1) = some (M1, M2, nn) := hj
    cases hj
    subst hQ
    have hw : we_11 [((5, true, ((1 : Nat) : Int)) : sv), (0, true, (xs (3 * k + 1)).toInt)] (T, n, u, m) (fun x m' => ∃ A', jx10 (xs (3 * k + 1)).toInt A x A' ∧ jC (k + 1) A' T n u m' ∧ jG m m') := jc_10 hV hC
    exact g_call we_11_ok (g_ok1 (by decide) _) g_v1 ⟨_, hw, fun x m' ⟨A', j1, j2, _⟩ => ⟨A', j1, j2, fun _ _ q => q⟩⟩ (by decide) hR
  | 11, hj, hQ =>
    have hj : some (12, 228, 2) = some (M1, M2, nn) := hj
    cases hj
    subst hQ
    have hw : we_12 [((5, true, ((1 : Nat) : Int)) : sv), (0, true, (xs (3 * k + 1)).toInt), (0, true, (xs (3 * k + 2)).toInt)] (T, n, u, m) (fun x m' => ∃ A', jx11 (xs (3 * k + 1)).toInt (xs (3 * k + 2)).toInt A x A' ∧ jC (k + 1) A' T n u m' ∧ jG m m') := jc_11 hV hC
    exact g_call we_12_ok (g_ok2 (by decide) _ _) g_v2 ⟨_, hw, fun x m' ⟨A', j1, j2, _⟩ => ⟨A', j1, j2, fun _ _ q => q⟩⟩ (by decide) hR
  | 12, hj, hQ =>
    have hj : some (13, 276, 0) = some (M1, M2, nn) := hj
    cases hj
    subst hQ
    have hw : we_13 [((5, true, ((1 : Nat) : Int)) : sv)] (T, n, u, m) (fun x s' => ∃ A', jx12 A x A' ∧ jC (k + 1) A' s'.1 s'.2.1 s'.2.2.1 s'.2.2.2 ∧ jG m s'.2.2.2 ∧ ∀ b y, T.1 b = some y → s'.1.1 b = some y) := jc_12 hV hC
    exact g_call we_13_ok (g_ok0 (by decide)) g_v0 ⟨_, hw, fun x s' ⟨A', j1, j2, _, j4⟩ => ⟨A', j1, j2, j4⟩⟩ (by decide) hR
  | 13, hj, hQ =>
    have hj : some (14, 275, 1) = some (M1, M2, nn) := hj
    cases hj
    subst hQ
    have hw : we_14 [((5, true, ((1 : Nat) : Int)) : sv), (0, true, (xs (3 * k + 1)).toInt)] (T, n, u, m) (fun x s' => ∃ A', jx13 (xs (3 * k + 1)).toInt A x A' ∧ jC (k + 1) A' s'.1 s'.2.1 s'.2.2.1 s'.2.2.2 ∧ jG m s'.2.2.2 ∧ ∀ b y, T.1 b = some y → s'.1.1 b = some y) := jc_13 (by omega) hV hC
    exact g_call we_14_ok (g_ok1 (by decide) _) g_v1 ⟨_, hw, fun x s' ⟨A', j1, j2, _, j4⟩ => ⟨A', j1, j2, j4⟩⟩ (by decide) hR
  | 14, hj, hQ =>
    have hj : some (15, 277, 0) = some (M1, M2, nn) := hj
    cases hj
    subst hQ
    have hw : we_15 [((5, true, ((1 : Nat) : Int)) : sv)] (T, n, u, m) (fun x m' => ∃ A', jx14 A x A' ∧ jC (k + 1) A' T n u m' ∧ jG m m') := jc_14 hV hC
    exact g_call we_15_ok (g_ok0 (by decide)) g_v0 ⟨_, hw, fun x m' ⟨A', j1, j2, _⟩ => ⟨A', j1, j2, fun _ _ q => q⟩⟩ (by decide) hR
  | 15, hj, hQ =>
    have hj : some (16, 282, 1) = some (M1, M2, nn) := hj
    cases hj
    subst hQ
    have hw : we_16 [((5, true, ((1 : Nat) : Int)) : sv), (0, true, (xs (3 * k + 1)).toInt)] (T, n, u, m) (fun x m' => ∃ A', jx15 (xs (3 * k + 1)).toInt A x A' ∧ jC (k + 1) A' T n u m' ∧ jG m m') := jc_15 hV hC
    exact g_call we_16_ok (g_ok1 (by decide) _) g_v1 ⟨_, hw, fun x m' ⟨A', j1, j2, _⟩ => ⟨A', j1, j2, fun _ _ q => q⟩⟩ (by decide) hR
  | 16, hj, hQ =>
    have hj : some (17, 285, 2) = some (M1, M2, nn) := hj
    cases hj
    subst hQ
    have hw : we_17 [((5, true, ((1 : Nat) : Int)) : sv), (0, true, (xs (3 * k + 1)).toInt), (0, true, (xs (3 * k + 2)).toInt)] (T, n, u, m) (fun x m' => ∃ A', jx16 (xs (3 * k + 1)).toInt (xs (3 * k + 2)).toInt A x A' ∧ jC (k + 1) A' T n u m' ∧ jG m m') := jc_16 hV hC
    exact g_call we_17_ok (g_ok2 (by decide) _ _) g_v2 ⟨_, hw, fun x m' ⟨A', j1, j2, _⟩ => ⟨A', j1, j2, fun _ _ q => q⟩⟩ (by decide) hR
  | 17, hj, hQ =>
    have hj : some (18, 297, 2) = some (M1, M2, nn) := hj
    cases hj
    subst hQ
    have hw : we_18 [((5, true, ((1 : Nat) : Int)) : sv), (0, true, (xs (3 * k + 1)).toInt), (0, true, (xs (3 * k + 2)).toInt)] (T, n, u, m) (fun x m' => ∃ A', jx17 (xs (3 * k + 1)).toInt (xs (3 * k + 2)).toInt A x A' ∧ jC (k + 1) A' T n u m' ∧ jG m m') := jc_17 hV hC
    exact g_call we_18_ok (g_ok2 (by decide) _ _) g_v2 ⟨_, hw, fun x m' ⟨A', j1, j2, _⟩ => ⟨A', j1, j2, fun _ _ q => q⟩⟩ (by decide) hR
  | 18, hj, hQ =>
    have hj : some (19, 298, 1) = some (M1, M2, nn) := hj
    cases hj
    subst hQ
    have hw : we_19 [((5, true, ((1 : Nat) : Int)) : sv), (0, true, (xs (3 * k + 1)).toInt)] (T, n, u, m) (fun x m' => ∃ A', jx18 (xs (3 * k + 1)).toInt A x A' ∧ jC (k + 1) A' T n u m' ∧ jG m m') := jc_18 hV hC
    exact g_call we_19_ok (g_ok1 (by decide) _) g_v1 ⟨_, hw, fun x m' ⟨A', j1, j2, _⟩ => ⟨A', j1, j2, fun _ _ q => q⟩⟩ (by decide) hR
  | 19, hj, hQ =>
    have hj : some (20, 300, 2) = some (M1, M2, nn) := hj
    cases hj
    subst hQ
    have hw : we_20 [((5, true, ((1 : Nat) : Int)) : sv), (0, true, (xs (3 * k + 1)).toInt), (0, true, (xs (3 * k + 2)).toInt)] (T, n, u, m) (fun x m' => ∃ A', jx19 (xs (3 * k + 1)).toInt (xs (3 * k + 2)).toInt A x A' ∧ jC (k + 1) A' T n u m' ∧ jG m m') := jc_19 hV hC
    exact g_call we_20_ok (g_ok2 (by decide) _ _) g_v2 ⟨_, hw, fun x m' ⟨A', j1, j2, _⟩ => ⟨A', j1, j2, fun _ _ q => q⟩⟩ (by decide) hR
  | 20, hj, hQ =>
    have hj : some (21, 302, 2) = some (M1, M2, nn) := hj
    cases hj
    subst hQ
    have hw : we_21 [((5, true, ((1 : Nat) : Int)) : sv), (0, true, (xs (3 * k + 1)).toInt), (0, true, (xs (3 * k + 2)).toInt)] (T, n, u, m) (fun x m' => ∃ A', jx20 (xs (3 * k + 1)).toInt (xs (3 * k + 2)).toInt A x A' ∧ jC (k + 1) A' T n u m' ∧ jG m m') := jc_20 (g_lt _) hV hC
    exact g_call we_21_ok (g_ok2 (by decide) _ _) g_v2 ⟨_, hw, fun x m' ⟨A', j1, j2, _⟩ => ⟨A', j1, j2, fun _ _ q => q⟩⟩ (by decide) hR
  | i + 21, hj, _ =>
    rw [List.getElem?_eq_none (show lw_ops.length ≤ i + 21 from Nat.le_add_left 21 i)] at hj
    cases hj
set_option maxRecDepth 4000 in
theorem gm_step {xs : Nat → Int32} {L k : Nat} {A : jst} {T : hy_T} {n u : Nat} {m : hy_m} {h : im_H} (hk : k ≤ 511) (hT : mTt T) (hV : jV k A) (hM : jM k A m) (hR : kR dM h.2.2 h (T, n, u, m)) (j M1 M2 nn : Nat) (hj : lw_ops[j]? = some (M1, M2, nn)) : ∃ h1 x s', wp_M 11 M2 (.ref 74 :: lw_as xs k nn) h (fun r => r = (h1, some (.int (iI x)))) ∧ kR dM h.2.2 h1 s' ∧ gKm j (xs (3 * k + 1)).toInt (xs (3 * k + 2)).toInt A k T n u x s' := by
  generalize hQ : gKm j (xs (3 * k + 1)).toInt (xs (3 * k + 2)).toInt A k T n u = Q
  match j, hj, hQ with
  | 0, hj, hQ =>
    have hj : some (1, 200, 1) = some (M1, M2, nn) := hj
    cases hj
    subst hQ
    have hw : we_200 [((5, true, ((74 : Nat) : Int)) : sv), (0, true, (xs (3 * k + 1)).toInt)] (T, n, u, m) (fun x m' => ∃ A', jx0 (xs (3 * k + 1)).toInt A x A' ∧ jM (k + 1) A' m') := jm_0 hV hM
    exact g_call we_200_ok (g_ok1 (by decide) _) g_v1 ⟨_, hw, fun x m' ⟨A', j1, j2⟩ => ⟨A', m', rfl, j1, j2⟩⟩ (by decide) hR
  | 1, hj, hQ =>
    have hj : some (2, 201, 0) = some (M1, M2, nn) := hj
    cases hj
    subst hQ
    have hw : we_201 [((5, true, ((74 : Nat) : Int)) : sv)] (T, n, u, m) (fun x m' => ∃ A', jx1 A x A' ∧ jM (k + 1) A' m') := jm_1 hV hM
    exact g_call we_201_ok (g_ok0 (by decide)) g_v0 ⟨_, hw, fun x m' ⟨A', j1, j2⟩ => ⟨A', m', rfl, j1, j2⟩⟩ (by decide) hR
  | 2, hj, hQ =>
    have hj : some (3, 202, 1) = some (M1, M2, nn) := hj
    cases hj
    subst hQ
    have hw : we_202 [((5, true, ((74 : Nat) : Int)) : sv), (0, true, (xs (3 * k + 1)).toInt)] (T, n, u, m) (fun x m' => ∃ A', jx2 (xs (3 * k + 1)).toInt A x A' ∧ jM (k + 1) A' m') := jm_2 hV hM
    exact g_call we_202_ok (g_ok1 (by decide) _) g_v1 ⟨_, hw, fun x m' ⟨A', j1, j2⟩ => ⟨A', m', rfl, j1, j2⟩⟩ (by decide) hR
  | 3, hj, hQ =>
    have hj : some (4, 207, 0) = some (M1, M2, nn) := hj
    cases hj
    subst hQ
    have hw : we_207 [((5, true, ((74 : Nat) : Int)) : sv)] (T, n, u, m) (fun x m' => ∃ A', jx3 A x A' ∧ jM (k + 1) A' m') := jm_3 hT hV hM
    exact g_call we_207_ok (g_ok0 (by decide)) g_v0 ⟨_, hw, fun x m' ⟨A', j1, j2⟩ => ⟨A', m', rfl, j1, j2⟩⟩ (by decide) hR
  | 4, hj, hQ =>
    have hj : some (5, 208, 1) = some (M1, M2, nn) := hj
    cases hj
    subst hQ
    have hw : we_208 [((5, true, ((74 : Nat) : Int)) : sv), (0, true, (xs (3 * k + 1)).toInt)] (T, n, u, m) (fun x m' => ∃ A', jx4 (xs (3 * k + 1)).toInt A x A' ∧ jM (k + 1) A' m') := jm_4 hT hV hM
    exact g_call we_208_ok (g_ok1 (by decide) _) g_v1 ⟨_, hw, fun x m' ⟨A', j1, j2⟩ => ⟨A', m', rfl, j1, j2⟩⟩ (by decide) hR
  | 5, hj, hQ =>
    have hj : some (6, 209, 2) = some (M1, M2, nn) := hj
    cases hj
    subst hQ
    have hw : we_209 [((5, true, ((74 : Nat) : Int)) : sv), (0, true, (xs (3 * k + 1)).toInt), (0, true, (xs (3 * k + 2)).toInt)] (T, n, u, m) (fun x m' => ∃ A', jx5 (xs (3 * k + 1)).toInt (xs (3 * k + 2)).toInt A x A' ∧ jM (k + 1) A' m') := jm_5 hT hV hM
    exact g_call we_209_ok (g_ok2 (by decide) _ _) g_v2 ⟨_, hw, fun x m' ⟨A', j1, j2⟩ => ⟨A', m', rfl, j1, j2⟩⟩ (by decide) hR
  | 6, hj, hQ =>
    have hj : some (7, 210, 0) = some (M1, M2, nn) := hj
    cases hj
    subst hQ
    have hw : we_210 [((5, true, ((74 : Nat) : Int)) : sv)] (T, n, u, m) (fun x m' => ∃ A', jx6 A x A' ∧ jM (k + 1) A' m') := jm_6 hT hV hM
    exact g_call we_210_ok (g_ok0 (by decide)) g_v0 ⟨_, hw, fun x m' ⟨A', j1, j2⟩ => ⟨A', m', rfl, j1, j2⟩⟩ (by decide) hR
  | 7, hj, hQ =>
    have hj : some (8, 219, 1) = some (M1, M2, nn) := hj
    cases hj
    subst hQ
    have hw : we_219 [((5, true, ((74 : Nat) : Int)) : sv), (0, true, (xs (3 * k + 1)).toInt)] (T, n, u, m) (fun x m' => ∃ A', jx7 (xs (3 * k + 1)).toInt A x A' ∧ jM (k + 1) A' m') := jm_7 hV hM
    exact g_call we_219_ok (g_ok1 (by decide) _) g_v1 ⟨_, hw, fun x m' ⟨A', j1, j2⟩ => ⟨A', m', rfl, j1, j2⟩⟩ (by decide) hR
  | 8, hj, hQ =>
    have hj : some (9, 223, 2) = some (M1, M2, nn) := hj
    cases hj
    subst hQ
    have hw : we_223 [((5, true, ((74 : Nat) : Int)) : sv), (0, true, (xs (3 * k + 1)).toInt), (0, true, (xs (3 * k + 2)).toInt)] (T, n, u, m) (fun x m' => ∃ A', jx8 (xs (3 * k + 1)).toInt (xs (3 * k + 2)).toInt A x A' ∧ jM (k + 1) A' m') := jm_8 hV hM
    exact g_call we_223_ok (g_ok2 (by decide) _ _) g_v2 ⟨_, hw, fun x m' ⟨A', j1, j2⟩ => ⟨A', m', rfl, j1, j2⟩⟩ (by decide) hR
  | 9, hj, hQ =>
    have hj : some (10, 296, 2) = some (M1, M2, nn) := hj
    cases hj
    subst hQ
    have hw : we_296 [((5, true, ((74 : Nat) : Int)) : sv), (0, true, (xs (3 * k + 1)).toInt), (0, true, (xs (3 * k + 2)).toInt)] (T, n, u, m) (fun x m' => ∃ A', jx9 (xs (3 * k + 1)).toInt (xs (3 * k + 2)).toInt A x A' ∧ jM (k + 1) A' m') := jm_9 hV hM
    exact g_call we_296_ok (g_ok2 (by decide) _ _) g_v2 ⟨_, hw, fun x m' ⟨A', j1, j2⟩ => ⟨A', m', rfl, j1, j2⟩⟩ (by decide) hR
  | 10, hj, hQ =>
    have hj : some (11, 225, 1) = some (M1, M2, nn) := hj
    cases hj
    subst hQ
    have hw : we_225 [((5, true, ((74 : Nat) : Int)) : sv), (0, true, (xs (3 * k + 1)).toInt)] (T, n, u, m) (fun x m' => ∃ A', jx10 (xs (3 * k + 1)).toInt A x A' ∧ jM (k + 1) A' m') := jm_10 hV hM
    exact g_call we_225_ok (g_ok1 (by decide) _) g_v1 ⟨_, hw, fun x m' ⟨A', j1, j2⟩ => ⟨A', m', rfl, j1, j2⟩⟩ (by decide) hR
  | 11, hj, hQ =>
    have hj : some (12, 228, 2) = some (M1, M2, nn) := hj
    cases hj
    subst hQ
    have hw : we_228 [((5, true, ((74 : Nat) : Int)) : sv), (0, true, (xs (3 * k + 1)).toInt), (0, true, (xs (3 * k + 2)).toInt)] (T, n, u, m) (fun x m' => ∃ A', jx11 (xs (3 * k + 1)).toInt (xs (3 * k + 2)).toInt A x A' ∧ jM (k + 1) A' m') := jm_11 hV hM
    exact g_call we_228_ok (g_ok2 (by decide) _ _) g_v2 ⟨_, hw, fun x m' ⟨A', j1, j2⟩ => ⟨A', m', rfl, j1, j2⟩⟩ (by decide) hR
  | 12, hj, hQ =>
    have hj : some (13, 276, 0) = some (M1, M2, nn) := hj
    cases hj
    subst hQ
    have hw : we_276 [((5, true, ((74 : Nat) : Int)) : sv)] (T, n, u, m) (fun x m' => ∃ A', jx12 A x A' ∧ jM (k + 1) A' m') := jm_12 hV hM
    exact g_call we_276_ok (g_ok0 (by decide)) g_v0 ⟨_, hw, fun x m' ⟨A', j1, j2⟩ => ⟨A', m', rfl, j1, j2⟩⟩ (by decide) hR
  | 13, hj, hQ =>
    have hj : some (14, 275, 1) = some (M1, M2, nn) := hj
    cases hj
    subst hQ
    have hw : we_275 [((5, true, ((74 : Nat) : Int)) : sv), (0, true, (xs (3 * k + 1)).toInt)] (T, n, u, m) (fun x m' => ∃ A', jx13 (xs (3 * k + 1)).toInt A x A' ∧ jM (k + 1) A' m') := jm_13 hk hV hM
    exact g_call we_275_ok (g_ok1 (by decide) _) g_v1 ⟨_, hw, fun x m' ⟨A', j1, j2⟩ => ⟨A', m', rfl, j1, j2⟩⟩ (by decide) hR
  | 14, hj, hQ =>
    have hj : some (15, 277, 0) = some (M1, M2, nn) := hj
    cases hj
    subst hQ
    have hw : we_277 [((5, true, ((74 : Nat) : Int)) : sv)] (T, n, u, m) (fun x m' => ∃ A', jx14 A x A' ∧ jM (k + 1) A' m') := jm_14 hV hM
    exact g_call we_277_ok (g_ok0 (by decide)) g_v0 ⟨_, hw, fun x m' ⟨A', j1, j2⟩ => ⟨A', m', rfl, j1, j2⟩⟩ (by decide) hR
  | 15, hj, hQ =>
    have hj : some (16, 282, 1) = some (M1, M2, nn) := hj
    cases hj
    subst hQ
    have hw : we_282 [((5, true, ((74 : Nat) : Int)) : sv), (0, true, (xs (3 * k + 1)).toInt)] (T, n, u, m) (fun x m' => ∃ A', jx15 (xs (3 * k + 1)).toInt A x A' ∧ jM (k + 1) A' m') := jm_15 hV hM
    exact g_call we_282_ok (g_ok1 (by decide) _) g_v1 ⟨_, hw, fun x m' ⟨A', j1, j2⟩ => ⟨A', m', rfl, j1, j2⟩⟩ (by decide) hR
  | 16, hj, hQ =>
    have hj : some (17, 285, 2) = some (M1, M2, nn) := hj
    cases hj
    subst hQ
    have hw : we_285 [((5, true, ((74 : Nat) : Int)) : sv), (0, true, (xs (3 * k + 1)).toInt), (0, true, (xs (3 * k + 2)).toInt)] (T, n, u, m) (fun x m' => ∃ A', jx16 (xs (3 * k + 1)).toInt (xs (3 * k + 2)).toInt A x A' ∧ jM (k + 1) A' m') := jm_16 hV hM
    exact g_call we_285_ok (g_ok2 (by decide) _ _) g_v2 ⟨_, hw, fun x m' ⟨A', j1, j2⟩ => ⟨A', m', rfl, j1, j2⟩⟩ (by decide) hR
  | 17, hj, hQ =>
    have hj : some (18, 297, 2) = some (M1, M2, nn) := hj
    cases hj
    subst hQ
    have hw : we_297 [((5, true, ((74 : Nat) : Int)) : sv), (0, true, (xs (3 * k + 1)).toInt), (0, true, (xs (3 * k + 2)).toInt)] (T, n, u, m) (fun x m' => ∃ A', jx17 (xs (3 * k + 1)).toInt (xs (3 * k + 2)).toInt A x A' ∧ jM (k + 1) A' m') := jm_17 hV hM
    exact g_call we_297_ok (g_ok2 (by decide) _ _) g_v2 ⟨_, hw, fun x m' ⟨A', j1, j2⟩ => ⟨A', m', rfl, j1, j2⟩⟩ (by decide) hR
  | 18, hj, hQ =>
    have hj : some (19, 298, 1) = some (M1, M2, nn) := hj
    cases hj
    subst hQ
    have hw : we_298 [((5, true, ((74 : Nat) : Int)) : sv), (0, true, (xs (3 * k + 1)).toInt)] (T, n, u, m) (fun x m' => ∃ A', jx18 (xs (3 * k + 1)).toInt A x A' ∧ jM (k + 1) A' m') := jm_18 hV hM
    exact g_call we_298_ok (g_ok1 (by decide) _) g_v1 ⟨_, hw, fun x m' ⟨A', j1, j2⟩ => ⟨A', m', rfl, j1, j2⟩⟩ (by decide) hR
  | 19, hj, hQ =>
    have hj : some (20, 300, 2) = some (M1, M2, nn) := hj
    cases hj
    subst hQ
    have hw : we_300 [((5, true, ((74 : Nat) : Int)) : sv), (0, true, (xs (3 * k + 1)).toInt), (0, true, (xs (3 * k + 2)).toInt)] (T, n, u, m) (fun x m' => ∃ A', jx19 (xs (3 * k + 1)).toInt (xs (3 * k + 2)).toInt A x A' ∧ jM (k + 1) A' m') := jm_19 hV hM
    exact g_call we_300_ok (g_ok2 (by decide) _ _) g_v2 ⟨_, hw, fun x m' ⟨A', j1, j2⟩ => ⟨A', m', rfl, j1, j2⟩⟩ (by decide) hR
  | 20, hj, hQ =>
    have hj : some (21, 302, 2) = some (M1, M2, nn) := hj
    cases hj
    subst hQ
    have hw : we_302 [((5, true, ((74 : Nat) : Int)) : sv), (0, true, (xs (3 * k + 1)).toInt), (0, true, (xs (3 * k + 2)).toInt)] (T, n, u, m) (fun x m' => ∃ A', jx20 (xs (3 * k + 1)).toInt (xs (3 * k + 2)).toInt A x A' ∧ jM (k + 1) A' m') := jm_20 hV hM
    exact g_call we_302_ok (g_ok2 (by decide) _ _) g_v2 ⟨_, hw, fun x m' ⟨A', j1, j2⟩ => ⟨A', m', rfl, j1, j2⟩⟩ (by decide) hR
  | i + 21, hj, _ =>
    rw [List.getElem?_eq_none (show lw_ops.length ≤ i + 21 from Nat.le_add_left 21 i)] at hj
    cases hj
