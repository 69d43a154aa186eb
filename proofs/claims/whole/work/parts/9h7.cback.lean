/-! THE CLASS'S SEARCH: back at a choice -/
def zTk (Z : cZ) (k : Nat) : cZ := ((zW Z).take (k + 1), Z.2)
section CB2
variable {E : qE} {l l' TI TI' TL : List Nat} {F : Nat → Prop} {T T' : hy_T} {m m' : hy_m} {Z Z' : cZ} {N N' : Nat} {A : qA} {B B' : bM} {s s' : Nat → pE} {Q : Int → hy_m → Prop} {c : qC} {r : List qC}
theorem zX_tk {k j : Nat} (h : k ≤ j) : zX (zTk Z j) k N = zX Z k N := by
  show wX (((zW Z).take (j + 1)).take (k + 1)) (z1 Z) (z4 Z) (zc Z) N = _
  rw [List.take_take, Nat.min_eq_left (by omega)]
  rfl
theorem cPr_tk (hP : cPr E F T m Z l) {k : Nat} (hk : k ≤ l.length) : cPr E F T m (zTk Z k) (l.take k) := ⟨hP.1, hP.2.1, hP.2.2.1, wIs_tk hP.2.2.2.1 k hk, hP.2.2.2.2⟩
/-- early instances live in the part too -/
theorem zX_in (hP : cPr E F T m Z l) {k : Nat} (hk : k ≤ l.length) {i : Nat} (hi : xL (zX Z l.length N) i) (hik : i < k + 2) : xL (zX Z k N) i := by
  have hI := wIs_tk hP.2.2.2.1 l.length (Nat.le_refl _)
  obtain ⟨e, he, rfl⟩ := hi
  have key : ∃ j, ((zW Z).take (l.length + 1))[j]? = some e ∧ j < k + 1 := by
    rcases wIs_at hI he with ⟨q0, q1, -⟩ | ⟨j, c, cl, q0, q1, q4, q2, -⟩
    · exact ⟨0, q0, by omega⟩
    · exact ⟨j + 1, q1, by omega⟩
  obtain ⟨j, j1, j2⟩ := key
  rw [List.getElem?_take_of_lt (by omega)] at j1
  refine ⟨e, List.mem_of_getElem? (i := j) ?_, rfl⟩
  rw [List.getElem?_take_of_lt j2]
  exact j1
theorem TI_nd (hO : cOr (zX Z l.length N)) (hn : TL.Nodup) (dl : TL.length = TI.length) (dv : ∀ (k e w : Nat), TL[k]? = some e → TI[k]? = some w → sV (zX Z l.length N) e w) : TI.Nodup := by
  rw [List.Nodup, List.pairwise_iff_getElem]
  intro i j hi hj hij q
  have h1 := dv i _ _ (List.getElem?_eq_getElem (by omega : i < TL.length)) (List.getElem?_eq_getElem hi)
  have h2 := dv j _ _ (List.getElem?_eq_getElem (by omega : j < TL.length)) (List.getElem?_eq_getElem hj)
  rw [q] at h1
  have h3 := sV_e hO h1 h2
  exact (List.pairwise_iff_getElem.mp hn i j (by omega) (by omega) hij) h3
theorem TI_dr (hO : cOr (zX Z l.length N)) (hw : cW (zX Z l.length N) T m) (dl : TL.length = TI.length) (dv : ∀ (k e w : Nat), TL[k]? = some e → TI[k]? = some w → sV (zX Z l.length N) e w) {k e w : Nat} (h : sV (zX Z l.length N) e w) : w ∈ TI.drop k ↔ e ∈ TL.drop k := by
  constructor
  · intro q
    obtain ⟨j, hj⟩ := List.getElem?_of_mem q
    rw [List.getElem?_drop] at hj
    have hlt := (List.getElem?_eq_some_iff.mp hj).1
    have h2 := dv (k + j) _ _ (List.getElem?_eq_getElem (by omega : k + j < TL.length)) hj
    have := sV_e hO h h2
    rw [this]
    refine List.mem_of_getElem? (i := j) ?_
    rw [List.getElem?_drop]
    exact List.getElem?_eq_getElem _
  · intro q
    obtain ⟨j, hj⟩ := List.getElem?_of_mem q
    rw [List.getElem?_drop] at hj
    have hlt := (List.getElem?_eq_some_iff.mp hj).1
    have h2 := dv (k + j) _ _ hj (List.getElem?_eq_getElem (by omega : k + j < TI.length))
    have := sV_w hw h h2
    rw [this]
    refine List.mem_of_getElem? (i := j) ?_
    rw [List.getElem?_drop]
    exact List.getElem?_eq_getElem _
theorem cNm_fr (h : cNm m A) (h1 : ∀ e : Int, 12 ≤ e → e ≤ 16 → m' 36 e = m 36 e) (h2 : ∀ e, m' 39 e = m 39 e) (h3 : ∀ e, m' 40 e = m 40 e) : cNm m' A := by
  obtain ⟨n1, n2, n3, n4, n5, n6⟩ := h
  refine ⟨?_, ?_, ?_, ?_, ?_, fun c hc => ?_⟩
  · rw [h1 _ (by decide) (by decide)]; exact n1
  · rw [h1 _ (by decide) (by decide)]; exact n2
  · rw [h1 _ (by decide) (by decide)]; exact n3
  · rw [h1 _ (by decide) (by decide)]; exact n4
  · rw [h1 _ (by decide) (by decide)]; exact n5
  · rw [h2, h3]; exact n6 c hc
theorem back_sc {cc : Nat} (hq : qFl E A) (he : qh A = c :: r) (hP : cPr E F T m Z (qi A)) (hNm : cNm m A) (d1 : cBd (zX Z (qi A).length N) m B) (dt : cTr (zX Z (qi A).length N) (zU Z) m TL) (dl : TL.length = TI.length) (dv : ∀ (k e w : Nat), TL[k]? = some e → TI[k]? = some w → sV (zX Z (qi A).length N) e w) (d4 : ∀ w ∈ TI, B w ≠ none) (d5 : cCc E Z N m (qi A) TI B (qh A)) (d6 : m 36 8 = (qh A).length) (d7 : m 41 7 = (c.2.2.2.1.1 : Int) + 2) (hcc : (zC Z)[r.length]? = some cc) (hcl : c.2.2.2.1.2.2 ≤ (zF Z).length) (g1 : ∀ (a : Nat) (e : Int), ¬ (a = z4 Z ∧ ∃ w ∈ TL.drop c.2.2.2.1.2.1, e = (w : Int)) → ¬ (a = 41 ∧ (e = 6 ∨ e = 3)) → ¬ (a = 36 ∧ (e = 5 ∨ e = 6)) → m' a e = m a e) (g2 : ∀ w ∈ TL.drop c.2.2.2.1.2.1, m' (z4 Z) (w : Int) = -1) (g3 : m' 41 6 = (c.2.2.2.1.2.1 : Nat)) (g4 : m' 41 3 = m cc 3) (g5 : m' 36 5 = m cc 5) (g6 : m' 36 6 = m cc 0) : cSe E F (zTk Z c.2.2.2.1.1) N T m' (qrest A c (c :: r)) := by
  have hU := zX_uPr hP N
  have hO := hU.2.2.2.1
  obtain ⟨zz1, zz2, zz3, zz4, zz5, zz6, zz7⟩ := cRo_z hP.1
  have hP1 : cPr E F T m' Z (qi A) := cPr_s hP (fun a e q => g1 a e (fun z => q (by unfold kEx; simp [z.1])) (fun z => q (by unfold kEx; omega)) (fun z => q (Or.inl z.1)))
  have hk := hq.1
  rw [he] at hk
  have hall := chK_all (c :: r) hk
  have hni := (hall c (List.mem_cons_self ..)).1
  have hC := d5
  rw [he] at hC
  obtain ⟨⟨cc', h1, ⟨h2, h3, h4⟩, h5, h6⟩, ⟨h7, h8⟩, h9, h10, h11⟩ := hC
  rw [hcc] at h1
  injection h1 with h1
  subst h1
  have hP2 := cPr_tk hP1 hni
  have ei : qi (qrest A c (c :: r)) = (qi A).take c.2.2.2.1.1 := rfl
  have el : ((qi A).take c.2.2.2.1.1).length = c.2.2.2.1.1 := by rw [List.length_take]; omega
  have hFc : ∀ b z, F b → m' b z = m b z := fun b z hb => g1 b z (fun q => (hP.1.1.2 (z4 Z) (by unfold rwL; simp)).2.2.2.2.2 (q.1 ▸ hb)) (fun q => (cRo_fc hP.1 hb).1 q.1) (fun q => by have := hP.1.2.1 b hb; omega)
  have hcell : ∀ a e, 74 ≤ a → a ≠ z4 Z → m' a e = m a e := fun a e q1 q2 => g1 a e (fun q => q2 q.1) (fun q => by omega) (fun q => by omega)
  have hz4 : T.1 (z4 Z) = some (100, 8 * zc Z) := hP.1.2.2.2.2.2.1.2
  have hFr : ∀ (j c' : Nat), (zF Z)[j]? = some c' → ∀ z, m' c' z = m c' z := fun j c' q z => by
    have ht := zF_tag hP.2.2.2.2.1 (List.mem_of_getElem? q)
    exact hcell c' z ht.2.1 (fun q2 => by rw [q2, hz4] at ht; have := ht.1; injection this with this; injection this with this; omega)
  have hCr : ∀ (j c' : Nat), (zC Z)[j]? = some c' → ∀ z, m' c' z = m c' z := fun j c' q z => by
    have ht := zC_tag hP.2.2.2.2.1 (List.mem_of_getElem? q)
    exact hcell c' z ht.2.1 (fun q2 => by rw [q2, hz4] at ht; have := ht.1; injection this with this; injection this with this; omega)
  have h46 : ∀ j : Nat, j < N → m' 46 (j : Int) = m 46 (j : Int) := fun j _ => g1 46 _ (fun q => (hP.1.1.2 (z4 Z) (by unfold rwL; simp)).2.1 q.1.symm) (by omega) (by omega)
  have hTE : ∀ k, k ≤ (qi A).length → tE (zX Z k N) m (zX Z k N) m' := fun k hk => tE_s hP hP1 hk hk (fun _ q => q) hFc h46 (Nat.le_refl _)
  have hTnd := TI_nd hO dt.2.2.1 dl dv
  have hdr : ∀ i n, xL (zX Z (qi A).length N) i → n < xV (zX Z (qi A).length N) i → (xP (zX Z (qi A).length N) i + n ∈ TI.drop c.2.2.2.1.2.1 ↔ 8 * i + n ∈ TL.drop c.2.2.2.1.2.1) := fun i n q1 q2 => TI_dr hO hU.2.1 dl dv ⟨i, n, q1, q2, rfl, rfl⟩
  refine ⟨?_, ?_, ⟨?_, ?_, hcl, ?_⟩, bRs B TI c.2.2.2.1.2.1 (tot E ((qi A).take c.2.2.2.1.1)), TI.take c.2.2.2.1.2.1, ⟨?_, ⟨TL.take c.2.2.2.1.2.1, ⟨?_, fun i hi => ?_, ?_, fun e hm => ?_⟩, ?_, fun k e w q1 q2 => ?_⟩, fun w hw => ?_, ?_, ?_, ?_⟩, h9, ?_⟩
  · rw [ei]; exact hP2
  · exact cNm_fr (A := A) hNm (fun e q1 q2 => g1 _ _ (fun q => by have := q.1; omega) (by omega) (by omega)) (fun e => g1 _ _ (fun q => by have := q.1; omega) (by omega) (by omega)) (fun e => g1 _ _ (fun q => by have := q.1; omega) (by omega) (by omega))
  · rw [g4, ei, el]; exact h2
  · rw [g5]; exact h4
  · rw [g6, ei, el, zX_tk (Nat.le_refl _)]
    exact cCh_mo (hTE _ hni) (Nat.le_refl _) (fun _ q => q) _ _ _ (fun j c' _ q => ⟨q, hFr j c' q⟩) h6
  · -- bindings
    rw [ei, el, zX_tk (Nat.le_refl _)]
    refine ⟨fun i n q1 q2 => ?_, fun v hv => ?_⟩
    · obtain ⟨f1, f2, f3⟩ := zX_sub (N := N) (N' := N) hP hni q1
      have hlt : xP (zX Z c.2.2.2.1.1 N) i + n < tot E ((qi A).take c.2.2.2.1.1) := by
        have := (zX_dm (cPr_tk hP hni) N (xP (zX Z c.2.2.2.1.1 N) i + n)).mp (by
          rw [el, zX_tk (Nat.le_refl _)]
          exact ⟨i, n, q1, q2, rfl⟩)
        exact this
      have hd := hdr i n f1 (by rw [f2]; exact q2)
      rw [f3] at hd
      have e8 : 8 * (i : Int) + (n : Int) = ((8 * i + n : Nat) : Int) := by omega
      have exb : xb4 (zX Z c.2.2.2.1.1 N) = z4 Z := rfl
      by_cases q : xP (zX Z c.2.2.2.1.1 N) i + n ∈ TI.drop c.2.2.2.1.2.1
      · refine Or.inl ⟨?_, ?_⟩
        · unfold bRs
          rw [if_neg (fun z => z.2 q)]
        · rw [e8]
          exact g2 _ (hd.mp q)
      · have eB : bRs B TI c.2.2.2.1.2.1 (tot E ((qi A).take c.2.2.2.1.1)) (xP (zX Z c.2.2.2.1.1 N) i + n) = B (xP (zX Z c.2.2.2.1.1 N) i + n) := by
          unfold bRs
          rw [if_pos ⟨hlt, q⟩]
        have eM4 : m' (z4 Z) (8 * (i : Int) + (n : Int)) = m (z4 Z) (8 * (i : Int) + (n : Int)) := by
          refine g1 _ _ (fun ⟨_, w, w1, w2⟩ => q (hd.mpr ?_)) (by omega) (by omega)
          rw [e8] at w2
          have : 8 * i + n = w := by omega
          rw [this]
          exact w1
        rw [exb, eB, eM4]
        rcases d1.1 i n f1 (by rw [f2]; exact q2) with ⟨b1, b2⟩ | ⟨t, b1, b2, b3, b4⟩
        · rw [f3] at b1
          exact Or.inl ⟨b1, b2⟩
        · rw [f3] at b1
          obtain ⟨y1, y2⟩ := h10 i n t q1 q2 (by rw [eB]; exact b1)
          refine Or.inr ⟨t, b1, b2, hTE _ hni _ _ y1, fun w hw => ?_⟩
          have := (zX_dm (cPr_tk hP hni) N w).mpr (y2 w hw)
          rw [el, zX_tk (Nat.le_refl _)] at this
          exact this
    · unfold bRs
      rw [if_neg]
      intro z
      refine hv ?_
      have := (zX_dm (cPr_tk hP hni) N v).mpr z.1
      rw [el, zX_tk (Nat.le_refl _)] at this
      exact this
  · rw [g3, List.length_take]
    omega
  · rw [List.length_take] at hi
    have hyt : yt (zU Z) ≠ z4 Z := by
      have hn := hP.1.1.1
      unfold rwL at hn
      simp only [List.nodup_cons, List.mem_cons, List.not_mem_nil, or_false, not_or, List.nodup_nil, and_true, not_false_eq_true] at hn
      exact Ne.symm hn.2.2.1.2.2.2.2.2.1
    have h42 := (hP.1.1.2 (yt (zU Z)) (by unfold rwL; simp)).1
    show m' (yt (zU Z)) (i : Int) = _
    rw [g1 _ _ (fun q => hyt q.1) (by omega) (by omega), List.getElem_take]
    exact dt.2.1 i (by omega)
  · exact List.Nodup.sublist (List.take_sublist _ _) dt.2.2.1
  · obtain ⟨y1, y2⟩ := dt.2.2.2 e (List.mem_of_mem_take hm)
    refine ⟨y1, ?_⟩
    show m' (z4 Z) (e : Int) ≠ -1
    rw [g1 _ _ (fun ⟨_, w, w1, w2⟩ => nd_td dt.2.2.1 hm (by rw [show e = w by omega]; exact w1)) (by omega) (by omega)]
    exact y2
  · rw [List.length_take, List.length_take, dl]
  · have hkk : k < c.2.2.2.1.2.1 := by
      have := (List.getElem?_eq_some_iff.mp q1).1
      rw [List.length_take] at this
      omega
    have hwm := List.mem_of_getElem? q2
    rw [List.getElem?_take_of_lt hkk] at q1 q2
    obtain ⟨i, n, a1, a2, a3, a4⟩ := dv k e w q1 q2
    have hwP := h8 w hwm
    rw [a4] at hwP
    have hik := (zX_lim hP hni a1 a2).mpr hwP
    have a5 := zX_in hP hni a1 hik
    obtain ⟨f1, f2, f3⟩ := zX_sub (N := N) (N' := N) hP hni a5
    rw [ei, el, zX_tk (Nat.le_refl _)]
    exact ⟨i, n, a5, by rw [← f2]; exact a2, a3, by rw [← f3]; exact a4⟩
  · unfold bRs
    rw [if_pos ⟨h8 w hw, fun q => nd_td hTnd hw q⟩]
    exact d4 w (List.mem_of_mem_take hw)
  · -- choices
    rw [he] at d5
    show cCc E (zTk Z c.2.2.2.1.1) N m' ((qi A).take c.2.2.2.1.1) (TI.take c.2.2.2.1.2.1) _ (c :: r)
    refine cCc_mo (Z := Z) (l := qi A) (TI := TI) (B := B) (N := N) (m := m) (c :: r) (fun k cc _ q => ⟨q, hCr k cc q⟩) (fun c' hc' => ?_) d5
    have hc2 : c'.2.2.2.1.1 ≤ c.2.2.2.1.1 ∧ c'.2.2.2.1.2.1 ≤ c.2.2.2.1.2.1 := by
      refine ⟨?_, ?_⟩
      · rcases List.mem_cons.mp hc' with rfl | h
        · exact Nat.le_refl _
        · exact (chK_all r hk.2.2.2.2.2.2 c' h).1
      · rcases List.mem_cons.mp hc' with rfl | h
        · exact Nat.le_refl _
        · exact (chK_all r hk.2.2.2.2.2.2 c' h).2.1
    refine ⟨fun j c2 _ q => ⟨q, hFr j c2 q⟩, ?_, ?_, tak_tak hc2.1, ⟨?_, tak_tak hc2.2⟩, bRs_2 hc2.2 ?_ h7, fun i n q1 q2 q3 => ?_⟩
    · show ((zW Z).take (c.2.2.2.1.1 + 1)).take (c'.2.2.2.1.1 + 1) = _
      rw [List.take_take, Nat.min_eq_left (by omega)]
    · rw [zX_tk hc2.1]
      exact hTE _ (by omega)
    · rw [List.length_take]
      omega
    · refine tot_pre ?_
      rw [← tak_tak (L := qi A) hc2.1]
      exact List.take_prefix _ _
    · have hci : c'.2.2.2.1.1 ≤ (qi A).length := by omega
      obtain ⟨f1, f2, f3⟩ := zX_sub (N := N) (N' := N) hP hci q1
      have hnd := (bRs_n q3).2
      have hd := TI_dr hO hU.2.1 dl dv (k := c'.2.2.2.1.2.1) ⟨i, n, f1, by rw [f2]; exact q2, rfl, rfl⟩
      rw [f3] at hd
      show m' (z4 Z) _ = m (z4 Z) _
      refine g1 _ _ (fun ⟨_, w, w1, w2⟩ => hnd (hd.mpr ?_)) (by omega) (by omega)
      have e2 : TL.drop c.2.2.2.1.2.1 = (TL.drop c'.2.2.2.1.2.1).drop (c.2.2.2.1.2.1 - c'.2.2.2.1.2.1) := by
        rw [List.drop_drop]
        congr 1
        omega
      rw [e2] at w1
      have : 8 * i + n = w := by omega
      rw [this]
      exact List.mem_of_mem_drop w1
  · show m' 36 8 = ((c :: r).length : Nat)
    rw [g1 _ _ (fun q => by have := q.1; omega) (by omega) (by omega), d6, he]
  · show m' 41 7 = _
    rw [g1 _ _ (fun q => by have := q.1; omega) (by omega) (by omega)]
    exact d7
  · show (TI.take c.2.2.2.1.2.1).length = c.2.2.2.1.2.1
    rw [List.length_take]
    omega
end CB2
