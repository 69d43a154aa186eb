/-- java/util/Arrays.copyOf([II)[I -/
def wq_305 (x0 : Int) (x1 : Int) (s : sS) (Q : sQ) : Prop := ∃ t1 n1 : Nat, s.1.1 (x0).toNat = some (t1, n1) ∧ 99 ≤ t1 ∧ ((x1 ≠ (n1 : Int) → (0 ≤ x1 ∧ x1 ≤ 10000000 ∧ (∃ t2 n2 : Nat, (hy_e s.1 s.2.1 100 ((x1).toNat)).1 (x0).toNat = some (t2, n2) ∧ 99 ≤ t2 ∧ (∃ t3 n3 : Nat, (hy_e s.1 s.2.1 100 ((x1).toNat)).1 (x0).toNat = some (t3, n3) ∧ 99 ≤ t3 ∧ (∃ n4 : Nat, (hy_e s.1 s.2.1 100 ((x1).toNat)).1 ((s.2.1 : Int)).toNat = some (t3, n4) ∧ ((t3 = 100 ∨ t3 = 101) ∧ 0 ≤ (0 : Int) ∧ 0 ≤ (0 : Int) ∧ 0 ≤ (if x1 < (n2 : Int) then x1 else (n2 : Int)) ∧ (0 : Int) + (if x1 < (n2 : Int) then x1 else (n2 : Int)) ≤ (n3 : Int) ∧ (0 : Int) + (if x1 < (n2 : Int) then x1 else (n2 : Int)) ≤ (n4 : Int) ∧ (x0).toNat ≠ ((s.2.1 : Int)).toNat ∧ ((s.2.1 : Int) ≠ 0 ∧ Q (s.2.1 : Int) (hy_e s.1 s.2.1 100 ((x1).toNat), s.2.1 + 1, s.2.2.1 + ((x1).toNat), hy_cp (hy_z s.2.2.2 s.2.1) ((x0).toNat) 0 (((s.2.1 : Int)).toNat) 0 (if x1 < (n2 : Int) then x1 else (n2 : Int)))))))))) ∧ (x1 = (n1 : Int) → (∃ n5 : Nat, s.1.1 (x0).toNat = some (100, n5) ∧ ((100 = 100 ∨ 100 = 101) ∧ (∃ n6 : Nat, (hy_e s.1 s.2.1 100 n5).1 ((s.2.1 : Int)).toNat = some (100, n6) ∧ ((s.2.1 : Int) ≠ 0 ∧ Q (s.2.1 : Int) (hy_e s.1 s.2.1 100 n5, s.2.1 + 1, s.2.2.1 + n5, hy_cq s.2.2.2 ((x0).toNat) s.2.1)))))))
def cs_305 : List (Nat × Nat × sFS) := []
theorem cs_305_ok : kCs dC 0 cs_305 := kCs_n
def lb_305_0 (s : sS) (Q : sQ) (x0 : Int) (x1 : Int) : Nat → Option (sL → sS → Prop) := sLb []
set_option maxRecDepth 30000 in
set_option maxHeartbeats 1000000 in
theorem wk_305_0 (Q : sQ) (s : sS) (x0 : Int) (x1 : Int) (hr : sRg [(0, 3, 0), (1, 0, 0)] [x0, x1]) (h : wq_305 x0 x1 s Q) : kX dC 0 im_m305 3 0 (sCan [(0, 3, 0), (1, 0, 0)] [x0, x1]) [] s Q := by
  unfold wq_305 at h
  refine wz2_ok (cs := cs_305) (wr := []) (lb := lb_305_0 s Q x0 x1) cs_305_ok kLb_n (okL_can rfl hr) (fun Y hY hl => ?_)
  refine hY _ _ _ _ (hY _ _ _ _ (?_ : Y 2 [(0, 3, true, x0), (1, 0, true, x1)] [(3, true, x0), (0, true, x1)] s))
  refine hY _ _ _ _ ?_
  obtain ⟨t1, n1, h⟩ := h
  refine Exists.intro t1 (Exists.intro n1 (And.intro h.1 (And.intro h.2.1 ?_)))
  show Y 3 [(0, 3, true, x0), (1, 0, true, x1)] [(0, true, (n1 : Int)), (0, true, x1)] s
  refine hY _ _ _ _ ?_
  refine And.intro (fun hc => ?_) (fun hc => ?_)
  · have h := h.2.2.1 hc
    refine hY _ _ _ _ (?_ : Y 15 [(0, 3, true, x0), (1, 0, true, x1)] [(0, true, x1)] s)
    refine hY _ _ _ _ ?_
    refine (And.intro h.1 (And.intro h.2.1 ?_))
    refine hY _ _ _ _ (hY _ _ _ _ (hY _ _ _ _ (?_ : Y 20 [(2, 3, true, (s.2.1 : Int)), (0, 3, true, x0), (1, 0, true, x1)] [(2, true, 0), (3, true, x0)] (hy_e s.1 s.2.1 100 ((x1).toNat), s.2.1 + 1, s.2.2.1 + ((x1).toNat), hy_z s.2.2.2 s.2.1))))
    refine hY _ _ _ _ (hY _ _ _ _ (hY _ _ _ _ (?_ : Y 23 [(2, 3, true, (s.2.1 : Int)), (0, 3, true, x0), (1, 0, true, x1)] [(3, true, x0), (2, true, 0), (3, true, (s.2.1 : Int)), (2, true, 0), (3, true, x0)] (hy_e s.1 s.2.1 100 ((x1).toNat), s.2.1 + 1, s.2.2.1 + ((x1).toNat), hy_z s.2.2.2 s.2.1))))
    refine hY _ _ _ _ ?_
    obtain ⟨t2, n2, h⟩ := h.2.2
    refine Exists.intro t2 (Exists.intro n2 (And.intro h.1 (And.intro h.2.1 ?_)))
    refine hY _ _ _ _ (?_ : Y 25 [(2, 3, true, (s.2.1 : Int)), (0, 3, true, x0), (1, 0, true, x1)] [(0, true, x1), (0, true, (n2 : Int)), (2, true, 0), (3, true, (s.2.1 : Int)), (2, true, 0), (3, true, x0)] (hy_e s.1 s.2.1 100 ((x1).toNat), s.2.1 + 1, s.2.2.1 + ((x1).toNat), hy_z s.2.2.2 s.2.1))
    refine hY _ _ _ _ ?_
    show Y 28 [(2, 3, true, (s.2.1 : Int)), (0, 3, true, x0), (1, 0, true, x1)] [(0, true, (if x1 < (n2 : Int) then x1 else (n2 : Int))), (2, true, 0), (3, true, (s.2.1 : Int)), (2, true, 0), (3, true, x0)] (hy_e s.1 s.2.1 100 ((x1).toNat), s.2.1 + 1, s.2.2.1 + ((x1).toNat), hy_z s.2.2.2 s.2.1)
    refine hY _ _ _ _ ?_
    obtain ⟨t3, n3, h⟩ := h.2.2
    refine Exists.intro t3 (Exists.intro n3 (And.intro h.1 (And.intro h.2.1 ?_)))
    obtain ⟨n4, h⟩ := h.2.2
    refine Exists.intro n4 (And.intro h.1 ?_)
    refine (And.intro h.2.1 (And.intro h.2.2.1 (And.intro h.2.2.2.1 (And.intro h.2.2.2.2.1 (And.intro h.2.2.2.2.2.1 (And.intro h.2.2.2.2.2.2.1 (And.intro h.2.2.2.2.2.2.2.1 ?_)))))))
    refine hY _ _ _ _ (?_ : Y 32 [(2, 3, true, (s.2.1 : Int)), (0, 3, true, x0), (1, 0, true, x1)] [(3, true, (s.2.1 : Int))] (hy_e s.1 s.2.1 100 ((x1).toNat), s.2.1 + 1, s.2.2.1 + ((x1).toNat), hy_cp (hy_z s.2.2.2 s.2.1) ((x0).toNat) 0 (((s.2.1 : Int)).toNat) 0 (if x1 < (n2 : Int) then x1 else (n2 : Int))))
    refine hY _ _ _ _ ?_
    refine (And.intro h.2.2.2.2.2.2.2.2.1 ?_)
    exact h.2.2.2.2.2.2.2.2.2
  · have h := h.2.2.2 hc
    refine hY _ _ _ _ (?_ : Y 7 [(0, 3, true, x0), (1, 0, true, x1)] [(3, true, x0)] s)
    refine hY _ _ _ _ ?_
    obtain ⟨n5, h⟩ := h
    refine Exists.intro n5 (And.intro h.1 ?_)
    refine (And.intro h.2.1 ?_)
    show Y 10 [(0, 3, true, x0), (1, 0, true, x1)] [(3, true, (s.2.1 : Int))] (hy_e s.1 s.2.1 100 n5, s.2.1 + 1, s.2.2.1 + n5, hy_cq s.2.2.2 ((x0).toNat) s.2.1)
    refine hY _ _ _ _ ?_
    obtain ⟨n6, h⟩ := h.2.2
    refine Exists.intro n6 (And.intro h.1 ?_)
    show Y 13 [(0, 3, true, x0), (1, 0, true, x1)] [(3, true, (s.2.1 : Int))] (hy_e s.1 s.2.1 100 n5, s.2.1 + 1, s.2.2.1 + n5, hy_cq s.2.2.2 ((x0).toNat) s.2.1)
    refine hY _ _ _ _ ?_
    refine (And.intro h.2.1 ?_)
    exact h.2.2
def we_305 : sF := sE 3 [(0, 3, 0), (1, 0, 0)] (fun xs s Q => ap2 (fun x0 x1 => wq_305 x0 x1 s Q) xs)
theorem we_305_ok : kS dC 1 305 3 (.inr we_305) := sE_ok (mi := im_m305) rfl rfl rfl (fun Q xs s r1 hb => by obtain ⟨x0, x1, rfl, hb⟩ := ap2_ok hb; exact wk_305_0 Q s x0 x1 r1 hb)
/-- java/util/Arrays.copyOf([JI)[J -/
def wq_306 (x0 : Int) (x1 : Int) (s : sS) (Q : sQ) : Prop := ∃ t1 n1 : Nat, s.1.1 (x0).toNat = some (t1, n1) ∧ 99 ≤ t1 ∧ ((x1 ≠ (n1 : Int) → (0 ≤ x1 ∧ x1 ≤ 10000000 ∧ (∃ t2 n2 : Nat, (hy_e s.1 s.2.1 101 ((x1).toNat)).1 (x0).toNat = some (t2, n2) ∧ 99 ≤ t2 ∧ (∃ t3 n3 : Nat, (hy_e s.1 s.2.1 101 ((x1).toNat)).1 (x0).toNat = some (t3, n3) ∧ 99 ≤ t3 ∧ (∃ n4 : Nat, (hy_e s.1 s.2.1 101 ((x1).toNat)).1 ((s.2.1 : Int)).toNat = some (t3, n4) ∧ ((t3 = 100 ∨ t3 = 101) ∧ 0 ≤ (0 : Int) ∧ 0 ≤ (0 : Int) ∧ 0 ≤ (if x1 < (n2 : Int) then x1 else (n2 : Int)) ∧ (0 : Int) + (if x1 < (n2 : Int) then x1 else (n2 : Int)) ≤ (n3 : Int) ∧ (0 : Int) + (if x1 < (n2 : Int) then x1 else (n2 : Int)) ≤ (n4 : Int) ∧ (x0).toNat ≠ ((s.2.1 : Int)).toNat ∧ ((s.2.1 : Int) ≠ 0 ∧ Q (s.2.1 : Int) (hy_e s.1 s.2.1 101 ((x1).toNat), s.2.1 + 1, s.2.2.1 + ((x1).toNat), hy_cp (hy_z s.2.2.2 s.2.1) ((x0).toNat) 0 (((s.2.1 : Int)).toNat) 0 (if x1 < (n2 : Int) then x1 else (n2 : Int)))))))))) ∧ (x1 = (n1 : Int) → (∃ n5 : Nat, s.1.1 (x0).toNat = some (101, n5) ∧ ((101 = 100 ∨ 101 = 101) ∧ (∃ n6 : Nat, (hy_e s.1 s.2.1 101 n5).1 ((s.2.1 : Int)).toNat = some (101, n6) ∧ ((s.2.1 : Int) ≠ 0 ∧ Q (s.2.1 : Int) (hy_e s.1 s.2.1 101 n5, s.2.1 + 1, s.2.2.1 + n5, hy_cq s.2.2.2 ((x0).toNat) s.2.1)))))))
def cs_306 : List (Nat × Nat × sFS) := []
theorem cs_306_ok : kCs dC 0 cs_306 := kCs_n
def lb_306_0 (s : sS) (Q : sQ) (x0 : Int) (x1 : Int) : Nat → Option (sL → sS → Prop) := sLb []
set_option maxRecDepth 30000 in
set_option maxHeartbeats 1000000 in
theorem wk_306_0 (Q : sQ) (s : sS) (x0 : Int) (x1 : Int) (hr : sRg [(0, 3, 0), (1, 0, 0)] [x0, x1]) (h : wq_306 x0 x1 s Q) : kX dC 0 im_m306 3 0 (sCan [(0, 3, 0), (1, 0, 0)] [x0, x1]) [] s Q := by
  unfold wq_306 at h
  refine wz2_ok (cs := cs_306) (wr := []) (lb := lb_306_0 s Q x0 x1) cs_306_ok kLb_n (okL_can rfl hr) (fun Y hY hl => ?_)
  refine hY _ _ _ _ (hY _ _ _ _ (?_ : Y 2 [(0, 3, true, x0), (1, 0, true, x1)] [(3, true, x0), (0, true, x1)] s))
  refine hY _ _ _ _ ?_
  obtain ⟨t1, n1, h⟩ := h
  refine Exists.intro t1 (Exists.intro n1 (And.intro h.1 (And.intro h.2.1 ?_)))
  show Y 3 [(0, 3, true, x0), (1, 0, true, x1)] [(0, true, (n1 : Int)), (0, true, x1)] s
  refine hY _ _ _ _ ?_
  refine And.intro (fun hc => ?_) (fun hc => ?_)
  · have h := h.2.2.1 hc
    refine hY _ _ _ _ (?_ : Y 15 [(0, 3, true, x0), (1, 0, true, x1)] [(0, true, x1)] s)
    refine hY _ _ _ _ ?_
    refine (And.intro h.1 (And.intro h.2.1 ?_))
    refine hY _ _ _ _ (hY _ _ _ _ (hY _ _ _ _ (?_ : Y 20 [(2, 3, true, (s.2.1 : Int)), (0, 3, true, x0), (1, 0, true, x1)] [(2, true, 0), (3, true, x0)] (hy_e s.1 s.2.1 101 ((x1).toNat), s.2.1 + 1, s.2.2.1 + ((x1).toNat), hy_z s.2.2.2 s.2.1))))
    refine hY _ _ _ _ (hY _ _ _ _ (hY _ _ _ _ (?_ : Y 23 [(2, 3, true, (s.2.1 : Int)), (0, 3, true, x0), (1, 0, true, x1)] [(3, true, x0), (2, true, 0), (3, true, (s.2.1 : Int)), (2, true, 0), (3, true, x0)] (hy_e s.1 s.2.1 101 ((x1).toNat), s.2.1 + 1, s.2.2.1 + ((x1).toNat), hy_z s.2.2.2 s.2.1))))
    refine hY _ _ _ _ ?_
    obtain ⟨t2, n2, h⟩ := h.2.2
    refine Exists.intro t2 (Exists.intro n2 (And.intro h.1 (And.intro h.2.1 ?_)))
    refine hY _ _ _ _ (?_ : Y 25 [(2, 3, true, (s.2.1 : Int)), (0, 3, true, x0), (1, 0, true, x1)] [(0, true, x1), (0, true, (n2 : Int)), (2, true, 0), (3, true, (s.2.1 : Int)), (2, true, 0), (3, true, x0)] (hy_e s.1 s.2.1 101 ((x1).toNat), s.2.1 + 1, s.2.2.1 + ((x1).toNat), hy_z s.2.2.2 s.2.1))
    refine hY _ _ _ _ ?_
    show Y 28 [(2, 3, true, (s.2.1 : Int)), (0, 3, true, x0), (1, 0, true, x1)] [(0, true, (if x1 < (n2 : Int) then x1 else (n2 : Int))), (2, true, 0), (3, true, (s.2.1 : Int)), (2, true, 0), (3, true, x0)] (hy_e s.1 s.2.1 101 ((x1).toNat), s.2.1 + 1, s.2.2.1 + ((x1).toNat), hy_z s.2.2.2 s.2.1)
    refine hY _ _ _ _ ?_
    obtain ⟨t3, n3, h⟩ := h.2.2
    refine Exists.intro t3 (Exists.intro n3 (And.intro h.1 (And.intro h.2.1 ?_)))
    obtain ⟨n4, h⟩ := h.2.2
    refine Exists.intro n4 (And.intro h.1 ?_)
    refine (And.intro h.2.1 (And.intro h.2.2.1 (And.intro h.2.2.2.1 (And.intro h.2.2.2.2.1 (And.intro h.2.2.2.2.2.1 (And.intro h.2.2.2.2.2.2.1 (And.intro h.2.2.2.2.2.2.2.1 ?_)))))))
    refine hY _ _ _ _ (?_ : Y 32 [(2, 3, true, (s.2.1 : Int)), (0, 3, true, x0), (1, 0, true, x1)] [(3, true, (s.2.1 : Int))] (hy_e s.1 s.2.1 101 ((x1).toNat), s.2.1 + 1, s.2.2.1 + ((x1).toNat), hy_cp (hy_z s.2.2.2 s.2.1) ((x0).toNat) 0 (((s.2.1 : Int)).toNat) 0 (if x1 < (n2 : Int) then x1 else (n2 : Int))))
    refine hY _ _ _ _ ?_
    refine (And.intro h.2.2.2.2.2.2.2.2.1 ?_)
    exact h.2.2.2.2.2.2.2.2.2
  · have h := h.2.2.2 hc
    refine hY _ _ _ _ (?_ : Y 7 [(0, 3, true, x0), (1, 0, true, x1)] [(3, true, x0)] s)
    refine hY _ _ _ _ ?_
    obtain ⟨n5, h⟩ := h
    refine Exists.intro n5 (And.intro h.1 ?_)
    refine (And.intro h.2.1 ?_)
    show Y 10 [(0, 3, true, x0), (1, 0, true, x1)] [(3, true, (s.2.1 : Int))] (hy_e s.1 s.2.1 101 n5, s.2.1 + 1, s.2.2.1 + n5, hy_cq s.2.2.2 ((x0).toNat) s.2.1)
    refine hY _ _ _ _ ?_
    obtain ⟨n6, h⟩ := h.2.2
    refine Exists.intro n6 (And.intro h.1 ?_)
    show Y 13 [(0, 3, true, x0), (1, 0, true, x1)] [(3, true, (s.2.1 : Int))] (hy_e s.1 s.2.1 101 n5, s.2.1 + 1, s.2.2.1 + n5, hy_cq s.2.2.2 ((x0).toNat) s.2.1)
    refine hY _ _ _ _ ?_
    refine (And.intro h.2.1 ?_)
    exact h.2.2
def we_306 : sF := sE 3 [(0, 3, 0), (1, 0, 0)] (fun xs s Q => ap2 (fun x0 x1 => wq_306 x0 x1 s Q) xs)
theorem we_306_ok : kS dC 1 306 3 (.inr we_306) := sE_ok (mi := im_m306) rfl rfl rfl (fun Q xs s r1 hb => by obtain ⟨x0, x1, rfl, hb⟩ := ap2_ok hb; exact wk_306_0 Q s x0 x1 r1 hb)
/-- java/lang/Integer.bitCount(I)I -/
def wq_307 (x0 : Int) (m : hy_m) (Q : Int → hy_m → Prop) : Prop := Q (iA (iW ((iW ((iA (iW ((iW ((iA (iW (x0 - (iA (iSu x0 1) 1431655765))) 858993459) + (iA (iSu (iW (x0 - (iA (iSu x0 1) 1431655765))) 2) 858993459))) + (iSu (iW ((iA (iW (x0 - (iA (iSu x0 1) 1431655765))) 858993459) + (iA (iSu (iW (x0 - (iA (iSu x0 1) 1431655765))) 2) 858993459))) 4))) 252645135) + (iSu (iA (iW ((iW ((iA (iW (x0 - (iA (iSu x0 1) 1431655765))) 858993459) + (iA (iSu (iW (x0 - (iA (iSu x0 1) 1431655765))) 2) 858993459))) + (iSu (iW ((iA (iW (x0 - (iA (iSu x0 1) 1431655765))) 858993459) + (iA (iSu (iW (x0 - (iA (iSu x0 1) 1431655765))) 2) 858993459))) 4))) 252645135) 8))) + (iSu (iW ((iA (iW ((iW ((iA (iW (x0 - (iA (iSu x0 1) 1431655765))) 858993459) + (iA (iSu (iW (x0 - (iA (iSu x0 1) 1431655765))) 2) 858993459))) + (iSu (iW ((iA (iW (x0 - (iA (iSu x0 1) 1431655765))) 858993459) + (iA (iSu (iW (x0 - (iA (iSu x0 1) 1431655765))) 2) 858993459))) 4))) 252645135) + (iSu (iA (iW ((iW ((iA (iW (x0 - (iA (iSu x0 1) 1431655765))) 858993459) + (iA (iSu (iW (x0 - (iA (iSu x0 1) 1431655765))) 2) 858993459))) + (iSu (iW ((iA (iW (x0 - (iA (iSu x0 1) 1431655765))) 858993459) + (iA (iSu (iW (x0 - (iA (iSu x0 1) 1431655765))) 2) 858993459))) 4))) 252645135) 8))) 16))) 63) m
def cs_307 : List (Nat × Nat × sFS) := []
theorem cs_307_ok : kCs dC 0 cs_307 := kCs_n
def lb_307_0 (s : sS) (Q : sQ) (R : Int → hy_m → Prop) (x0 : Int) : Nat → Option (sL → sS → Prop) := sLb []
set_option maxRecDepth 30000 in
set_option maxHeartbeats 1000000 in
theorem wk_307_0 (Q : sQ) (R : Int → hy_m → Prop) (s : sS) (x0 : Int) (hQ : ∀ x m', R x m' → Q x (sM s m')) (hr : sRg [(0, 0, 0)] [x0]) (h : wq_307 x0 s.2.2.2 R) : kX dC 0 im_m307 0 0 (sCan [(0, 0, 0)] [x0]) [] s Q := by
  unfold wq_307 at h
  refine wz2_ok (cs := cs_307) (wr := [0, 1, 2, 3, 4, 7, 8, 9, 10, 11, 14, 15, 16, 17, 18, 21, 22, 23, 24, 25, 26, 27, 28, 29, 32, 33, 34, 35, 36, 38, 39, 40, 41, 42, 43, 45, 46, 47, 48, 49, 51, 52]) (lb := lb_307_0 s Q R x0) cs_307_ok kLb_n (okL_can rfl hr) (fun Y hY hl => ?_)
  refine hY _ _ _ _ (hY _ _ _ _ (hY _ _ _ _ (?_ : Y 3 [(0, 0, true, x0)] [(2, true, 1), (0, true, x0), (0, true, x0)] s)))
  refine hY _ _ _ _ (?_ : Y 4 [(0, 0, true, x0)] [(0, true, iSu x0 1), (0, true, x0)] s)
  refine hY _ _ _ _ (?_ : Y 7 [(0, 0, true, x0)] [(0, true, 1431655765), (0, true, iSu x0 1), (0, true, x0)] s)
  refine hY _ _ _ _ (?_ : Y 8 [(0, 0, true, x0)] [(0, true, iA (iSu x0 1) 1431655765), (0, true, x0)] s)
  refine hY _ _ _ _ (hY _ _ _ _ (hY _ _ _ _ (?_ : Y 11 [(0, 0, true, iW (x0 - (iA (iSu x0 1) 1431655765)))] [(0, true, iW (x0 - (iA (iSu x0 1) 1431655765)))] s)))
  refine hY _ _ _ _ (?_ : Y 14 [(0, 0, true, iW (x0 - (iA (iSu x0 1) 1431655765)))] [(0, true, 858993459), (0, true, iW (x0 - (iA (iSu x0 1) 1431655765)))] s)
  refine hY _ _ _ _ (?_ : Y 15 [(0, 0, true, iW (x0 - (iA (iSu x0 1) 1431655765)))] [(0, true, iA (iW (x0 - (iA (iSu x0 1) 1431655765))) 858993459)] s)
  refine hY _ _ _ _ (hY _ _ _ _ (?_ : Y 17 [(0, 0, true, iW (x0 - (iA (iSu x0 1) 1431655765)))] [(0, true, 2), (0, true, iW (x0 - (iA (iSu x0 1) 1431655765))), (0, true, iA (iW (x0 - (iA (iSu x0 1) 1431655765))) 858993459)] s))
  refine hY _ _ _ _ (?_ : Y 18 [(0, 0, true, iW (x0 - (iA (iSu x0 1) 1431655765)))] [(0, true, iSu (iW (x0 - (iA (iSu x0 1) 1431655765))) 2), (0, true, iA (iW (x0 - (iA (iSu x0 1) 1431655765))) 858993459)] s)
  refine hY _ _ _ _ (?_ : Y 21 [(0, 0, true, iW (x0 - (iA (iSu x0 1) 1431655765)))] [(0, true, 858993459), (0, true, iSu (iW (x0 - (iA (iSu x0 1) 1431655765))) 2), (0, true, iA (iW (x0 - (iA (iSu x0 1) 1431655765))) 858993459)] s)
  refine hY _ _ _ _ (?_ : Y 22 [(0, 0, true, iW (x0 - (iA (iSu x0 1) 1431655765)))] [(0, true, iA (iSu (iW (x0 - (iA (iSu x0 1) 1431655765))) 2) 858993459), (0, true, iA (iW (x0 - (iA (iSu x0 1) 1431655765))) 858993459)] s)
  refine hY _ _ _ _ (hY _ _ _ _ (hY _ _ _ _ (?_ : Y 25 [(0, 0, true, iW ((iA (iW (x0 - (iA (iSu x0 1) 1431655765))) 858993459) + (iA (iSu (iW (x0 - (iA (iSu x0 1) 1431655765))) 2) 858993459)))] [(0, true, iW ((iA (iW (x0 - (iA (iSu x0 1) 1431655765))) 858993459) + (iA (iSu (iW (x0 - (iA (iSu x0 1) 1431655765))) 2) 858993459)))] s)))
  refine hY _ _ _ _ (hY _ _ _ _ (?_ : Y 27 [(0, 0, true, iW ((iA (iW (x0 - (iA (iSu x0 1) 1431655765))) 858993459) + (iA (iSu (iW (x0 - (iA (iSu x0 1) 1431655765))) 2) 858993459)))] [(0, true, 4), (0, true, iW ((iA (iW (x0 - (iA (iSu x0 1) 1431655765))) 858993459) + (iA (iSu (iW (x0 - (iA (iSu x0 1) 1431655765))) 2) 858993459))), (0, true, iW ((iA (iW (x0 - (iA (iSu x0 1) 1431655765))) 858993459) + (iA (iSu (iW (x0 - (iA (iSu x0 1) 1431655765))) 2) 858993459)))] s))
  refine hY _ _ _ _ (?_ : Y 28 [(0, 0, true, iW ((iA (iW (x0 - (iA (iSu x0 1) 1431655765))) 858993459) + (iA (iSu (iW (x0 - (iA (iSu x0 1) 1431655765))) 2) 858993459)))] [(0, true, iSu (iW ((iA (iW (x0 - (iA (iSu x0 1) 1431655765))) 858993459) + (iA (iSu (iW (x0 - (iA (iSu x0 1) 1431655765))) 2) 858993459))) 4), (0, true, iW ((iA (iW (x0 - (iA (iSu x0 1) 1431655765))) 858993459) + (iA (iSu (iW (x0 - (iA (iSu x0 1) 1431655765))) 2) 858993459)))] s)
  refine hY _ _ _ _ (hY _ _ _ _ (?_ : Y 32 [(0, 0, true, iW ((iA (iW (x0 - (iA (iSu x0 1) 1431655765))) 858993459) + (iA (iSu (iW (x0 - (iA (iSu x0 1) 1431655765))) 2) 858993459)))] [(0, true, 252645135), (0, true, iW ((iW ((iA (iW (x0 - (iA (iSu x0 1) 1431655765))) 858993459) + (iA (iSu (iW (x0 - (iA (iSu x0 1) 1431655765))) 2) 858993459))) + (iSu (iW ((iA (iW (x0 - (iA (iSu x0 1) 1431655765))) 858993459) + (iA (iSu (iW (x0 - (iA (iSu x0 1) 1431655765))) 2) 858993459))) 4)))] s))
  refine hY _ _ _ _ (?_ : Y 33 [(0, 0, true, iW ((iA (iW (x0 - (iA (iSu x0 1) 1431655765))) 858993459) + (iA (iSu (iW (x0 - (iA (iSu x0 1) 1431655765))) 2) 858993459)))] [(0, true, iA (iW ((iW ((iA (iW (x0 - (iA (iSu x0 1) 1431655765))) 858993459) + (iA (iSu (iW (x0 - (iA (iSu x0 1) 1431655765))) 2) 858993459))) + (iSu (iW ((iA (iW (x0 - (iA (iSu x0 1) 1431655765))) 858993459) + (iA (iSu (iW (x0 - (iA (iSu x0 1) 1431655765))) 2) 858993459))) 4))) 252645135)] s)
  refine hY _ _ _ _ (hY _ _ _ _ (hY _ _ _ _ (?_ : Y 36 [(0, 0, true, iA (iW ((iW ((iA (iW (x0 - (iA (iSu x0 1) 1431655765))) 858993459) + (iA (iSu (iW (x0 - (iA (iSu x0 1) 1431655765))) 2) 858993459))) + (iSu (iW ((iA (iW (x0 - (iA (iSu x0 1) 1431655765))) 858993459) + (iA (iSu (iW (x0 - (iA (iSu x0 1) 1431655765))) 2) 858993459))) 4))) 252645135)] [(0, true, iA (iW ((iW ((iA (iW (x0 - (iA (iSu x0 1) 1431655765))) 858993459) + (iA (iSu (iW (x0 - (iA (iSu x0 1) 1431655765))) 2) 858993459))) + (iSu (iW ((iA (iW (x0 - (iA (iSu x0 1) 1431655765))) 858993459) + (iA (iSu (iW (x0 - (iA (iSu x0 1) 1431655765))) 2) 858993459))) 4))) 252645135), (0, true, iA (iW ((iW ((iA (iW (x0 - (iA (iSu x0 1) 1431655765))) 858993459) + (iA (iSu (iW (x0 - (iA (iSu x0 1) 1431655765))) 2) 858993459))) + (iSu (iW ((iA (iW (x0 - (iA (iSu x0 1) 1431655765))) 858993459) + (iA (iSu (iW (x0 - (iA (iSu x0 1) 1431655765))) 2) 858993459))) 4))) 252645135)] s)))
  refine hY _ _ _ _ (?_ : Y 38 [(0, 0, true, iA (iW ((iW ((iA (iW (x0 - (iA (iSu x0 1) 1431655765))) 858993459) + (iA (iSu (iW (x0 - (iA (iSu x0 1) 1431655765))) 2) 858993459))) + (iSu (iW ((iA (iW (x0 - (iA (iSu x0 1) 1431655765))) 858993459) + (iA (iSu (iW (x0 - (iA (iSu x0 1) 1431655765))) 2) 858993459))) 4))) 252645135)] [(0, true, 8), (0, true, iA (iW ((iW ((iA (iW (x0 - (iA (iSu x0 1) 1431655765))) 858993459) + (iA (iSu (iW (x0 - (iA (iSu x0 1) 1431655765))) 2) 858993459))) + (iSu (iW ((iA (iW (x0 - (iA (iSu x0 1) 1431655765))) 858993459) + (iA (iSu (iW (x0 - (iA (iSu x0 1) 1431655765))) 2) 858993459))) 4))) 252645135), (0, true, iA (iW ((iW ((iA (iW (x0 - (iA (iSu x0 1) 1431655765))) 858993459) + (iA (iSu (iW (x0 - (iA (iSu x0 1) 1431655765))) 2) 858993459))) + (iSu (iW ((iA (iW (x0 - (iA (iSu x0 1) 1431655765))) 858993459) + (iA (iSu (iW (x0 - (iA (iSu x0 1) 1431655765))) 2) 858993459))) 4))) 252645135)] s)
  refine hY _ _ _ _ (?_ : Y 39 [(0, 0, true, iA (iW ((iW ((iA (iW (x0 - (iA (iSu x0 1) 1431655765))) 858993459) + (iA (iSu (iW (x0 - (iA (iSu x0 1) 1431655765))) 2) 858993459))) + (iSu (iW ((iA (iW (x0 - (iA (iSu x0 1) 1431655765))) 858993459) + (iA (iSu (iW (x0 - (iA (iSu x0 1) 1431655765))) 2) 858993459))) 4))) 252645135)] [(0, true, iSu (iA (iW ((iW ((iA (iW (x0 - (iA (iSu x0 1) 1431655765))) 858993459) + (iA (iSu (iW (x0 - (iA (iSu x0 1) 1431655765))) 2) 858993459))) + (iSu (iW ((iA (iW (x0 - (iA (iSu x0 1) 1431655765))) 858993459) + (iA (iSu (iW (x0 - (iA (iSu x0 1) 1431655765))) 2) 858993459))) 4))) 252645135) 8), (0, true, iA (iW ((iW ((iA (iW (x0 - (iA (iSu x0 1) 1431655765))) 858993459) + (iA (iSu (iW (x0 - (iA (iSu x0 1) 1431655765))) 2) 858993459))) + (iSu (iW ((iA (iW (x0 - (iA (iSu x0 1) 1431655765))) 858993459) + (iA (iSu (iW (x0 - (iA (iSu x0 1) 1431655765))) 2) 858993459))) 4))) 252645135)] s)
  refine hY _ _ _ _ (hY _ _ _ _ (hY _ _ _ _ (?_ : Y 42 [(0, 0, true, iW ((iA (iW ((iW ((iA (iW (x0 - (iA (iSu x0 1) 1431655765))) 858993459) + (iA (iSu (iW (x0 - (iA (iSu x0 1) 1431655765))) 2) 858993459))) + (iSu (iW ((iA (iW (x0 - (iA (iSu x0 1) 1431655765))) 858993459) + (iA (iSu (iW (x0 - (iA (iSu x0 1) 1431655765))) 2) 858993459))) 4))) 252645135) + (iSu (iA (iW ((iW ((iA (iW (x0 - (iA (iSu x0 1) 1431655765))) 858993459) + (iA (iSu (iW (x0 - (iA (iSu x0 1) 1431655765))) 2) 858993459))) + (iSu (iW ((iA (iW (x0 - (iA (iSu x0 1) 1431655765))) 858993459) + (iA (iSu (iW (x0 - (iA (iSu x0 1) 1431655765))) 2) 858993459))) 4))) 252645135) 8)))] [(0, true, iW ((iA (iW ((iW ((iA (iW (x0 - (iA (iSu x0 1) 1431655765))) 858993459) + (iA (iSu (iW (x0 - (iA (iSu x0 1) 1431655765))) 2) 858993459))) + (iSu (iW ((iA (iW (x0 - (iA (iSu x0 1) 1431655765))) 858993459) + (iA (iSu (iW (x0 - (iA (iSu x0 1) 1431655765))) 2) 858993459))) 4))) 252645135) + (iSu (iA (iW ((iW ((iA (iW (x0 - (iA (iSu x0 1) 1431655765))) 858993459) + (iA (iSu (iW (x0 - (iA (iSu x0 1) 1431655765))) 2) 858993459))) + (iSu (iW ((iA (iW (x0 - (iA (iSu x0 1) 1431655765))) 858993459) + (iA (iSu (iW (x0 - (iA (iSu x0 1) 1431655765))) 2) 858993459))) 4))) 252645135) 8)))] s)))
  refine hY _ _ _ _ (hY _ _ _ _ (?_ : Y 45 [(0, 0, true, iW ((iA (iW ((iW ((iA (iW (x0 - (iA (iSu x0 1) 1431655765))) 858993459) + (iA (iSu (iW (x0 - (iA (iSu x0 1) 1431655765))) 2) 858993459))) + (iSu (iW ((iA (iW (x0 - (iA (iSu x0 1) 1431655765))) 858993459) + (iA (iSu (iW (x0 - (iA (iSu x0 1) 1431655765))) 2) 858993459))) 4))) 252645135) + (iSu (iA (iW ((iW ((iA (iW (x0 - (iA (iSu x0 1) 1431655765))) 858993459) + (iA (iSu (iW (x0 - (iA (iSu x0 1) 1431655765))) 2) 858993459))) + (iSu (iW ((iA (iW (x0 - (iA (iSu x0 1) 1431655765))) 858993459) + (iA (iSu (iW (x0 - (iA (iSu x0 1) 1431655765))) 2) 858993459))) 4))) 252645135) 8)))] [(0, true, 16), (0, true, iW ((iA (iW ((iW ((iA (iW (x0 - (iA (iSu x0 1) 1431655765))) 858993459) + (iA (iSu (iW (x0 - (iA (iSu x0 1) 1431655765))) 2) 858993459))) + (iSu (iW ((iA (iW (x0 - (iA (iSu x0 1) 1431655765))) 858993459) + (iA (iSu (iW (x0 - (iA (iSu x0 1) 1431655765))) 2) 858993459))) 4))) 252645135) + (iSu (iA (iW ((iW ((iA (iW (x0 - (iA (iSu x0 1) 1431655765))) 858993459) + (iA (iSu (iW (x0 - (iA (iSu x0 1) 1431655765))) 2) 858993459))) + (iSu (iW ((iA (iW (x0 - (iA (iSu x0 1) 1431655765))) 858993459) + (iA (iSu (iW (x0 - (iA (iSu x0 1) 1431655765))) 2) 858993459))) 4))) 252645135) 8))), (0, true, iW ((iA (iW ((iW ((iA (iW (x0 - (iA (iSu x0 1) 1431655765))) 858993459) + (iA (iSu (iW (x0 - (iA (iSu x0 1) 1431655765))) 2) 858993459))) + (iSu (iW ((iA (iW (x0 - (iA (iSu x0 1) 1431655765))) 858993459) + (iA (iSu (iW (x0 - (iA (iSu x0 1) 1431655765))) 2) 858993459))) 4))) 252645135) + (iSu (iA (iW ((iW ((iA (iW (x0 - (iA (iSu x0 1) 1431655765))) 858993459) + (iA (iSu (iW (x0 - (iA (iSu x0 1) 1431655765))) 2) 858993459))) + (iSu (iW ((iA (iW (x0 - (iA (iSu x0 1) 1431655765))) 858993459) + (iA (iSu (iW (x0 - (iA (iSu x0 1) 1431655765))) 2) 858993459))) 4))) 252645135) 8)))] s))
  refine hY _ _ _ _ (?_ : Y 46 [(0, 0, true, iW ((iA (iW ((iW ((iA (iW (x0 - (iA (iSu x0 1) 1431655765))) 858993459) + (iA (iSu (iW (x0 - (iA (iSu x0 1) 1431655765))) 2) 858993459))) + (iSu (iW ((iA (iW (x0 - (iA (iSu x0 1) 1431655765))) 858993459) + (iA (iSu (iW (x0 - (iA (iSu x0 1) 1431655765))) 2) 858993459))) 4))) 252645135) + (iSu (iA (iW ((iW ((iA (iW (x0 - (iA (iSu x0 1) 1431655765))) 858993459) + (iA (iSu (iW (x0 - (iA (iSu x0 1) 1431655765))) 2) 858993459))) + (iSu (iW ((iA (iW (x0 - (iA (iSu x0 1) 1431655765))) 858993459) + (iA (iSu (iW (x0 - (iA (iSu x0 1) 1431655765))) 2) 858993459))) 4))) 252645135) 8)))] [(0, true, iSu (iW ((iA (iW ((iW ((iA (iW (x0 - (iA (iSu x0 1) 1431655765))) 858993459) + (iA (iSu (iW (x0 - (iA (iSu x0 1) 1431655765))) 2) 858993459))) + (iSu (iW ((iA (iW (x0 - (iA (iSu x0 1) 1431655765))) 858993459) + (iA (iSu (iW (x0 - (iA (iSu x0 1) 1431655765))) 2) 858993459))) 4))) 252645135) + (iSu (iA (iW ((iW ((iA (iW (x0 - (iA (iSu x0 1) 1431655765))) 858993459) + (iA (iSu (iW (x0 - (iA (iSu x0 1) 1431655765))) 2) 858993459))) + (iSu (iW ((iA (iW (x0 - (iA (iSu x0 1) 1431655765))) 858993459) + (iA (iSu (iW (x0 - (iA (iSu x0 1) 1431655765))) 2) 858993459))) 4))) 252645135) 8))) 16), (0, true, iW ((iA (iW ((iW ((iA (iW (x0 - (iA (iSu x0 1) 1431655765))) 858993459) + (iA (iSu (iW (x0 - (iA (iSu x0 1) 1431655765))) 2) 858993459))) + (iSu (iW ((iA (iW (x0 - (iA (iSu x0 1) 1431655765))) 858993459) + (iA (iSu (iW (x0 - (iA (iSu x0 1) 1431655765))) 2) 858993459))) 4))) 252645135) + (iSu (iA (iW ((iW ((iA (iW (x0 - (iA (iSu x0 1) 1431655765))) 858993459) + (iA (iSu (iW (x0 - (iA (iSu x0 1) 1431655765))) 2) 858993459))) + (iSu (iW ((iA (iW (x0 - (iA (iSu x0 1) 1431655765))) 858993459) + (iA (iSu (iW (x0 - (iA (iSu x0 1) 1431655765))) 2) 858993459))) 4))) 252645135) 8)))] s)
  refine hY _ _ _ _ (hY _ _ _ _ (hY _ _ _ _ (?_ : Y 49 [(0, 0, true, iW ((iW ((iA (iW ((iW ((iA (iW (x0 - (iA (iSu x0 1) 1431655765))) 858993459) + (iA (iSu (iW (x0 - (iA (iSu x0 1) 1431655765))) 2) 858993459))) + (iSu (iW ((iA (iW (x0 - (iA (iSu x0 1) 1431655765))) 858993459) + (iA (iSu (iW (x0 - (iA (iSu x0 1) 1431655765))) 2) 858993459))) 4))) 252645135) + (iSu (iA (iW ((iW ((iA (iW (x0 - (iA (iSu x0 1) 1431655765))) 858993459) + (iA (iSu (iW (x0 - (iA (iSu x0 1) 1431655765))) 2) 858993459))) + (iSu (iW ((iA (iW (x0 - (iA (iSu x0 1) 1431655765))) 858993459) + (iA (iSu (iW (x0 - (iA (iSu x0 1) 1431655765))) 2) 858993459))) 4))) 252645135) 8))) + (iSu (iW ((iA (iW ((iW ((iA (iW (x0 - (iA (iSu x0 1) 1431655765))) 858993459) + (iA (iSu (iW (x0 - (iA (iSu x0 1) 1431655765))) 2) 858993459))) + (iSu (iW ((iA (iW (x0 - (iA (iSu x0 1) 1431655765))) 858993459) + (iA (iSu (iW (x0 - (iA (iSu x0 1) 1431655765))) 2) 858993459))) 4))) 252645135) + (iSu (iA (iW ((iW ((iA (iW (x0 - (iA (iSu x0 1) 1431655765))) 858993459) + (iA (iSu (iW (x0 - (iA (iSu x0 1) 1431655765))) 2) 858993459))) + (iSu (iW ((iA (iW (x0 - (iA (iSu x0 1) 1431655765))) 858993459) + (iA (iSu (iW (x0 - (iA (iSu x0 1) 1431655765))) 2) 858993459))) 4))) 252645135) 8))) 16)))] [(0, true, iW ((iW ((iA (iW ((iW ((iA (iW (x0 - (iA (iSu x0 1) 1431655765))) 858993459) + (iA (iSu (iW (x0 - (iA (iSu x0 1) 1431655765))) 2) 858993459))) + (iSu (iW ((iA (iW (x0 - (iA (iSu x0 1) 1431655765))) 858993459) + (iA (iSu (iW (x0 - (iA (iSu x0 1) 1431655765))) 2) 858993459))) 4))) 252645135) + (iSu (iA (iW ((iW ((iA (iW (x0 - (iA (iSu x0 1) 1431655765))) 858993459) + (iA (iSu (iW (x0 - (iA (iSu x0 1) 1431655765))) 2) 858993459))) + (iSu (iW ((iA (iW (x0 - (iA (iSu x0 1) 1431655765))) 858993459) + (iA (iSu (iW (x0 - (iA (iSu x0 1) 1431655765))) 2) 858993459))) 4))) 252645135) 8))) + (iSu (iW ((iA (iW ((iW ((iA (iW (x0 - (iA (iSu x0 1) 1431655765))) 858993459) + (iA (iSu (iW (x0 - (iA (iSu x0 1) 1431655765))) 2) 858993459))) + (iSu (iW ((iA (iW (x0 - (iA (iSu x0 1) 1431655765))) 858993459) + (iA (iSu (iW (x0 - (iA (iSu x0 1) 1431655765))) 2) 858993459))) 4))) 252645135) + (iSu (iA (iW ((iW ((iA (iW (x0 - (iA (iSu x0 1) 1431655765))) 858993459) + (iA (iSu (iW (x0 - (iA (iSu x0 1) 1431655765))) 2) 858993459))) + (iSu (iW ((iA (iW (x0 - (iA (iSu x0 1) 1431655765))) 858993459) + (iA (iSu (iW (x0 - (iA (iSu x0 1) 1431655765))) 2) 858993459))) 4))) 252645135) 8))) 16)))] s)))
  refine hY _ _ _ _ (?_ : Y 51 [(0, 0, true, iW ((iW ((iA (iW ((iW ((iA (iW (x0 - (iA (iSu x0 1) 1431655765))) 858993459) + (iA (iSu (iW (x0 - (iA (iSu x0 1) 1431655765))) 2) 858993459))) + (iSu (iW ((iA (iW (x0 - (iA (iSu x0 1) 1431655765))) 858993459) + (iA (iSu (iW (x0 - (iA (iSu x0 1) 1431655765))) 2) 858993459))) 4))) 252645135) + (iSu (iA (iW ((iW ((iA (iW (x0 - (iA (iSu x0 1) 1431655765))) 858993459) + (iA (iSu (iW (x0 - (iA (iSu x0 1) 1431655765))) 2) 858993459))) + (iSu (iW ((iA (iW (x0 - (iA (iSu x0 1) 1431655765))) 858993459) + (iA (iSu (iW (x0 - (iA (iSu x0 1) 1431655765))) 2) 858993459))) 4))) 252645135) 8))) + (iSu (iW ((iA (iW ((iW ((iA (iW (x0 - (iA (iSu x0 1) 1431655765))) 858993459) + (iA (iSu (iW (x0 - (iA (iSu x0 1) 1431655765))) 2) 858993459))) + (iSu (iW ((iA (iW (x0 - (iA (iSu x0 1) 1431655765))) 858993459) + (iA (iSu (iW (x0 - (iA (iSu x0 1) 1431655765))) 2) 858993459))) 4))) 252645135) + (iSu (iA (iW ((iW ((iA (iW (x0 - (iA (iSu x0 1) 1431655765))) 858993459) + (iA (iSu (iW (x0 - (iA (iSu x0 1) 1431655765))) 2) 858993459))) + (iSu (iW ((iA (iW (x0 - (iA (iSu x0 1) 1431655765))) 858993459) + (iA (iSu (iW (x0 - (iA (iSu x0 1) 1431655765))) 2) 858993459))) 4))) 252645135) 8))) 16)))] [(0, true, 63), (0, true, iW ((iW ((iA (iW ((iW ((iA (iW (x0 - (iA (iSu x0 1) 1431655765))) 858993459) + (iA (iSu (iW (x0 - (iA (iSu x0 1) 1431655765))) 2) 858993459))) + (iSu (iW ((iA (iW (x0 - (iA (iSu x0 1) 1431655765))) 858993459) + (iA (iSu (iW (x0 - (iA (iSu x0 1) 1431655765))) 2) 858993459))) 4))) 252645135) + (iSu (iA (iW ((iW ((iA (iW (x0 - (iA (iSu x0 1) 1431655765))) 858993459) + (iA (iSu (iW (x0 - (iA (iSu x0 1) 1431655765))) 2) 858993459))) + (iSu (iW ((iA (iW (x0 - (iA (iSu x0 1) 1431655765))) 858993459) + (iA (iSu (iW (x0 - (iA (iSu x0 1) 1431655765))) 2) 858993459))) 4))) 252645135) 8))) + (iSu (iW ((iA (iW ((iW ((iA (iW (x0 - (iA (iSu x0 1) 1431655765))) 858993459) + (iA (iSu (iW (x0 - (iA (iSu x0 1) 1431655765))) 2) 858993459))) + (iSu (iW ((iA (iW (x0 - (iA (iSu x0 1) 1431655765))) 858993459) + (iA (iSu (iW (x0 - (iA (iSu x0 1) 1431655765))) 2) 858993459))) 4))) 252645135) + (iSu (iA (iW ((iW ((iA (iW (x0 - (iA (iSu x0 1) 1431655765))) 858993459) + (iA (iSu (iW (x0 - (iA (iSu x0 1) 1431655765))) 2) 858993459))) + (iSu (iW ((iA (iW (x0 - (iA (iSu x0 1) 1431655765))) 858993459) + (iA (iSu (iW (x0 - (iA (iSu x0 1) 1431655765))) 2) 858993459))) 4))) 252645135) 8))) 16)))] s)
  refine hY _ _ _ _ (?_ : Y 52 [(0, 0, true, iW ((iW ((iA (iW ((iW ((iA (iW (x0 - (iA (iSu x0 1) 1431655765))) 858993459) + (iA (iSu (iW (x0 - (iA (iSu x0 1) 1431655765))) 2) 858993459))) + (iSu (iW ((iA (iW (x0 - (iA (iSu x0 1) 1431655765))) 858993459) + (iA (iSu (iW (x0 - (iA (iSu x0 1) 1431655765))) 2) 858993459))) 4))) 252645135) + (iSu (iA (iW ((iW ((iA (iW (x0 - (iA (iSu x0 1) 1431655765))) 858993459) + (iA (iSu (iW (x0 - (iA (iSu x0 1) 1431655765))) 2) 858993459))) + (iSu (iW ((iA (iW (x0 - (iA (iSu x0 1) 1431655765))) 858993459) + (iA (iSu (iW (x0 - (iA (iSu x0 1) 1431655765))) 2) 858993459))) 4))) 252645135) 8))) + (iSu (iW ((iA (iW ((iW ((iA (iW (x0 - (iA (iSu x0 1) 1431655765))) 858993459) + (iA (iSu (iW (x0 - (iA (iSu x0 1) 1431655765))) 2) 858993459))) + (iSu (iW ((iA (iW (x0 - (iA (iSu x0 1) 1431655765))) 858993459) + (iA (iSu (iW (x0 - (iA (iSu x0 1) 1431655765))) 2) 858993459))) 4))) 252645135) + (iSu (iA (iW ((iW ((iA (iW (x0 - (iA (iSu x0 1) 1431655765))) 858993459) + (iA (iSu (iW (x0 - (iA (iSu x0 1) 1431655765))) 2) 858993459))) + (iSu (iW ((iA (iW (x0 - (iA (iSu x0 1) 1431655765))) 858993459) + (iA (iSu (iW (x0 - (iA (iSu x0 1) 1431655765))) 2) 858993459))) 4))) 252645135) 8))) 16)))] [(0, true, iA (iW ((iW ((iA (iW ((iW ((iA (iW (x0 - (iA (iSu x0 1) 1431655765))) 858993459) + (iA (iSu (iW (x0 - (iA (iSu x0 1) 1431655765))) 2) 858993459))) + (iSu (iW ((iA (iW (x0 - (iA (iSu x0 1) 1431655765))) 858993459) + (iA (iSu (iW (x0 - (iA (iSu x0 1) 1431655765))) 2) 858993459))) 4))) 252645135) + (iSu (iA (iW ((iW ((iA (iW (x0 - (iA (iSu x0 1) 1431655765))) 858993459) + (iA (iSu (iW (x0 - (iA (iSu x0 1) 1431655765))) 2) 858993459))) + (iSu (iW ((iA (iW (x0 - (iA (iSu x0 1) 1431655765))) 858993459) + (iA (iSu (iW (x0 - (iA (iSu x0 1) 1431655765))) 2) 858993459))) 4))) 252645135) 8))) + (iSu (iW ((iA (iW ((iW ((iA (iW (x0 - (iA (iSu x0 1) 1431655765))) 858993459) + (iA (iSu (iW (x0 - (iA (iSu x0 1) 1431655765))) 2) 858993459))) + (iSu (iW ((iA (iW (x0 - (iA (iSu x0 1) 1431655765))) 858993459) + (iA (iSu (iW (x0 - (iA (iSu x0 1) 1431655765))) 2) 858993459))) 4))) 252645135) + (iSu (iA (iW ((iW ((iA (iW (x0 - (iA (iSu x0 1) 1431655765))) 858993459) + (iA (iSu (iW (x0 - (iA (iSu x0 1) 1431655765))) 2) 858993459))) + (iSu (iW ((iA (iW (x0 - (iA (iSu x0 1) 1431655765))) 858993459) + (iA (iSu (iW (x0 - (iA (iSu x0 1) 1431655765))) 2) 858993459))) 4))) 252645135) 8))) 16))) 63)] s)
  refine hY _ _ _ _ ?_
  exact hQ (iA (iW ((iW ((iA (iW ((iW ((iA (iW (x0 - (iA (iSu x0 1) 1431655765))) 858993459) + (iA (iSu (iW (x0 - (iA (iSu x0 1) 1431655765))) 2) 858993459))) + (iSu (iW ((iA (iW (x0 - (iA (iSu x0 1) 1431655765))) 858993459) + (iA (iSu (iW (x0 - (iA (iSu x0 1) 1431655765))) 2) 858993459))) 4))) 252645135) + (iSu (iA (iW ((iW ((iA (iW (x0 - (iA (iSu x0 1) 1431655765))) 858993459) + (iA (iSu (iW (x0 - (iA (iSu x0 1) 1431655765))) 2) 858993459))) + (iSu (iW ((iA (iW (x0 - (iA (iSu x0 1) 1431655765))) 858993459) + (iA (iSu (iW (x0 - (iA (iSu x0 1) 1431655765))) 2) 858993459))) 4))) 252645135) 8))) + (iSu (iW ((iA (iW ((iW ((iA (iW (x0 - (iA (iSu x0 1) 1431655765))) 858993459) + (iA (iSu (iW (x0 - (iA (iSu x0 1) 1431655765))) 2) 858993459))) + (iSu (iW ((iA (iW (x0 - (iA (iSu x0 1) 1431655765))) 858993459) + (iA (iSu (iW (x0 - (iA (iSu x0 1) 1431655765))) 2) 858993459))) 4))) 252645135) + (iSu (iA (iW ((iW ((iA (iW (x0 - (iA (iSu x0 1) 1431655765))) 858993459) + (iA (iSu (iW (x0 - (iA (iSu x0 1) 1431655765))) 2) 858993459))) + (iSu (iW ((iA (iW (x0 - (iA (iSu x0 1) 1431655765))) 858993459) + (iA (iSu (iW (x0 - (iA (iSu x0 1) 1431655765))) 2) 858993459))) 4))) 252645135) 8))) 16))) 63) s.2.2.2 h
def we_307 : sFf := sEf 1 [(0, 0, 0)] (fun xs s Q => ap1 (fun x0 => wq_307 x0 s.2.2.2 Q) xs)
theorem we_307_ok : kS dC 1 307 0 (.inl we_307) := sEf_ok (mi := im_m307) rfl rfl rfl (fun R xs s r1 hb => by obtain ⟨x0, rfl, hb⟩ := ap1_ok hb; exact wk_307_0 _ R s x0 (fun x m' hx => ⟨m', rfl, hx⟩) r1 hb)
/-- LM$Clause.keyAt(I)J -/
def wq_41 (x0 : Int) (x1 : Int) (T : hy_T) (m : hy_m) (Q : Int → hy_m → Prop) : Prop := (x1 < 0 → (Q 0 m)) ∧ (0 ≤ x1 → (T.1 (x0).toNat = some (3, 9) ∧ (∃ t1 n1 : Nat, T.1 (m ((x0).toNat) 1).toNat = some (t1, n1) ∧ 99 ≤ t1 ∧ (((n1 : Int) ≤ x1 → (Q 0 m)) ∧ (x1 < (n1 : Int) → (T.1 (x0).toNat = some (3, 9) ∧ (∃ n2 : Nat, T.1 (m ((x0).toNat) 1).toNat = some (101, n2) ∧ (0 ≤ x1 ∧ x1 < (n2 : Int) ∧ (Q (m ((m ((x0).toNat) 1).toNat) x1) m)))))))))
def cs_41 : List (Nat × Nat × sFS) := []
theorem cs_41_ok : kCs dC 0 cs_41 := kCs_n
def lb_41_0 (s : sS) (Q : sQ) (R : Int → hy_m → Prop) (x0 : Int) (x1 : Int) : Nat → Option (sL → sS → Prop) := sLb []
set_option maxRecDepth 30000 in
set_option maxHeartbeats 1000000 in
theorem wk_41_0 (Q : sQ) (R : Int → hy_m → Prop) (s : sS) (x0 : Int) (x1 : Int) (hQ : ∀ x m', R x m' → Q x (sM s m')) (hr : sRg [(0, 3, 0), (1, 0, 0)] [x0, x1]) (h : wq_41 x0 x1 s.1 s.2.2.2 R) : kX dC 0 im_m41 1 0 (sCan [(0, 3, 0), (1, 0, 0)] [x0, x1]) [] s Q := by
  unfold wq_41 at h
  refine wz2_ok (cs := cs_41) (wr := []) (lb := lb_41_0 s Q R x0 x1) cs_41_ok kLb_n (okL_can rfl hr) (fun Y hY hl => ?_)
  refine hY _ _ _ _ (?_ : Y 1 [(0, 3, true, x0), (1, 0, true, x1)] [(0, true, x1)] s)
  refine hY _ _ _ _ ?_
  refine And.intro (fun hc => ?_) (fun hc => ?_)
  · have h := h.1 hc
    refine hY _ _ _ _ (?_ : Y 23 [(0, 3, true, x0), (1, 0, true, x1)] [(1, true, 0)] s)
    refine hY _ _ _ _ ?_
    exact hQ 0 s.2.2.2 h
  · have h := h.2 hc
    refine hY _ _ _ _ (hY _ _ _ _ (?_ : Y 6 [(0, 3, true, x0), (1, 0, true, x1)] [(3, true, x0), (0, true, x1)] s))
    refine hY _ _ _ _ ?_
    refine (And.intro h.1 ?_)
    show Y 9 [(0, 3, true, x0), (1, 0, true, x1)] [(3, true, s.2.2.2 ((x0).toNat) 1), (0, true, x1)] s
    refine hY _ _ _ _ ?_
    obtain ⟨t1, n1, h⟩ := h.2
    refine Exists.intro t1 (Exists.intro n1 (And.intro h.1 (And.intro h.2.1 ?_)))
    show Y 10 [(0, 3, true, x0), (1, 0, true, x1)] [(0, true, (n1 : Int)), (0, true, x1)] s
    refine hY _ _ _ _ ?_
    refine And.intro (fun hc => ?_) (fun hc => ?_)
    · have h := h.2.2.1 hc
      refine hY _ _ _ _ (?_ : Y 23 [(0, 3, true, x0), (1, 0, true, x1)] [(1, true, 0)] s)
      refine hY _ _ _ _ ?_
      exact hQ 0 s.2.2.2 h
    · have h := h.2.2.2 hc
      refine hY _ _ _ _ (?_ : Y 14 [(0, 3, true, x0), (1, 0, true, x1)] [(3, true, x0)] s)
      refine hY _ _ _ _ ?_
      refine (And.intro h.1 ?_)
      refine hY _ _ _ _ (?_ : Y 18 [(0, 3, true, x0), (1, 0, true, x1)] [(0, true, x1), (3, true, s.2.2.2 ((x0).toNat) 1)] s)
      refine hY _ _ _ _ ?_
      obtain ⟨n2, h⟩ := h.2
      refine Exists.intro n2 (And.intro h.1 ?_)
      refine (And.intro h.2.1 (And.intro h.2.2.1 ?_))
      refine hY _ _ _ _ (?_ : Y 23 [(0, 3, true, x0), (1, 0, true, x1)] [(1, true, s.2.2.2 ((s.2.2.2 ((x0).toNat) 1).toNat) x1)] s)
      refine hY _ _ _ _ ?_
      exact hQ (s.2.2.2 ((s.2.2.2 ((x0).toNat) 1).toNat) x1) s.2.2.2 h.2.2.2
def we_41 : sFf := sEf 2 [(0, 3, 0), (1, 0, 0)] (fun xs s Q => ap2 (fun x0 x1 => wq_41 x0 x1 s.1 s.2.2.2 Q) xs)
theorem we_41_ok : kS dC 1 41 1 (.inl we_41) := sEf_ok (mi := im_m41) rfl rfl rfl (fun R xs s r1 hb => by obtain ⟨x0, x1, rfl, hb⟩ := ap2_ok hb; exact wk_41_0 _ R s x0 x1 (fun x m' hx => ⟨m', rfl, hx⟩) r1 hb)
/-- LM.builtinOf(J)I -/
def wq_23 (x0 : Int) (m : hy_m) (Q : Int → hy_m → Prop) : Prop := (x0 ≠ 854975952 → ((x0 ≠ 912901016 → ((x0 ≠ 7662476 → ((x0 ≠ 913097613 → ((x0 ≠ 7659449 → ((x0 ≠ 854442958 → ((x0 ≠ 972278706 → ((x0 ≠ 59302 → (Q 0 m)) ∧ (x0 = 59302 → (Q 8 m)))) ∧ (x0 = 972278706 → (Q 7 m)))) ∧ (x0 = 854442958 → (Q 6 m)))) ∧ (x0 = 7659449 → (Q 5 m)))) ∧ (x0 = 913097613 → (Q 4 m)))) ∧ (x0 = 7662476 → (Q 3 m)))) ∧ (x0 = 912901016 → (Q 2 m)))) ∧ (x0 = 854975952 → (Q 1 m))
def cs_23 : List (Nat × Nat × sFS) := []
theorem cs_23_ok : kCs dC 0 cs_23 := kCs_n
def lb_23_0 (s : sS) (Q : sQ) (R : Int → hy_m → Prop) (x0 : Int) : Nat → Option (sL → sS → Prop) := sLb []
set_option maxRecDepth 30000 in
set_option maxHeartbeats 1000000 in
theorem wk_23_0 (Q : sQ) (R : Int → hy_m → Prop) (s : sS) (x0 : Int) (hQ : ∀ x m', R x m' → Q x (sM s m')) (hr : sRg [(0, 1, 0)] [x0]) (h : wq_23 x0 s.2.2.2 R) : kX dC 0 im_m23 0 0 (sCan [(0, 1, 0)] [x0]) [] s Q := by
  unfold wq_23 at h
  refine wz2_ok (cs := cs_23) (wr := []) (lb := lb_23_0 s Q R x0) cs_23_ok kLb_n (okL_can rfl hr) (fun Y hY hl => ?_)
  refine hY _ _ _ _ (hY _ _ _ _ (?_ : Y 4 [(0, 1, true, x0)] [(1, true, 854975952), (1, true, x0)] s))
  refine hY _ _ _ _ ?_
  refine And.intro (fun hc => ?_) (fun hc => ?_)
  · have h := h.1 hc
    refine hY _ _ _ _ (hY _ _ _ _ (?_ : Y 14 [(0, 1, true, x0)] [(1, true, 912901016), (1, true, x0)] s))
    refine hY _ _ _ _ ?_
    refine And.intro (fun hc => ?_) (fun hc => ?_)
    · have h := h.1 hc
      refine hY _ _ _ _ (hY _ _ _ _ (?_ : Y 24 [(0, 1, true, x0)] [(1, true, 7662476), (1, true, x0)] s))
      refine hY _ _ _ _ ?_
      refine And.intro (fun hc => ?_) (fun hc => ?_)
      · have h := h.1 hc
        refine hY _ _ _ _ (hY _ _ _ _ (?_ : Y 34 [(0, 1, true, x0)] [(1, true, 913097613), (1, true, x0)] s))
        refine hY _ _ _ _ ?_
        refine And.intro (fun hc => ?_) (fun hc => ?_)
        · have h := h.1 hc
          refine hY _ _ _ _ (hY _ _ _ _ (?_ : Y 44 [(0, 1, true, x0)] [(1, true, 7659449), (1, true, x0)] s))
          refine hY _ _ _ _ ?_
          refine And.intro (fun hc => ?_) (fun hc => ?_)
          · have h := h.1 hc
            refine hY _ _ _ _ (hY _ _ _ _ (?_ : Y 54 [(0, 1, true, x0)] [(1, true, 854442958), (1, true, x0)] s))
            refine hY _ _ _ _ ?_
            refine And.intro (fun hc => ?_) (fun hc => ?_)
            · have h := h.1 hc
              refine hY _ _ _ _ (hY _ _ _ _ (?_ : Y 65 [(0, 1, true, x0)] [(1, true, 972278706), (1, true, x0)] s))
              refine hY _ _ _ _ ?_
              refine And.intro (fun hc => ?_) (fun hc => ?_)
              · have h := h.1 hc
                refine hY _ _ _ _ (hY _ _ _ _ (?_ : Y 76 [(0, 1, true, x0)] [(1, true, 59302), (1, true, x0)] s))
                refine hY _ _ _ _ ?_
                refine And.intro (fun hc => ?_) (fun hc => ?_)
                · have h := h.1 hc
                  refine hY _ _ _ _ (?_ : Y 86 [(0, 1, true, x0)] [(2, true, 0)] s)
                  refine hY _ _ _ _ ?_
                  exact hQ 0 s.2.2.2 h
                · have h := h.2 hc
                  refine hY _ _ _ _ (hY _ _ _ _ (?_ : Y 86 [(0, 1, true, x0)] [(0, true, 8)] s))
                  refine hY _ _ _ _ ?_
                  exact hQ 8 s.2.2.2 h
              · have h := h.2 hc
                refine hY _ _ _ _ (?_ : Y 71 [(0, 1, true, x0)] [(0, true, 7)] s)
                refine hY _ _ _ _ ?_
                exact hQ 7 s.2.2.2 h
            · have h := h.2 hc
              refine hY _ _ _ _ (?_ : Y 60 [(0, 1, true, x0)] [(0, true, 6)] s)
              refine hY _ _ _ _ ?_
              exact hQ 6 s.2.2.2 h
          · have h := h.2 hc
            refine hY _ _ _ _ (?_ : Y 49 [(0, 1, true, x0)] [(0, true, 5)] s)
            refine hY _ _ _ _ ?_
            exact hQ 5 s.2.2.2 h
        · have h := h.2 hc
          refine hY _ _ _ _ (?_ : Y 39 [(0, 1, true, x0)] [(0, true, 4)] s)
          refine hY _ _ _ _ ?_
          exact hQ 4 s.2.2.2 h
      · have h := h.2 hc
        refine hY _ _ _ _ (?_ : Y 29 [(0, 1, true, x0)] [(0, true, 3)] s)
        refine hY _ _ _ _ ?_
        exact hQ 3 s.2.2.2 h
    · have h := h.2 hc
      refine hY _ _ _ _ (?_ : Y 19 [(0, 1, true, x0)] [(0, true, 2)] s)
      refine hY _ _ _ _ ?_
      exact hQ 2 s.2.2.2 h
  · have h := h.2 hc
    refine hY _ _ _ _ (?_ : Y 9 [(0, 1, true, x0)] [(2, true, 1)] s)
    refine hY _ _ _ _ ?_
    exact hQ 1 s.2.2.2 h
def we_23 : sFf := sEf 2 [(0, 1, 0)] (fun xs s Q => ap1 (fun x0 => wq_23 x0 s.2.2.2 Q) xs)
theorem we_23_ok : kS dC 1 23 0 (.inl we_23) := sEf_ok (mi := im_m23) rfl rfl rfl (fun R xs s r1 hb => by obtain ⟨x0, rfl, hb⟩ := ap1_ok hb; exact wk_23_0 _ R s x0 (fun x m' hx => ⟨m', rfl, hx⟩) r1 hb)
/-- LM$Clause.argumentAt(II)I -/
def wq_42 (x0 : Int) (x1 : Int) (x2 : Int) (T : hy_T) (m : hy_m) (Q : Int → hy_m → Prop) : Prop := hy_r 0 ((x1 * 3) + x2) ∧ ((((x1 * 3) + x2) < 0 → (Q 0 m)) ∧ (0 ≤ ((x1 * 3) + x2) → (T.1 (x0).toNat = some (3, 9) ∧ (∃ t1 n1 : Nat, T.1 (m ((x0).toNat) 2).toNat = some (t1, n1) ∧ 99 ≤ t1 ∧ (hy_r 0 ((x1 * 3) + x2) ∧ (((n1 : Int) ≤ ((x1 * 3) + x2) → (Q 0 m)) ∧ (((x1 * 3) + x2) < (n1 : Int) → (T.1 (x0).toNat = some (3, 9) ∧ (∃ n2 : Nat, T.1 (m ((x0).toNat) 2).toNat = some (100, n2) ∧ (0 ≤ ((x1 * 3) + x2) ∧ ((x1 * 3) + x2) < (n2 : Int) ∧ (Q (m ((m ((x0).toNat) 2).toNat) ((x1 * 3) + x2)) m)))))))))))
def cs_42 : List (Nat × Nat × sFS) := []
theorem cs_42_ok : kCs dC 0 cs_42 := kCs_n
def lb_42_0 (s : sS) (Q : sQ) (R : Int → hy_m → Prop) (x0 : Int) (x1 : Int) (x2 : Int) : Nat → Option (sL → sS → Prop) := sLb []
set_option maxRecDepth 30000 in
set_option maxHeartbeats 1000000 in
theorem wk_42_0 (Q : sQ) (R : Int → hy_m → Prop) (s : sS) (x0 : Int) (x1 : Int) (x2 : Int) (hQ : ∀ x m', R x m' → Q x (sM s m')) (hr : sRg [(0, 3, 0), (1, 0, 0), (2, 0, 0)] [x0, x1, x2]) (h : wq_42 x0 x1 x2 s.1 s.2.2.2 R) : kX dC 0 im_m42 0 0 (sCan [(0, 3, 0), (1, 0, 0), (2, 0, 0)] [x0, x1, x2]) [] s Q := by
  unfold wq_42 at h
  refine wz2_ok (cs := cs_42) (wr := []) (lb := lb_42_0 s Q R x0 x1 x2) cs_42_ok kLb_n (okL_can rfl hr) (fun Y hY hl => ?_)
  refine hY _ _ _ _ (hY _ _ _ _ (hY _ _ _ _ (?_ : Y 3 [(0, 3, true, x0), (1, 0, true, x1), (2, 0, true, x2)] [(0, false, x1 * 3)] s)))
  refine hY _ _ _ _ (hY _ _ _ _ (hY _ _ _ _ (?_ : Y 6 [(3, 0, false, (x1 * 3) + x2), (0, 3, true, x0), (1, 0, true, x1), (2, 0, true, x2)] [] s)))
  refine hY _ _ _ _ (?_ : Y 7 [(3, 0, false, (x1 * 3) + x2), (0, 3, true, x0), (1, 0, true, x1), (2, 0, true, x2)] [(0, false, (x1 * 3) + x2)] s)
  refine hY _ _ _ _ ?_
  refine And.intro h.1 ?_
  refine And.intro (fun hc => ?_) (fun hc => ?_)
  · have h := h.2.1 hc
    refine hY _ _ _ _ (?_ : Y 29 [(3, 0, false, (x1 * 3) + x2), (0, 3, true, x0), (1, 0, true, x1), (2, 0, true, x2)] [(2, true, 0)] s)
    refine hY _ _ _ _ ?_
    exact hQ 0 s.2.2.2 h
  · have h := h.2.2 hc
    refine hY _ _ _ _ (hY _ _ _ _ (?_ : Y 12 [(3, 0, false, (x1 * 3) + x2), (0, 3, true, x0), (1, 0, true, x1), (2, 0, true, x2)] [(3, true, x0), (0, false, (x1 * 3) + x2)] s))
    refine hY _ _ _ _ ?_
    refine (And.intro h.1 ?_)
    show Y 15 [(3, 0, false, (x1 * 3) + x2), (0, 3, true, x0), (1, 0, true, x1), (2, 0, true, x2)] [(3, true, s.2.2.2 ((x0).toNat) 2), (0, false, (x1 * 3) + x2)] s
    refine hY _ _ _ _ ?_
    obtain ⟨t1, n1, h⟩ := h.2
    refine Exists.intro t1 (Exists.intro n1 (And.intro h.1 (And.intro h.2.1 ?_)))
    show Y 16 [(3, 0, false, (x1 * 3) + x2), (0, 3, true, x0), (1, 0, true, x1), (2, 0, true, x2)] [(0, true, (n1 : Int)), (0, false, (x1 * 3) + x2)] s
    refine hY _ _ _ _ ?_
    refine And.intro h.2.2.1 ?_
    refine And.intro (fun hc => ?_) (fun hc => ?_)
    · have h := h.2.2.2.1 hc
      refine hY _ _ _ _ (?_ : Y 29 [(3, 0, false, (x1 * 3) + x2), (0, 3, true, x0), (1, 0, true, x1), (2, 0, true, x2)] [(2, true, 0)] s)
      refine hY _ _ _ _ ?_
      exact hQ 0 s.2.2.2 h
    · have h := h.2.2.2.2 hc
      refine hY _ _ _ _ (?_ : Y 20 [(3, 0, false, (x1 * 3) + x2), (0, 3, true, x0), (1, 0, true, x1), (2, 0, true, x2)] [(3, true, x0)] s)
      refine hY _ _ _ _ ?_
      refine (And.intro h.1 ?_)
      refine hY _ _ _ _ (?_ : Y 24 [(3, 0, false, (x1 * 3) + x2), (0, 3, true, x0), (1, 0, true, x1), (2, 0, true, x2)] [(0, false, (x1 * 3) + x2), (3, true, s.2.2.2 ((x0).toNat) 2)] s)
      refine hY _ _ _ _ ?_
      obtain ⟨n2, h⟩ := h.2
      refine Exists.intro n2 (And.intro h.1 ?_)
      refine (And.intro h.2.1 (And.intro h.2.2.1 ?_))
      refine hY _ _ _ _ (?_ : Y 29 [(3, 0, false, (x1 * 3) + x2), (0, 3, true, x0), (1, 0, true, x1), (2, 0, true, x2)] [(0, true, s.2.2.2 ((s.2.2.2 ((x0).toNat) 2).toNat) ((x1 * 3) + x2))] s)
      refine hY _ _ _ _ ?_
      exact hQ (s.2.2.2 ((s.2.2.2 ((x0).toNat) 2).toNat) ((x1 * 3) + x2)) s.2.2.2 h.2.2.2
def we_42 : sFf := sEf 4 [(0, 3, 0), (1, 0, 0), (2, 0, 0)] (fun xs s Q => ap3 (fun x0 x1 x2 => wq_42 x0 x1 x2 s.1 s.2.2.2 Q) xs)
theorem we_42_ok : kS dC 1 42 0 (.inl we_42) := sEf_ok (mi := im_m42) rfl rfl rfl (fun R xs s r1 hb => by obtain ⟨x0, x1, x2, rfl, hb⟩ := ap3_ok hb; exact wk_42_0 _ R s x0 x1 x2 (fun x m' hx => ⟨m', rfl, hx⟩) r1 hb)
/-- LM$Clause.kindAt(I)I -/
def wq_40 (x0 : Int) (x1 : Int) (T : hy_T) (m : hy_m) (Q : Int → hy_m → Prop) : Prop := (x1 < 0 → (Q 0 m)) ∧ (0 ≤ x1 → (T.1 (x0).toNat = some (3, 9) ∧ (∃ t1 n1 : Nat, T.1 (m ((x0).toNat) 0).toNat = some (t1, n1) ∧ 99 ≤ t1 ∧ (((n1 : Int) ≤ x1 → (Q 0 m)) ∧ (x1 < (n1 : Int) → (T.1 (x0).toNat = some (3, 9) ∧ (∃ n2 : Nat, T.1 (m ((x0).toNat) 0).toNat = some (100, n2) ∧ (0 ≤ x1 ∧ x1 < (n2 : Int) ∧ (Q (m ((m ((x0).toNat) 0).toNat) x1) m)))))))))
def cs_40 : List (Nat × Nat × sFS) := []
theorem cs_40_ok : kCs dC 0 cs_40 := kCs_n
def lb_40_0 (s : sS) (Q : sQ) (R : Int → hy_m → Prop) (x0 : Int) (x1 : Int) : Nat → Option (sL → sS → Prop) := sLb []
set_option maxRecDepth 30000 in
set_option maxHeartbeats 1000000 in
theorem wk_40_0 (Q : sQ) (R : Int → hy_m → Prop) (s : sS) (x0 : Int) (x1 : Int) (hQ : ∀ x m', R x m' → Q x (sM s m')) (hr : sRg [(0, 3, 0), (1, 0, 0)] [x0, x1]) (h : wq_40 x0 x1 s.1 s.2.2.2 R) : kX dC 0 im_m40 0 0 (sCan [(0, 3, 0), (1, 0, 0)] [x0, x1]) [] s Q := by
  unfold wq_40 at h
  refine wz2_ok (cs := cs_40) (wr := []) (lb := lb_40_0 s Q R x0 x1) cs_40_ok kLb_n (okL_can rfl hr) (fun Y hY hl => ?_)
  refine hY _ _ _ _ (?_ : Y 1 [(0, 3, true, x0), (1, 0, true, x1)] [(0, true, x1)] s)
  refine hY _ _ _ _ ?_
  refine And.intro (fun hc => ?_) (fun hc => ?_)
  · have h := h.1 hc
    refine hY _ _ _ _ (?_ : Y 23 [(0, 3, true, x0), (1, 0, true, x1)] [(2, true, 0)] s)
    refine hY _ _ _ _ ?_
    exact hQ 0 s.2.2.2 h
  · have h := h.2 hc
    refine hY _ _ _ _ (hY _ _ _ _ (?_ : Y 6 [(0, 3, true, x0), (1, 0, true, x1)] [(3, true, x0), (0, true, x1)] s))
    refine hY _ _ _ _ ?_
    refine (And.intro h.1 ?_)
    show Y 9 [(0, 3, true, x0), (1, 0, true, x1)] [(3, true, s.2.2.2 ((x0).toNat) 0), (0, true, x1)] s
    refine hY _ _ _ _ ?_
    obtain ⟨t1, n1, h⟩ := h.2
    refine Exists.intro t1 (Exists.intro n1 (And.intro h.1 (And.intro h.2.1 ?_)))
    show Y 10 [(0, 3, true, x0), (1, 0, true, x1)] [(0, true, (n1 : Int)), (0, true, x1)] s
    refine hY _ _ _ _ ?_
    refine And.intro (fun hc => ?_) (fun hc => ?_)
    · have h := h.2.2.1 hc
      refine hY _ _ _ _ (?_ : Y 23 [(0, 3, true, x0), (1, 0, true, x1)] [(2, true, 0)] s)
      refine hY _ _ _ _ ?_
      exact hQ 0 s.2.2.2 h
    · have h := h.2.2.2 hc
      refine hY _ _ _ _ (?_ : Y 14 [(0, 3, true, x0), (1, 0, true, x1)] [(3, true, x0)] s)
      refine hY _ _ _ _ ?_
      refine (And.intro h.1 ?_)
      refine hY _ _ _ _ (?_ : Y 18 [(0, 3, true, x0), (1, 0, true, x1)] [(0, true, x1), (3, true, s.2.2.2 ((x0).toNat) 0)] s)
      refine hY _ _ _ _ ?_
      obtain ⟨n2, h⟩ := h.2
      refine Exists.intro n2 (And.intro h.1 ?_)
      refine (And.intro h.2.1 (And.intro h.2.2.1 ?_))
      refine hY _ _ _ _ (?_ : Y 23 [(0, 3, true, x0), (1, 0, true, x1)] [(0, true, s.2.2.2 ((s.2.2.2 ((x0).toNat) 0).toNat) x1)] s)
      refine hY _ _ _ _ ?_
      exact hQ (s.2.2.2 ((s.2.2.2 ((x0).toNat) 0).toNat) x1) s.2.2.2 h.2.2.2
def we_40 : sFf := sEf 2 [(0, 3, 0), (1, 0, 0)] (fun xs s Q => ap2 (fun x0 x1 => wq_40 x0 x1 s.1 s.2.2.2 Q) xs)
theorem we_40_ok : kS dC 1 40 0 (.inl we_40) := sEf_ok (mi := im_m40) rfl rfl rfl (fun R xs s r1 hb => by obtain ⟨x0, x1, rfl, hb⟩ := ap2_ok hb; exact wk_40_0 _ R s x0 x1 (fun x m' hx => ⟨m', rfl, hx⟩) r1 hb)
/-- LM.isCallable(IJ)Z -/
def wq_24_13 (x0 : Int) (x1 : Int) (m : hy_m) (Q : Int → hy_m → Prop) : Prop := (x0 ≠ 4 → (Q 0 m)) ∧ (x0 = 4 → ((x1 = 186 → (Q 0 m)) ∧ (x1 ≠ 186 → (Q 1 m))))
def wq_24 (x0 : Int) (x1 : Int) (m : hy_m) (Q : Int → hy_m → Prop) : Prop := (x0 ≠ 3 → (wq_24_13 x0 x1 m Q)) ∧ (x0 = 3 → ((x1 ≠ 47980 → (Q 1 m)) ∧ (x1 = 47980 → (wq_24_13 x0 x1 m Q))))
def cs_24 : List (Nat × Nat × sFS) := []
theorem cs_24_ok : kCs dC 0 cs_24 := kCs_n
def lb_24_13 (s : sS) (Q : sQ) (R : Int → hy_m → Prop) (x0 : Int) (x1 : Int) : Nat → Option (sL → sS → Prop) := sLb []
set_option maxRecDepth 30000 in
set_option maxHeartbeats 1000000 in
theorem wk_24_13 (Q : sQ) (R : Int → hy_m → Prop) (s : sS) (x0 : Int) (x1 : Int) (hQ : ∀ x m', R x m' → Q x (sM s m')) (hr : sRg [(0, 0, 0), (1, 1, 0)] [x0, x1]) (h : wq_24_13 x0 x1 s.2.2.2 R) : kX dC 0 im_m24 2 13 (sCan [(0, 0, 0), (1, 1, 0)] [x0, x1]) [] s Q := by
  unfold wq_24_13 at h
  refine wz2_ok (cs := cs_24) (wr := []) (lb := lb_24_13 s Q R x0 x1) cs_24_ok kLb_n (okL_can rfl hr) (fun Y hY hl => ?_)
  refine hY _ _ _ _ (hY _ _ _ _ (?_ : Y 15 [(0, 0, true, x0), (1, 1, true, x1)] [(0, true, 4), (0, true, x0)] s))
  refine hY _ _ _ _ ?_
  refine And.intro (fun hc => ?_) (fun hc => ?_)
  · have h := h.1 hc
    refine hY _ _ _ _ (?_ : Y 31 [(0, 0, true, x0), (1, 1, true, x1)] [(2, true, 0)] s)
    refine hY _ _ _ _ ?_
    exact hQ 0 s.2.2.2 h
  · have h := h.2 hc
    refine hY _ _ _ _ (hY _ _ _ _ (?_ : Y 22 [(0, 0, true, x0), (1, 1, true, x1)] [(1, true, 186), (1, true, x1)] s))
    refine hY _ _ _ _ ?_
    refine And.intro (fun hc => ?_) (fun hc => ?_)
    · have h := h.1 hc
      refine hY _ _ _ _ (?_ : Y 31 [(0, 0, true, x0), (1, 1, true, x1)] [(2, true, 0)] s)
      refine hY _ _ _ _ ?_
      exact hQ 0 s.2.2.2 h
    · have h := h.2 hc
      refine hY _ _ _ _ (hY _ _ _ _ (?_ : Y 31 [(0, 0, true, x0), (1, 1, true, x1)] [(2, true, 1)] s))
      refine hY _ _ _ _ ?_
      exact hQ 1 s.2.2.2 h
def lb_24_0 (s : sS) (Q : sQ) (R : Int → hy_m → Prop) (x0 : Int) (x1 : Int) : Nat → Option (sL → sS → Prop) := sLb [(13, fun lv t => sG [(0, 0, 0), (1, 1, 0)] lv (ap2 (fun w0 w1 => ∃ m', t = sM s m' ∧ wq_24_13 w0 w1 m' R)))]
set_option maxRecDepth 30000 in
set_option maxHeartbeats 1000000 in
theorem wk_24_0 (Q : sQ) (R : Int → hy_m → Prop) (s : sS) (x0 : Int) (x1 : Int) (hQ : ∀ x m', R x m' → Q x (sM s m')) (hr : sRg [(0, 0, 0), (1, 1, 0)] [x0, x1]) (h : wq_24 x0 x1 s.2.2.2 R) : kX dC 0 im_m24 2 0 (sCan [(0, 0, 0), (1, 1, 0)] [x0, x1]) [] s Q := by
  unfold wq_24 at h
  refine wz2_ok (cs := cs_24) (wr := []) (lb := lb_24_0 s Q R x0 x1) cs_24_ok (kLb_c (kLab (Bd := fun xs t => ap2 (fun w0 w1 => ∃ m', t = sM s m' ∧ wq_24_13 w0 w1 m' R) xs) rfl (fun xs t r1 r2 hb => by obtain ⟨w0, w1, rfl, hb⟩ := ap2_ok hb; obtain ⟨m', rfl, hx⟩ := hb; exact wk_24_13 Q R (sM s m') _ _ (fun x m'' hy => hQ x m'' hy) r1 hx)) kLb_n) (okL_can rfl hr) (fun Y hY hl => ?_)
  have l13 := hl 13 _ rfl
  refine hY _ _ _ _ (hY _ _ _ _ (?_ : Y 2 [(0, 0, true, x0), (1, 1, true, x1)] [(0, true, 3), (0, true, x0)] s))
  refine hY _ _ _ _ ?_
  refine And.intro (fun hc => ?_) (fun hc => ?_)
  · have h := h.1 hc
    show Y 13 [(0, 0, true, x0), (1, 1, true, x1)] [] s
    refine l13 _ _ ?_
    exact (Exists.intro s.2.2.2 (And.intro rfl h))
  · have h := h.2 hc
    refine hY _ _ _ _ (hY _ _ _ _ (?_ : Y 9 [(0, 0, true, x0), (1, 1, true, x1)] [(1, true, 47980), (1, true, x1)] s))
    refine hY _ _ _ _ ?_
    refine And.intro (fun hc => ?_) (fun hc => ?_)
    · have h := h.1 hc
      refine hY _ _ _ _ (hY _ _ _ _ (?_ : Y 31 [(0, 0, true, x0), (1, 1, true, x1)] [(2, true, 1)] s))
      refine hY _ _ _ _ ?_
      exact hQ 1 s.2.2.2 h
    · have h := h.2 hc
      show Y 13 [(0, 0, true, x0), (1, 1, true, x1)] [] s
      refine l13 _ _ ?_
      exact (Exists.intro s.2.2.2 (And.intro rfl h))
def we_24 : sFf := sEf 3 [(0, 0, 0), (1, 1, 0)] (fun xs s Q => ap2 (fun x0 x1 => wq_24 x0 x1 s.2.2.2 Q) xs)
theorem we_24_ok : kS dC 1 24 2 (.inl we_24) := sEf_ok (mi := im_m24) rfl rfl rfl (fun R xs s r1 hb => by obtain ⟨x0, x1, rfl, hb⟩ := ap2_ok hb; exact wk_24_0 _ R s x0 x1 (fun x m' hx => ⟨m', rfl, hx⟩) r1 hb)
/-- LM$Clause.calledFrom(I)J -/
def wq_49_47 (P4 : Int → Int → hy_m → Prop) (x0 : Int) (x2 : Int) (x3 : Int) (T : hy_T) (m : hy_m) (Q : Int → hy_m → Prop) : Prop := T.1 (x0).toNat = some (3, 9) ∧ (wq_42 x0 x2 0 T m (fun r1 m1 => T.1 (x0).toNat = some (3, 9) ∧ (wq_40 x0 r1 T m1 (fun r2 m2 => T.1 (x0).toNat = some (3, 9) ∧ (wq_41 x0 r1 T m2 (fun r3 m3 => wq_24 r2 r3 m3 (fun r4 m4 => (r4 ≠ 0 → (hy_r 0 (x3 + 1) ∧ (P4 r1 (x3 + 1) m4))) ∧ (r4 = 0 → (Q 0 m4)))))))))
def wf_49_4 (x0 : Int) (T : hy_T) (Q : Int → hy_m → Prop) (P4 : Int → Int → hy_m → Prop) (x2 : Int) (x3 : Int) (m : hy_m) : Prop := (128 ≤ x3 → (Q 0 m)) ∧ (x3 < 128 → (T.1 (x0).toNat = some (3, 9) ∧ (wq_41 x0 x2 T m (fun r1 m1 => wq_23 r1 m1 (fun r2 m2 => (r2 ≠ 0 → ((r2 = 4 → (wq_49_47 P4 x0 x2 x3 T m2 Q)) ∧ (r2 ≠ 4 → ((r2 = 5 → (wq_49_47 P4 x0 x2 x3 T m2 Q)) ∧ (r2 ≠ 5 → (Q 0 m2)))))) ∧ (r2 = 0 → (Q r1 m2)))))))
def wq_49_4 (x0 : Int) (x2 : Int) (x3 : Int) (T : hy_T) (m : hy_m) (Q : Int → hy_m → Prop) : Prop := wL2 hy_m (wf_49_4 x0 T Q) x2 x3 m
def wq_49 (x0 : Int) (x1 : Int) (T : hy_T) (m : hy_m) (Q : Int → hy_m → Prop) : Prop := wq_49_4 x0 x1 0 T m Q
theorem wc_42_3t_0t_2t (x0 : Int) (x1 : Int) (x2 : Int) (s : sS) (R : Int → hy_m → Prop) (h : wq_42 x0 x1 x2 s.1 s.2.2.2 R) : we_42 [(3, true, x0), (0, true, x1), (2, true, x2)] s R := h
theorem wc_40_3t_0t (x0 : Int) (x1 : Int) (s : sS) (R : Int → hy_m → Prop) (h : wq_40 x0 x1 s.1 s.2.2.2 R) : we_40 [(3, true, x0), (0, true, x1)] s R := h
theorem wc_41_3t_0t (x0 : Int) (x1 : Int) (s : sS) (R : Int → hy_m → Prop) (h : wq_41 x0 x1 s.1 s.2.2.2 R) : we_41 [(3, true, x0), (0, true, x1)] s R := h
theorem wc_24_0t_1t (x0 : Int) (x1 : Int) (s : sS) (R : Int → hy_m → Prop) (h : wq_24 x0 x1 s.2.2.2 R) : we_24 [(0, true, x0), (1, true, x1)] s R := h
theorem wc_23_1t (x0 : Int) (s : sS) (R : Int → hy_m → Prop) (h : wq_23 x0 s.2.2.2 R) : we_23 [(1, true, x0)] s R := h
def cs_49 : List (Nat × Nat × sFS) := [(23, 0, .inl we_23), (24, 2, .inl we_24), (40, 0, .inl we_40), (41, 1, .inl we_41), (42, 0, .inl we_42)]
theorem cs_49_ok : kCs dC 1 cs_49 := (kCs_c (Or.inl rfl) (we_23_ok.deep (by decide)) (kCs_c (Or.inr (Or.inr (Or.inl rfl))) (we_24_ok.deep (by decide)) (kCs_c (Or.inl rfl) (we_40_ok.deep (by decide)) (kCs_c (Or.inr (Or.inl rfl)) (we_41_ok.deep (by decide)) (kCs_c (Or.inl rfl) (we_42_ok.deep (by decide)) kCs_n)))))
def lb_49_47 (s : sS) (Q : sQ) (P4 : Int → Int → hy_m → Prop) (R : Int → hy_m → Prop) (x0 : Int) (x2 : Int) (x3 : Int) : Nat → Option (sL → sS → Prop) := sLb [(4, fun lv t => sG [(0, 3, 0), (2, 0, 0), (3, 0, 0)] lv (ap3 (fun w0 w2 w3 => ∃ m', t = sM s m' ∧ w0 = x0 ∧ P4 w2 w3 m')))]
set_option maxRecDepth 30000 in
set_option maxHeartbeats 1000000 in
theorem wk_49_47 (Q : sQ) (R : Int → hy_m → Prop) (s : sS) (P4 : Int → Int → hy_m → Prop) (x0 : Int) (x2 : Int) (x3 : Int) (hP4 : ∀ (z2 z3 : Int) (m : hy_m), P4 z2 z3 m → sRg [(0, 3, 0), (2, 0, 0), (3, 0, 0)] [x0, z2, z3] → kX dC 1 im_m49 1 4 (sCan [(0, 3, 0), (2, 0, 0), (3, 0, 0)] [x0, z2, z3]) [] (sM s m) Q) (hQ : ∀ x m', R x m' → Q x (sM s m')) (hr : sRg [(0, 3, 0), (2, 0, 0), (3, 0, 0)] [x0, x2, x3]) (h : wq_49_47 P4 x0 x2 x3 s.1 s.2.2.2 R) : kX dC 1 im_m49 1 47 (sCan [(0, 3, 0), (2, 0, 0), (3, 0, 0)] [x0, x2, x3]) [] s Q := by
  unfold wq_49_47 at h
  refine wz2_ok (cs := cs_49) (wr := []) (lb := lb_49_47 s Q P4 R x0 x2 x3) cs_49_ok (kLb_c (kLab (Bd := fun xs t => ap3 (fun w0 w2 w3 => ∃ m', t = sM s m' ∧ w0 = x0 ∧ P4 w2 w3 m') xs) rfl (fun xs t r1 r2 hb => by obtain ⟨w0, w2, w3, rfl, hb⟩ := ap3_ok hb; obtain ⟨m', rfl, rfl, hx⟩ := hb; exact hP4 _ _ m' hx r1)) kLb_n) (okL_can rfl hr) (fun Y hY hl => ?_)
  have l4 := hl 4 _ rfl
  refine hY _ _ _ _ (hY _ _ _ _ (hY _ _ _ _ (?_ : Y 50 [(0, 3, true, x0), (2, 0, true, x2), (3, 0, true, x3)] [(2, true, 0), (0, true, x2), (3, true, x0)] s)))
  refine hY _ _ _ _ ?_
  refine (And.intro h.1 ?_)
  refine Exists.intro _ (And.intro (wc_42_3t_0t_2t x0 x2 0 _ _ h.2) (fun r1 m1 h => ?_))
  refine hY _ _ _ _ (hY _ _ _ _ (hY _ _ _ _ (?_ : Y 56 [(2, 0, true, r1), (0, 3, true, x0), (3, 0, true, x3)] [(0, true, r1), (3, true, x0)] (sM s m1))))
  refine hY _ _ _ _ ?_
  refine (And.intro h.1 ?_)
  refine Exists.intro _ (And.intro (wc_40_3t_0t x0 r1 _ _ h.2) (fun r2 m2 h => ?_))
  refine hY _ _ _ _ (hY _ _ _ _ (?_ : Y 61 [(2, 0, true, r1), (0, 3, true, x0), (3, 0, true, x3)] [(0, true, r1), (3, true, x0), (0, true, r2)] (sM s m2)))
  refine hY _ _ _ _ ?_
  refine (And.intro h.1 ?_)
  refine Exists.intro _ (And.intro (wc_41_3t_0t x0 r1 _ _ h.2) (fun r3 m3 h => ?_))
  show Y 64 [(2, 0, true, r1), (0, 3, true, x0), (3, 0, true, x3)] [(1, true, r3), (0, true, r2)] (sM s m3)
  refine hY _ _ _ _ ?_
  refine Exists.intro _ (And.intro (wc_24_0t_1t r2 r3 _ _ h) (fun r4 m4 h => ?_))
  show Y 67 [(2, 0, true, r1), (0, 3, true, x0), (3, 0, true, x3)] [(2, true, r4)] (sM s m4)
  refine hY _ _ _ _ ?_
  refine And.intro (fun hc => ?_) (fun hc => ?_)
  · have h := h.1 hc
    refine hY _ _ _ _ (hY _ _ _ _ (?_ : Y 4 [(3, 0, false, x3 + 1), (2, 0, true, r1), (0, 3, true, x0)] [] (sM s m4)))
    refine l4 _ _ ?_
    refine And.intro h.1 ?_
    exact (Exists.intro m4 (And.intro rfl (And.intro rfl h.2)))
  · have h := h.2 hc
    refine hY _ _ _ _ (?_ : Y 71 [(2, 0, true, r1), (0, 3, true, x0), (3, 0, true, x3)] [(1, true, 0)] (sM s m4))
    refine hY _ _ _ _ ?_
    exact hQ 0 m4 h
def lb_49_4 (s : sS) (Q : sQ) (P4 : Int → Int → hy_m → Prop) (R : Int → hy_m → Prop) (x0 : Int) (x2 : Int) (x3 : Int) : Nat → Option (sL → sS → Prop) := sLb [(47, fun lv t => sG [(0, 3, 0), (2, 0, 0), (3, 0, 0)] lv (ap3 (fun w0 w2 w3 => ∃ m', t = sM s m' ∧ w0 = x0 ∧ wq_49_47 P4 w0 w2 w3 s.1 m' R))), (4, fun lv t => sG [(0, 3, 0), (2, 0, 0), (3, 0, 0)] lv (ap3 (fun w0 w2 w3 => ∃ m', t = sM s m' ∧ w0 = x0 ∧ P4 w2 w3 m')))]
set_option maxRecDepth 30000 in
set_option maxHeartbeats 1000000 in
theorem wj_49_4 (Q : sQ) (R : Int → hy_m → Prop) (s : sS) (P4 : Int → Int → hy_m → Prop) (x0 : Int) (x2 : Int) (x3 : Int) (m : hy_m) (hP4 : ∀ (z2 z3 : Int) (m : hy_m), P4 z2 z3 m → sRg [(0, 3, 0), (2, 0, 0), (3, 0, 0)] [x0, z2, z3] → kX dC 1 im_m49 1 4 (sCan [(0, 3, 0), (2, 0, 0), (3, 0, 0)] [x0, z2, z3]) [] (sM s m) Q) (hQ : ∀ x m', R x m' → Q x (sM s m')) (hr : sRg [(0, 3, 0), (2, 0, 0), (3, 0, 0)] [x0, x2, x3]) (h : wf_49_4 x0 s.1 R P4 x2 x3 m) : kX dC 1 im_m49 1 4 (sCan [(0, 3, 0), (2, 0, 0), (3, 0, 0)] [x0, x2, x3]) [] (sM s m) Q := by
  unfold wf_49_4 at h
  refine wz2_ok (cs := cs_49) (wr := []) (lb := lb_49_4 s Q P4 R x0 x2 x3) cs_49_ok (kLb_c (kLab (Bd := fun xs t => ap3 (fun w0 w2 w3 => ∃ m', t = sM s m' ∧ w0 = x0 ∧ wq_49_47 P4 w0 w2 w3 s.1 m' R) xs) rfl (fun xs t r1 r2 hb => by obtain ⟨w0, w2, w3, rfl, hb⟩ := ap3_ok hb; obtain ⟨m', rfl, rfl, hx⟩ := hb; exact wk_49_47 Q R (sM s m') P4 _ _ _ hP4 (fun x m'' hy => hQ x m'' hy) r1 hx)) (kLb_c (kLab (Bd := fun xs t => ap3 (fun w0 w2 w3 => ∃ m', t = sM s m' ∧ w0 = x0 ∧ P4 w2 w3 m') xs) rfl (fun xs t r1 r2 hb => by obtain ⟨w0, w2, w3, rfl, hb⟩ := ap3_ok hb; obtain ⟨m', rfl, rfl, hx⟩ := hb; exact hP4 _ _ m' hx r1)) kLb_n)) (okL_can rfl hr) (fun Y hY hl => ?_)
  have l47 := hl 47 _ rfl
  have l4 := hl 4 _ rfl
  refine hY _ _ _ _ (hY _ _ _ _ (?_ : Y 8 [(0, 3, true, x0), (2, 0, true, x2), (3, 0, true, x3)] [(0, true, 128), (0, true, x3)] (sM s m)))
  refine hY _ _ _ _ ?_
  refine And.intro (fun hc => ?_) (fun hc => ?_)
  · have h := h.1 hc
    refine hY _ _ _ _ (?_ : Y 79 [(0, 3, true, x0), (2, 0, true, x2), (3, 0, true, x3)] [(1, true, 0)] (sM s m))
    refine hY _ _ _ _ ?_
    exact hQ 0 m h
  · have h := h.2 hc
    refine hY _ _ _ _ (hY _ _ _ _ (?_ : Y 13 [(0, 3, true, x0), (2, 0, true, x2), (3, 0, true, x3)] [(0, true, x2), (3, true, x0)] (sM s m)))
    refine hY _ _ _ _ ?_
    refine (And.intro h.1 ?_)
    refine Exists.intro _ (And.intro (wc_41_3t_0t x0 x2 _ _ h.2) (fun r1 m1 h => ?_))
    refine hY _ _ _ _ (hY _ _ _ _ (?_ : Y 20 [(4, 1, true, r1), (0, 3, true, x0), (2, 0, true, x2), (3, 0, true, x3)] [(1, true, r1)] (sM s m1)))
    refine hY _ _ _ _ ?_
    refine Exists.intro _ (And.intro (wc_23_1t r1 _ _ h) (fun r2 m2 h => ?_))
    refine hY _ _ _ _ (hY _ _ _ _ (?_ : Y 27 [(6, 0, true, r2), (4, 1, true, r1), (0, 3, true, x0), (2, 0, true, x2), (3, 0, true, x3)] [(0, true, r2)] (sM s m2)))
    refine hY _ _ _ _ ?_
    refine And.intro (fun hc => ?_) (fun hc => ?_)
    · have h := h.1 hc
      refine hY _ _ _ _ (hY _ _ _ _ (?_ : Y 36 [(6, 0, true, r2), (4, 1, true, r1), (0, 3, true, x0), (2, 0, true, x2), (3, 0, true, x3)] [(0, true, 4), (0, true, r2)] (sM s m2)))
      refine hY _ _ _ _ ?_
      refine And.intro (fun hc => ?_) (fun hc => ?_)
      · have h := h.1 hc
        show Y 47 [(6, 0, true, r2), (4, 1, true, r1), (0, 3, true, x0), (2, 0, true, x2), (3, 0, true, x3)] [] (sM s m2)
        refine l47 _ _ ?_
        exact (Exists.intro m2 (And.intro rfl (And.intro rfl h)))
      · have h := h.2 hc
        refine hY _ _ _ _ (hY _ _ _ _ (?_ : Y 42 [(6, 0, true, r2), (4, 1, true, r1), (0, 3, true, x0), (2, 0, true, x2), (3, 0, true, x3)] [(0, true, 5), (0, true, r2)] (sM s m2)))
        refine hY _ _ _ _ ?_
        refine And.intro (fun hc => ?_) (fun hc => ?_)
        · have h := h.1 hc
          show Y 47 [(6, 0, true, r2), (4, 1, true, r1), (0, 3, true, x0), (2, 0, true, x2), (3, 0, true, x3)] [] (sM s m2)
          refine l47 _ _ ?_
          exact (Exists.intro m2 (And.intro rfl (And.intro rfl h)))
        · have h := h.2 hc
          refine hY _ _ _ _ (?_ : Y 46 [(6, 0, true, r2), (4, 1, true, r1), (0, 3, true, x0), (2, 0, true, x2), (3, 0, true, x3)] [(1, true, 0)] (sM s m2))
          refine hY _ _ _ _ ?_
          exact hQ 0 m2 h
    · have h := h.2 hc
      refine hY _ _ _ _ (?_ : Y 32 [(6, 0, true, r2), (4, 1, true, r1), (0, 3, true, x0), (2, 0, true, x2), (3, 0, true, x3)] [(1, true, r1)] (sM s m2))
      refine hY _ _ _ _ ?_
      exact hQ r1 m2 h
theorem wk_49_4 (Q : sQ) (R : Int → hy_m → Prop) (s : sS) (x0 : Int) (x2 : Int) (x3 : Int) (hQ : ∀ x m', R x m' → Q x (sM s m')) (hr : sRg [(0, 3, 0), (2, 0, 0), (3, 0, 0)] [x0, x2, x3]) (h : wq_49_4 x0 x2 x3 s.1 s.2.2.2 R) : kX dC 1 im_m49 1 4 (sCan [(0, 3, 0), (2, 0, 0), (3, 0, 0)] [x0, x2, x3]) [] s Q :=
  h (fun x2 x3 m => sRg [(0, 3, 0), (2, 0, 0), (3, 0, 0)] [x0, x2, x3] → kX dC 1 im_m49 1 4 (sCan [(0, 3, 0), (2, 0, 0), (3, 0, 0)] [x0, x2, x3]) [] (sM s m) Q) (fun x2 x3 m h hr => wj_49_4 Q R s (fun x2 x3 m => sRg [(0, 3, 0), (2, 0, 0), (3, 0, 0)] [x0, x2, x3] → kX dC 1 im_m49 1 4 (sCan [(0, 3, 0), (2, 0, 0), (3, 0, 0)] [x0, x2, x3]) [] (sM s m) Q) x0 x2 x3 m  (fun _ _ _ hp hr => hp hr) hQ hr h) hr
def lb_49_0 (s : sS) (Q : sQ) (R : Int → hy_m → Prop) (x0 : Int) (x1 : Int) : Nat → Option (sL → sS → Prop) := sLb [(4, fun lv t => sG [(0, 3, 0), (2, 0, 0), (3, 0, 0)] lv (ap3 (fun w0 w2 w3 => ∃ m', t = sM s m' ∧ wq_49_4 w0 w2 w3 s.1 m' R)))]
set_option maxRecDepth 30000 in
set_option maxHeartbeats 1000000 in
theorem wk_49_0 (Q : sQ) (R : Int → hy_m → Prop) (s : sS) (x0 : Int) (x1 : Int) (hQ : ∀ x m', R x m' → Q x (sM s m')) (hr : sRg [(0, 3, 0), (1, 0, 0)] [x0, x1]) (h : wq_49 x0 x1 s.1 s.2.2.2 R) : kX dC 1 im_m49 1 0 (sCan [(0, 3, 0), (1, 0, 0)] [x0, x1]) [] s Q := by
  unfold wq_49 at h
  refine wz2_ok (cs := cs_49) (wr := []) (lb := lb_49_0 s Q R x0 x1) cs_49_ok (kLb_c (kLab (Bd := fun xs t => ap3 (fun w0 w2 w3 => ∃ m', t = sM s m' ∧ wq_49_4 w0 w2 w3 s.1 m' R) xs) rfl (fun xs t r1 r2 hb => by obtain ⟨w0, w2, w3, rfl, hb⟩ := ap3_ok hb; obtain ⟨m', rfl, hx⟩ := hb; exact wk_49_4 Q R (sM s m') _ _ _ (fun x m'' hy => hQ x m'' hy) r1 hx)) kLb_n) (okL_can rfl hr) (fun Y hY hl => ?_)
  have l4 := hl 4 _ rfl
  refine hY _ _ _ _ (hY _ _ _ _ (hY _ _ _ _ (?_ : Y 3 [(2, 0, true, x1), (0, 3, true, x0), (1, 0, true, x1)] [(2, true, 0)] s)))
  refine hY _ _ _ _ (?_ : Y 4 [(3, 2, true, 0), (2, 0, true, x1), (0, 3, true, x0), (1, 0, true, x1)] [] s)
  refine l4 _ _ ?_
  exact (Exists.intro s.2.2.2 (And.intro rfl h))
def we_49 : sFf := sEf 7 [(0, 3, 0), (1, 0, 0)] (fun xs s Q => ap2 (fun x0 x1 => wq_49 x0 x1 s.1 s.2.2.2 Q) xs)
theorem we_49_ok : kS dC 2 49 1 (.inl we_49) := sEf_ok (mi := im_m49) rfl rfl rfl (fun R xs s r1 hb => by obtain ⟨x0, x1, rfl, hb⟩ := ap2_ok hb; exact wk_49_0 _ R s x0 x1 (fun x m' hx => ⟨m', rfl, hx⟩) r1 hb)
/-- LM$Clause.<init>(LLogicMachine$Reader;)V -/
def wf_39_156 (x0 : Int) (x1 : Int) (Q : sQ) (P156 : Int → Int → sS → Prop) (x3 : Int) (x4 : Int) (s : sS) : Prop := (x4 < 0 → (Q 0 s)) ∧ (0 ≤ x4 → (s.1.1 (x1).toNat = some (6, 18) ∧ (∃ n1 : Nat, s.1.1 (s.2.2.2 ((x1).toNat) 11).toNat = some (100, n1) ∧ (0 ≤ x4 ∧ x4 < (n1 : Int) ∧ (s.1.1 (x0).toNat = some (3, 9) ∧ (wq_307 (iO x3 (s.2.2.2 ((s.2.2.2 ((x1).toNat) 11).toNat) x4)) s.2.2.2 (fun r2 m2 => ∃ n3 : Nat, s.1.1 (s.2.2.2 ((x0).toNat) 8).toNat = some (100, n3) ∧ (0 ≤ x4 ∧ x4 < (n3 : Int) ∧ (s.1.1 (x0).toNat = some (3, 9) ∧ (s.1.1 (x0).toNat = some (3, 9) ∧ (∃ n4 : Nat, s.1.1 ((hy_u m2 ((s.2.2.2 ((x0).toNat) 8).toNat) x4 r2) ((x0).toNat) 4).toNat = some (100, n4) ∧ (0 ≤ x4 ∧ x4 < (n4 : Int) ∧ (s.1.1 (x0).toNat = some (3, 9) ∧ (wq_49 x0 ((hy_u m2 ((s.2.2.2 ((x0).toNat) 8).toNat) x4 r2) (((hy_u m2 ((s.2.2.2 ((x0).toNat) 8).toNat) x4 r2) ((x0).toNat) 4).toNat) x4) s.1 (hy_u m2 ((s.2.2.2 ((x0).toNat) 8).toNat) x4 r2) (fun r5 m5 => ∃ n6 : Nat, s.1.1 ((hy_u m2 ((s.2.2.2 ((x0).toNat) 8).toNat) x4 r2) ((x0).toNat) 7).toNat = some (101, n6) ∧ (0 ≤ x4 ∧ x4 < (n6 : Int) ∧ (hy_r 0 (x4 + (-1)) ∧ (P156 (iO x3 (s.2.2.2 ((s.2.2.2 ((x1).toNat) 11).toNat) x4)) (x4 + (-1)) (s.1, s.2.1, s.2.2.1, hy_u m5 (((hy_u m2 ((s.2.2.2 ((x0).toNat) 8).toNat) x4 r2) ((x0).toNat) 7).toNat) x4 r5)))))))))))))))))))
def wq_39_156 (x0 : Int) (x1 : Int) (x3 : Int) (x4 : Int) (s : sS) (Q : sQ) : Prop := wL2 sS (wf_39_156 x0 x1 Q) x3 x4 s
def wf_39_86 (x0 : Int) (x1 : Int) (Q : sQ) (P86 : Int → Int → sS → Prop) (x2 : Int) (x3 : Int) (s : sS) : Prop := s.1.1 (x0).toNat = some (3, 9) ∧ (((s.2.2.2 ((x0).toNat) 5) ≤ x3 → (s.1.1 (x0).toNat = some (3, 9) ∧ (s.1.1 (x0).toNat = some (3, 9) ∧ (∃ t1 n1 : Nat, s.1.1 ((hy_u s.2.2.2 ((x0).toNat) 6 x2) ((x0).toNat) 4).toNat = some (t1, n1) ∧ 99 ≤ t1 ∧ (0 ≤ (n1 : Int) ∧ (n1 : Int) ≤ 10000000 ∧ ((hy_e s.1 s.2.1 101 (((n1 : Int)).toNat)).1 (x0).toNat = some (3, 9) ∧ ((hy_e s.1 s.2.1 101 (((n1 : Int)).toNat)).1 (x0).toNat = some (3, 9) ∧ (∃ t2 n2 : Nat, (hy_e s.1 s.2.1 101 (((n1 : Int)).toNat)).1 ((hy_u (hy_z (hy_u s.2.2.2 ((x0).toNat) 6 x2) s.2.1) ((x0).toNat) 7 (s.2.1 : Int)) ((x0).toNat) 4).toNat = some (t2, n2) ∧ 99 ≤ t2 ∧ (0 ≤ (n2 : Int) ∧ (n2 : Int) ≤ 10000000 ∧ ((hy_e (hy_e s.1 s.2.1 101 (((n1 : Int)).toNat)) (s.2.1 + 1) 100 (((n2 : Int)).toNat)).1 (x0).toNat = some (3, 9) ∧ ((hy_e (hy_e s.1 s.2.1 101 (((n1 : Int)).toNat)) (s.2.1 + 1) 100 (((n2 : Int)).toNat)).1 (x0).toNat = some (3, 9) ∧ (∃ t3 n3 : Nat, (hy_e (hy_e s.1 s.2.1 101 (((n1 : Int)).toNat)) (s.2.1 + 1) 100 (((n2 : Int)).toNat)).1 ((hy_u (hy_z (hy_u (hy_z (hy_u s.2.2.2 ((x0).toNat) 6 x2) s.2.1) ((x0).toNat) 7 (s.2.1 : Int)) (s.2.1 + 1)) ((x0).toNat) 8 (((s.2.1 + 1 : Nat) : Int) : Int)) ((x0).toNat) 4).toNat = some (t3, n3) ∧ 99 ≤ t3 ∧ (hy_r 0 ((n3 : Int) - 1) ∧ (wq_39_156 x0 x1 0 ((n3 : Int) - 1) (hy_e (hy_e s.1 s.2.1 101 (((n1 : Int)).toNat)) (s.2.1 + 1) 100 (((n2 : Int)).toNat), s.2.1 + 1 + 1, s.2.2.1 + (((n1 : Int)).toNat) + (((n2 : Int)).toNat), hy_u (hy_z (hy_u (hy_z (hy_u s.2.2.2 ((x0).toNat) 6 x2) s.2.1) ((x0).toNat) 7 (s.2.1 : Int)) (s.2.1 + 1)) ((x0).toNat) 8 (((s.2.1 + 1 : Nat) : Int) : Int)) Q)))))))))))))) ∧ (x3 < (s.2.2.2 ((x0).toNat) 5) → (s.1.1 (x1).toNat = some (6, 18) ∧ (∃ n4 : Nat, s.1.1 (s.2.2.2 ((x1).toNat) 9).toNat = some (100, n4) ∧ (0 ≤ x3 ∧ x3 < (n4 : Int) ∧ (((s.2.2.2 ((s.2.2.2 ((x1).toNat) 9).toNat) x3) ≠ 1 → (hy_r 0 (x2 + 0) ∧ (hy_r 0 (x3 + 1) ∧ (P86 (x2 + 0) (x3 + 1) s)))) ∧ ((s.2.2.2 ((s.2.2.2 ((x1).toNat) 9).toNat) x3) = 1 → (hy_r 0 (x2 + 1) ∧ (hy_r 0 (x3 + 1) ∧ (P86 (x2 + 1) (x3 + 1) s))))))))))
def wq_39_86 (x0 : Int) (x1 : Int) (x2 : Int) (x3 : Int) (s : sS) (Q : sQ) : Prop := wL2 sS (wf_39_86 x0 x1 Q) x2 x3 s
def wq_39 (x0 : Int) (x1 : Int) (s : sS) (Q : sQ) : Prop := x0 ≠ 0 ∧ (s.1.1 (x1).toNat = some (6, 18) ∧ (s.1.1 (x1).toNat = some (6, 18) ∧ (wq_305 (s.2.2.2 ((x1).toNat) 1) (s.2.2.2 ((x1).toNat) 4) s (fun r1 s1 => s1.1.1 (x0).toNat = some (3, 9) ∧ (s1.1.1 (x1).toNat = some (6, 18) ∧ (s1.1.1 (x1).toNat = some (6, 18) ∧ (wq_306 ((hy_u s1.2.2.2 ((x0).toNat) 0 r1) ((x1).toNat) 2) ((hy_u s1.2.2.2 ((x0).toNat) 0 r1) ((x1).toNat) 4) (s1.1, s1.2.1, s1.2.2.1, hy_u s1.2.2.2 ((x0).toNat) 0 r1) (fun r2 s2 => s2.1.1 (x0).toNat = some (3, 9) ∧ (s2.1.1 (x1).toNat = some (6, 18) ∧ (s2.1.1 (x1).toNat = some (6, 18) ∧ (hy_r 0 (((hy_u s2.2.2.2 ((x0).toNat) 1 r2) ((x1).toNat) 4) * 3) ∧ (wq_305 ((hy_u s2.2.2.2 ((x0).toNat) 1 r2) ((x1).toNat) 3) (((hy_u s2.2.2.2 ((x0).toNat) 1 r2) ((x1).toNat) 4) * 3) (s2.1, s2.2.1, s2.2.2.1, hy_u s2.2.2.2 ((x0).toNat) 1 r2) (fun r3 s3 => s3.1.1 (x0).toNat = some (3, 9) ∧ (s3.1.1 (x1).toNat = some (6, 18) ∧ (s3.1.1 (x0).toNat = some (3, 9) ∧ (s3.1.1 (x1).toNat = some (6, 18) ∧ (s3.1.1 (x1).toNat = some (6, 18) ∧ (wq_305 ((hy_u (hy_u s3.2.2.2 ((x0).toNat) 2 r3) ((x0).toNat) 3 ((hy_u s3.2.2.2 ((x0).toNat) 2 r3) ((x1).toNat) 5)) ((x1).toNat) 6) ((hy_u (hy_u s3.2.2.2 ((x0).toNat) 2 r3) ((x0).toNat) 3 ((hy_u s3.2.2.2 ((x0).toNat) 2 r3) ((x1).toNat) 5)) ((x1).toNat) 7) (s3.1, s3.2.1, s3.2.2.1, hy_u (hy_u s3.2.2.2 ((x0).toNat) 2 r3) ((x0).toNat) 3 ((hy_u s3.2.2.2 ((x0).toNat) 2 r3) ((x1).toNat) 5)) (fun r4 s4 => s4.1.1 (x0).toNat = some (3, 9) ∧ (s4.1.1 (x1).toNat = some (6, 18) ∧ (s4.1.1 (x0).toNat = some (3, 9) ∧ (wq_39_86 x0 x1 0 0 (s4.1, s4.2.1, s4.2.2.1, hy_u (hy_u s4.2.2.2 ((x0).toNat) 4 r4) ((x0).toNat) 5 ((hy_u s4.2.2.2 ((x0).toNat) 4 r4) ((x1).toNat) 10)) Q))))))))))))))))))))))
theorem wc_307_0t (x0 : Int) (s : sS) (R : Int → hy_m → Prop) (h : wq_307 x0 s.2.2.2 R) : we_307 [(0, true, x0)] s R := h
theorem wc_49_3t_0t (x0 : Int) (x1 : Int) (s : sS) (R : Int → hy_m → Prop) (h : wq_49 x0 x1 s.1 s.2.2.2 R) : we_49 [(3, true, x0), (0, true, x1)] s R := h
theorem wc_305_3t_0t (x0 : Int) (x1 : Int) (s : sS) (R : Int → sS → Prop) (h : wq_305 x0 x1 s R) : we_305 [(3, true, x0), (0, true, x1)] s R := h
theorem wc_306_3t_0t (x0 : Int) (x1 : Int) (s : sS) (R : Int → sS → Prop) (h : wq_306 x0 x1 s R) : we_306 [(3, true, x0), (0, true, x1)] s R := h
theorem wc_305_3t_0f (x0 : Int) (x1 : Int) (s : sS) (R : Int → sS → Prop) (h : hy_r 0 x1 ∧ wq_305 x0 x1 s R) : we_305 [(3, true, x0), (0, false, x1)] s R := h
def cs_39 : List (Nat × Nat × sFS) := [(49, 1, .inl we_49), (305, 3, .inr we_305), (306, 3, .inr we_306), (307, 0, .inl we_307)]
theorem cs_39_ok : kCs dC 2 cs_39 := (kCs_c (Or.inr (Or.inl rfl)) (we_49_ok.deep (by decide)) (kCs_c (Or.inr (Or.inr (Or.inr (Or.inl rfl)))) (we_305_ok.deep (by decide)) (kCs_c (Or.inr (Or.inr (Or.inr (Or.inl rfl)))) (we_306_ok.deep (by decide)) (kCs_c (Or.inl rfl) (we_307_ok.deep (by decide)) kCs_n))))
def lb_39_156 (s : sS) (Q : sQ) (P156 : Int → Int → sS → Prop) (x0 : Int) (x1 : Int) (x3 : Int) (x4 : Int) : Nat → Option (sL → sS → Prop) := sLb [(156, fun lv t => sG [(0, 3, 0), (1, 3, 0), (3, 0, 0), (4, 0, 0)] lv (ap4 (fun w0 w1 w3 w4 => w0 = x0 ∧ w1 = x1 ∧ P156 w3 w4 t)))]
set_option maxRecDepth 30000 in
set_option maxHeartbeats 1000000 in
theorem wj_39_156 (Q : sQ) (s : sS) (P156 : Int → Int → sS → Prop) (x0 : Int) (x1 : Int) (x3 : Int) (x4 : Int) (hP156 : ∀ (z3 z4 : Int) (t : sS), P156 z3 z4 t → sRg [(0, 3, 0), (1, 3, 0), (3, 0, 0), (4, 0, 0)] [x0, x1, z3, z4] → kX dC 2 im_m39 9 156 (sCan [(0, 3, 0), (1, 3, 0), (3, 0, 0), (4, 0, 0)] [x0, x1, z3, z4]) [] t Q) (hr : sRg [(0, 3, 0), (1, 3, 0), (3, 0, 0), (4, 0, 0)] [x0, x1, x3, x4]) (h : wf_39_156 x0 x1 Q P156 x3 x4 s) : kX dC 2 im_m39 9 156 (sCan [(0, 3, 0), (1, 3, 0), (3, 0, 0), (4, 0, 0)] [x0, x1, x3, x4]) [] s Q := by
  unfold wf_39_156 at h
  refine wz2_ok (cs := cs_39) (wr := []) (lb := lb_39_156 s Q P156 x0 x1 x3 x4) cs_39_ok (kLb_c (kLab (Bd := fun xs t => ap4 (fun w0 w1 w3 w4 => w0 = x0 ∧ w1 = x1 ∧ P156 w3 w4 t) xs) rfl (fun xs t r1 r2 hb => by obtain ⟨w0, w1, w3, w4, rfl, hb⟩ := ap4_ok hb; obtain ⟨rfl, rfl, hx⟩ := hb; exact hP156 _ _ t hx r1)) kLb_n) (okL_can rfl hr) (fun Y hY hl => ?_)
  have l156 := hl 156 _ rfl
  refine hY _ _ _ _ (?_ : Y 158 [(0, 3, true, x0), (1, 3, true, x1), (3, 0, true, x3), (4, 0, true, x4)] [(0, true, x4)] s)
  refine hY _ _ _ _ ?_
  refine And.intro (fun hc => ?_) (fun hc => ?_)
  · have h := h.1 hc
    show Y 206 [(0, 3, true, x0), (1, 3, true, x1), (3, 0, true, x3), (4, 0, true, x4)] [] s
    refine hY _ _ _ _ ?_
    exact h
  · have h := h.2 hc
    refine hY _ _ _ _ (hY _ _ _ _ (?_ : Y 163 [(0, 3, true, x0), (1, 3, true, x1), (3, 0, true, x3), (4, 0, true, x4)] [(3, true, x1), (0, true, x3)] s))
    refine hY _ _ _ _ ?_
    refine (And.intro h.1 ?_)
    refine hY _ _ _ _ (?_ : Y 168 [(0, 3, true, x0), (1, 3, true, x1), (3, 0, true, x3), (4, 0, true, x4)] [(0, true, x4), (3, true, s.2.2.2 ((x1).toNat) 11), (0, true, x3)] s)
    refine hY _ _ _ _ ?_
    obtain ⟨n1, h⟩ := h.2
    refine Exists.intro n1 (And.intro h.1 ?_)
    refine (And.intro h.2.1 (And.intro h.2.2.1 ?_))
    show Y 169 [(0, 3, true, x0), (1, 3, true, x1), (3, 0, true, x3), (4, 0, true, x4)] [(0, true, s.2.2.2 ((s.2.2.2 ((x1).toNat) 11).toNat) x4), (0, true, x3)] s
    refine hY _ _ _ _ (?_ : Y 170 [(0, 3, true, x0), (1, 3, true, x1), (3, 0, true, x3), (4, 0, true, x4)] [(0, true, iO x3 (s.2.2.2 ((s.2.2.2 ((x1).toNat) 11).toNat) x4))] s)
    refine hY _ _ _ _ (hY _ _ _ _ (?_ : Y 172 [(3, 0, true, iO x3 (s.2.2.2 ((s.2.2.2 ((x1).toNat) 11).toNat) x4)), (0, 3, true, x0), (1, 3, true, x1), (4, 0, true, x4)] [(3, true, x0)] s))
    refine hY _ _ _ _ ?_
    refine (And.intro h.2.2.2.1 ?_)
    refine hY _ _ _ _ (hY _ _ _ _ (?_ : Y 178 [(3, 0, true, iO x3 (s.2.2.2 ((s.2.2.2 ((x1).toNat) 11).toNat) x4)), (0, 3, true, x0), (1, 3, true, x1), (4, 0, true, x4)] [(0, true, iO x3 (s.2.2.2 ((s.2.2.2 ((x1).toNat) 11).toNat) x4)), (0, true, x4), (3, true, s.2.2.2 ((x0).toNat) 8)] s))
    refine hY _ _ _ _ ?_
    refine Exists.intro _ (And.intro (wc_307_0t (iO x3 (s.2.2.2 ((s.2.2.2 ((x1).toNat) 11).toNat) x4)) _ _ h.2.2.2.2) (fun r2 m2 h => ?_))
    show Y 181 [(3, 0, true, iO x3 (s.2.2.2 ((s.2.2.2 ((x1).toNat) 11).toNat) x4)), (0, 3, true, x0), (1, 3, true, x1), (4, 0, true, x4)] [(0, true, r2), (0, true, x4), (3, true, s.2.2.2 ((x0).toNat) 8)] (s.1, s.2.1, s.2.2.1, m2)
    refine hY _ _ _ _ ?_
    obtain ⟨n3, h⟩ := h
    refine Exists.intro n3 (And.intro h.1 ?_)
    refine (And.intro h.2.1 (And.intro h.2.2.1 ?_))
    refine hY _ _ _ _ (?_ : Y 183 [(3, 0, true, iO x3 (s.2.2.2 ((s.2.2.2 ((x1).toNat) 11).toNat) x4)), (0, 3, true, x0), (1, 3, true, x1), (4, 0, true, x4)] [(3, true, x0)] (s.1, s.2.1, s.2.2.1, hy_u m2 ((s.2.2.2 ((x0).toNat) 8).toNat) x4 r2))
    refine hY _ _ _ _ ?_
    refine (And.intro h.2.2.2.1 ?_)
    refine hY _ _ _ _ (hY _ _ _ _ (hY _ _ _ _ (?_ : Y 190 [(3, 0, true, iO x3 (s.2.2.2 ((s.2.2.2 ((x1).toNat) 11).toNat) x4)), (0, 3, true, x0), (1, 3, true, x1), (4, 0, true, x4)] [(3, true, x0), (3, true, x0), (0, true, x4), (3, true, (hy_u m2 ((s.2.2.2 ((x0).toNat) 8).toNat) x4 r2) ((x0).toNat) 7)] (s.1, s.2.1, s.2.2.1, hy_u m2 ((s.2.2.2 ((x0).toNat) 8).toNat) x4 r2))))
    refine hY _ _ _ _ ?_
    refine (And.intro h.2.2.2.2.1 ?_)
    refine hY _ _ _ _ (?_ : Y 195 [(3, 0, true, iO x3 (s.2.2.2 ((s.2.2.2 ((x1).toNat) 11).toNat) x4)), (0, 3, true, x0), (1, 3, true, x1), (4, 0, true, x4)] [(0, true, x4), (3, true, (hy_u m2 ((s.2.2.2 ((x0).toNat) 8).toNat) x4 r2) ((x0).toNat) 4), (3, true, x0), (0, true, x4), (3, true, (hy_u m2 ((s.2.2.2 ((x0).toNat) 8).toNat) x4 r2) ((x0).toNat) 7)] (s.1, s.2.1, s.2.2.1, hy_u m2 ((s.2.2.2 ((x0).toNat) 8).toNat) x4 r2))
    refine hY _ _ _ _ ?_
    obtain ⟨n4, h⟩ := h.2.2.2.2.2
    refine Exists.intro n4 (And.intro h.1 ?_)
    refine (And.intro h.2.1 (And.intro h.2.2.1 ?_))
    show Y 196 [(3, 0, true, iO x3 (s.2.2.2 ((s.2.2.2 ((x1).toNat) 11).toNat) x4)), (0, 3, true, x0), (1, 3, true, x1), (4, 0, true, x4)] [(0, true, (hy_u m2 ((s.2.2.2 ((x0).toNat) 8).toNat) x4 r2) (((hy_u m2 ((s.2.2.2 ((x0).toNat) 8).toNat) x4 r2) ((x0).toNat) 4).toNat) x4), (3, true, x0), (0, true, x4), (3, true, (hy_u m2 ((s.2.2.2 ((x0).toNat) 8).toNat) x4 r2) ((x0).toNat) 7)] (s.1, s.2.1, s.2.2.1, hy_u m2 ((s.2.2.2 ((x0).toNat) 8).toNat) x4 r2)
    refine hY _ _ _ _ ?_
    refine (And.intro h.2.2.2.1 ?_)
    refine Exists.intro _ (And.intro (wc_49_3t_0t x0 ((hy_u m2 ((s.2.2.2 ((x0).toNat) 8).toNat) x4 r2) (((hy_u m2 ((s.2.2.2 ((x0).toNat) 8).toNat) x4 r2) ((x0).toNat) 4).toNat) x4) _ _ h.2.2.2.2) (fun r5 m5 h => ?_))
    show Y 199 [(3, 0, true, iO x3 (s.2.2.2 ((s.2.2.2 ((x1).toNat) 11).toNat) x4)), (0, 3, true, x0), (1, 3, true, x1), (4, 0, true, x4)] [(1, true, r5), (0, true, x4), (3, true, (hy_u m2 ((s.2.2.2 ((x0).toNat) 8).toNat) x4 r2) ((x0).toNat) 7)] (s.1, s.2.1, s.2.2.1, m5)
    refine hY _ _ _ _ ?_
    obtain ⟨n6, h⟩ := h
    refine Exists.intro n6 (And.intro h.1 ?_)
    refine (And.intro h.2.1 (And.intro h.2.2.1 ?_))
    refine hY _ _ _ _ (hY _ _ _ _ (?_ : Y 156 [(4, 0, false, x4 + (-1)), (3, 0, true, iO x3 (s.2.2.2 ((s.2.2.2 ((x1).toNat) 11).toNat) x4)), (0, 3, true, x0), (1, 3, true, x1)] [] (s.1, s.2.1, s.2.2.1, hy_u m5 (((hy_u m2 ((s.2.2.2 ((x0).toNat) 8).toNat) x4 r2) ((x0).toNat) 7).toNat) x4 r5)))
    refine l156 _ _ ?_
    refine And.intro h.2.2.2.1 ?_
    exact (And.intro rfl (And.intro rfl h.2.2.2.2))
theorem wk_39_156 (Q : sQ) (s : sS) (x0 : Int) (x1 : Int) (x3 : Int) (x4 : Int) (hr : sRg [(0, 3, 0), (1, 3, 0), (3, 0, 0), (4, 0, 0)] [x0, x1, x3, x4]) (h : wq_39_156 x0 x1 x3 x4 s Q) : kX dC 2 im_m39 9 156 (sCan [(0, 3, 0), (1, 3, 0), (3, 0, 0), (4, 0, 0)] [x0, x1, x3, x4]) [] s Q :=
  h (fun x3 x4 s => sRg [(0, 3, 0), (1, 3, 0), (3, 0, 0), (4, 0, 0)] [x0, x1, x3, x4] → kX dC 2 im_m39 9 156 (sCan [(0, 3, 0), (1, 3, 0), (3, 0, 0), (4, 0, 0)] [x0, x1, x3, x4]) [] s Q) (fun x3 x4 s h hr => wj_39_156 Q s (fun x3 x4 s => sRg [(0, 3, 0), (1, 3, 0), (3, 0, 0), (4, 0, 0)] [x0, x1, x3, x4] → kX dC 2 im_m39 9 156 (sCan [(0, 3, 0), (1, 3, 0), (3, 0, 0), (4, 0, 0)] [x0, x1, x3, x4]) [] s Q) x0 x1 x3 x4  (fun _ _ _ hp hr => hp hr) hr h) hr
def lb_39_86 (s : sS) (Q : sQ) (P86 : Int → Int → sS → Prop) (x0 : Int) (x1 : Int) (x2 : Int) (x3 : Int) : Nat → Option (sL → sS → Prop) := sLb [(156, fun lv t => sG [(0, 3, 0), (1, 3, 0), (3, 0, 0), (4, 0, 0)] lv (ap4 (fun w0 w1 w3 w4 => wq_39_156 w0 w1 w3 w4 t Q))), (86, fun lv t => sG [(0, 3, 0), (1, 3, 0), (2, 0, 0), (3, 0, 0)] lv (ap4 (fun w0 w1 w2 w3 => w0 = x0 ∧ w1 = x1 ∧ P86 w2 w3 t)))]
set_option maxRecDepth 30000 in
set_option maxHeartbeats 1000000 in
theorem wj_39_86 (Q : sQ) (s : sS) (P86 : Int → Int → sS → Prop) (x0 : Int) (x1 : Int) (x2 : Int) (x3 : Int) (hP86 : ∀ (z2 z3 : Int) (t : sS), P86 z2 z3 t → sRg [(0, 3, 0), (1, 3, 0), (2, 0, 0), (3, 0, 0)] [x0, x1, z2, z3] → kX dC 2 im_m39 9 86 (sCan [(0, 3, 0), (1, 3, 0), (2, 0, 0), (3, 0, 0)] [x0, x1, z2, z3]) [] t Q) (hr : sRg [(0, 3, 0), (1, 3, 0), (2, 0, 0), (3, 0, 0)] [x0, x1, x2, x3]) (h : wf_39_86 x0 x1 Q P86 x2 x3 s) : kX dC 2 im_m39 9 86 (sCan [(0, 3, 0), (1, 3, 0), (2, 0, 0), (3, 0, 0)] [x0, x1, x2, x3]) [] s Q := by
  unfold wf_39_86 at h
  refine wz2_ok (cs := cs_39) (wr := []) (lb := lb_39_86 s Q P86 x0 x1 x2 x3) cs_39_ok (kLb_c (kLab (Bd := fun xs t => ap4 (fun w0 w1 w3 w4 => wq_39_156 w0 w1 w3 w4 t Q) xs) rfl (fun xs t r1 r2 hb => by obtain ⟨w0, w1, w3, w4, rfl, hb⟩ := ap4_ok hb; exact wk_39_156 Q t _ _ _ _ r1 hb)) (kLb_c (kLab (Bd := fun xs t => ap4 (fun w0 w1 w2 w3 => w0 = x0 ∧ w1 = x1 ∧ P86 w2 w3 t) xs) rfl (fun xs t r1 r2 hb => by obtain ⟨w0, w1, w2, w3, rfl, hb⟩ := ap4_ok hb; obtain ⟨rfl, rfl, hx⟩ := hb; exact hP86 _ _ t hx r1)) kLb_n)) (okL_can rfl hr) (fun Y hY hl => ?_)
  have l156 := hl 156 _ rfl
  have l86 := hl 86 _ rfl
  refine hY _ _ _ _ (hY _ _ _ _ (?_ : Y 88 [(0, 3, true, x0), (1, 3, true, x1), (2, 0, true, x2), (3, 0, true, x3)] [(3, true, x0), (0, true, x3)] s))
  refine hY _ _ _ _ ?_
  refine (And.intro h.1 ?_)
  show Y 91 [(0, 3, true, x0), (1, 3, true, x1), (2, 0, true, x2), (3, 0, true, x3)] [(0, true, s.2.2.2 ((x0).toNat) 5), (0, true, x3)] s
  refine hY _ _ _ _ ?_
  refine And.intro (fun hc => ?_) (fun hc => ?_)
  · have h := h.2.1 hc
    refine hY _ _ _ _ (hY _ _ _ _ (?_ : Y 120 [(0, 3, true, x0), (1, 3, true, x1), (2, 0, true, x2), (3, 0, true, x3)] [(0, true, x2), (3, true, x0)] s))
    refine hY _ _ _ _ ?_
    refine (And.intro h.1 ?_)
    refine hY _ _ _ _ (hY _ _ _ _ (?_ : Y 125 [(0, 3, true, x0), (1, 3, true, x1), (2, 0, true, x2), (3, 0, true, x3)] [(3, true, x0), (3, true, x0)] (s.1, s.2.1, s.2.2.1, hy_u s.2.2.2 ((x0).toNat) 6 x2)))
    refine hY _ _ _ _ ?_
    refine (And.intro h.2.1 ?_)
    show Y 128 [(0, 3, true, x0), (1, 3, true, x1), (2, 0, true, x2), (3, 0, true, x3)] [(3, true, (hy_u s.2.2.2 ((x0).toNat) 6 x2) ((x0).toNat) 4), (3, true, x0)] (s.1, s.2.1, s.2.2.1, hy_u s.2.2.2 ((x0).toNat) 6 x2)
    refine hY _ _ _ _ ?_
    obtain ⟨t1, n1, h⟩ := h.2.2
    refine Exists.intro t1 (Exists.intro n1 (And.intro h.1 (And.intro h.2.1 ?_)))
    show Y 129 [(0, 3, true, x0), (1, 3, true, x1), (2, 0, true, x2), (3, 0, true, x3)] [(0, true, (n1 : Int)), (3, true, x0)] (s.1, s.2.1, s.2.2.1, hy_u s.2.2.2 ((x0).toNat) 6 x2)
    refine hY _ _ _ _ ?_
    refine (And.intro h.2.2.1 (And.intro h.2.2.2.1 ?_))
    show Y 131 [(0, 3, true, x0), (1, 3, true, x1), (2, 0, true, x2), (3, 0, true, x3)] [(3, true, (s.2.1 : Int)), (3, true, x0)] (hy_e s.1 s.2.1 101 (((n1 : Int)).toNat), s.2.1 + 1, s.2.2.1 + (((n1 : Int)).toNat), hy_z (hy_u s.2.2.2 ((x0).toNat) 6 x2) s.2.1)
    refine hY _ _ _ _ ?_
    refine (And.intro h.2.2.2.2.1 ?_)
    refine hY _ _ _ _ (hY _ _ _ _ (?_ : Y 136 [(0, 3, true, x0), (1, 3, true, x1), (2, 0, true, x2), (3, 0, true, x3)] [(3, true, x0), (3, true, x0)] (hy_e s.1 s.2.1 101 (((n1 : Int)).toNat), s.2.1 + 1, s.2.2.1 + (((n1 : Int)).toNat), hy_u (hy_z (hy_u s.2.2.2 ((x0).toNat) 6 x2) s.2.1) ((x0).toNat) 7 (s.2.1 : Int))))
    refine hY _ _ _ _ ?_
    refine (And.intro h.2.2.2.2.2.1 ?_)
    show Y 139 [(0, 3, true, x0), (1, 3, true, x1), (2, 0, true, x2), (3, 0, true, x3)] [(3, true, (hy_u (hy_z (hy_u s.2.2.2 ((x0).toNat) 6 x2) s.2.1) ((x0).toNat) 7 (s.2.1 : Int)) ((x0).toNat) 4), (3, true, x0)] (hy_e s.1 s.2.1 101 (((n1 : Int)).toNat), s.2.1 + 1, s.2.2.1 + (((n1 : Int)).toNat), hy_u (hy_z (hy_u s.2.2.2 ((x0).toNat) 6 x2) s.2.1) ((x0).toNat) 7 (s.2.1 : Int))
    refine hY _ _ _ _ ?_
    obtain ⟨t2, n2, h⟩ := h.2.2.2.2.2.2
    refine Exists.intro t2 (Exists.intro n2 (And.intro h.1 (And.intro h.2.1 ?_)))
    show Y 140 [(0, 3, true, x0), (1, 3, true, x1), (2, 0, true, x2), (3, 0, true, x3)] [(0, true, (n2 : Int)), (3, true, x0)] (hy_e s.1 s.2.1 101 (((n1 : Int)).toNat), s.2.1 + 1, s.2.2.1 + (((n1 : Int)).toNat), hy_u (hy_z (hy_u s.2.2.2 ((x0).toNat) 6 x2) s.2.1) ((x0).toNat) 7 (s.2.1 : Int))
    refine hY _ _ _ _ ?_
    refine (And.intro h.2.2.1 (And.intro h.2.2.2.1 ?_))
    show Y 142 [(0, 3, true, x0), (1, 3, true, x1), (2, 0, true, x2), (3, 0, true, x3)] [(3, true, (((s.2.1 + 1 : Nat) : Int) : Int)), (3, true, x0)] (hy_e (hy_e s.1 s.2.1 101 (((n1 : Int)).toNat)) (s.2.1 + 1) 100 (((n2 : Int)).toNat), s.2.1 + 1 + 1, s.2.2.1 + (((n1 : Int)).toNat) + (((n2 : Int)).toNat), hy_z (hy_u (hy_z (hy_u s.2.2.2 ((x0).toNat) 6 x2) s.2.1) ((x0).toNat) 7 (s.2.1 : Int)) (s.2.1 + 1))
    refine hY _ _ _ _ ?_
    refine (And.intro h.2.2.2.2.1 ?_)
    refine hY _ _ _ _ (hY _ _ _ _ (hY _ _ _ _ (?_ : Y 148 [(3, 2, true, 0), (0, 3, true, x0), (1, 3, true, x1), (2, 0, true, x2)] [(3, true, x0)] (hy_e (hy_e s.1 s.2.1 101 (((n1 : Int)).toNat)) (s.2.1 + 1) 100 (((n2 : Int)).toNat), s.2.1 + 1 + 1, s.2.2.1 + (((n1 : Int)).toNat) + (((n2 : Int)).toNat), hy_u (hy_z (hy_u (hy_z (hy_u s.2.2.2 ((x0).toNat) 6 x2) s.2.1) ((x0).toNat) 7 (s.2.1 : Int)) (s.2.1 + 1)) ((x0).toNat) 8 (((s.2.1 + 1 : Nat) : Int) : Int)))))
    refine hY _ _ _ _ ?_
    refine (And.intro h.2.2.2.2.2.1 ?_)
    show Y 151 [(3, 2, true, 0), (0, 3, true, x0), (1, 3, true, x1), (2, 0, true, x2)] [(3, true, (hy_u (hy_z (hy_u (hy_z (hy_u s.2.2.2 ((x0).toNat) 6 x2) s.2.1) ((x0).toNat) 7 (s.2.1 : Int)) (s.2.1 + 1)) ((x0).toNat) 8 (((s.2.1 + 1 : Nat) : Int) : Int)) ((x0).toNat) 4)] (hy_e (hy_e s.1 s.2.1 101 (((n1 : Int)).toNat)) (s.2.1 + 1) 100 (((n2 : Int)).toNat), s.2.1 + 1 + 1, s.2.2.1 + (((n1 : Int)).toNat) + (((n2 : Int)).toNat), hy_u (hy_z (hy_u (hy_z (hy_u s.2.2.2 ((x0).toNat) 6 x2) s.2.1) ((x0).toNat) 7 (s.2.1 : Int)) (s.2.1 + 1)) ((x0).toNat) 8 (((s.2.1 + 1 : Nat) : Int) : Int))
    refine hY _ _ _ _ ?_
    obtain ⟨t3, n3, h⟩ := h.2.2.2.2.2.2
    refine Exists.intro t3 (Exists.intro n3 (And.intro h.1 (And.intro h.2.1 ?_)))
    refine hY _ _ _ _ (hY _ _ _ _ (hY _ _ _ _ (?_ : Y 156 [(4, 0, false, (n3 : Int) - 1), (3, 2, true, 0), (0, 3, true, x0), (1, 3, true, x1), (2, 0, true, x2)] [] (hy_e (hy_e s.1 s.2.1 101 (((n1 : Int)).toNat)) (s.2.1 + 1) 100 (((n2 : Int)).toNat), s.2.1 + 1 + 1, s.2.2.1 + (((n1 : Int)).toNat) + (((n2 : Int)).toNat), hy_u (hy_z (hy_u (hy_z (hy_u s.2.2.2 ((x0).toNat) 6 x2) s.2.1) ((x0).toNat) 7 (s.2.1 : Int)) (s.2.1 + 1)) ((x0).toNat) 8 (((s.2.1 + 1 : Nat) : Int) : Int)))))
    refine l156 _ _ ?_
    refine And.intro h.2.2.1 ?_
    exact h.2.2.2
  · have h := h.2.2 hc
    refine hY _ _ _ _ (hY _ _ _ _ (?_ : Y 96 [(0, 3, true, x0), (1, 3, true, x1), (2, 0, true, x2), (3, 0, true, x3)] [(3, true, x1), (0, true, x2)] s))
    refine hY _ _ _ _ ?_
    refine (And.intro h.1 ?_)
    refine hY _ _ _ _ (?_ : Y 100 [(0, 3, true, x0), (1, 3, true, x1), (2, 0, true, x2), (3, 0, true, x3)] [(0, true, x3), (3, true, s.2.2.2 ((x1).toNat) 9), (0, true, x2)] s)
    refine hY _ _ _ _ ?_
    obtain ⟨n4, h⟩ := h.2
    refine Exists.intro n4 (And.intro h.1 ?_)
    refine (And.intro h.2.1 (And.intro h.2.2.1 ?_))
    refine hY _ _ _ _ (?_ : Y 102 [(0, 3, true, x0), (1, 3, true, x1), (2, 0, true, x2), (3, 0, true, x3)] [(2, true, 1), (0, true, s.2.2.2 ((s.2.2.2 ((x1).toNat) 9).toNat) x3), (0, true, x2)] s)
    refine hY _ _ _ _ ?_
    refine And.intro (fun hc => ?_) (fun hc => ?_)
    · have h := h.2.2.2.1 hc
      refine hY _ _ _ _ (hY _ _ _ _ (hY _ _ _ _ (?_ : Y 112 [(2, 0, false, x2 + 0), (0, 3, true, x0), (1, 3, true, x1), (3, 0, true, x3)] [] s)))
      refine hY _ _ _ _ (hY _ _ _ _ (?_ : Y 86 [(3, 0, false, x3 + 1), (2, 0, false, x2 + 0), (0, 3, true, x0), (1, 3, true, x1)] [] s))
      refine l86 _ _ ?_
      refine And.intro h.1 ?_
      refine And.intro h.2.1 ?_
      exact (And.intro rfl (And.intro rfl h.2.2))
    · have h := h.2.2.2.2 hc
      refine hY _ _ _ _ (hY _ _ _ _ (hY _ _ _ _ (?_ : Y 111 [(0, 3, true, x0), (1, 3, true, x1), (2, 0, true, x2), (3, 0, true, x3)] [(0, false, x2 + 1)] s)))
      refine hY _ _ _ _ (hY _ _ _ _ (hY _ _ _ _ (?_ : Y 86 [(3, 0, false, x3 + 1), (2, 0, false, x2 + 1), (0, 3, true, x0), (1, 3, true, x1)] [] s)))
      refine l86 _ _ ?_
      refine And.intro h.1 ?_
      refine And.intro h.2.1 ?_
      exact (And.intro rfl (And.intro rfl h.2.2))
theorem wk_39_86 (Q : sQ) (s : sS) (x0 : Int) (x1 : Int) (x2 : Int) (x3 : Int) (hr : sRg [(0, 3, 0), (1, 3, 0), (2, 0, 0), (3, 0, 0)] [x0, x1, x2, x3]) (h : wq_39_86 x0 x1 x2 x3 s Q) : kX dC 2 im_m39 9 86 (sCan [(0, 3, 0), (1, 3, 0), (2, 0, 0), (3, 0, 0)] [x0, x1, x2, x3]) [] s Q :=
  h (fun x2 x3 s => sRg [(0, 3, 0), (1, 3, 0), (2, 0, 0), (3, 0, 0)] [x0, x1, x2, x3] → kX dC 2 im_m39 9 86 (sCan [(0, 3, 0), (1, 3, 0), (2, 0, 0), (3, 0, 0)] [x0, x1, x2, x3]) [] s Q) (fun x2 x3 s h hr => wj_39_86 Q s (fun x2 x3 s => sRg [(0, 3, 0), (1, 3, 0), (2, 0, 0), (3, 0, 0)] [x0, x1, x2, x3] → kX dC 2 im_m39 9 86 (sCan [(0, 3, 0), (1, 3, 0), (2, 0, 0), (3, 0, 0)] [x0, x1, x2, x3]) [] s Q) x0 x1 x2 x3  (fun _ _ _ hp hr => hp hr) hr h) hr
def lb_39_0 (s : sS) (Q : sQ) (x0 : Int) (x1 : Int) : Nat → Option (sL → sS → Prop) := sLb [(86, fun lv t => sG [(0, 3, 0), (1, 3, 0), (2, 0, 0), (3, 0, 0)] lv (ap4 (fun w0 w1 w2 w3 => wq_39_86 w0 w1 w2 w3 t Q)))]
set_option maxRecDepth 30000 in
set_option maxHeartbeats 1000000 in
theorem wk_39_0 (Q : sQ) (s : sS) (x0 : Int) (x1 : Int) (hr : sRg [(0, 3, 0), (1, 3, 0)] [x0, x1]) (h : wq_39 x0 x1 s Q) : kX dC 2 im_m39 9 0 (sCan [(0, 3, 0), (1, 3, 0)] [x0, x1]) [] s Q := by
  unfold wq_39 at h
  refine wz2_ok (cs := cs_39) (wr := []) (lb := lb_39_0 s Q x0 x1) cs_39_ok (kLb_c (kLab (Bd := fun xs t => ap4 (fun w0 w1 w2 w3 => wq_39_86 w0 w1 w2 w3 t Q) xs) rfl (fun xs t r1 r2 hb => by obtain ⟨w0, w1, w2, w3, rfl, hb⟩ := ap4_ok hb; exact wk_39_86 Q t _ _ _ _ r1 hb)) kLb_n) (okL_can rfl hr) (fun Y hY hl => ?_)
  have l86 := hl 86 _ rfl
  refine hY _ _ _ _ (?_ : Y 1 [(0, 3, true, x0), (1, 3, true, x1)] [(3, true, x0)] s)
  refine hY _ _ _ _ ?_
  refine (And.intro h.1 ?_)
  refine hY _ _ _ _ (hY _ _ _ _ (?_ : Y 6 [(0, 3, true, x0), (1, 3, true, x1)] [(3, true, x1), (3, true, x0)] s))
  refine hY _ _ _ _ ?_
  refine (And.intro h.2.1 ?_)
  refine hY _ _ _ _ (?_ : Y 10 [(0, 3, true, x0), (1, 3, true, x1)] [(3, true, x1), (3, true, s.2.2.2 ((x1).toNat) 1), (3, true, x0)] s)
  refine hY _ _ _ _ ?_
  refine (And.intro h.2.2.1 ?_)
  show Y 13 [(0, 3, true, x0), (1, 3, true, x1)] [(0, true, s.2.2.2 ((x1).toNat) 4), (3, true, s.2.2.2 ((x1).toNat) 1), (3, true, x0)] s
  refine hY _ _ _ _ ?_
  refine Exists.intro _ (And.intro (wc_305_3t_0t (s.2.2.2 ((x1).toNat) 1) (s.2.2.2 ((x1).toNat) 4) _ _ h.2.2.2) (fun r1 s1 h => ?_))
  show Y 16 [(0, 3, true, x0), (1, 3, true, x1)] [(3, true, r1), (3, true, x0)] s1
  refine hY _ _ _ _ ?_
  refine (And.intro h.1 ?_)
  refine hY _ _ _ _ (hY _ _ _ _ (?_ : Y 21 [(0, 3, true, x0), (1, 3, true, x1)] [(3, true, x1), (3, true, x0)] (s1.1, s1.2.1, s1.2.2.1, hy_u s1.2.2.2 ((x0).toNat) 0 r1)))
  refine hY _ _ _ _ ?_
  refine (And.intro h.2.1 ?_)
  refine hY _ _ _ _ (?_ : Y 25 [(0, 3, true, x0), (1, 3, true, x1)] [(3, true, x1), (3, true, (hy_u s1.2.2.2 ((x0).toNat) 0 r1) ((x1).toNat) 2), (3, true, x0)] (s1.1, s1.2.1, s1.2.2.1, hy_u s1.2.2.2 ((x0).toNat) 0 r1))
  refine hY _ _ _ _ ?_
  refine (And.intro h.2.2.1 ?_)
  show Y 28 [(0, 3, true, x0), (1, 3, true, x1)] [(0, true, (hy_u s1.2.2.2 ((x0).toNat) 0 r1) ((x1).toNat) 4), (3, true, (hy_u s1.2.2.2 ((x0).toNat) 0 r1) ((x1).toNat) 2), (3, true, x0)] (s1.1, s1.2.1, s1.2.2.1, hy_u s1.2.2.2 ((x0).toNat) 0 r1)
  refine hY _ _ _ _ ?_
  refine Exists.intro _ (And.intro (wc_306_3t_0t ((hy_u s1.2.2.2 ((x0).toNat) 0 r1) ((x1).toNat) 2) ((hy_u s1.2.2.2 ((x0).toNat) 0 r1) ((x1).toNat) 4) _ _ h.2.2.2) (fun r2 s2 h => ?_))
  show Y 31 [(0, 3, true, x0), (1, 3, true, x1)] [(3, true, r2), (3, true, x0)] s2
  refine hY _ _ _ _ ?_
  refine (And.intro h.1 ?_)
  refine hY _ _ _ _ (hY _ _ _ _ (?_ : Y 36 [(0, 3, true, x0), (1, 3, true, x1)] [(3, true, x1), (3, true, x0)] (s2.1, s2.2.1, s2.2.2.1, hy_u s2.2.2.2 ((x0).toNat) 1 r2)))
  refine hY _ _ _ _ ?_
  refine (And.intro h.2.1 ?_)
  refine hY _ _ _ _ (?_ : Y 40 [(0, 3, true, x0), (1, 3, true, x1)] [(3, true, x1), (3, true, (hy_u s2.2.2.2 ((x0).toNat) 1 r2) ((x1).toNat) 3), (3, true, x0)] (s2.1, s2.2.1, s2.2.2.1, hy_u s2.2.2.2 ((x0).toNat) 1 r2))
  refine hY _ _ _ _ ?_
  refine (And.intro h.2.2.1 ?_)
  refine hY _ _ _ _ (hY _ _ _ _ (?_ : Y 45 [(0, 3, true, x0), (1, 3, true, x1)] [(0, false, ((hy_u s2.2.2.2 ((x0).toNat) 1 r2) ((x1).toNat) 4) * 3), (3, true, (hy_u s2.2.2.2 ((x0).toNat) 1 r2) ((x1).toNat) 3), (3, true, x0)] (s2.1, s2.2.1, s2.2.2.1, hy_u s2.2.2.2 ((x0).toNat) 1 r2)))
  refine hY _ _ _ _ ?_
  refine Exists.intro _ (And.intro (wc_305_3t_0f ((hy_u s2.2.2.2 ((x0).toNat) 1 r2) ((x1).toNat) 3) (((hy_u s2.2.2.2 ((x0).toNat) 1 r2) ((x1).toNat) 4) * 3) _ _ h.2.2.2) (fun r3 s3 h => ?_))
  show Y 48 [(0, 3, true, x0), (1, 3, true, x1)] [(3, true, r3), (3, true, x0)] s3
  refine hY _ _ _ _ ?_
  refine (And.intro h.1 ?_)
  refine hY _ _ _ _ (hY _ _ _ _ (?_ : Y 53 [(0, 3, true, x0), (1, 3, true, x1)] [(3, true, x1), (3, true, x0)] (s3.1, s3.2.1, s3.2.2.1, hy_u s3.2.2.2 ((x0).toNat) 2 r3)))
  refine hY _ _ _ _ ?_
  refine (And.intro h.2.1 ?_)
  show Y 56 [(0, 3, true, x0), (1, 3, true, x1)] [(0, true, (hy_u s3.2.2.2 ((x0).toNat) 2 r3) ((x1).toNat) 5), (3, true, x0)] (s3.1, s3.2.1, s3.2.2.1, hy_u s3.2.2.2 ((x0).toNat) 2 r3)
  refine hY _ _ _ _ ?_
  refine (And.intro h.2.2.1 ?_)
  refine hY _ _ _ _ (hY _ _ _ _ (?_ : Y 61 [(0, 3, true, x0), (1, 3, true, x1)] [(3, true, x1), (3, true, x0)] (s3.1, s3.2.1, s3.2.2.1, hy_u (hy_u s3.2.2.2 ((x0).toNat) 2 r3) ((x0).toNat) 3 ((hy_u s3.2.2.2 ((x0).toNat) 2 r3) ((x1).toNat) 5))))
  refine hY _ _ _ _ ?_
  refine (And.intro h.2.2.2.1 ?_)
  refine hY _ _ _ _ (?_ : Y 65 [(0, 3, true, x0), (1, 3, true, x1)] [(3, true, x1), (3, true, (hy_u (hy_u s3.2.2.2 ((x0).toNat) 2 r3) ((x0).toNat) 3 ((hy_u s3.2.2.2 ((x0).toNat) 2 r3) ((x1).toNat) 5)) ((x1).toNat) 6), (3, true, x0)] (s3.1, s3.2.1, s3.2.2.1, hy_u (hy_u s3.2.2.2 ((x0).toNat) 2 r3) ((x0).toNat) 3 ((hy_u s3.2.2.2 ((x0).toNat) 2 r3) ((x1).toNat) 5)))
  refine hY _ _ _ _ ?_
  refine (And.intro h.2.2.2.2.1 ?_)
  show Y 68 [(0, 3, true, x0), (1, 3, true, x1)] [(0, true, (hy_u (hy_u s3.2.2.2 ((x0).toNat) 2 r3) ((x0).toNat) 3 ((hy_u s3.2.2.2 ((x0).toNat) 2 r3) ((x1).toNat) 5)) ((x1).toNat) 7), (3, true, (hy_u (hy_u s3.2.2.2 ((x0).toNat) 2 r3) ((x0).toNat) 3 ((hy_u s3.2.2.2 ((x0).toNat) 2 r3) ((x1).toNat) 5)) ((x1).toNat) 6), (3, true, x0)] (s3.1, s3.2.1, s3.2.2.1, hy_u (hy_u s3.2.2.2 ((x0).toNat) 2 r3) ((x0).toNat) 3 ((hy_u s3.2.2.2 ((x0).toNat) 2 r3) ((x1).toNat) 5))
  refine hY _ _ _ _ ?_
  refine Exists.intro _ (And.intro (wc_305_3t_0t ((hy_u (hy_u s3.2.2.2 ((x0).toNat) 2 r3) ((x0).toNat) 3 ((hy_u s3.2.2.2 ((x0).toNat) 2 r3) ((x1).toNat) 5)) ((x1).toNat) 6) ((hy_u (hy_u s3.2.2.2 ((x0).toNat) 2 r3) ((x0).toNat) 3 ((hy_u s3.2.2.2 ((x0).toNat) 2 r3) ((x1).toNat) 5)) ((x1).toNat) 7) _ _ h.2.2.2.2.2) (fun r4 s4 h => ?_))
  show Y 71 [(0, 3, true, x0), (1, 3, true, x1)] [(3, true, r4), (3, true, x0)] s4
  refine hY _ _ _ _ ?_
  refine (And.intro h.1 ?_)
  refine hY _ _ _ _ (hY _ _ _ _ (?_ : Y 76 [(0, 3, true, x0), (1, 3, true, x1)] [(3, true, x1), (3, true, x0)] (s4.1, s4.2.1, s4.2.2.1, hy_u s4.2.2.2 ((x0).toNat) 4 r4)))
  refine hY _ _ _ _ ?_
  refine (And.intro h.2.1 ?_)
  show Y 79 [(0, 3, true, x0), (1, 3, true, x1)] [(0, true, (hy_u s4.2.2.2 ((x0).toNat) 4 r4) ((x1).toNat) 10), (3, true, x0)] (s4.1, s4.2.1, s4.2.2.1, hy_u s4.2.2.2 ((x0).toNat) 4 r4)
  refine hY _ _ _ _ ?_
  refine (And.intro h.2.2.1 ?_)
  refine hY _ _ _ _ (hY _ _ _ _ (hY _ _ _ _ (?_ : Y 85 [(2, 2, true, 0), (0, 3, true, x0), (1, 3, true, x1)] [(2, true, 0)] (s4.1, s4.2.1, s4.2.2.1, hy_u (hy_u s4.2.2.2 ((x0).toNat) 4 r4) ((x0).toNat) 5 ((hy_u s4.2.2.2 ((x0).toNat) 4 r4) ((x1).toNat) 10)))))
  refine hY _ _ _ _ (?_ : Y 86 [(3, 2, true, 0), (2, 2, true, 0), (0, 3, true, x0), (1, 3, true, x1)] [] (s4.1, s4.2.1, s4.2.2.1, hy_u (hy_u s4.2.2.2 ((x0).toNat) 4 r4) ((x0).toNat) 5 ((hy_u s4.2.2.2 ((x0).toNat) 4 r4) ((x1).toNat) 10)))
  refine l86 _ _ ?_
  exact h.2.2.2
def we_39 : sF := sE 5 [(0, 3, 0), (1, 3, 0)] (fun xs s Q => ap2 (fun x0 x1 => wq_39 x0 x1 s Q) xs)
theorem we_39_ok : kS dC 3 39 9 (.inr we_39) := sE_ok (mi := im_m39) rfl rfl rfl (fun Q xs s r1 hb => by obtain ⟨x0, x1, rfl, hb⟩ := ap2_ok hb; exact wk_39_0 Q s x0 x1 r1 hb)
/-- LM$Store.clauseAt(I)LLogicMachine$Clause; -/
def wq_127 (x1 : Int) (T : hy_T) (m : hy_m) (Q : Int → hy_m → Prop) : Prop := (x1 < 0 → (Q 14 m)) ∧ (0 ≤ x1 → (∃ t1 n1 : Nat, T.1 (m 41 1).toNat = some (t1, n1) ∧ 99 ≤ t1 ∧ (((n1 : Int) ≤ x1 → (Q 14 m)) ∧ (x1 < (n1 : Int) → (∃ t2 n2 : Nat, T.1 (m 41 1).toNat = some (t2, n2) ∧ 110 ≤ t2 ∧ (0 ≤ x1 ∧ x1 < (n2 : Int) ∧ (Q (m ((m 41 1).toNat) x1) m)))))))
def cs_127 : List (Nat × Nat × sFS) := []
theorem cs_127_ok : kCs dC 0 cs_127 := kCs_n
def lb_127_0 (s : sS) (Q : sQ) (R : Int → hy_m → Prop) (x1 : Int) : Nat → Option (sL → sS → Prop) := sLb []
set_option maxRecDepth 30000 in
set_option maxHeartbeats 1000000 in
theorem wk_127_0 (Q : sQ) (R : Int → hy_m → Prop) (s : sS) (x1 : Int) (hQ : ∀ x m', R x m' → Q x (sM s m')) (hr : sRg [(0, 5, 41), (1, 0, 0)] [x1]) (h : wq_127 x1 s.1 s.2.2.2 R) : kX dC 0 im_m127 3 0 (sCan [(0, 5, 41), (1, 0, 0)] [x1]) [] s Q := by
  unfold wq_127 at h
  refine wz2_ok (cs := cs_127) (wr := []) (lb := lb_127_0 s Q R x1) cs_127_ok kLb_n (okL_can rfl hr) (fun Y hY hl => ?_)
  refine hY _ _ _ _ (?_ : Y 1 [(0, 5, true, 41), (1, 0, true, x1)] [(0, true, x1)] s)
  refine hY _ _ _ _ ?_
  refine And.intro (fun hc => ?_) (fun hc => ?_)
  · have h := h.1 hc
    refine hY _ _ _ _ (hY _ _ _ _ (?_ : Y 26 [(0, 5, true, 41), (1, 0, true, x1)] [(5, true, 14)] s))
    refine hY _ _ _ _ ?_
    exact hQ 14 s.2.2.2 h
  · have h := h.2 hc
    refine hY _ _ _ _ (hY _ _ _ _ (hY _ _ _ _ (?_ : Y 9 [(0, 5, true, 41), (1, 0, true, x1)] [(3, true, s.2.2.2 41 1), (0, true, x1)] s)))
    refine hY _ _ _ _ ?_
    obtain ⟨t1, n1, h⟩ := h
    refine Exists.intro t1 (Exists.intro n1 (And.intro h.1 (And.intro h.2.1 ?_)))
    show Y 10 [(0, 5, true, 41), (1, 0, true, x1)] [(0, true, (n1 : Int)), (0, true, x1)] s
    refine hY _ _ _ _ ?_
    refine And.intro (fun hc => ?_) (fun hc => ?_)
    · have h := h.2.2.1 hc
      refine hY _ _ _ _ (hY _ _ _ _ (?_ : Y 26 [(0, 5, true, 41), (1, 0, true, x1)] [(5, true, 14)] s))
      refine hY _ _ _ _ ?_
      exact hQ 14 s.2.2.2 h
    · have h := h.2.2.2 hc
      refine hY _ _ _ _ (hY _ _ _ _ (hY _ _ _ _ (?_ : Y 18 [(0, 5, true, 41), (1, 0, true, x1)] [(0, true, x1), (3, true, s.2.2.2 41 1)] s)))
      refine hY _ _ _ _ ?_
      obtain ⟨t2, n2, h⟩ := h
      refine Exists.intro t2 (Exists.intro n2 (And.intro h.1 (And.intro h.2.1 ?_)))
      refine (And.intro h.2.2.1 (And.intro h.2.2.2.1 ?_))
      refine hY _ _ _ _ (?_ : Y 26 [(0, 5, true, 41), (1, 0, true, x1)] [(3, true, s.2.2.2 ((s.2.2.2 41 1).toNat) x1)] s)
      refine hY _ _ _ _ ?_
      exact hQ (s.2.2.2 ((s.2.2.2 41 1).toNat) x1) s.2.2.2 h.2.2.2.2
def we_127 : sFf := sEf 2 [(0, 5, 41), (1, 0, 0)] (fun xs s Q => ap1 (fun x1 => wq_127 x1 s.1 s.2.2.2 Q) xs)
theorem we_127_ok : kS dC 1 127 3 (.inl we_127) := sEf_ok (mi := im_m127) rfl rfl rfl (fun R xs s r1 hb => by obtain ⟨x1, rfl, hb⟩ := ap1_ok hb; exact wk_127_0 _ R s x1 (fun x m' hx => ⟨m', rfl, hx⟩) r1 hb)
/-- LM$Store.grow(I)V -/
def wf_116_7 (x1 : Int) (x2 : Int) (Q : sQ) (P7 : Int → sS → Prop) (x3 : Int) (s : sS) : Prop := ∃ t1 n1 : Nat, s.1.1 (x2).toNat = some (t1, n1) ∧ 99 ≤ t1 ∧ (((n1 : Int) ≤ x3 → (wq_305 (s.2.2.2 41 2) x1 (s.1, s.2.1, s.2.2.1, hy_u s.2.2.2 41 1 x2) (fun r2 s2 => hy_r 0 (x1 * 8) ∧ (wq_305 (s2.2.2.2 41 4) (x1 * 8) (s2.1, s2.2.1, s2.2.2.1, hy_u s2.2.2.2 41 2 r2) (fun r3 s3 => hy_r 0 (x1 * 8) ∧ (wq_305 (s3.2.2.2 41 5) (x1 * 8) (s3.1, s3.2.1, s3.2.2.1, hy_u s3.2.2.2 41 4 r3) (fun r4 s4 => Q 0 (s4.1, s4.2.1, s4.2.2.1, hy_u s4.2.2.2 41 5 r4)))))))) ∧ (x3 < (n1 : Int) → (wq_127 x3 s.1 s.2.2.2 (fun r5 m5 => ∃ t6 n6 : Nat, s.1.1 (x2).toNat = some (t6, n6) ∧ 110 ≤ t6 ∧ (0 ≤ x3 ∧ x3 < (n6 : Int) ∧ ((r5 = 0 ∨ ∃ nv, s.1.1 (r5).toNat = some (t6 - 110, nv) ∧ t6 < 160) ∧ (hy_r 0 (x3 + 1) ∧ (P7 (x3 + 1) (s.1, s.2.1, s.2.2.1, hy_u m5 ((x2).toNat) x3 r5)))))))))
def wq_116_7 (x1 : Int) (x2 : Int) (x3 : Int) (s : sS) (Q : sQ) : Prop := wL1 sS (wf_116_7 x1 x2 Q) x3 s
def wq_116 (x1 : Int) (s : sS) (Q : sQ) : Prop := 0 ≤ x1 ∧ x1 ≤ 10000000 ∧ (wq_116_7 x1 (s.2.1 : Int) 0 (hy_e s.1 s.2.1 113 ((x1).toNat), s.2.1 + 1, s.2.2.1 + ((x1).toNat), hy_z s.2.2.2 s.2.1) Q)
theorem wc_127_r41_0t (x1 : Int) (s : sS) (R : Int → hy_m → Prop) (h : wq_127 x1 s.1 s.2.2.2 R) : we_127 [(5, true, 41), (0, true, x1)] s R := h
def cs_116 : List (Nat × Nat × sFS) := [(127, 3, .inl we_127), (305, 3, .inr we_305)]
theorem cs_116_ok : kCs dC 1 cs_116 := (kCs_c (Or.inr (Or.inr (Or.inr (Or.inl rfl)))) (we_127_ok.deep (by decide)) (kCs_c (Or.inr (Or.inr (Or.inr (Or.inl rfl)))) (we_305_ok.deep (by decide)) kCs_n))
def lb_116_7 (s : sS) (Q : sQ) (P7 : Int → sS → Prop) (x1 : Int) (x2 : Int) (x3 : Int) : Nat → Option (sL → sS → Prop) := sLb [(7, fun lv t => sG [(0, 5, 41), (1, 0, 0), (2, 3, 0), (3, 0, 0)] lv (ap3 (fun w1 w2 w3 => w1 = x1 ∧ w2 = x2 ∧ P7 w3 t)))]
set_option maxRecDepth 30000 in
set_option maxHeartbeats 1000000 in
theorem wj_116_7 (Q : sQ) (s : sS) (P7 : Int → sS → Prop) (x1 : Int) (x2 : Int) (x3 : Int) (hP7 : ∀ (z3 : Int) (t : sS), P7 z3 t → sRg [(0, 5, 41), (1, 0, 0), (2, 3, 0), (3, 0, 0)] [x1, x2, z3] → kX dC 1 im_m116 9 7 (sCan [(0, 5, 41), (1, 0, 0), (2, 3, 0), (3, 0, 0)] [x1, x2, z3]) [] t Q) (hr : sRg [(0, 5, 41), (1, 0, 0), (2, 3, 0), (3, 0, 0)] [x1, x2, x3]) (h : wf_116_7 x1 x2 Q P7 x3 s) : kX dC 1 im_m116 9 7 (sCan [(0, 5, 41), (1, 0, 0), (2, 3, 0), (3, 0, 0)] [x1, x2, x3]) [] s Q := by
  unfold wf_116_7 at h
  refine wz2_ok (cs := cs_116) (wr := []) (lb := lb_116_7 s Q P7 x1 x2 x3) cs_116_ok (kLb_c (kLab (Bd := fun xs t => ap3 (fun w1 w2 w3 => w1 = x1 ∧ w2 = x2 ∧ P7 w3 t) xs) rfl (fun xs t r1 r2 hb => by obtain ⟨w1, w2, w3, rfl, hb⟩ := ap3_ok hb; obtain ⟨rfl, rfl, hx⟩ := hb; exact hP7 _ t hx r1)) kLb_n) (okL_can rfl hr) (fun Y hY hl => ?_)
  have l7 := hl 7 _ rfl
  refine hY _ _ _ _ (hY _ _ _ _ (?_ : Y 9 [(0, 5, true, 41), (1, 0, true, x1), (2, 3, true, x2), (3, 0, true, x3)] [(3, true, x2), (0, true, x3)] s))
  refine hY _ _ _ _ ?_
  obtain ⟨t1, n1, h⟩ := h
  refine Exists.intro t1 (Exists.intro n1 (And.intro h.1 (And.intro h.2.1 ?_)))
  show Y 10 [(0, 5, true, 41), (1, 0, true, x1), (2, 3, true, x2), (3, 0, true, x3)] [(0, true, (n1 : Int)), (0, true, x3)] s
  refine hY _ _ _ _ ?_
  refine And.intro (fun hc => ?_) (fun hc => ?_)
  · have h := h.2.2.1 hc
    refine hY _ _ _ _ (hY _ _ _ _ (?_ : Y 29 [(0, 5, true, 41), (1, 0, true, x1), (2, 3, true, x2), (3, 0, true, x3)] [(3, true, x2), (5, true, 41)] s))
    refine hY _ _ _ _ ?_
    refine hY _ _ _ _ (hY _ _ _ _ (hY _ _ _ _ (?_ : Y 37 [(0, 5, true, 41), (1, 0, true, x1), (2, 3, true, x2), (3, 0, true, x3)] [(3, true, s.2.2.2 41 2), (5, true, 41)] (s.1, s.2.1, s.2.2.1, hy_u s.2.2.2 41 1 x2))))
    refine hY _ _ _ _ (?_ : Y 38 [(0, 5, true, 41), (1, 0, true, x1), (2, 3, true, x2), (3, 0, true, x3)] [(0, true, x1), (3, true, s.2.2.2 41 2), (5, true, 41)] (s.1, s.2.1, s.2.2.1, hy_u s.2.2.2 41 1 x2))
    refine hY _ _ _ _ ?_
    refine Exists.intro _ (And.intro (wc_305_3t_0t (s.2.2.2 41 2) x1 _ _ h) (fun r2 s2 h => ?_))
    show Y 41 [(0, 5, true, 41), (1, 0, true, x1), (2, 3, true, x2), (3, 0, true, x3)] [(3, true, r2), (5, true, 41)] s2
    refine hY _ _ _ _ ?_
    refine hY _ _ _ _ (hY _ _ _ _ (hY _ _ _ _ (?_ : Y 49 [(0, 5, true, 41), (1, 0, true, x1), (2, 3, true, x2), (3, 0, true, x3)] [(3, true, s2.2.2.2 41 4), (5, true, 41)] (s2.1, s2.2.1, s2.2.2.1, hy_u s2.2.2.2 41 2 r2))))
    refine hY _ _ _ _ (hY _ _ _ _ (hY _ _ _ _ (?_ : Y 53 [(0, 5, true, 41), (1, 0, true, x1), (2, 3, true, x2), (3, 0, true, x3)] [(0, false, x1 * 8), (3, true, s2.2.2.2 41 4), (5, true, 41)] (s2.1, s2.2.1, s2.2.2.1, hy_u s2.2.2.2 41 2 r2))))
    refine hY _ _ _ _ ?_
    refine Exists.intro _ (And.intro (wc_305_3t_0f (s2.2.2.2 41 4) (x1 * 8) _ _ h) (fun r3 s3 h => ?_))
    show Y 56 [(0, 5, true, 41), (1, 0, true, x1), (2, 3, true, x2), (3, 0, true, x3)] [(3, true, r3), (5, true, 41)] s3
    refine hY _ _ _ _ ?_
    refine hY _ _ _ _ (hY _ _ _ _ (hY _ _ _ _ (?_ : Y 64 [(0, 5, true, 41), (1, 0, true, x1), (2, 3, true, x2), (3, 0, true, x3)] [(3, true, s3.2.2.2 41 5), (5, true, 41)] (s3.1, s3.2.1, s3.2.2.1, hy_u s3.2.2.2 41 4 r3))))
    refine hY _ _ _ _ (hY _ _ _ _ (hY _ _ _ _ (?_ : Y 68 [(0, 5, true, 41), (1, 0, true, x1), (2, 3, true, x2), (3, 0, true, x3)] [(0, false, x1 * 8), (3, true, s3.2.2.2 41 5), (5, true, 41)] (s3.1, s3.2.1, s3.2.2.1, hy_u s3.2.2.2 41 4 r3))))
    refine hY _ _ _ _ ?_
    refine Exists.intro _ (And.intro (wc_305_3t_0f (s3.2.2.2 41 5) (x1 * 8) _ _ h) (fun r4 s4 h => ?_))
    show Y 71 [(0, 5, true, 41), (1, 0, true, x1), (2, 3, true, x2), (3, 0, true, x3)] [(3, true, r4), (5, true, 41)] s4
    refine hY _ _ _ _ ?_
    show Y 74 [(0, 5, true, 41), (1, 0, true, x1), (2, 3, true, x2), (3, 0, true, x3)] [] (s4.1, s4.2.1, s4.2.2.1, hy_u s4.2.2.2 41 5 r4)
    refine hY _ _ _ _ ?_
    exact h
  · have h := h.2.2.2 hc
    refine hY _ _ _ _ (hY _ _ _ _ (hY _ _ _ _ (?_ : Y 16 [(0, 5, true, 41), (1, 0, true, x1), (2, 3, true, x2), (3, 0, true, x3)] [(5, true, 41), (0, true, x3), (3, true, x2)] s)))
    refine hY _ _ _ _ (?_ : Y 17 [(0, 5, true, 41), (1, 0, true, x1), (2, 3, true, x2), (3, 0, true, x3)] [(0, true, x3), (5, true, 41), (0, true, x3), (3, true, x2)] s)
    refine hY _ _ _ _ ?_
    refine Exists.intro _ (And.intro (wc_127_r41_0t x3 _ _ h) (fun r5 m5 h => ?_))
    show Y 20 [(0, 5, true, 41), (1, 0, true, x1), (2, 3, true, x2), (3, 0, true, x3)] [(3, true, r5), (0, true, x3), (3, true, x2)] (s.1, s.2.1, s.2.2.1, m5)
    refine hY _ _ _ _ ?_
    obtain ⟨t6, n6, h⟩ := h
    refine Exists.intro t6 (Exists.intro n6 (And.intro h.1 (And.intro h.2.1 ?_)))
    refine (And.intro h.2.2.1 (And.intro h.2.2.2.1 ?_))
    refine (And.intro h.2.2.2.2.1 ?_)
    refine hY _ _ _ _ (hY _ _ _ _ (?_ : Y 7 [(3, 0, false, x3 + 1), (0, 5, true, 41), (1, 0, true, x1), (2, 3, true, x2)] [] (s.1, s.2.1, s.2.2.1, hy_u m5 ((x2).toNat) x3 r5)))
    refine l7 _ _ ?_
    refine And.intro h.2.2.2.2.2.1 ?_
    exact (And.intro rfl (And.intro rfl h.2.2.2.2.2.2))
theorem wk_116_7 (Q : sQ) (s : sS) (x1 : Int) (x2 : Int) (x3 : Int) (hr : sRg [(0, 5, 41), (1, 0, 0), (2, 3, 0), (3, 0, 0)] [x1, x2, x3]) (h : wq_116_7 x1 x2 x3 s Q) : kX dC 1 im_m116 9 7 (sCan [(0, 5, 41), (1, 0, 0), (2, 3, 0), (3, 0, 0)] [x1, x2, x3]) [] s Q :=
  h (fun x3 s => sRg [(0, 5, 41), (1, 0, 0), (2, 3, 0), (3, 0, 0)] [x1, x2, x3] → kX dC 1 im_m116 9 7 (sCan [(0, 5, 41), (1, 0, 0), (2, 3, 0), (3, 0, 0)] [x1, x2, x3]) [] s Q) (fun x3 s h hr => wj_116_7 Q s (fun x3 s => sRg [(0, 5, 41), (1, 0, 0), (2, 3, 0), (3, 0, 0)] [x1, x2, x3] → kX dC 1 im_m116 9 7 (sCan [(0, 5, 41), (1, 0, 0), (2, 3, 0), (3, 0, 0)] [x1, x2, x3]) [] s Q) x1 x2 x3  (fun _ _ hp hr => hp hr) hr h) hr
def lb_116_0 (s : sS) (Q : sQ) (x1 : Int) : Nat → Option (sL → sS → Prop) := sLb [(7, fun lv t => sG [(0, 5, 41), (1, 0, 0), (2, 3, 0), (3, 0, 0)] lv (ap3 (fun w1 w2 w3 => wq_116_7 w1 w2 w3 t Q)))]
set_option maxRecDepth 30000 in
set_option maxHeartbeats 1000000 in
theorem wk_116_0 (Q : sQ) (s : sS) (x1 : Int) (hr : sRg [(0, 5, 41), (1, 0, 0)] [x1]) (h : wq_116 x1 s Q) : kX dC 1 im_m116 9 0 (sCan [(0, 5, 41), (1, 0, 0)] [x1]) [] s Q := by
  unfold wq_116 at h
  refine wz2_ok (cs := cs_116) (wr := []) (lb := lb_116_0 s Q x1) cs_116_ok (kLb_c (kLab (Bd := fun xs t => ap3 (fun w1 w2 w3 => wq_116_7 w1 w2 w3 t Q) xs) rfl (fun xs t r1 r2 hb => by obtain ⟨w1, w2, w3, rfl, hb⟩ := ap3_ok hb; exact wk_116_7 Q t _ _ _ r1 hb)) kLb_n) (okL_can rfl hr) (fun Y hY hl => ?_)
  have l7 := hl 7 _ rfl
  refine hY _ _ _ _ (?_ : Y 1 [(0, 5, true, 41), (1, 0, true, x1)] [(0, true, x1)] s)
  refine hY _ _ _ _ ?_
  refine (And.intro h.1 (And.intro h.2.1 ?_))
  refine hY _ _ _ _ (hY _ _ _ _ (hY _ _ _ _ (?_ : Y 7 [(3, 2, true, 0), (2, 3, true, (s.2.1 : Int)), (0, 5, true, 41), (1, 0, true, x1)] [] (hy_e s.1 s.2.1 113 ((x1).toNat), s.2.1 + 1, s.2.2.1 + ((x1).toNat), hy_z s.2.2.2 s.2.1))))
  refine l7 _ _ ?_
  exact h.2.2
def we_116 : sF := sE 4 [(0, 5, 41), (1, 0, 0)] (fun xs s Q => ap1 (fun x1 => wq_116 x1 s Q) xs)
theorem we_116_ok : kS dC 2 116 9 (.inr we_116) := sE_ok (mi := im_m116) rfl rfl rfl (fun Q xs s r1 hb => by obtain ⟨x1, rfl, hb⟩ := ap1_ok hb; exact wk_116_0 Q s x1 r1 hb)
/-- LM$Unifier.grow(I)V -/
def wq_147 (x1 : Int) (s : sS) (Q : sQ) : Prop := 0 ≤ (x1 * 128) ∧ (x1 * 128) ≤ 10000000 ∧ (0 ≤ (x1 * 60) ∧ (x1 * 60) ≤ 10000000 ∧ (0 ≤ (x1 * 76) ∧ (x1 * 76) ≤ 10000000 ∧ (0 ≤ (x1 * 8) ∧ (x1 * 8) ≤ 10000000 ∧ (0 ≤ (x1 * 8) ∧ (x1 * 8) ≤ 10000000 ∧ (Q 0 (hy_e (hy_e (hy_e (hy_e (hy_e s.1 s.2.1 100 (((x1 * 128)).toNat)) (s.2.1 + 1) 100 (((x1 * 60)).toNat)) (s.2.1 + 1 + 1) 100 (((x1 * 76)).toNat)) (s.2.1 + 1 + 1 + 1) 100 (((x1 * 8)).toNat)) (s.2.1 + 1 + 1 + 1 + 1) 100 (((x1 * 8)).toNat), s.2.1 + 1 + 1 + 1 + 1 + 1, s.2.2.1 + (((x1 * 128)).toNat) + (((x1 * 60)).toNat) + (((x1 * 76)).toNat) + (((x1 * 8)).toNat) + (((x1 * 8)).toNat), hy_u (hy_z (hy_u (hy_z (hy_u (hy_z (hy_u (hy_z (hy_u (hy_z s.2.2.2 s.2.1) 47 1 (s.2.1 : Int)) (s.2.1 + 1)) 47 2 (((s.2.1 + 1 : Nat) : Int) : Int)) (s.2.1 + 1 + 1)) 47 6 (((s.2.1 + 1 + 1 : Nat) : Int) : Int)) (s.2.1 + 1 + 1 + 1)) 47 4 (((s.2.1 + 1 + 1 + 1 : Nat) : Int) : Int)) (s.2.1 + 1 + 1 + 1 + 1)) 47 8 (((s.2.1 + 1 + 1 + 1 + 1 : Nat) : Int) : Int)))))))
def cs_147 : List (Nat × Nat × sFS) := []
theorem cs_147_ok : kCs dC 0 cs_147 := kCs_n
def lb_147_0 (s : sS) (Q : sQ) (x1 : Int) : Nat → Option (sL → sS → Prop) := sLb []
set_option maxRecDepth 30000 in
set_option maxHeartbeats 1000000 in
theorem wk_147_0 (Q : sQ) (s : sS) (x1 : Int) (hr : sRg [(0, 5, 47), (1, 0, 0)] [x1]) (h : wq_147 x1 s Q) : kX dC 0 im_m147 9 0 (sCan [(0, 5, 47), (1, 0, 0)] [x1]) [] s Q := by
  unfold wq_147 at h
  refine wz2_ok (cs := cs_147) (wr := []) (lb := lb_147_0 s Q x1) cs_147_ok kLb_n (okL_can rfl hr) (fun Y hY hl => ?_)
  refine hY _ _ _ _ (hY _ _ _ _ (hY _ _ _ _ (?_ : Y 5 [(0, 5, true, 47), (1, 0, true, x1)] [(0, true, 128), (0, true, x1), (5, true, 47)] s)))
  refine hY _ _ _ _ (?_ : Y 6 [(0, 5, true, 47), (1, 0, true, x1)] [(0, false, x1 * 128), (5, true, 47)] s)
  refine hY _ _ _ _ ?_
  refine (And.intro h.1 (And.intro h.2.1 ?_))
  show Y 8 [(0, 5, true, 47), (1, 0, true, x1)] [(3, true, (s.2.1 : Int)), (5, true, 47)] (hy_e s.1 s.2.1 100 (((x1 * 128)).toNat), s.2.1 + 1, s.2.2.1 + (((x1 * 128)).toNat), hy_z s.2.2.2 s.2.1)
  refine hY _ _ _ _ ?_
  refine hY _ _ _ _ (hY _ _ _ _ (hY _ _ _ _ (?_ : Y 15 [(0, 5, true, 47), (1, 0, true, x1)] [(0, true, 60), (0, true, x1), (5, true, 47)] (hy_e s.1 s.2.1 100 (((x1 * 128)).toNat), s.2.1 + 1, s.2.2.1 + (((x1 * 128)).toNat), hy_u (hy_z s.2.2.2 s.2.1) 47 1 (s.2.1 : Int)))))
  refine hY _ _ _ _ (?_ : Y 16 [(0, 5, true, 47), (1, 0, true, x1)] [(0, false, x1 * 60), (5, true, 47)] (hy_e s.1 s.2.1 100 (((x1 * 128)).toNat), s.2.1 + 1, s.2.2.1 + (((x1 * 128)).toNat), hy_u (hy_z s.2.2.2 s.2.1) 47 1 (s.2.1 : Int)))
  refine hY _ _ _ _ ?_
  refine (And.intro h.2.2.1 (And.intro h.2.2.2.1 ?_))
  show Y 18 [(0, 5, true, 47), (1, 0, true, x1)] [(3, true, (((s.2.1 + 1 : Nat) : Int) : Int)), (5, true, 47)] (hy_e (hy_e s.1 s.2.1 100 (((x1 * 128)).toNat)) (s.2.1 + 1) 100 (((x1 * 60)).toNat), s.2.1 + 1 + 1, s.2.2.1 + (((x1 * 128)).toNat) + (((x1 * 60)).toNat), hy_z (hy_u (hy_z s.2.2.2 s.2.1) 47 1 (s.2.1 : Int)) (s.2.1 + 1))
  refine hY _ _ _ _ ?_
  refine hY _ _ _ _ (hY _ _ _ _ (hY _ _ _ _ (?_ : Y 25 [(0, 5, true, 47), (1, 0, true, x1)] [(0, true, 76), (0, true, x1), (5, true, 47)] (hy_e (hy_e s.1 s.2.1 100 (((x1 * 128)).toNat)) (s.2.1 + 1) 100 (((x1 * 60)).toNat), s.2.1 + 1 + 1, s.2.2.1 + (((x1 * 128)).toNat) + (((x1 * 60)).toNat), hy_u (hy_z (hy_u (hy_z s.2.2.2 s.2.1) 47 1 (s.2.1 : Int)) (s.2.1 + 1)) 47 2 (((s.2.1 + 1 : Nat) : Int) : Int)))))
  refine hY _ _ _ _ (?_ : Y 26 [(0, 5, true, 47), (1, 0, true, x1)] [(0, false, x1 * 76), (5, true, 47)] (hy_e (hy_e s.1 s.2.1 100 (((x1 * 128)).toNat)) (s.2.1 + 1) 100 (((x1 * 60)).toNat), s.2.1 + 1 + 1, s.2.2.1 + (((x1 * 128)).toNat) + (((x1 * 60)).toNat), hy_u (hy_z (hy_u (hy_z s.2.2.2 s.2.1) 47 1 (s.2.1 : Int)) (s.2.1 + 1)) 47 2 (((s.2.1 + 1 : Nat) : Int) : Int)))
  refine hY _ _ _ _ ?_
  refine (And.intro h.2.2.2.2.1 (And.intro h.2.2.2.2.2.1 ?_))
  show Y 28 [(0, 5, true, 47), (1, 0, true, x1)] [(3, true, (((s.2.1 + 1 + 1 : Nat) : Int) : Int)), (5, true, 47)] (hy_e (hy_e (hy_e s.1 s.2.1 100 (((x1 * 128)).toNat)) (s.2.1 + 1) 100 (((x1 * 60)).toNat)) (s.2.1 + 1 + 1) 100 (((x1 * 76)).toNat), s.2.1 + 1 + 1 + 1, s.2.2.1 + (((x1 * 128)).toNat) + (((x1 * 60)).toNat) + (((x1 * 76)).toNat), hy_z (hy_u (hy_z (hy_u (hy_z s.2.2.2 s.2.1) 47 1 (s.2.1 : Int)) (s.2.1 + 1)) 47 2 (((s.2.1 + 1 : Nat) : Int) : Int)) (s.2.1 + 1 + 1))
  refine hY _ _ _ _ ?_
  refine hY _ _ _ _ (hY _ _ _ _ (hY _ _ _ _ (?_ : Y 35 [(0, 5, true, 47), (1, 0, true, x1)] [(0, true, 8), (0, true, x1), (5, true, 47)] (hy_e (hy_e (hy_e s.1 s.2.1 100 (((x1 * 128)).toNat)) (s.2.1 + 1) 100 (((x1 * 60)).toNat)) (s.2.1 + 1 + 1) 100 (((x1 * 76)).toNat), s.2.1 + 1 + 1 + 1, s.2.2.1 + (((x1 * 128)).toNat) + (((x1 * 60)).toNat) + (((x1 * 76)).toNat), hy_u (hy_z (hy_u (hy_z (hy_u (hy_z s.2.2.2 s.2.1) 47 1 (s.2.1 : Int)) (s.2.1 + 1)) 47 2 (((s.2.1 + 1 : Nat) : Int) : Int)) (s.2.1 + 1 + 1)) 47 6 (((s.2.1 + 1 + 1 : Nat) : Int) : Int)))))
  refine hY _ _ _ _ (?_ : Y 36 [(0, 5, true, 47), (1, 0, true, x1)] [(0, false, x1 * 8), (5, true, 47)] (hy_e (hy_e (hy_e s.1 s.2.1 100 (((x1 * 128)).toNat)) (s.2.1 + 1) 100 (((x1 * 60)).toNat)) (s.2.1 + 1 + 1) 100 (((x1 * 76)).toNat), s.2.1 + 1 + 1 + 1, s.2.2.1 + (((x1 * 128)).toNat) + (((x1 * 60)).toNat) + (((x1 * 76)).toNat), hy_u (hy_z (hy_u (hy_z (hy_u (hy_z s.2.2.2 s.2.1) 47 1 (s.2.1 : Int)) (s.2.1 + 1)) 47 2 (((s.2.1 + 1 : Nat) : Int) : Int)) (s.2.1 + 1 + 1)) 47 6 (((s.2.1 + 1 + 1 : Nat) : Int) : Int)))
  refine hY _ _ _ _ ?_
  refine (And.intro h.2.2.2.2.2.2.1 (And.intro h.2.2.2.2.2.2.2.1 ?_))
  show Y 38 [(0, 5, true, 47), (1, 0, true, x1)] [(3, true, (((s.2.1 + 1 + 1 + 1 : Nat) : Int) : Int)), (5, true, 47)] (hy_e (hy_e (hy_e (hy_e s.1 s.2.1 100 (((x1 * 128)).toNat)) (s.2.1 + 1) 100 (((x1 * 60)).toNat)) (s.2.1 + 1 + 1) 100 (((x1 * 76)).toNat)) (s.2.1 + 1 + 1 + 1) 100 (((x1 * 8)).toNat), s.2.1 + 1 + 1 + 1 + 1, s.2.2.1 + (((x1 * 128)).toNat) + (((x1 * 60)).toNat) + (((x1 * 76)).toNat) + (((x1 * 8)).toNat), hy_z (hy_u (hy_z (hy_u (hy_z (hy_u (hy_z s.2.2.2 s.2.1) 47 1 (s.2.1 : Int)) (s.2.1 + 1)) 47 2 (((s.2.1 + 1 : Nat) : Int) : Int)) (s.2.1 + 1 + 1)) 47 6 (((s.2.1 + 1 + 1 : Nat) : Int) : Int)) (s.2.1 + 1 + 1 + 1))
  refine hY _ _ _ _ ?_
  refine hY _ _ _ _ (hY _ _ _ _ (hY _ _ _ _ (?_ : Y 45 [(0, 5, true, 47), (1, 0, true, x1)] [(0, true, 8), (0, true, x1), (5, true, 47)] (hy_e (hy_e (hy_e (hy_e s.1 s.2.1 100 (((x1 * 128)).toNat)) (s.2.1 + 1) 100 (((x1 * 60)).toNat)) (s.2.1 + 1 + 1) 100 (((x1 * 76)).toNat)) (s.2.1 + 1 + 1 + 1) 100 (((x1 * 8)).toNat), s.2.1 + 1 + 1 + 1 + 1, s.2.2.1 + (((x1 * 128)).toNat) + (((x1 * 60)).toNat) + (((x1 * 76)).toNat) + (((x1 * 8)).toNat), hy_u (hy_z (hy_u (hy_z (hy_u (hy_z (hy_u (hy_z s.2.2.2 s.2.1) 47 1 (s.2.1 : Int)) (s.2.1 + 1)) 47 2 (((s.2.1 + 1 : Nat) : Int) : Int)) (s.2.1 + 1 + 1)) 47 6 (((s.2.1 + 1 + 1 : Nat) : Int) : Int)) (s.2.1 + 1 + 1 + 1)) 47 4 (((s.2.1 + 1 + 1 + 1 : Nat) : Int) : Int)))))
  refine hY _ _ _ _ (?_ : Y 46 [(0, 5, true, 47), (1, 0, true, x1)] [(0, false, x1 * 8), (5, true, 47)] (hy_e (hy_e (hy_e (hy_e s.1 s.2.1 100 (((x1 * 128)).toNat)) (s.2.1 + 1) 100 (((x1 * 60)).toNat)) (s.2.1 + 1 + 1) 100 (((x1 * 76)).toNat)) (s.2.1 + 1 + 1 + 1) 100 (((x1 * 8)).toNat), s.2.1 + 1 + 1 + 1 + 1, s.2.2.1 + (((x1 * 128)).toNat) + (((x1 * 60)).toNat) + (((x1 * 76)).toNat) + (((x1 * 8)).toNat), hy_u (hy_z (hy_u (hy_z (hy_u (hy_z (hy_u (hy_z s.2.2.2 s.2.1) 47 1 (s.2.1 : Int)) (s.2.1 + 1)) 47 2 (((s.2.1 + 1 : Nat) : Int) : Int)) (s.2.1 + 1 + 1)) 47 6 (((s.2.1 + 1 + 1 : Nat) : Int) : Int)) (s.2.1 + 1 + 1 + 1)) 47 4 (((s.2.1 + 1 + 1 + 1 : Nat) : Int) : Int)))
  refine hY _ _ _ _ ?_
  refine (And.intro h.2.2.2.2.2.2.2.2.1 (And.intro h.2.2.2.2.2.2.2.2.2.1 ?_))
  show Y 48 [(0, 5, true, 47), (1, 0, true, x1)] [(3, true, (((s.2.1 + 1 + 1 + 1 + 1 : Nat) : Int) : Int)), (5, true, 47)] (hy_e (hy_e (hy_e (hy_e (hy_e s.1 s.2.1 100 (((x1 * 128)).toNat)) (s.2.1 + 1) 100 (((x1 * 60)).toNat)) (s.2.1 + 1 + 1) 100 (((x1 * 76)).toNat)) (s.2.1 + 1 + 1 + 1) 100 (((x1 * 8)).toNat)) (s.2.1 + 1 + 1 + 1 + 1) 100 (((x1 * 8)).toNat), s.2.1 + 1 + 1 + 1 + 1 + 1, s.2.2.1 + (((x1 * 128)).toNat) + (((x1 * 60)).toNat) + (((x1 * 76)).toNat) + (((x1 * 8)).toNat) + (((x1 * 8)).toNat), hy_z (hy_u (hy_z (hy_u (hy_z (hy_u (hy_z (hy_u (hy_z s.2.2.2 s.2.1) 47 1 (s.2.1 : Int)) (s.2.1 + 1)) 47 2 (((s.2.1 + 1 : Nat) : Int) : Int)) (s.2.1 + 1 + 1)) 47 6 (((s.2.1 + 1 + 1 : Nat) : Int) : Int)) (s.2.1 + 1 + 1 + 1)) 47 4 (((s.2.1 + 1 + 1 + 1 : Nat) : Int) : Int)) (s.2.1 + 1 + 1 + 1 + 1))
  refine hY _ _ _ _ ?_
  show Y 51 [(0, 5, true, 47), (1, 0, true, x1)] [] (hy_e (hy_e (hy_e (hy_e (hy_e s.1 s.2.1 100 (((x1 * 128)).toNat)) (s.2.1 + 1) 100 (((x1 * 60)).toNat)) (s.2.1 + 1 + 1) 100 (((x1 * 76)).toNat)) (s.2.1 + 1 + 1 + 1) 100 (((x1 * 8)).toNat)) (s.2.1 + 1 + 1 + 1 + 1) 100 (((x1 * 8)).toNat), s.2.1 + 1 + 1 + 1 + 1 + 1, s.2.2.1 + (((x1 * 128)).toNat) + (((x1 * 60)).toNat) + (((x1 * 76)).toNat) + (((x1 * 8)).toNat) + (((x1 * 8)).toNat), hy_u (hy_z (hy_u (hy_z (hy_u (hy_z (hy_u (hy_z (hy_u (hy_z s.2.2.2 s.2.1) 47 1 (s.2.1 : Int)) (s.2.1 + 1)) 47 2 (((s.2.1 + 1 : Nat) : Int) : Int)) (s.2.1 + 1 + 1)) 47 6 (((s.2.1 + 1 + 1 : Nat) : Int) : Int)) (s.2.1 + 1 + 1 + 1)) 47 4 (((s.2.1 + 1 + 1 + 1 : Nat) : Int) : Int)) (s.2.1 + 1 + 1 + 1 + 1)) 47 8 (((s.2.1 + 1 + 1 + 1 + 1 : Nat) : Int) : Int))
  refine hY _ _ _ _ ?_
  exact h.2.2.2.2.2.2.2.2.2.2
def we_147 : sF := sE 2 [(0, 5, 47), (1, 0, 0)] (fun xs s Q => ap1 (fun x1 => wq_147 x1 s Q) xs)
theorem we_147_ok : kS dC 1 147 9 (.inr we_147) := sE_ok (mi := im_m147) rfl rfl rfl (fun Q xs s r1 hb => by obtain ⟨x1, rfl, hb⟩ := ap1_ok hb; exact wk_147_0 Q s x1 r1 hb)
/-- LM$Arithmetic.grow(ILLogicMachine$Unifier;)V -/
def wq_29 (x1 : Int) (x2 : Int) (s : sS) (Q : sQ) : Prop := s.1.1 (x2).toNat = some (10, 11) ∧ (s.1.1 (x2).toNat = some (10, 11) ∧ (0 ≤ (x1 * 8) ∧ (x1 * 8) ≤ 10000000 ∧ (0 ≤ (x1 * 8) ∧ (x1 * 8) ≤ 10000000 ∧ (Q 0 (hy_e (hy_e s.1 s.2.1 100 (((x1 * 8)).toNat)) (s.2.1 + 1) 100 (((x1 * 8)).toNat), s.2.1 + 1 + 1, s.2.2.1 + (((x1 * 8)).toNat) + (((x1 * 8)).toNat), hy_u (hy_z (hy_u (hy_z (hy_u (hy_u s.2.2.2 53 1 (s.2.2.2 ((x2).toNat) 6)) 53 3 ((hy_u s.2.2.2 53 1 (s.2.2.2 ((x2).toNat) 6)) ((x2).toNat) 2)) s.2.1) 53 5 (s.2.1 : Int)) (s.2.1 + 1)) 53 6 (((s.2.1 + 1 : Nat) : Int) : Int))))))
def cs_29 : List (Nat × Nat × sFS) := []
theorem cs_29_ok : kCs dC 0 cs_29 := kCs_n
def lb_29_0 (s : sS) (Q : sQ) (x1 : Int) (x2 : Int) : Nat → Option (sL → sS → Prop) := sLb []
set_option maxRecDepth 30000 in
set_option maxHeartbeats 1000000 in
theorem wk_29_0 (Q : sQ) (s : sS) (x1 : Int) (x2 : Int) (hr : sRg [(0, 5, 53), (1, 0, 0), (2, 3, 0)] [x1, x2]) (h : wq_29 x1 x2 s Q) : kX dC 0 im_m29 9 0 (sCan [(0, 5, 53), (1, 0, 0), (2, 3, 0)] [x1, x2]) [] s Q := by
  unfold wq_29 at h
  refine wz2_ok (cs := cs_29) (wr := []) (lb := lb_29_0 s Q x1 x2) cs_29_ok kLb_n (okL_can rfl hr) (fun Y hY hl => ?_)
  refine hY _ _ _ _ (hY _ _ _ _ (?_ : Y 2 [(0, 5, true, 53), (1, 0, true, x1), (2, 3, true, x2)] [(3, true, x2), (5, true, 53)] s))
  refine hY _ _ _ _ ?_
  refine (And.intro h.1 ?_)
  show Y 5 [(0, 5, true, 53), (1, 0, true, x1), (2, 3, true, x2)] [(3, true, s.2.2.2 ((x2).toNat) 6), (5, true, 53)] s
  refine hY _ _ _ _ ?_
  refine hY _ _ _ _ (hY _ _ _ _ (?_ : Y 10 [(0, 5, true, 53), (1, 0, true, x1), (2, 3, true, x2)] [(3, true, x2), (5, true, 53)] (s.1, s.2.1, s.2.2.1, hy_u s.2.2.2 53 1 (s.2.2.2 ((x2).toNat) 6))))
  refine hY _ _ _ _ ?_
  refine (And.intro h.2.1 ?_)
  show Y 13 [(0, 5, true, 53), (1, 0, true, x1), (2, 3, true, x2)] [(3, true, (hy_u s.2.2.2 53 1 (s.2.2.2 ((x2).toNat) 6)) ((x2).toNat) 2), (5, true, 53)] (s.1, s.2.1, s.2.2.1, hy_u s.2.2.2 53 1 (s.2.2.2 ((x2).toNat) 6))
  refine hY _ _ _ _ ?_
  refine hY _ _ _ _ (hY _ _ _ _ (hY _ _ _ _ (?_ : Y 20 [(0, 5, true, 53), (1, 0, true, x1), (2, 3, true, x2)] [(0, true, 8), (0, true, x1), (5, true, 53)] (s.1, s.2.1, s.2.2.1, hy_u (hy_u s.2.2.2 53 1 (s.2.2.2 ((x2).toNat) 6)) 53 3 ((hy_u s.2.2.2 53 1 (s.2.2.2 ((x2).toNat) 6)) ((x2).toNat) 2)))))
  refine hY _ _ _ _ (?_ : Y 21 [(0, 5, true, 53), (1, 0, true, x1), (2, 3, true, x2)] [(0, false, x1 * 8), (5, true, 53)] (s.1, s.2.1, s.2.2.1, hy_u (hy_u s.2.2.2 53 1 (s.2.2.2 ((x2).toNat) 6)) 53 3 ((hy_u s.2.2.2 53 1 (s.2.2.2 ((x2).toNat) 6)) ((x2).toNat) 2)))
  refine hY _ _ _ _ ?_
  refine (And.intro h.2.2.1 (And.intro h.2.2.2.1 ?_))
  show Y 23 [(0, 5, true, 53), (1, 0, true, x1), (2, 3, true, x2)] [(3, true, (s.2.1 : Int)), (5, true, 53)] (hy_e s.1 s.2.1 100 (((x1 * 8)).toNat), s.2.1 + 1, s.2.2.1 + (((x1 * 8)).toNat), hy_z (hy_u (hy_u s.2.2.2 53 1 (s.2.2.2 ((x2).toNat) 6)) 53 3 ((hy_u s.2.2.2 53 1 (s.2.2.2 ((x2).toNat) 6)) ((x2).toNat) 2)) s.2.1)
  refine hY _ _ _ _ ?_
  refine hY _ _ _ _ (hY _ _ _ _ (hY _ _ _ _ (?_ : Y 30 [(0, 5, true, 53), (1, 0, true, x1), (2, 3, true, x2)] [(0, true, 8), (0, true, x1), (5, true, 53)] (hy_e s.1 s.2.1 100 (((x1 * 8)).toNat), s.2.1 + 1, s.2.2.1 + (((x1 * 8)).toNat), hy_u (hy_z (hy_u (hy_u s.2.2.2 53 1 (s.2.2.2 ((x2).toNat) 6)) 53 3 ((hy_u s.2.2.2 53 1 (s.2.2.2 ((x2).toNat) 6)) ((x2).toNat) 2)) s.2.1) 53 5 (s.2.1 : Int)))))
  refine hY _ _ _ _ (?_ : Y 31 [(0, 5, true, 53), (1, 0, true, x1), (2, 3, true, x2)] [(0, false, x1 * 8), (5, true, 53)] (hy_e s.1 s.2.1 100 (((x1 * 8)).toNat), s.2.1 + 1, s.2.2.1 + (((x1 * 8)).toNat), hy_u (hy_z (hy_u (hy_u s.2.2.2 53 1 (s.2.2.2 ((x2).toNat) 6)) 53 3 ((hy_u s.2.2.2 53 1 (s.2.2.2 ((x2).toNat) 6)) ((x2).toNat) 2)) s.2.1) 53 5 (s.2.1 : Int)))
  refine hY _ _ _ _ ?_
  refine (And.intro h.2.2.2.2.1 (And.intro h.2.2.2.2.2.1 ?_))
  show Y 33 [(0, 5, true, 53), (1, 0, true, x1), (2, 3, true, x2)] [(3, true, (((s.2.1 + 1 : Nat) : Int) : Int)), (5, true, 53)] (hy_e (hy_e s.1 s.2.1 100 (((x1 * 8)).toNat)) (s.2.1 + 1) 100 (((x1 * 8)).toNat), s.2.1 + 1 + 1, s.2.2.1 + (((x1 * 8)).toNat) + (((x1 * 8)).toNat), hy_z (hy_u (hy_z (hy_u (hy_u s.2.2.2 53 1 (s.2.2.2 ((x2).toNat) 6)) 53 3 ((hy_u s.2.2.2 53 1 (s.2.2.2 ((x2).toNat) 6)) ((x2).toNat) 2)) s.2.1) 53 5 (s.2.1 : Int)) (s.2.1 + 1))
  refine hY _ _ _ _ ?_
  show Y 36 [(0, 5, true, 53), (1, 0, true, x1), (2, 3, true, x2)] [] (hy_e (hy_e s.1 s.2.1 100 (((x1 * 8)).toNat)) (s.2.1 + 1) 100 (((x1 * 8)).toNat), s.2.1 + 1 + 1, s.2.2.1 + (((x1 * 8)).toNat) + (((x1 * 8)).toNat), hy_u (hy_z (hy_u (hy_z (hy_u (hy_u s.2.2.2 53 1 (s.2.2.2 ((x2).toNat) 6)) 53 3 ((hy_u s.2.2.2 53 1 (s.2.2.2 ((x2).toNat) 6)) ((x2).toNat) 2)) s.2.1) 53 5 (s.2.1 : Int)) (s.2.1 + 1)) 53 6 (((s.2.1 + 1 : Nat) : Int) : Int))
  refine hY _ _ _ _ ?_
  exact h.2.2.2.2.2.2
def we_29 : sF := sE 3 [(0, 5, 53), (1, 0, 0), (2, 3, 0)] (fun xs s Q => ap2 (fun x1 x2 => wq_29 x1 x2 s Q) xs)
theorem we_29_ok : kS dC 1 29 9 (.inr we_29) := sE_ok (mi := im_m29) rfl rfl rfl (fun Q xs s r1 hb => by obtain ⟨x1, x2, rfl, hb⟩ := ap2_ok hb; exact wk_29_0 Q s x1 x2 r1 hb)
/-- LM$Search.grow(I)V -/
def wq_85 (x1 : Int) (s : sS) (Q : sQ) : Prop := wq_116 x1 s (fun _ s1 => wq_147 x1 s1 (fun _ s2 => wq_29 x1 47 s2 (fun _ s3 => Q 0 s3)))
theorem wc_116_r41_0t (x1 : Int) (s : sS) (R : Int → sS → Prop) (h : wq_116 x1 s R) : we_116 [(5, true, 41), (0, true, x1)] s R := h
theorem wc_147_r47_0t (x1 : Int) (s : sS) (R : Int → sS → Prop) (h : wq_147 x1 s R) : we_147 [(5, true, 47), (0, true, x1)] s R := h
theorem wc_29_r53_0t_r47 (x1 : Int) (s : sS) (R : Int → sS → Prop) (h : wq_29 x1 47 s R) : we_29 [(5, true, 53), (0, true, x1), (5, true, 47)] s R := h
def cs_85 : List (Nat × Nat × sFS) := [(29, 9, .inr we_29), (116, 9, .inr we_116), (147, 9, .inr we_147)]
theorem cs_85_ok : kCs dC 2 cs_85 := (kCs_c (Or.inr (Or.inr (Or.inr (Or.inr rfl)))) (we_29_ok.deep (by decide)) (kCs_c (Or.inr (Or.inr (Or.inr (Or.inr rfl)))) (we_116_ok.deep (by decide)) (kCs_c (Or.inr (Or.inr (Or.inr (Or.inr rfl)))) (we_147_ok.deep (by decide)) kCs_n)))
def lb_85_0 (s : sS) (Q : sQ) (x1 : Int) : Nat → Option (sL → sS → Prop) := sLb []
set_option maxRecDepth 30000 in
set_option maxHeartbeats 1000000 in
theorem wk_85_0 (Q : sQ) (s : sS) (x1 : Int) (hr : sRg [(0, 5, 36), (1, 0, 0)] [x1]) (h : wq_85 x1 s Q) : kX dC 2 im_m85 9 0 (sCan [(0, 5, 36), (1, 0, 0)] [x1]) [] s Q := by
  unfold wq_85 at h
  refine wz2_ok (cs := cs_85) (wr := []) (lb := lb_85_0 s Q x1) cs_85_ok kLb_n (okL_can rfl hr) (fun Y hY hl => ?_)
  refine hY _ _ _ _ (hY _ _ _ _ (hY _ _ _ _ (?_ : Y 5 [(0, 5, true, 36), (1, 0, true, x1)] [(0, true, x1), (5, true, 41)] s)))
  refine hY _ _ _ _ ?_
  refine Exists.intro _ (And.intro (wc_116_r41_0t x1 _ _ h) (fun r1 s1 h => ?_))
  refine hY _ _ _ _ (hY _ _ _ _ (hY _ _ _ _ (?_ : Y 13 [(0, 5, true, 36), (1, 0, true, x1)] [(0, true, x1), (5, true, 47)] s1)))
  refine hY _ _ _ _ ?_
  refine Exists.intro _ (And.intro (wc_147_r47_0t x1 _ _ h) (fun r2 s2 h => ?_))
  refine hY _ _ _ _ (hY _ _ _ _ (hY _ _ _ _ (?_ : Y 21 [(0, 5, true, 36), (1, 0, true, x1)] [(0, true, x1), (5, true, 53)] s2)))
  refine hY _ _ _ _ (hY _ _ _ _ (?_ : Y 25 [(0, 5, true, 36), (1, 0, true, x1)] [(5, true, 47), (0, true, x1), (5, true, 53)] s2))
  refine hY _ _ _ _ ?_
  refine Exists.intro _ (And.intro (wc_29_r53_0t_r47 x1 _ _ h) (fun r3 s3 h => ?_))
  show Y 28 [(0, 5, true, 36), (1, 0, true, x1)] [] s3
  refine hY _ _ _ _ ?_
  exact h
def we_85 : sF := sE 2 [(0, 5, 36), (1, 0, 0)] (fun xs s Q => ap1 (fun x1 => wq_85 x1 s Q) xs)
theorem we_85_ok : kS dC 3 85 9 (.inr we_85) := sE_ok (mi := im_m85) rfl rfl rfl (fun Q xs s r1 hb => by obtain ⟨x1, rfl, hb⟩ := ap1_ok hb; exact wk_85_0 Q s x1 r1 hb)
/-- LM$Text.add(I)V -/
def wq_134 (x1 : Int) (m : hy_m) (Q : Int → hy_m → Prop) : Prop := (120 ≤ (m 2 1) → (Q 0 m)) ∧ ((m 2 1) < 120 → (hy_r 4 x1 ∧ (0 ≤ (m 2 1) ∧ (m 2 1) < 120 ∧ (hy_r 0 ((m 2 1) + 1) ∧ (Q 0 (hy_u (hy_u m 3 (m 2 1) x1) 2 1 ((m 2 1) + 1)))))))
def cs_134 : List (Nat × Nat × sFS) := []
theorem cs_134_ok : kCs dC 0 cs_134 := kCs_n
def lb_134_0 (s : sS) (Q : sQ) (R : Int → hy_m → Prop) (x1 : Int) : Nat → Option (sL → sS → Prop) := sLb []
set_option maxRecDepth 30000 in
set_option maxHeartbeats 1000000 in
theorem wk_134_0 (Q : sQ) (R : Int → hy_m → Prop) (s : sS) (x1 : Int) (hQ : ∀ x m', R x m' → Q x (sM s m')) (hr : sRg [(0, 5, 2), (1, 0, 0)] [x1]) (h : wq_134 x1 s.2.2.2 R) : kX dC 0 im_m134 9 0 (sCan [(0, 5, 2), (1, 0, 0)] [x1]) [] s Q := by
  unfold wq_134 at h
  refine wz2_ok (cs := cs_134) (wr := []) (lb := lb_134_0 s Q R x1) cs_134_ok kLb_n (okL_can rfl hr) (fun Y hY hl => ?_)
  refine hY _ _ _ _ (hY _ _ _ _ (hY _ _ _ _ (?_ : Y 5 [(0, 5, true, 2), (1, 0, true, x1)] [(5, true, 2), (0, true, s.2.2.2 2 1)] s)))
  refine hY _ _ _ _ (hY _ _ _ _ (?_ : Y 9 [(0, 5, true, 2), (1, 0, true, x1)] [(0, true, 120), (0, true, s.2.2.2 2 1)] s))
  refine hY _ _ _ _ ?_
  refine And.intro (fun hc => ?_) (fun hc => ?_)
  · have h := h.1 hc
    show Y 33 [(0, 5, true, 2), (1, 0, true, x1)] [] s
    refine hY _ _ _ _ ?_
    exact hQ 0 s.2.2.2 h
  · have h := h.2 hc
    refine hY _ _ _ _ (hY _ _ _ _ (hY _ _ _ _ (?_ : Y 17 [(0, 5, true, 2), (1, 0, true, x1)] [(5, true, 2), (5, true, 3)] s)))
    refine hY _ _ _ _ (hY _ _ _ _ (?_ : Y 21 [(0, 5, true, 2), (1, 0, true, x1)] [(0, true, x1), (0, true, s.2.2.2 2 1), (5, true, 3)] s))
    refine hY _ _ _ _ ?_
    refine And.intro h.1 ?_
    show Y 22 [(0, 5, true, 2), (1, 0, true, x1)] [(4, true, x1), (0, true, s.2.2.2 2 1), (5, true, 3)] s
    refine hY _ _ _ _ ?_
    refine (And.intro h.2.1 (And.intro h.2.2.1 ?_))
    refine hY _ _ _ _ (hY _ _ _ _ (hY _ _ _ _ (?_ : Y 28 [(0, 5, true, 2), (1, 0, true, x1)] [(0, true, s.2.2.2 2 1), (5, true, 2)] (sM s (hy_u s.2.2.2 3 (s.2.2.2 2 1) x1)))))
    refine hY _ _ _ _ (hY _ _ _ _ (?_ : Y 30 [(0, 5, true, 2), (1, 0, true, x1)] [(0, false, (s.2.2.2 2 1) + 1), (5, true, 2)] (sM s (hy_u s.2.2.2 3 (s.2.2.2 2 1) x1))))
    refine hY _ _ _ _ ?_
    refine And.intro h.2.2.2.1 ?_
    show Y 33 [(0, 5, true, 2), (1, 0, true, x1)] [] (sM s (hy_u (hy_u s.2.2.2 3 (s.2.2.2 2 1) x1) 2 1 ((s.2.2.2 2 1) + 1)))
    refine hY _ _ _ _ ?_
    exact hQ 0 (hy_u (hy_u s.2.2.2 3 (s.2.2.2 2 1) x1) 2 1 ((s.2.2.2 2 1) + 1)) h.2.2.2.2
def we_134 : sFf := sEf 2 [(0, 5, 2), (1, 0, 0)] (fun xs s Q => ap1 (fun x1 => wq_134 x1 s.2.2.2 Q) xs)
theorem we_134_ok : kS dC 1 134 9 (.inl we_134) := sEf_ok (mi := im_m134) rfl rfl rfl (fun R xs s r1 hb => by obtain ⟨x1, rfl, hb⟩ := ap1_ok hb; exact wk_134_0 _ R s x1 (fun x m' hx => ⟨m', rfl, hx⟩) r1 hb)
/-- LM.write(I)I -/
def wq_1 (x1 : Int) (m : hy_m) (Q : Int → hy_m → Prop) : Prop := (x1 < 32 → (Q (-1) m)) ∧ (32 ≤ x1 → ((x1 ≤ 126 → (((m 2 1) < 120 → (wq_134 x1 m (fun _ m1 => Q (m1 2 1) m1))) ∧ (120 ≤ (m 2 1) → (Q (-3) m)))) ∧ (126 < x1 → (Q (-1) m))))
theorem wc_134_r2_0t (x1 : Int) (s : sS) (R : Int → hy_m → Prop) (h : wq_134 x1 s.2.2.2 R) : we_134 [(5, true, 2), (0, true, x1)] s R := h
def cs_1 : List (Nat × Nat × sFS) := [(134, 9, .inl we_134)]
theorem cs_1_ok : kCs dC 1 cs_1 := (kCs_c (Or.inr (Or.inr (Or.inr (Or.inr rfl)))) (we_134_ok.deep (by decide)) kCs_n)
def lb_1_0 (s : sS) (Q : sQ) (R : Int → hy_m → Prop) (x1 : Int) : Nat → Option (sL → sS → Prop) := sLb []
set_option maxRecDepth 30000 in
set_option maxHeartbeats 1000000 in
theorem wk_1_0 (Q : sQ) (R : Int → hy_m → Prop) (s : sS) (x1 : Int) (hQ : ∀ x m', R x m' → Q x (sM s m')) (hr : sRg [(0, 5, 1), (1, 0, 0)] [x1]) (h : wq_1 x1 s.2.2.2 R) : kX dC 1 im_m1 0 0 (sCan [(0, 5, 1), (1, 0, 0)] [x1]) [] s Q := by
  unfold wq_1 at h
  refine wz2_ok (cs := cs_1) (wr := []) (lb := lb_1_0 s Q R x1) cs_1_ok kLb_n (okL_can rfl hr) (fun Y hY hl => ?_)
  refine hY _ _ _ _ (hY _ _ _ _ (?_ : Y 3 [(0, 5, true, 1), (1, 0, true, x1)] [(0, true, 32), (0, true, x1)] s))
  refine hY _ _ _ _ ?_
  refine And.intro (fun hc => ?_) (fun hc => ?_)
  · have h := h.1 hc
    refine hY _ _ _ _ (?_ : Y 13 [(0, 5, true, 1), (1, 0, true, x1)] [(0, true, (-1))] s)
    refine hY _ _ _ _ ?_
    exact hQ (-1) s.2.2.2 h
  · have h := h.2 hc
    refine hY _ _ _ _ (hY _ _ _ _ (?_ : Y 9 [(0, 5, true, 1), (1, 0, true, x1)] [(0, true, 126), (0, true, x1)] s))
    refine hY _ _ _ _ ?_
    refine And.intro (fun hc => ?_) (fun hc => ?_)
    · have h := h.1 hc
      refine hY _ _ _ _ (hY _ _ _ _ (hY _ _ _ _ (?_ : Y 21 [(0, 5, true, 1), (1, 0, true, x1)] [(0, true, s.2.2.2 2 1)] s)))
      refine hY _ _ _ _ (?_ : Y 23 [(0, 5, true, 1), (1, 0, true, x1)] [(0, true, 120), (0, true, s.2.2.2 2 1)] s)
      refine hY _ _ _ _ ?_
      refine And.intro (fun hc => ?_) (fun hc => ?_)
      · have h := h.1 hc
        refine hY _ _ _ _ (hY _ _ _ _ (hY _ _ _ _ (?_ : Y 34 [(0, 5, true, 1), (1, 0, true, x1)] [(0, true, x1), (5, true, 2)] s)))
        refine hY _ _ _ _ ?_
        refine Exists.intro _ (And.intro (wc_134_r2_0t x1 _ _ h) (fun r1 m1 h => ?_))
        refine hY _ _ _ _ (hY _ _ _ _ (hY _ _ _ _ (?_ : Y 44 [(0, 5, true, 1), (1, 0, true, x1)] [(0, true, m1 2 1)] (sM s m1))))
        refine hY _ _ _ _ ?_
        exact hQ (m1 2 1) m1 h
      · have h := h.2 hc
        refine hY _ _ _ _ (?_ : Y 28 [(0, 5, true, 1), (1, 0, true, x1)] [(0, true, (-3))] s)
        refine hY _ _ _ _ ?_
        exact hQ (-3) s.2.2.2 h
    · have h := h.2 hc
      refine hY _ _ _ _ (?_ : Y 13 [(0, 5, true, 1), (1, 0, true, x1)] [(0, true, (-1))] s)
      refine hY _ _ _ _ ?_
      exact hQ (-1) s.2.2.2 h
def we_1 : sFf := sEf 2 [(0, 5, 1), (1, 0, 0)] (fun xs s Q => ap1 (fun x1 => wq_1 x1 s.2.2.2 Q) xs)
theorem we_1_ok : kS dC 2 1 0 (.inl we_1) := sEf_ok (mi := im_m1) rfl rfl rfl (fun R xs s r1 hb => by obtain ⟨x1, rfl, hb⟩ := ap1_ok hb; exact wk_1_0 _ R s x1 (fun x m' hx => ⟨m', rfl, hx⟩) r1 hb)
/-- LM.wipe()I -/
def wq_2 (m : hy_m) (Q : Int → hy_m → Prop) : Prop := Q (m 2 1) (hy_u m 2 1 0)
def cs_2 : List (Nat × Nat × sFS) := []
theorem cs_2_ok : kCs dC 0 cs_2 := kCs_n
def lb_2_0 (s : sS) (Q : sQ) (R : Int → hy_m → Prop) : Nat → Option (sL → sS → Prop) := sLb []
set_option maxRecDepth 30000 in
set_option maxHeartbeats 1000000 in
theorem wk_2_0 (Q : sQ) (R : Int → hy_m → Prop) (s : sS) (hQ : ∀ x m', R x m' → Q x (sM s m')) (hr : sRg [(0, 5, 1)] []) (h : wq_2 s.2.2.2 R) : kX dC 0 im_m2 0 0 (sCan [(0, 5, 1)] []) [] s Q := by
  unfold wq_2 at h
  refine wz2_ok (cs := cs_2) (wr := []) (lb := lb_2_0 s Q R) cs_2_ok kLb_n (okL_can rfl hr) (fun Y hY hl => ?_)
  refine hY _ _ _ _ (hY _ _ _ _ (hY _ _ _ _ (?_ : Y 7 [(0, 5, true, 1)] [(0, true, s.2.2.2 2 1)] s)))
  refine hY _ _ _ _ (hY _ _ _ _ (hY _ _ _ _ (?_ : Y 12 [(1, 0, true, s.2.2.2 2 1), (0, 5, true, 1)] [(5, true, 2)] s)))
  refine hY _ _ _ _ (?_ : Y 13 [(1, 0, true, s.2.2.2 2 1), (0, 5, true, 1)] [(2, true, 0), (5, true, 2)] s)
  refine hY _ _ _ _ ?_
  refine hY _ _ _ _ (?_ : Y 17 [(1, 0, true, s.2.2.2 2 1), (0, 5, true, 1)] [(0, true, s.2.2.2 2 1)] (sM s (hy_u s.2.2.2 2 1 0)))
  refine hY _ _ _ _ ?_
  exact hQ (s.2.2.2 2 1) (hy_u s.2.2.2 2 1 0) h
def we_2 : sFf := sEf 2 [(0, 5, 1)] (fun xs s Q => ap0 (wq_2 s.2.2.2 Q) xs)
theorem we_2_ok : kS dC 1 2 0 (.inl we_2) := sEf_ok (mi := im_m2) rfl rfl rfl (fun R xs s r1 hb => by obtain ⟨rfl, hb⟩ := ap0_ok hb; exact wk_2_0 _ R s (fun x m' hx => ⟨m', rfl, hx⟩) r1 hb)
/-- LM$Text.nextSign()I -/
def wf_138_5 (Q : Int → hy_m → Prop) (P5 : Int → hy_m → Prop) (x1 : Int) (m : hy_m) : Prop := ((m 2 1) ≤ x1 → (Q x1 m)) ∧ (x1 < (m 2 1) → (0 ≤ x1 ∧ x1 < 120 ∧ (((m 3 x1) ≠ 32 → (Q x1 m)) ∧ ((m 3 x1) = 32 → (hy_r 0 (x1 + 1) ∧ (P5 (x1 + 1) m))))))
def wq_138_5 (x1 : Int) (m : hy_m) (Q : Int → hy_m → Prop) : Prop := wL1 hy_m (wf_138_5 Q) x1 m
def wq_138 (m : hy_m) (Q : Int → hy_m → Prop) : Prop := wq_138_5 (m 2 5) m Q
def cs_138 : List (Nat × Nat × sFS) := []
theorem cs_138_ok : kCs dC 0 cs_138 := kCs_n
def lb_138_5 (s : sS) (Q : sQ) (P5 : Int → hy_m → Prop) (R : Int → hy_m → Prop) (x1 : Int) : Nat → Option (sL → sS → Prop) := sLb [(5, fun lv t => sG [(0, 5, 2), (1, 0, 0)] lv (ap1 (fun w1 => ∃ m', t = sM s m' ∧ P5 w1 m')))]
set_option maxRecDepth 30000 in
set_option maxHeartbeats 1000000 in
theorem wj_138_5 (Q : sQ) (R : Int → hy_m → Prop) (s : sS) (P5 : Int → hy_m → Prop) (x1 : Int) (m : hy_m) (hP5 : ∀ (z1 : Int) (m : hy_m), P5 z1 m → sRg [(0, 5, 2), (1, 0, 0)] [z1] → kX dC 0 im_m138 0 5 (sCan [(0, 5, 2), (1, 0, 0)] [z1]) [] (sM s m) Q) (hQ : ∀ x m', R x m' → Q x (sM s m')) (hr : sRg [(0, 5, 2), (1, 0, 0)] [x1]) (h : wf_138_5 R P5 x1 m) : kX dC 0 im_m138 0 5 (sCan [(0, 5, 2), (1, 0, 0)] [x1]) [] (sM s m) Q := by
  unfold wf_138_5 at h
  refine wz2_ok (cs := cs_138) (wr := []) (lb := lb_138_5 s Q P5 R x1) cs_138_ok (kLb_c (kLab (Bd := fun xs t => ap1 (fun w1 => ∃ m', t = sM s m' ∧ P5 w1 m') xs) rfl (fun xs t r1 r2 hb => by obtain ⟨w1, rfl, hb⟩ := ap1_ok hb; obtain ⟨m', rfl, hx⟩ := hb; exact hP5 _ m' hx r1)) kLb_n) (okL_can rfl hr) (fun Y hY hl => ?_)
  have l5 := hl 5 _ rfl
  refine hY _ _ _ _ (hY _ _ _ _ (hY _ _ _ _ (?_ : Y 10 [(0, 5, true, 2), (1, 0, true, x1)] [(0, true, m 2 1), (0, true, x1)] (sM s m))))
  refine hY _ _ _ _ ?_
  refine And.intro (fun hc => ?_) (fun hc => ?_)
  · have h := h.1 hc
    refine hY _ _ _ _ (?_ : Y 31 [(0, 5, true, 2), (1, 0, true, x1)] [(0, true, x1)] (sM s m))
    refine hY _ _ _ _ ?_
    exact hQ x1 m h
  · have h := h.2 hc
    refine hY _ _ _ _ (hY _ _ _ _ (hY _ _ _ _ (?_ : Y 18 [(0, 5, true, 2), (1, 0, true, x1)] [(0, true, x1), (5, true, 3)] (sM s m))))
    refine hY _ _ _ _ ?_
    refine (And.intro h.1 (And.intro h.2.1 ?_))
    refine hY _ _ _ _ (?_ : Y 21 [(0, 5, true, 2), (1, 0, true, x1)] [(0, true, 32), (4, true, m 3 x1)] (sM s m))
    refine hY _ _ _ _ ?_
    refine And.intro (fun hc => ?_) (fun hc => ?_)
    · have h := h.2.2.1 hc
      refine hY _ _ _ _ (?_ : Y 31 [(0, 5, true, 2), (1, 0, true, x1)] [(0, true, x1)] (sM s m))
      refine hY _ _ _ _ ?_
      exact hQ x1 m h
    · have h := h.2.2.2 hc
      refine hY _ _ _ _ (hY _ _ _ _ (?_ : Y 5 [(1, 0, false, x1 + 1), (0, 5, true, 2)] [] (sM s m)))
      refine l5 _ _ ?_
      refine And.intro h.1 ?_
      exact (Exists.intro m (And.intro rfl h.2))
theorem wk_138_5 (Q : sQ) (R : Int → hy_m → Prop) (s : sS) (x1 : Int) (hQ : ∀ x m', R x m' → Q x (sM s m')) (hr : sRg [(0, 5, 2), (1, 0, 0)] [x1]) (h : wq_138_5 x1 s.2.2.2 R) : kX dC 0 im_m138 0 5 (sCan [(0, 5, 2), (1, 0, 0)] [x1]) [] s Q :=
  h (fun x1 m => sRg [(0, 5, 2), (1, 0, 0)] [x1] → kX dC 0 im_m138 0 5 (sCan [(0, 5, 2), (1, 0, 0)] [x1]) [] (sM s m) Q) (fun x1 m h hr => wj_138_5 Q R s (fun x1 m => sRg [(0, 5, 2), (1, 0, 0)] [x1] → kX dC 0 im_m138 0 5 (sCan [(0, 5, 2), (1, 0, 0)] [x1]) [] (sM s m) Q) x1 m  (fun _ _ hp hr => hp hr) hQ hr h) hr
def lb_138_0 (s : sS) (Q : sQ) (R : Int → hy_m → Prop) : Nat → Option (sL → sS → Prop) := sLb [(5, fun lv t => sG [(0, 5, 2), (1, 0, 0)] lv (ap1 (fun w1 => ∃ m', t = sM s m' ∧ wq_138_5 w1 m' R)))]
set_option maxRecDepth 30000 in
set_option maxHeartbeats 1000000 in
theorem wk_138_0 (Q : sQ) (R : Int → hy_m → Prop) (s : sS) (hQ : ∀ x m', R x m' → Q x (sM s m')) (hr : sRg [(0, 5, 2)] []) (h : wq_138 s.2.2.2 R) : kX dC 0 im_m138 0 0 (sCan [(0, 5, 2)] []) [] s Q := by
  unfold wq_138 at h
  refine wz2_ok (cs := cs_138) (wr := []) (lb := lb_138_0 s Q R) cs_138_ok (kLb_c (kLab (Bd := fun xs t => ap1 (fun w1 => ∃ m', t = sM s m' ∧ wq_138_5 w1 m' R) xs) rfl (fun xs t r1 r2 hb => by obtain ⟨w1, rfl, hb⟩ := ap1_ok hb; obtain ⟨m', rfl, hx⟩ := hb; exact wk_138_5 Q R (sM s m') _ (fun x m'' hy => hQ x m'' hy) r1 hx)) kLb_n) (okL_can rfl hr) (fun Y hY hl => ?_)
  have l5 := hl 5 _ rfl
  refine hY _ _ _ _ (hY _ _ _ _ (hY _ _ _ _ (?_ : Y 5 [(1, 0, true, s.2.2.2 2 5), (0, 5, true, 2)] [] s)))
  refine l5 _ _ ?_
  exact (Exists.intro s.2.2.2 (And.intro rfl h))
def we_138 : sFf := sEf 2 [(0, 5, 2)] (fun xs s Q => ap0 (wq_138 s.2.2.2 Q) xs)
theorem we_138_ok : kS dC 1 138 0 (.inl we_138) := sEf_ok (mi := im_m138) rfl rfl rfl (fun R xs s r1 hb => by obtain ⟨rfl, hb⟩ := ap0_ok hb; exact wk_138_0 _ R s (fun x m' hx => ⟨m', rfl, hx⟩) r1 hb)
/-- LM$Text.isLower(C)Z -/
def wq_142 (x0 : Int) (m : hy_m) (Q : Int → hy_m → Prop) : Prop := (x0 < 97 → (Q 0 m)) ∧ (97 ≤ x0 → ((122 < x0 → (Q 0 m)) ∧ (x0 ≤ 122 → (Q 1 m))))
def cs_142 : List (Nat × Nat × sFS) := []
theorem cs_142_ok : kCs dC 0 cs_142 := kCs_n
def lb_142_0 (s : sS) (Q : sQ) (R : Int → hy_m → Prop) (x0 : Int) : Nat → Option (sL → sS → Prop) := sLb []
set_option maxRecDepth 30000 in
set_option maxHeartbeats 1000000 in
theorem wk_142_0 (Q : sQ) (R : Int → hy_m → Prop) (s : sS) (x0 : Int) (hQ : ∀ x m', R x m' → Q x (sM s m')) (hr : sRg [(0, 4, 0)] [x0]) (h : wq_142 x0 s.2.2.2 R) : kX dC 0 im_m142 2 0 (sCan [(0, 4, 0)] [x0]) [] s Q := by
  unfold wq_142 at h
  refine wz2_ok (cs := cs_142) (wr := []) (lb := lb_142_0 s Q R x0) cs_142_ok kLb_n (okL_can rfl hr) (fun Y hY hl => ?_)
  refine hY _ _ _ _ (hY _ _ _ _ (?_ : Y 3 [(0, 4, true, x0)] [(0, true, 97), (4, true, x0)] s))
  refine hY _ _ _ _ ?_
  refine And.intro (fun hc => ?_) (fun hc => ?_)
  · have h := h.1 hc
    refine hY _ _ _ _ (?_ : Y 17 [(0, 4, true, x0)] [(2, true, 0)] s)
    refine hY _ _ _ _ ?_
    exact hQ 0 s.2.2.2 h
  · have h := h.2 hc
    refine hY _ _ _ _ (hY _ _ _ _ (?_ : Y 9 [(0, 4, true, x0)] [(0, true, 122), (4, true, x0)] s))
    refine hY _ _ _ _ ?_
    refine And.intro (fun hc => ?_) (fun hc => ?_)
    · have h := h.1 hc
      refine hY _ _ _ _ (?_ : Y 17 [(0, 4, true, x0)] [(2, true, 0)] s)
      refine hY _ _ _ _ ?_
      exact hQ 0 s.2.2.2 h
    · have h := h.2 hc
      refine hY _ _ _ _ (hY _ _ _ _ (?_ : Y 17 [(0, 4, true, x0)] [(2, true, 1)] s))
      refine hY _ _ _ _ ?_
      exact hQ 1 s.2.2.2 h
def we_142 : sFf := sEf 1 [(0, 4, 0)] (fun xs s Q => ap1 (fun x0 => wq_142 x0 s.2.2.2 Q) xs)
theorem we_142_ok : kS dC 1 142 2 (.inl we_142) := sEf_ok (mi := im_m142) rfl rfl rfl (fun R xs s r1 hb => by obtain ⟨x0, rfl, hb⟩ := ap1_ok hb; exact wk_142_0 _ R s x0 (fun x m' hx => ⟨m', rfl, hx⟩) r1 hb)
