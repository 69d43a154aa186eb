/-- LM$Program.shift(II)V -/
def wf_57_40 (x0 : Int) (x2 : Int) (x3 : Int) (T : hy_T) (Q : Int → hy_m → Prop) (P40 : Int → hy_m → Prop) (x4 : Int) (m : hy_m) : Prop := (x4 ≤ x2 → (T.1 (x0).toNat = some (5, 3) ∧ (∃ t1 n1 : Nat, T.1 (m ((x0).toNat) 1).toNat = some (t1, n1) ∧ 110 ≤ t1 ∧ (0 ≤ x2 ∧ x2 < (n1 : Int) ∧ ((x3 = 0 ∨ ∃ nv, T.1 (x3).toNat = some (t1 - 110, nv) ∧ t1 < 160) ∧ (Q 0 (hy_u m ((m ((x0).toNat) 1).toNat) x2 x3))))))) ∧ (x2 < x4 → (T.1 (x0).toNat = some (5, 3) ∧ (T.1 (x0).toNat = some (5, 3) ∧ (∃ t2 n2 : Nat, T.1 (m ((x0).toNat) 1).toNat = some (t2, n2) ∧ 110 ≤ t2 ∧ (0 ≤ (x4 - 1) ∧ (x4 - 1) < (n2 : Int) ∧ (∃ t3 n3 : Nat, T.1 (m ((x0).toNat) 1).toNat = some (t3, n3) ∧ 110 ≤ t3 ∧ (0 ≤ x4 ∧ x4 < (n3 : Int) ∧ (((m ((m ((x0).toNat) 1).toNat) (x4 - 1)) = 0 ∨ ∃ nv, T.1 ((m ((m ((x0).toNat) 1).toNat) (x4 - 1))).toNat = some (t3 - 110, nv) ∧ t3 < 160) ∧ (hy_r 0 (x4 + (-1)) ∧ (P40 (x4 + (-1)) (hy_u m ((m ((x0).toNat) 1).toNat) x4 (m ((m ((x0).toNat) 1).toNat) (x4 - 1)))))))))))))
def wq_57_40 (x0 : Int) (x2 : Int) (x3 : Int) (x4 : Int) (T : hy_T) (m : hy_m) (Q : Int → hy_m → Prop) : Prop := wL1 hy_m (wf_57_40 x0 x2 x3 T Q) x4 m
def wf_57_9 (x0 : Int) (x1 : Int) (x2 : Int) (x3 : Int) (T : hy_T) (Q : Int → hy_m → Prop) (P9 : Int → hy_m → Prop) (x4 : Int) (m : hy_m) : Prop := (x2 ≤ x4 → (wq_57_40 x0 x2 x3 x1 T m Q)) ∧ (x4 < x2 → (T.1 (x0).toNat = some (5, 3) ∧ (T.1 (x0).toNat = some (5, 3) ∧ (∃ t1 n1 : Nat, T.1 (m ((x0).toNat) 1).toNat = some (t1, n1) ∧ 110 ≤ t1 ∧ (0 ≤ (x4 + 1) ∧ (x4 + 1) < (n1 : Int) ∧ (∃ t2 n2 : Nat, T.1 (m ((x0).toNat) 1).toNat = some (t2, n2) ∧ 110 ≤ t2 ∧ (0 ≤ x4 ∧ x4 < (n2 : Int) ∧ (((m ((m ((x0).toNat) 1).toNat) (x4 + 1)) = 0 ∨ ∃ nv, T.1 ((m ((m ((x0).toNat) 1).toNat) (x4 + 1))).toNat = some (t2 - 110, nv) ∧ t2 < 160) ∧ (hy_r 0 (x4 + 1) ∧ (P9 (x4 + 1) (hy_u m ((m ((x0).toNat) 1).toNat) x4 (m ((m ((x0).toNat) 1).toNat) (x4 + 1)))))))))))))
def wq_57_9 (x0 : Int) (x1 : Int) (x2 : Int) (x3 : Int) (x4 : Int) (T : hy_T) (m : hy_m) (Q : Int → hy_m → Prop) : Prop := wL1 hy_m (wf_57_9 x0 x1 x2 x3 T Q) x4 m
def wq_57 (x0 : Int) (x1 : Int) (x2 : Int) (T : hy_T) (m : hy_m) (Q : Int → hy_m → Prop) : Prop := T.1 (x0).toNat = some (5, 3) ∧ (wq_53 x0 x1 T m (fun r1 m1 => wq_57_9 x0 x1 x2 r1 x1 T m1 Q))
def cs_57 : List (Nat × Nat × sFS) := [(53, 3, .inl we_53)]
theorem cs_57_ok : kCs dC 2 cs_57 := (kCs_c (Or.inr (Or.inr (Or.inr (Or.inl rfl)))) (we_53_ok.deep (by decide)) kCs_n)
def lb_57_40 (s : sS) (Q : sQ) (P40 : Int → hy_m → Prop) (R : Int → hy_m → Prop) (x0 : Int) (x2 : Int) (x3 : Int) (x4 : Int) : Nat → Option (sL → sS → Prop) := sLb [(40, fun lv t => sG [(0, 3, 0), (2, 0, 0), (3, 3, 0), (4, 0, 0)] lv (ap4 (fun w0 w2 w3 w4 => ∃ m', t = sM s m' ∧ w0 = x0 ∧ w2 = x2 ∧ w3 = x3 ∧ P40 w4 m')))]
set_option maxRecDepth 30000 in
set_option maxHeartbeats 1000000 in
theorem wj_57_40 (Q : sQ) (R : Int → hy_m → Prop) (s : sS) (P40 : Int → hy_m → Prop) (x0 : Int) (x2 : Int) (x3 : Int) (x4 : Int) (m : hy_m) (hP40 : ∀ (z4 : Int) (m : hy_m), P40 z4 m → sRg [(0, 3, 0), (2, 0, 0), (3, 3, 0), (4, 0, 0)] [x0, x2, x3, z4] → kX dC 2 im_m57 9 40 (sCan [(0, 3, 0), (2, 0, 0), (3, 3, 0), (4, 0, 0)] [x0, x2, x3, z4]) [] (sM s m) Q) (hQ : ∀ x m', R x m' → Q x (sM s m')) (hr : sRg [(0, 3, 0), (2, 0, 0), (3, 3, 0), (4, 0, 0)] [x0, x2, x3, x4]) (h : wf_57_40 x0 x2 x3 s.1 R P40 x4 m) : kX dC 2 im_m57 9 40 (sCan [(0, 3, 0), (2, 0, 0), (3, 3, 0), (4, 0, 0)] [x0, x2, x3, x4]) [] (sM s m) Q := by
  unfold wf_57_40 at h
  refine wz2_ok (cs := cs_57) (wr := []) (lb := lb_57_40 s Q P40 R x0 x2 x3 x4) cs_57_ok (kLb_c (kLab (Bd := fun xs t => ap4 (fun w0 w2 w3 w4 => ∃ m', t = sM s m' ∧ w0 = x0 ∧ w2 = x2 ∧ w3 = x3 ∧ P40 w4 m') xs) rfl (fun xs t r1 r2 hb => by obtain ⟨w0, w2, w3, w4, rfl, hb⟩ := ap4_ok hb; obtain ⟨m', rfl, rfl, rfl, rfl, hx⟩ := hb; exact hP40 _ m' hx r1)) kLb_n) (okL_can rfl hr) (fun Y hY hl => ?_)
  have l40 := hl 40 _ rfl
  refine hY _ _ _ _ (hY _ _ _ _ (?_ : Y 43 [(0, 3, true, x0), (2, 0, true, x2), (3, 3, true, x3), (4, 0, true, x4)] [(0, true, x2), (0, true, x4)] (sM s m)))
  refine hY _ _ _ _ ?_
  refine And.intro (fun hc => ?_) (fun hc => ?_)
  · have h := h.1 hc
    refine hY _ _ _ _ (?_ : Y 69 [(0, 3, true, x0), (2, 0, true, x2), (3, 3, true, x3), (4, 0, true, x4)] [(3, true, x0)] (sM s m))
    refine hY _ _ _ _ ?_
    refine (And.intro h.1 ?_)
    refine hY _ _ _ _ (hY _ _ _ _ (?_ : Y 74 [(0, 3, true, x0), (2, 0, true, x2), (3, 3, true, x3), (4, 0, true, x4)] [(3, true, x3), (0, true, x2), (3, true, m ((x0).toNat) 1)] (sM s m)))
    refine hY _ _ _ _ ?_
    obtain ⟨t1, n1, h⟩ := h.2
    refine Exists.intro t1 (Exists.intro n1 (And.intro h.1 (And.intro h.2.1 ?_)))
    refine (And.intro h.2.2.1 (And.intro h.2.2.2.1 ?_))
    refine (And.intro h.2.2.2.2.1 ?_)
    show Y 75 [(0, 3, true, x0), (2, 0, true, x2), (3, 3, true, x3), (4, 0, true, x4)] [] (sM s (hy_u m ((m ((x0).toNat) 1).toNat) x2 x3))
    refine hY _ _ _ _ ?_
    exact hQ 0 (hy_u m ((m ((x0).toNat) 1).toNat) x2 x3) h.2.2.2.2.2
  · have h := h.2 hc
    refine hY _ _ _ _ (?_ : Y 47 [(0, 3, true, x0), (2, 0, true, x2), (3, 3, true, x3), (4, 0, true, x4)] [(3, true, x0)] (sM s m))
    refine hY _ _ _ _ ?_
    refine (And.intro h.1 ?_)
    refine hY _ _ _ _ (hY _ _ _ _ (?_ : Y 53 [(0, 3, true, x0), (2, 0, true, x2), (3, 3, true, x3), (4, 0, true, x4)] [(3, true, x0), (0, true, x4), (3, true, m ((x0).toNat) 1)] (sM s m)))
    refine hY _ _ _ _ ?_
    refine (And.intro h.2.1 ?_)
    refine hY _ _ _ _ (hY _ _ _ _ (hY _ _ _ _ (?_ : Y 60 [(0, 3, true, x0), (2, 0, true, x2), (3, 3, true, x3), (4, 0, true, x4)] [(0, false, x4 - 1), (3, true, m ((x0).toNat) 1), (0, true, x4), (3, true, m ((x0).toNat) 1)] (sM s m))))
    refine hY _ _ _ _ ?_
    obtain ⟨t2, n2, h⟩ := h.2.2
    refine Exists.intro t2 (Exists.intro n2 (And.intro h.1 (And.intro h.2.1 ?_)))
    refine (And.intro h.2.2.1 (And.intro h.2.2.2.1 ?_))
    show Y 61 [(0, 3, true, x0), (2, 0, true, x2), (3, 3, true, x3), (4, 0, true, x4)] [(3, true, m ((m ((x0).toNat) 1).toNat) (x4 - 1)), (0, true, x4), (3, true, m ((x0).toNat) 1)] (sM s m)
    refine hY _ _ _ _ ?_
    obtain ⟨t3, n3, h⟩ := h.2.2.2.2
    refine Exists.intro t3 (Exists.intro n3 (And.intro h.1 (And.intro h.2.1 ?_)))
    refine (And.intro h.2.2.1 (And.intro h.2.2.2.1 ?_))
    refine (And.intro h.2.2.2.2.1 ?_)
    refine hY _ _ _ _ (hY _ _ _ _ (?_ : Y 40 [(4, 0, false, x4 + (-1)), (0, 3, true, x0), (2, 0, true, x2), (3, 3, true, x3)] [] (sM s (hy_u m ((m ((x0).toNat) 1).toNat) x4 (m ((m ((x0).toNat) 1).toNat) (x4 - 1))))))
    refine l40 _ _ ?_
    refine And.intro h.2.2.2.2.2.1 ?_
    exact (Exists.intro (hy_u m ((m ((x0).toNat) 1).toNat) x4 (m ((m ((x0).toNat) 1).toNat) (x4 - 1))) (And.intro rfl (And.intro rfl (And.intro rfl (And.intro rfl h.2.2.2.2.2.2)))))
theorem wk_57_40 (Q : sQ) (R : Int → hy_m → Prop) (s : sS) (x0 : Int) (x2 : Int) (x3 : Int) (x4 : Int) (hQ : ∀ x m', R x m' → Q x (sM s m')) (hr : sRg [(0, 3, 0), (2, 0, 0), (3, 3, 0), (4, 0, 0)] [x0, x2, x3, x4]) (h : wq_57_40 x0 x2 x3 x4 s.1 s.2.2.2 R) : kX dC 2 im_m57 9 40 (sCan [(0, 3, 0), (2, 0, 0), (3, 3, 0), (4, 0, 0)] [x0, x2, x3, x4]) [] s Q :=
  h (fun x4 m => sRg [(0, 3, 0), (2, 0, 0), (3, 3, 0), (4, 0, 0)] [x0, x2, x3, x4] → kX dC 2 im_m57 9 40 (sCan [(0, 3, 0), (2, 0, 0), (3, 3, 0), (4, 0, 0)] [x0, x2, x3, x4]) [] (sM s m) Q) (fun x4 m h hr => wj_57_40 Q R s (fun x4 m => sRg [(0, 3, 0), (2, 0, 0), (3, 3, 0), (4, 0, 0)] [x0, x2, x3, x4] → kX dC 2 im_m57 9 40 (sCan [(0, 3, 0), (2, 0, 0), (3, 3, 0), (4, 0, 0)] [x0, x2, x3, x4]) [] (sM s m) Q) x0 x2 x3 x4 m  (fun _ _ hp hr => hp hr) hQ hr h) hr
def lb_57_9 (s : sS) (Q : sQ) (P9 : Int → hy_m → Prop) (R : Int → hy_m → Prop) (x0 : Int) (x1 : Int) (x2 : Int) (x3 : Int) (x4 : Int) : Nat → Option (sL → sS → Prop) := sLb [(40, fun lv t => sG [(0, 3, 0), (2, 0, 0), (3, 3, 0), (4, 0, 0)] lv (ap4 (fun w0 w2 w3 w4 => ∃ m', t = sM s m' ∧ wq_57_40 w0 w2 w3 w4 s.1 m' R))), (9, fun lv t => sG [(0, 3, 0), (1, 0, 0), (2, 0, 0), (3, 3, 0), (4, 0, 0)] lv (ap5 (fun w0 w1 w2 w3 w4 => ∃ m', t = sM s m' ∧ w0 = x0 ∧ w1 = x1 ∧ w2 = x2 ∧ w3 = x3 ∧ P9 w4 m')))]
set_option maxRecDepth 30000 in
set_option maxHeartbeats 1000000 in
theorem wj_57_9 (Q : sQ) (R : Int → hy_m → Prop) (s : sS) (P9 : Int → hy_m → Prop) (x0 : Int) (x1 : Int) (x2 : Int) (x3 : Int) (x4 : Int) (m : hy_m) (hP9 : ∀ (z4 : Int) (m : hy_m), P9 z4 m → sRg [(0, 3, 0), (1, 0, 0), (2, 0, 0), (3, 3, 0), (4, 0, 0)] [x0, x1, x2, x3, z4] → kX dC 2 im_m57 9 9 (sCan [(0, 3, 0), (1, 0, 0), (2, 0, 0), (3, 3, 0), (4, 0, 0)] [x0, x1, x2, x3, z4]) [] (sM s m) Q) (hQ : ∀ x m', R x m' → Q x (sM s m')) (hr : sRg [(0, 3, 0), (1, 0, 0), (2, 0, 0), (3, 3, 0), (4, 0, 0)] [x0, x1, x2, x3, x4]) (h : wf_57_9 x0 x1 x2 x3 s.1 R P9 x4 m) : kX dC 2 im_m57 9 9 (sCan [(0, 3, 0), (1, 0, 0), (2, 0, 0), (3, 3, 0), (4, 0, 0)] [x0, x1, x2, x3, x4]) [] (sM s m) Q := by
  unfold wf_57_9 at h
  refine wz2_ok (cs := cs_57) (wr := []) (lb := lb_57_9 s Q P9 R x0 x1 x2 x3 x4) cs_57_ok (kLb_c (kLab (Bd := fun xs t => ap4 (fun w0 w2 w3 w4 => ∃ m', t = sM s m' ∧ wq_57_40 w0 w2 w3 w4 s.1 m' R) xs) rfl (fun xs t r1 r2 hb => by obtain ⟨w0, w2, w3, w4, rfl, hb⟩ := ap4_ok hb; obtain ⟨m', rfl, hx⟩ := hb; exact wk_57_40 Q R (sM s m') _ _ _ _ (fun x m'' hy => hQ x m'' hy) r1 hx)) (kLb_c (kLab (Bd := fun xs t => ap5 (fun w0 w1 w2 w3 w4 => ∃ m', t = sM s m' ∧ w0 = x0 ∧ w1 = x1 ∧ w2 = x2 ∧ w3 = x3 ∧ P9 w4 m') xs) rfl (fun xs t r1 r2 hb => by obtain ⟨w0, w1, w2, w3, w4, rfl, hb⟩ := ap5_ok hb; obtain ⟨m', rfl, rfl, rfl, rfl, rfl, hx⟩ := hb; exact hP9 _ m' hx r1)) kLb_n)) (okL_can rfl hr) (fun Y hY hl => ?_)
  have l40 := hl 40 _ rfl
  have l9 := hl 9 _ rfl
  refine hY _ _ _ _ (hY _ _ _ _ (?_ : Y 12 [(0, 3, true, x0), (1, 0, true, x1), (2, 0, true, x2), (3, 3, true, x3), (4, 0, true, x4)] [(0, true, x2), (0, true, x4)] (sM s m)))
  refine hY _ _ _ _ ?_
  refine And.intro (fun hc => ?_) (fun hc => ?_)
  · have h := h.1 hc
    refine hY _ _ _ _ (hY _ _ _ _ (?_ : Y 40 [(4, 0, true, x1), (0, 3, true, x0), (1, 0, true, x1), (2, 0, true, x2), (3, 3, true, x3)] [] (sM s m)))
    refine l40 _ _ ?_
    exact (Exists.intro m (And.intro rfl h))
  · have h := h.2 hc
    refine hY _ _ _ _ (?_ : Y 16 [(0, 3, true, x0), (1, 0, true, x1), (2, 0, true, x2), (3, 3, true, x3), (4, 0, true, x4)] [(3, true, x0)] (sM s m))
    refine hY _ _ _ _ ?_
    refine (And.intro h.1 ?_)
    refine hY _ _ _ _ (hY _ _ _ _ (?_ : Y 22 [(0, 3, true, x0), (1, 0, true, x1), (2, 0, true, x2), (3, 3, true, x3), (4, 0, true, x4)] [(3, true, x0), (0, true, x4), (3, true, m ((x0).toNat) 1)] (sM s m)))
    refine hY _ _ _ _ ?_
    refine (And.intro h.2.1 ?_)
    refine hY _ _ _ _ (hY _ _ _ _ (hY _ _ _ _ (?_ : Y 29 [(0, 3, true, x0), (1, 0, true, x1), (2, 0, true, x2), (3, 3, true, x3), (4, 0, true, x4)] [(0, false, x4 + 1), (3, true, m ((x0).toNat) 1), (0, true, x4), (3, true, m ((x0).toNat) 1)] (sM s m))))
    refine hY _ _ _ _ ?_
    obtain ⟨t1, n1, h⟩ := h.2.2
    refine Exists.intro t1 (Exists.intro n1 (And.intro h.1 (And.intro h.2.1 ?_)))
    refine (And.intro h.2.2.1 (And.intro h.2.2.2.1 ?_))
    show Y 30 [(0, 3, true, x0), (1, 0, true, x1), (2, 0, true, x2), (3, 3, true, x3), (4, 0, true, x4)] [(3, true, m ((m ((x0).toNat) 1).toNat) (x4 + 1)), (0, true, x4), (3, true, m ((x0).toNat) 1)] (sM s m)
    refine hY _ _ _ _ ?_
    obtain ⟨t2, n2, h⟩ := h.2.2.2.2
    refine Exists.intro t2 (Exists.intro n2 (And.intro h.1 (And.intro h.2.1 ?_)))
    refine (And.intro h.2.2.1 (And.intro h.2.2.2.1 ?_))
    refine (And.intro h.2.2.2.2.1 ?_)
    refine hY _ _ _ _ (hY _ _ _ _ (?_ : Y 9 [(4, 0, false, x4 + 1), (0, 3, true, x0), (1, 0, true, x1), (2, 0, true, x2), (3, 3, true, x3)] [] (sM s (hy_u m ((m ((x0).toNat) 1).toNat) x4 (m ((m ((x0).toNat) 1).toNat) (x4 + 1))))))
    refine l9 _ _ ?_
    refine And.intro h.2.2.2.2.2.1 ?_
    exact (Exists.intro (hy_u m ((m ((x0).toNat) 1).toNat) x4 (m ((m ((x0).toNat) 1).toNat) (x4 + 1))) (And.intro rfl (And.intro rfl (And.intro rfl (And.intro rfl (And.intro rfl h.2.2.2.2.2.2))))))
theorem wk_57_9 (Q : sQ) (R : Int → hy_m → Prop) (s : sS) (x0 : Int) (x1 : Int) (x2 : Int) (x3 : Int) (x4 : Int) (hQ : ∀ x m', R x m' → Q x (sM s m')) (hr : sRg [(0, 3, 0), (1, 0, 0), (2, 0, 0), (3, 3, 0), (4, 0, 0)] [x0, x1, x2, x3, x4]) (h : wq_57_9 x0 x1 x2 x3 x4 s.1 s.2.2.2 R) : kX dC 2 im_m57 9 9 (sCan [(0, 3, 0), (1, 0, 0), (2, 0, 0), (3, 3, 0), (4, 0, 0)] [x0, x1, x2, x3, x4]) [] s Q :=
  h (fun x4 m => sRg [(0, 3, 0), (1, 0, 0), (2, 0, 0), (3, 3, 0), (4, 0, 0)] [x0, x1, x2, x3, x4] → kX dC 2 im_m57 9 9 (sCan [(0, 3, 0), (1, 0, 0), (2, 0, 0), (3, 3, 0), (4, 0, 0)] [x0, x1, x2, x3, x4]) [] (sM s m) Q) (fun x4 m h hr => wj_57_9 Q R s (fun x4 m => sRg [(0, 3, 0), (1, 0, 0), (2, 0, 0), (3, 3, 0), (4, 0, 0)] [x0, x1, x2, x3, x4] → kX dC 2 im_m57 9 9 (sCan [(0, 3, 0), (1, 0, 0), (2, 0, 0), (3, 3, 0), (4, 0, 0)] [x0, x1, x2, x3, x4]) [] (sM s m) Q) x0 x1 x2 x3 x4 m  (fun _ _ hp hr => hp hr) hQ hr h) hr
def lb_57_0 (s : sS) (Q : sQ) (R : Int → hy_m → Prop) (x0 : Int) (x1 : Int) (x2 : Int) : Nat → Option (sL → sS → Prop) := sLb [(9, fun lv t => sG [(0, 3, 0), (1, 0, 0), (2, 0, 0), (3, 3, 0), (4, 0, 0)] lv (ap5 (fun w0 w1 w2 w3 w4 => ∃ m', t = sM s m' ∧ wq_57_9 w0 w1 w2 w3 w4 s.1 m' R)))]
set_option maxRecDepth 30000 in
set_option maxHeartbeats 1000000 in
theorem wk_57_0 (Q : sQ) (R : Int → hy_m → Prop) (s : sS) (x0 : Int) (x1 : Int) (x2 : Int) (hQ : ∀ x m', R x m' → Q x (sM s m')) (hr : sRg [(0, 3, 0), (1, 0, 0), (2, 0, 0)] [x0, x1, x2]) (h : wq_57 x0 x1 x2 s.1 s.2.2.2 R) : kX dC 2 im_m57 9 0 (sCan [(0, 3, 0), (1, 0, 0), (2, 0, 0)] [x0, x1, x2]) [] s Q := by
  unfold wq_57 at h
  refine wz2_ok (cs := cs_57) (wr := []) (lb := lb_57_0 s Q R x0 x1 x2) cs_57_ok (kLb_c (kLab (Bd := fun xs t => ap5 (fun w0 w1 w2 w3 w4 => ∃ m', t = sM s m' ∧ wq_57_9 w0 w1 w2 w3 w4 s.1 m' R) xs) rfl (fun xs t r1 r2 hb => by obtain ⟨w0, w1, w2, w3, w4, rfl, hb⟩ := ap5_ok hb; obtain ⟨m', rfl, hx⟩ := hb; exact wk_57_9 Q R (sM s m') _ _ _ _ _ (fun x m'' hy => hQ x m'' hy) r1 hx)) kLb_n) (okL_can rfl hr) (fun Y hY hl => ?_)
  have l9 := hl 9 _ rfl
  refine hY _ _ _ _ (hY _ _ _ _ (?_ : Y 2 [(0, 3, true, x0), (1, 0, true, x1), (2, 0, true, x2)] [(0, true, x1), (3, true, x0)] s))
  refine hY _ _ _ _ ?_
  refine (And.intro h.1 ?_)
  refine Exists.intro _ (And.intro (wc_53_3t_0t x0 x1 _ _ h.2) (fun r1 m1 h => ?_))
  refine hY _ _ _ _ (hY _ _ _ _ (hY _ _ _ _ (?_ : Y 9 [(4, 0, true, x1), (3, 3, true, r1), (0, 3, true, x0), (1, 0, true, x1), (2, 0, true, x2)] [] (sM s m1))))
  refine l9 _ _ ?_
  exact (Exists.intro m1 (And.intro rfl h))
def we_57 : sFf := sEf 5 [(0, 3, 0), (1, 0, 0), (2, 0, 0)] (fun xs s Q => ap3 (fun x0 x1 x2 => wq_57 x0 x1 x2 s.1 s.2.2.2 Q) xs)
theorem we_57_ok : kS dC 3 57 9 (.inl we_57) := sEf_ok (mi := im_m57) rfl rfl rfl (fun R xs s r1 hb => by obtain ⟨x0, x1, x2, rfl, hb⟩ := ap3_ok hb; exact wk_57_0 _ R s x0 x1 x2 (fun x m' hx => ⟨m', rfl, hx⟩) r1 hb)
/-- LM$Program.removeAt(I)V -/
def wq_56 (x0 : Int) (x1 : Int) (T : hy_T) (m : hy_m) (Q : Int → hy_m → Prop) : Prop := T.1 (x0).toNat = some (5, 3) ∧ (T.1 (x0).toNat = some (5, 3) ∧ (hy_r 0 ((m ((x0).toNat) 2) - 1) ∧ (wq_57 x0 x1 ((m ((x0).toNat) 2) - 1) T m (fun _ m1 => T.1 (x0).toNat = some (5, 3) ∧ (T.1 (x0).toNat = some (5, 3) ∧ (hy_r 0 ((m1 ((x0).toNat) 2) - 1) ∧ (Q 0 (hy_u m1 ((x0).toNat) 2 ((m1 ((x0).toNat) 2) - 1)))))))))
theorem wc_57_3t_0t_0f (x0 : Int) (x1 : Int) (x2 : Int) (s : sS) (R : Int → hy_m → Prop) (h : hy_r 0 x2 ∧ wq_57 x0 x1 x2 s.1 s.2.2.2 R) : we_57 [(3, true, x0), (0, true, x1), (0, false, x2)] s R := h
def cs_56 : List (Nat × Nat × sFS) := [(57, 9, .inl we_57)]
theorem cs_56_ok : kCs dC 3 cs_56 := (kCs_c (Or.inr (Or.inr (Or.inr (Or.inr rfl)))) (we_57_ok.deep (by decide)) kCs_n)
def lb_56_0 (s : sS) (Q : sQ) (R : Int → hy_m → Prop) (x0 : Int) (x1 : Int) : Nat → Option (sL → sS → Prop) := sLb []
set_option maxRecDepth 30000 in
set_option maxHeartbeats 1000000 in
theorem wk_56_0 (Q : sQ) (R : Int → hy_m → Prop) (s : sS) (x0 : Int) (x1 : Int) (hQ : ∀ x m', R x m' → Q x (sM s m')) (hr : sRg [(0, 3, 0), (1, 0, 0)] [x0, x1]) (h : wq_56 x0 x1 s.1 s.2.2.2 R) : kX dC 3 im_m56 9 0 (sCan [(0, 3, 0), (1, 0, 0)] [x0, x1]) [] s Q := by
  unfold wq_56 at h
  refine wz2_ok (cs := cs_56) (wr := []) (lb := lb_56_0 s Q R x0 x1) cs_56_ok kLb_n (okL_can rfl hr) (fun Y hY hl => ?_)
  refine hY _ _ _ _ (hY _ _ _ _ (hY _ _ _ _ (?_ : Y 3 [(0, 3, true, x0), (1, 0, true, x1)] [(3, true, x0), (0, true, x1), (3, true, x0)] s)))
  refine hY _ _ _ _ ?_
  refine (And.intro h.1 ?_)
  refine hY _ _ _ _ (hY _ _ _ _ (?_ : Y 8 [(0, 3, true, x0), (1, 0, true, x1)] [(0, false, (s.2.2.2 ((x0).toNat) 2) - 1), (0, true, x1), (3, true, x0)] s))
  refine hY _ _ _ _ ?_
  refine (And.intro h.2.1 ?_)
  refine Exists.intro _ (And.intro (wc_57_3t_0t_0f x0 x1 ((s.2.2.2 ((x0).toNat) 2) - 1) _ _ h.2.2) (fun r1 m1 h => ?_))
  refine hY _ _ _ _ (hY _ _ _ _ (?_ : Y 13 [(0, 3, true, x0), (1, 0, true, x1)] [(3, true, x0), (3, true, x0)] (sM s m1)))
  refine hY _ _ _ _ ?_
  refine (And.intro h.1 ?_)
  refine hY _ _ _ _ (hY _ _ _ _ (?_ : Y 18 [(0, 3, true, x0), (1, 0, true, x1)] [(0, false, (m1 ((x0).toNat) 2) - 1), (3, true, x0)] (sM s m1)))
  refine hY _ _ _ _ ?_
  refine (And.intro h.2.1 ?_)
  refine And.intro h.2.2.1 ?_
  show Y 21 [(0, 3, true, x0), (1, 0, true, x1)] [] (sM s (hy_u m1 ((x0).toNat) 2 ((m1 ((x0).toNat) 2) - 1)))
  refine hY _ _ _ _ ?_
  exact hQ 0 (hy_u m1 ((x0).toNat) 2 ((m1 ((x0).toNat) 2) - 1)) h.2.2.2
def we_56 : sFf := sEf 2 [(0, 3, 0), (1, 0, 0)] (fun xs s Q => ap2 (fun x0 x1 => wq_56 x0 x1 s.1 s.2.2.2 Q) xs)
theorem we_56_ok : kS dC 4 56 9 (.inl we_56) := sEf_ok (mi := im_m56) rfl rfl rfl (fun R xs s r1 hb => by obtain ⟨x0, x1, rfl, hb⟩ := ap2_ok hb; exact wk_56_0 _ R s x0 x1 (fun x m' hx => ⟨m', rfl, hx⟩) r1 hb)
/-- LM.retract(I)I -/
def wq_5 (x1 : Int) (T : hy_T) (m : hy_m) (Q : Int → hy_m → Prop) : Prop := wq_52 21 x1 T m (fun r1 m1 => (r1 ≠ 0 → (wq_22 T m1 (fun _ m2 => wq_56 21 x1 T m2 (fun _ m3 => Q (m3 21 2) m3)))) ∧ (r1 = 0 → (Q (-1) m1)))
theorem wc_52_r21_0t (x1 : Int) (s : sS) (R : Int → hy_m → Prop) (h : wq_52 21 x1 s.1 s.2.2.2 R) : we_52 [(5, true, 21), (0, true, x1)] s R := h
theorem wc_56_r21_0t (x1 : Int) (s : sS) (R : Int → hy_m → Prop) (h : wq_56 21 x1 s.1 s.2.2.2 R) : we_56 [(5, true, 21), (0, true, x1)] s R := h
def cs_5 : List (Nat × Nat × sFS) := [(22, 9, .inl we_22), (52, 2, .inl we_52), (56, 9, .inl we_56)]
theorem cs_5_ok : kCs dC 6 cs_5 := (kCs_c (Or.inr (Or.inr (Or.inr (Or.inr rfl)))) (we_22_ok.deep (by decide)) (kCs_c (Or.inr (Or.inr (Or.inl rfl))) (we_52_ok.deep (by decide)) (kCs_c (Or.inr (Or.inr (Or.inr (Or.inr rfl)))) (we_56_ok.deep (by decide)) kCs_n)))
def lb_5_0 (s : sS) (Q : sQ) (R : Int → hy_m → Prop) (x1 : Int) : Nat → Option (sL → sS → Prop) := sLb []
set_option maxRecDepth 30000 in
set_option maxHeartbeats 1000000 in
theorem wk_5_0 (Q : sQ) (R : Int → hy_m → Prop) (s : sS) (x1 : Int) (hQ : ∀ x m', R x m' → Q x (sM s m')) (hr : sRg [(0, 5, 1), (1, 0, 0)] [x1]) (h : wq_5 x1 s.1 s.2.2.2 R) : kX dC 6 im_m5 0 0 (sCan [(0, 5, 1), (1, 0, 0)] [x1]) [] s Q := by
  unfold wq_5 at h
  refine wz2_ok (cs := cs_5) (wr := []) (lb := lb_5_0 s Q R x1) cs_5_ok kLb_n (okL_can rfl hr) (fun Y hY hl => ?_)
  refine hY _ _ _ _ (hY _ _ _ _ (hY _ _ _ _ (?_ : Y 5 [(0, 5, true, 1), (1, 0, true, x1)] [(0, true, x1), (5, true, 21)] s)))
  refine hY _ _ _ _ ?_
  refine Exists.intro _ (And.intro (wc_52_r21_0t x1 _ _ h) (fun r1 m1 h => ?_))
  show Y 8 [(0, 5, true, 1), (1, 0, true, x1)] [(2, true, r1)] (sM s m1)
  refine hY _ _ _ _ ?_
  refine And.intro (fun hc => ?_) (fun hc => ?_)
  · have h := h.1 hc
    refine hY _ _ _ _ (?_ : Y 14 [(0, 5, true, 1), (1, 0, true, x1)] [(5, true, 1)] (sM s m1))
    refine hY _ _ _ _ ?_
    refine Exists.intro _ (And.intro (wc_22_r1 _ _ h) (fun r2 m2 h => ?_))
    refine hY _ _ _ _ (hY _ _ _ _ (hY _ _ _ _ (?_ : Y 22 [(0, 5, true, 1), (1, 0, true, x1)] [(0, true, x1), (5, true, 21)] (sM s m2))))
    refine hY _ _ _ _ ?_
    refine Exists.intro _ (And.intro (wc_56_r21_0t x1 _ _ h) (fun r3 m3 h => ?_))
    refine hY _ _ _ _ (hY _ _ _ _ (hY _ _ _ _ (?_ : Y 32 [(0, 5, true, 1), (1, 0, true, x1)] [(0, true, m3 21 2)] (sM s m3))))
    refine hY _ _ _ _ ?_
    exact hQ (m3 21 2) m3 h
  · have h := h.2 hc
    refine hY _ _ _ _ (?_ : Y 12 [(0, 5, true, 1), (1, 0, true, x1)] [(0, true, (-1))] (sM s m1))
    refine hY _ _ _ _ ?_
    exact hQ (-1) m1 h
def we_5 : sFf := sEf 2 [(0, 5, 1), (1, 0, 0)] (fun xs s Q => ap1 (fun x1 => wq_5 x1 s.1 s.2.2.2 Q) xs)
theorem we_5_ok : kS dC 7 5 0 (.inl we_5) := sEf_ok (mi := im_m5) rfl rfl rfl (fun R xs s r1 hb => by obtain ⟨x1, rfl, hb⟩ := ap1_ok hb; exact wk_5_0 _ R s x1 (fun x m' hx => ⟨m', rfl, hx⟩) r1 hb)
/-- LM.move(II)I -/
def wq_6 (x1 : Int) (x2 : Int) (T : hy_T) (m : hy_m) (Q : Int → hy_m → Prop) : Prop := wq_52 21 x1 T m (fun r1 m1 => (r1 = 0 → (Q (-1) m1)) ∧ (r1 ≠ 0 → (wq_52 21 x2 T m1 (fun r2 m2 => (r2 ≠ 0 → (wq_22 T m2 (fun _ m3 => wq_57 21 x1 x2 T m3 (fun _ m4 => Q x2 m4)))) ∧ (r2 = 0 → (Q (-1) m2))))))
theorem wc_57_r21_0t_0t (x1 : Int) (x2 : Int) (s : sS) (R : Int → hy_m → Prop) (h : wq_57 21 x1 x2 s.1 s.2.2.2 R) : we_57 [(5, true, 21), (0, true, x1), (0, true, x2)] s R := h
def cs_6 : List (Nat × Nat × sFS) := [(22, 9, .inl we_22), (52, 2, .inl we_52), (57, 9, .inl we_57)]
theorem cs_6_ok : kCs dC 6 cs_6 := (kCs_c (Or.inr (Or.inr (Or.inr (Or.inr rfl)))) (we_22_ok.deep (by decide)) (kCs_c (Or.inr (Or.inr (Or.inl rfl))) (we_52_ok.deep (by decide)) (kCs_c (Or.inr (Or.inr (Or.inr (Or.inr rfl)))) (we_57_ok.deep (by decide)) kCs_n)))
def lb_6_0 (s : sS) (Q : sQ) (R : Int → hy_m → Prop) (x1 : Int) (x2 : Int) : Nat → Option (sL → sS → Prop) := sLb []
set_option maxRecDepth 30000 in
set_option maxHeartbeats 1000000 in
theorem wk_6_0 (Q : sQ) (R : Int → hy_m → Prop) (s : sS) (x1 : Int) (x2 : Int) (hQ : ∀ x m', R x m' → Q x (sM s m')) (hr : sRg [(0, 5, 1), (1, 0, 0), (2, 0, 0)] [x1, x2]) (h : wq_6 x1 x2 s.1 s.2.2.2 R) : kX dC 6 im_m6 0 0 (sCan [(0, 5, 1), (1, 0, 0), (2, 0, 0)] [x1, x2]) [] s Q := by
  unfold wq_6 at h
  refine wz2_ok (cs := cs_6) (wr := []) (lb := lb_6_0 s Q R x1 x2) cs_6_ok kLb_n (okL_can rfl hr) (fun Y hY hl => ?_)
  refine hY _ _ _ _ (hY _ _ _ _ (hY _ _ _ _ (?_ : Y 5 [(0, 5, true, 1), (1, 0, true, x1), (2, 0, true, x2)] [(0, true, x1), (5, true, 21)] s)))
  refine hY _ _ _ _ ?_
  refine Exists.intro _ (And.intro (wc_52_r21_0t x1 _ _ h) (fun r1 m1 h => ?_))
  show Y 8 [(0, 5, true, 1), (1, 0, true, x1), (2, 0, true, x2)] [(2, true, r1)] (sM s m1)
  refine hY _ _ _ _ ?_
  refine And.intro (fun hc => ?_) (fun hc => ?_)
  · have h := h.1 hc
    refine hY _ _ _ _ (?_ : Y 23 [(0, 5, true, 1), (1, 0, true, x1), (2, 0, true, x2)] [(0, true, (-1))] (sM s m1))
    refine hY _ _ _ _ ?_
    exact hQ (-1) m1 h
  · have h := h.2 hc
    refine hY _ _ _ _ (hY _ _ _ _ (hY _ _ _ _ (?_ : Y 16 [(0, 5, true, 1), (1, 0, true, x1), (2, 0, true, x2)] [(0, true, x2), (5, true, 21)] (sM s m1))))
    refine hY _ _ _ _ ?_
    refine Exists.intro _ (And.intro (wc_52_r21_0t x2 _ _ h) (fun r2 m2 h => ?_))
    show Y 19 [(0, 5, true, 1), (1, 0, true, x1), (2, 0, true, x2)] [(2, true, r2)] (sM s m2)
    refine hY _ _ _ _ ?_
    refine And.intro (fun hc => ?_) (fun hc => ?_)
    · have h := h.1 hc
      refine hY _ _ _ _ (?_ : Y 25 [(0, 5, true, 1), (1, 0, true, x1), (2, 0, true, x2)] [(5, true, 1)] (sM s m2))
      refine hY _ _ _ _ ?_
      refine Exists.intro _ (And.intro (wc_22_r1 _ _ h) (fun r3 m3 h => ?_))
      refine hY _ _ _ _ (hY _ _ _ _ (hY _ _ _ _ (?_ : Y 33 [(0, 5, true, 1), (1, 0, true, x1), (2, 0, true, x2)] [(0, true, x1), (5, true, 21)] (sM s m3))))
      refine hY _ _ _ _ (?_ : Y 34 [(0, 5, true, 1), (1, 0, true, x1), (2, 0, true, x2)] [(0, true, x2), (0, true, x1), (5, true, 21)] (sM s m3))
      refine hY _ _ _ _ ?_
      refine Exists.intro _ (And.intro (wc_57_r21_0t_0t x1 x2 _ _ h) (fun r4 m4 h => ?_))
      refine hY _ _ _ _ (?_ : Y 38 [(0, 5, true, 1), (1, 0, true, x1), (2, 0, true, x2)] [(0, true, x2)] (sM s m4))
      refine hY _ _ _ _ ?_
      exact hQ x2 m4 h
    · have h := h.2 hc
      refine hY _ _ _ _ (?_ : Y 23 [(0, 5, true, 1), (1, 0, true, x1), (2, 0, true, x2)] [(0, true, (-1))] (sM s m2))
      refine hY _ _ _ _ ?_
      exact hQ (-1) m2 h
def we_6 : sFf := sEf 3 [(0, 5, 1), (1, 0, 0), (2, 0, 0)] (fun xs s Q => ap2 (fun x1 x2 => wq_6 x1 x2 s.1 s.2.2.2 Q) xs)
theorem we_6_ok : kS dC 7 6 0 (.inl we_6) := sEf_ok (mi := im_m6) rfl rfl rfl (fun R xs s r1 hb => by obtain ⟨x1, x2, rfl, hb⟩ := ap2_ok hb; exact wk_6_0 _ R s x1 x2 (fun x m' hx => ⟨m', rfl, hx⟩) r1 hb)
/-- LM.undo()I -/
def wq_7 (T : hy_T) (m : hy_m) (Q : Int → hy_m → Prop) : Prop := ((m 1 4) ≤ 0 → (Q (-2) m)) ∧ (0 < (m 1 4) → (((m 1 4) ≤ 6 → (hy_r 0 ((m 1 4) - 1) ∧ (0 ≤ ((m 1 4) - 1) ∧ ((m 1 4) - 1) < 6 ∧ (wq_54 21 (m 23 ((m 1 4) - 1)) T (hy_u m 1 4 ((m 1 4) - 1)) (fun _ m1 => wq_87 T m1 (fun _ m2 => Q (m2 1 4) m2)))))) ∧ (6 < (m 1 4) → (Q (-2) m))))
theorem wc_54_r21_3t (x1 : Int) (s : sS) (R : Int → hy_m → Prop) (h : wq_54 21 x1 s.1 s.2.2.2 R) : we_54 [(5, true, 21), (3, true, x1)] s R := h
def cs_7 : List (Nat × Nat × sFS) := [(54, 9, .inl we_54), (87, 9, .inl we_87)]
theorem cs_7_ok : kCs dC 5 cs_7 := (kCs_c (Or.inr (Or.inr (Or.inr (Or.inr rfl)))) (we_54_ok.deep (by decide)) (kCs_c (Or.inr (Or.inr (Or.inr (Or.inr rfl)))) (we_87_ok.deep (by decide)) kCs_n))
def lb_7_0 (s : sS) (Q : sQ) (R : Int → hy_m → Prop) : Nat → Option (sL → sS → Prop) := sLb []
set_option maxRecDepth 30000 in
set_option maxHeartbeats 1000000 in
theorem wk_7_0 (Q : sQ) (R : Int → hy_m → Prop) (s : sS) (hQ : ∀ x m', R x m' → Q x (sM s m')) (hr : sRg [(0, 5, 1)] []) (h : wq_7 s.1 s.2.2.2 R) : kX dC 5 im_m7 0 0 (sCan [(0, 5, 1)] []) [] s Q := by
  unfold wq_7 at h
  refine wz2_ok (cs := cs_7) (wr := []) (lb := lb_7_0 s Q R) cs_7_ok kLb_n (okL_can rfl hr) (fun Y hY hl => ?_)
  refine hY _ _ _ _ (hY _ _ _ _ (?_ : Y 4 [(0, 5, true, 1)] [(0, true, s.2.2.2 1 4)] s))
  refine hY _ _ _ _ ?_
  refine And.intro (fun hc => ?_) (fun hc => ?_)
  · have h := h.1 hc
    refine hY _ _ _ _ (?_ : Y 21 [(0, 5, true, 1)] [(0, true, (-2))] s)
    refine hY _ _ _ _ ?_
    exact hQ (-2) s.2.2.2 h
  · have h := h.2 hc
    refine hY _ _ _ _ (hY _ _ _ _ (hY _ _ _ _ (?_ : Y 12 [(0, 5, true, 1)] [(5, true, 1), (0, true, s.2.2.2 1 4)] s)))
    refine hY _ _ _ _ (hY _ _ _ _ (?_ : Y 16 [(0, 5, true, 1)] [(0, true, 6), (0, true, s.2.2.2 1 4)] s))
    refine hY _ _ _ _ ?_
    refine And.intro (fun hc => ?_) (fun hc => ?_)
    · have h := h.1 hc
      refine hY _ _ _ _ (hY _ _ _ _ (hY _ _ _ _ (?_ : Y 27 [(0, 5, true, 1)] [(0, true, s.2.2.2 1 4), (5, true, 1)] s)))
      refine hY _ _ _ _ (hY _ _ _ _ (?_ : Y 29 [(0, 5, true, 1)] [(0, false, (s.2.2.2 1 4) - 1), (5, true, 1)] s))
      refine hY _ _ _ _ ?_
      refine And.intro h.1 ?_
      refine hY _ _ _ _ (hY _ _ _ _ (hY _ _ _ _ (?_ : Y 37 [(0, 5, true, 1)] [(5, true, 1), (5, true, 21)] (sM s (hy_u s.2.2.2 1 4 ((s.2.2.2 1 4) - 1))))))
      refine hY _ _ _ _ (hY _ _ _ _ (hY _ _ _ _ (?_ : Y 44 [(0, 5, true, 1)] [(0, true, (s.2.2.2 1 4) - 1), (5, true, 23), (5, true, 21)] (sM s (hy_u s.2.2.2 1 4 ((s.2.2.2 1 4) - 1))))))
      refine hY _ _ _ _ ?_
      refine (And.intro h.2.1 (And.intro h.2.2.1 ?_))
      show Y 45 [(0, 5, true, 1)] [(3, true, s.2.2.2 23 ((s.2.2.2 1 4) - 1)), (5, true, 21)] (sM s (hy_u s.2.2.2 1 4 ((s.2.2.2 1 4) - 1)))
      refine hY _ _ _ _ ?_
      refine Exists.intro _ (And.intro (wc_54_r21_3t (s.2.2.2 23 ((s.2.2.2 1 4) - 1)) _ _ h.2.2.2) (fun r1 m1 h => ?_))
      refine hY _ _ _ _ (hY _ _ _ _ (?_ : Y 52 [(0, 5, true, 1)] [(5, true, 36)] (sM s m1)))
      refine hY _ _ _ _ ?_
      refine Exists.intro _ (And.intro (wc_87_r36 _ _ h) (fun r2 m2 h => ?_))
      refine hY _ _ _ _ (hY _ _ _ _ (?_ : Y 59 [(0, 5, true, 1)] [(0, true, m2 1 4)] (sM s m2)))
      refine hY _ _ _ _ ?_
      exact hQ (m2 1 4) m2 h
    · have h := h.2 hc
      refine hY _ _ _ _ (?_ : Y 21 [(0, 5, true, 1)] [(0, true, (-2))] s)
      refine hY _ _ _ _ ?_
      exact hQ (-2) s.2.2.2 h
def we_7 : sFf := sEf 1 [(0, 5, 1)] (fun xs s Q => ap0 (wq_7 s.1 s.2.2.2 Q) xs)
theorem we_7_ok : kS dC 6 7 0 (.inl we_7) := sEf_ok (mi := im_m7) rfl rfl rfl (fun R xs s r1 hb => by obtain ⟨rfl, hb⟩ := ap0_ok hb; exact wk_7_0 _ R s (fun x m' hx => ⟨m', rfl, hx⟩) r1 hb)
/-- LM$Clause.predicate()J -/
def wq_45 (x0 : Int) (T : hy_T) (m : hy_m) (Q : Int → hy_m → Prop) : Prop := T.1 (x0).toNat = some (3, 9) ∧ (T.1 (x0).toNat = some (3, 9) ∧ (wq_41 x0 (m ((x0).toNat) 3) T m (fun r1 m1 => Q r1 m1)))
def cs_45 : List (Nat × Nat × sFS) := [(41, 1, .inl we_41)]
theorem cs_45_ok : kCs dC 1 cs_45 := (kCs_c (Or.inr (Or.inl rfl)) (we_41_ok.deep (by decide)) kCs_n)
def lb_45_0 (s : sS) (Q : sQ) (R : Int → hy_m → Prop) (x0 : Int) : Nat → Option (sL → sS → Prop) := sLb []
set_option maxRecDepth 30000 in
set_option maxHeartbeats 1000000 in
theorem wk_45_0 (Q : sQ) (R : Int → hy_m → Prop) (s : sS) (x0 : Int) (hQ : ∀ x m', R x m' → Q x (sM s m')) (hr : sRg [(0, 3, 0)] [x0]) (h : wq_45 x0 s.1 s.2.2.2 R) : kX dC 1 im_m45 1 0 (sCan [(0, 3, 0)] [x0]) [] s Q := by
  unfold wq_45 at h
  refine wz2_ok (cs := cs_45) (wr := []) (lb := lb_45_0 s Q R x0) cs_45_ok kLb_n (okL_can rfl hr) (fun Y hY hl => ?_)
  refine hY _ _ _ _ (hY _ _ _ _ (?_ : Y 2 [(0, 3, true, x0)] [(3, true, x0), (3, true, x0)] s))
  refine hY _ _ _ _ ?_
  refine (And.intro h.1 ?_)
  show Y 5 [(0, 3, true, x0)] [(0, true, s.2.2.2 ((x0).toNat) 3), (3, true, x0)] s
  refine hY _ _ _ _ ?_
  refine (And.intro h.2.1 ?_)
  refine Exists.intro _ (And.intro (wc_41_3t_0t x0 (s.2.2.2 ((x0).toNat) 3) _ _ h.2.2) (fun r1 m1 h => ?_))
  show Y 8 [(0, 3, true, x0)] [(1, true, r1)] (sM s m1)
  refine hY _ _ _ _ ?_
  exact hQ r1 m1 h
def we_45 : sFf := sEf 1 [(0, 3, 0)] (fun xs s Q => ap1 (fun x0 => wq_45 x0 s.1 s.2.2.2 Q) xs)
theorem we_45_ok : kS dC 2 45 1 (.inl we_45) := sEf_ok (mi := im_m45) rfl rfl rfl (fun R xs s r1 hb => by obtain ⟨x0, rfl, hb⟩ := ap1_ok hb; exact wk_45_0 _ R s x0 (fun x m' hx => ⟨m', rfl, hx⟩) r1 hb)
/-- LM$Program.clausesOf(J)I -/
def wf_59_5 (x0 : Int) (x1 : Int) (T : hy_T) (Q : Int → hy_m → Prop) (P5 : Int → Int → hy_m → Prop) (x3 : Int) (x4 : Int) (m : hy_m) : Prop := T.1 (x0).toNat = some (5, 3) ∧ (((m ((x0).toNat) 2) ≤ x4 → (Q x3 m)) ∧ (x4 < (m ((x0).toNat) 2) → (T.1 (x0).toNat = some (5, 3) ∧ (∃ t1 n1 : Nat, T.1 (m ((x0).toNat) 1).toNat = some (t1, n1) ∧ 110 ≤ t1 ∧ (0 ≤ x4 ∧ x4 < (n1 : Int) ∧ (T.1 (m ((m ((x0).toNat) 1).toNat) x4).toNat = some (3, 9) ∧ (wq_45 (m ((m ((x0).toNat) 1).toNat) x4) T m (fun r2 m2 => (r2 ≠ x1 → (hy_r 0 (x4 + 1) ∧ (P5 x3 (x4 + 1) m2))) ∧ (r2 = x1 → (hy_r 0 (x4 + 1) ∧ (P5 (iO x3 (iSl 1 x4)) (x4 + 1) m2)))))))))))
def wq_59_5 (x0 : Int) (x1 : Int) (x3 : Int) (x4 : Int) (T : hy_T) (m : hy_m) (Q : Int → hy_m → Prop) : Prop := wL2 hy_m (wf_59_5 x0 x1 T Q) x3 x4 m
def wq_59 (x0 : Int) (x1 : Int) (T : hy_T) (m : hy_m) (Q : Int → hy_m → Prop) : Prop := wq_59_5 x0 x1 0 0 T m Q
theorem wc_45_3t (x0 : Int) (s : sS) (R : Int → hy_m → Prop) (h : wq_45 x0 s.1 s.2.2.2 R) : we_45 [(3, true, x0)] s R := h
def cs_59 : List (Nat × Nat × sFS) := [(45, 1, .inl we_45)]
theorem cs_59_ok : kCs dC 2 cs_59 := (kCs_c (Or.inr (Or.inl rfl)) (we_45_ok.deep (by decide)) kCs_n)
def lb_59_5 (s : sS) (Q : sQ) (P5 : Int → Int → hy_m → Prop) (R : Int → hy_m → Prop) (x0 : Int) (x1 : Int) (x3 : Int) (x4 : Int) : Nat → Option (sL → sS → Prop) := sLb [(5, fun lv t => sG [(0, 3, 0), (1, 1, 0), (3, 0, 0), (4, 0, 0)] lv (ap4 (fun w0 w1 w3 w4 => ∃ m', t = sM s m' ∧ w0 = x0 ∧ w1 = x1 ∧ P5 w3 w4 m')))]
set_option maxRecDepth 30000 in
set_option maxHeartbeats 1000000 in
theorem wj_59_5 (Q : sQ) (R : Int → hy_m → Prop) (s : sS) (P5 : Int → Int → hy_m → Prop) (x0 : Int) (x1 : Int) (x3 : Int) (x4 : Int) (m : hy_m) (hP5 : ∀ (z3 z4 : Int) (m : hy_m), P5 z3 z4 m → sRg [(0, 3, 0), (1, 1, 0), (3, 0, 0), (4, 0, 0)] [x0, x1, z3, z4] → kX dC 2 im_m59 0 5 (sCan [(0, 3, 0), (1, 1, 0), (3, 0, 0), (4, 0, 0)] [x0, x1, z3, z4]) [] (sM s m) Q) (hQ : ∀ x m', R x m' → Q x (sM s m')) (hr : sRg [(0, 3, 0), (1, 1, 0), (3, 0, 0), (4, 0, 0)] [x0, x1, x3, x4]) (h : wf_59_5 x0 x1 s.1 R P5 x3 x4 m) : kX dC 2 im_m59 0 5 (sCan [(0, 3, 0), (1, 1, 0), (3, 0, 0), (4, 0, 0)] [x0, x1, x3, x4]) [] (sM s m) Q := by
  unfold wf_59_5 at h
  refine wz2_ok (cs := cs_59) (wr := []) (lb := lb_59_5 s Q P5 R x0 x1 x3 x4) cs_59_ok (kLb_c (kLab (Bd := fun xs t => ap4 (fun w0 w1 w3 w4 => ∃ m', t = sM s m' ∧ w0 = x0 ∧ w1 = x1 ∧ P5 w3 w4 m') xs) rfl (fun xs t r1 r2 hb => by obtain ⟨w0, w1, w3, w4, rfl, hb⟩ := ap4_ok hb; obtain ⟨m', rfl, rfl, rfl, hx⟩ := hb; exact hP5 _ _ m' hx r1)) kLb_n) (okL_can rfl hr) (fun Y hY hl => ?_)
  have l5 := hl 5 _ rfl
  refine hY _ _ _ _ (hY _ _ _ _ (?_ : Y 8 [(0, 3, true, x0), (1, 1, true, x1), (3, 0, true, x3), (4, 0, true, x4)] [(3, true, x0), (0, true, x4)] (sM s m)))
  refine hY _ _ _ _ ?_
  refine (And.intro h.1 ?_)
  show Y 11 [(0, 3, true, x0), (1, 1, true, x1), (3, 0, true, x3), (4, 0, true, x4)] [(0, true, m ((x0).toNat) 2), (0, true, x4)] (sM s m)
  refine hY _ _ _ _ ?_
  refine And.intro (fun hc => ?_) (fun hc => ?_)
  · have h := h.2.1 hc
    refine hY _ _ _ _ (?_ : Y 43 [(0, 3, true, x0), (1, 1, true, x1), (3, 0, true, x3), (4, 0, true, x4)] [(0, true, x3)] (sM s m))
    refine hY _ _ _ _ ?_
    exact hQ x3 m h
  · have h := h.2.2 hc
    refine hY _ _ _ _ (?_ : Y 15 [(0, 3, true, x0), (1, 1, true, x1), (3, 0, true, x3), (4, 0, true, x4)] [(3, true, x0)] (sM s m))
    refine hY _ _ _ _ ?_
    refine (And.intro h.1 ?_)
    refine hY _ _ _ _ (?_ : Y 20 [(0, 3, true, x0), (1, 1, true, x1), (3, 0, true, x3), (4, 0, true, x4)] [(0, true, x4), (3, true, m ((x0).toNat) 1)] (sM s m))
    refine hY _ _ _ _ ?_
    obtain ⟨t1, n1, h⟩ := h.2
    refine Exists.intro t1 (Exists.intro n1 (And.intro h.1 (And.intro h.2.1 ?_)))
    refine (And.intro h.2.2.1 (And.intro h.2.2.2.1 ?_))
    show Y 21 [(0, 3, true, x0), (1, 1, true, x1), (3, 0, true, x3), (4, 0, true, x4)] [(3, true, m ((m ((x0).toNat) 1).toNat) x4)] (sM s m)
    refine hY _ _ _ _ ?_
    refine (And.intro h.2.2.2.2.1 ?_)
    refine Exists.intro _ (And.intro (wc_45_3t (m ((m ((x0).toNat) 1).toNat) x4) _ _ h.2.2.2.2.2) (fun r2 m2 h => ?_))
    refine hY _ _ _ _ (?_ : Y 25 [(0, 3, true, x0), (1, 1, true, x1), (3, 0, true, x3), (4, 0, true, x4)] [(1, true, x1), (1, true, r2)] (sM s m2))
    refine hY _ _ _ _ ?_
    refine And.intro (fun hc => ?_) (fun hc => ?_)
    · have h := h.1 hc
      refine hY _ _ _ _ (hY _ _ _ _ (?_ : Y 5 [(4, 0, false, x4 + 1), (0, 3, true, x0), (1, 1, true, x1), (3, 0, true, x3)] [] (sM s m2)))
      refine l5 _ _ ?_
      refine And.intro h.1 ?_
      exact (Exists.intro m2 (And.intro rfl (And.intro rfl (And.intro rfl h.2))))
    · have h := h.2 hc
      refine hY _ _ _ _ (hY _ _ _ _ (hY _ _ _ _ (?_ : Y 33 [(0, 3, true, x0), (1, 1, true, x1), (3, 0, true, x3), (4, 0, true, x4)] [(0, true, x4), (2, true, 1), (0, true, x3)] (sM s m2))))
      refine hY _ _ _ _ (?_ : Y 34 [(0, 3, true, x0), (1, 1, true, x1), (3, 0, true, x3), (4, 0, true, x4)] [(0, true, iSl 1 x4), (0, true, x3)] (sM s m2))
      refine hY _ _ _ _ (?_ : Y 35 [(0, 3, true, x0), (1, 1, true, x1), (3, 0, true, x3), (4, 0, true, x4)] [(0, true, iO x3 (iSl 1 x4))] (sM s m2))
      refine hY _ _ _ _ (hY _ _ _ _ (hY _ _ _ _ (?_ : Y 5 [(4, 0, false, x4 + 1), (3, 0, true, iO x3 (iSl 1 x4)), (0, 3, true, x0), (1, 1, true, x1)] [] (sM s m2))))
      refine l5 _ _ ?_
      refine And.intro h.1 ?_
      exact (Exists.intro m2 (And.intro rfl (And.intro rfl (And.intro rfl h.2))))
theorem wk_59_5 (Q : sQ) (R : Int → hy_m → Prop) (s : sS) (x0 : Int) (x1 : Int) (x3 : Int) (x4 : Int) (hQ : ∀ x m', R x m' → Q x (sM s m')) (hr : sRg [(0, 3, 0), (1, 1, 0), (3, 0, 0), (4, 0, 0)] [x0, x1, x3, x4]) (h : wq_59_5 x0 x1 x3 x4 s.1 s.2.2.2 R) : kX dC 2 im_m59 0 5 (sCan [(0, 3, 0), (1, 1, 0), (3, 0, 0), (4, 0, 0)] [x0, x1, x3, x4]) [] s Q :=
  h (fun x3 x4 m => sRg [(0, 3, 0), (1, 1, 0), (3, 0, 0), (4, 0, 0)] [x0, x1, x3, x4] → kX dC 2 im_m59 0 5 (sCan [(0, 3, 0), (1, 1, 0), (3, 0, 0), (4, 0, 0)] [x0, x1, x3, x4]) [] (sM s m) Q) (fun x3 x4 m h hr => wj_59_5 Q R s (fun x3 x4 m => sRg [(0, 3, 0), (1, 1, 0), (3, 0, 0), (4, 0, 0)] [x0, x1, x3, x4] → kX dC 2 im_m59 0 5 (sCan [(0, 3, 0), (1, 1, 0), (3, 0, 0), (4, 0, 0)] [x0, x1, x3, x4]) [] (sM s m) Q) x0 x1 x3 x4 m  (fun _ _ _ hp hr => hp hr) hQ hr h) hr
def lb_59_0 (s : sS) (Q : sQ) (R : Int → hy_m → Prop) (x0 : Int) (x1 : Int) : Nat → Option (sL → sS → Prop) := sLb [(5, fun lv t => sG [(0, 3, 0), (1, 1, 0), (3, 0, 0), (4, 0, 0)] lv (ap4 (fun w0 w1 w3 w4 => ∃ m', t = sM s m' ∧ wq_59_5 w0 w1 w3 w4 s.1 m' R)))]
set_option maxRecDepth 30000 in
set_option maxHeartbeats 1000000 in
theorem wk_59_0 (Q : sQ) (R : Int → hy_m → Prop) (s : sS) (x0 : Int) (x1 : Int) (hQ : ∀ x m', R x m' → Q x (sM s m')) (hr : sRg [(0, 3, 0), (1, 1, 0)] [x0, x1]) (h : wq_59 x0 x1 s.1 s.2.2.2 R) : kX dC 2 im_m59 0 0 (sCan [(0, 3, 0), (1, 1, 0)] [x0, x1]) [] s Q := by
  unfold wq_59 at h
  refine wz2_ok (cs := cs_59) (wr := []) (lb := lb_59_0 s Q R x0 x1) cs_59_ok (kLb_c (kLab (Bd := fun xs t => ap4 (fun w0 w1 w3 w4 => ∃ m', t = sM s m' ∧ wq_59_5 w0 w1 w3 w4 s.1 m' R) xs) rfl (fun xs t r1 r2 hb => by obtain ⟨w0, w1, w3, w4, rfl, hb⟩ := ap4_ok hb; obtain ⟨m', rfl, hx⟩ := hb; exact wk_59_5 Q R (sM s m') _ _ _ _ (fun x m'' hy => hQ x m'' hy) r1 hx)) kLb_n) (okL_can rfl hr) (fun Y hY hl => ?_)
  have l5 := hl 5 _ rfl
  refine hY _ _ _ _ (hY _ _ _ _ (hY _ _ _ _ (?_ : Y 3 [(3, 2, true, 0), (0, 3, true, x0), (1, 1, true, x1)] [(2, true, 0)] s)))
  refine hY _ _ _ _ (?_ : Y 5 [(4, 2, true, 0), (3, 2, true, 0), (0, 3, true, x0), (1, 1, true, x1)] [] s)
  refine l5 _ _ ?_
  exact (Exists.intro s.2.2.2 (And.intro rfl h))
def we_59 : sFf := sEf 5 [(0, 3, 0), (1, 1, 0)] (fun xs s Q => ap2 (fun x0 x1 => wq_59 x0 x1 s.1 s.2.2.2 Q) xs)
theorem we_59_ok : kS dC 3 59 0 (.inl we_59) := sEf_ok (mi := im_m59) rfl rfl rfl (fun R xs s r1 hb => by obtain ⟨x0, x1, rfl, hb⟩ := ap2_ok hb; exact wk_59_0 _ R s x0 x1 (fun x m' hx => ⟨m', rfl, hx⟩) r1 hb)
/-- LM.lowestOf(I)I -/
def wq_27 (x0 : Int) (m : hy_m) (Q : Int → hy_m → Prop) : Prop := hy_r 0 ((iA x0 (-x0)) - 1) ∧ (wq_307 ((iA x0 (-x0)) - 1) m (fun r1 m1 => Q r1 m1))
theorem wc_307_0f (x0 : Int) (s : sS) (R : Int → hy_m → Prop) (h : hy_r 0 x0 ∧ wq_307 x0 s.2.2.2 R) : we_307 [(0, false, x0)] s R := h
def cs_27 : List (Nat × Nat × sFS) := [(307, 0, .inl we_307)]
theorem cs_27_ok : kCs dC 1 cs_27 := (kCs_c (Or.inl rfl) (we_307_ok.deep (by decide)) kCs_n)
def lb_27_0 (s : sS) (Q : sQ) (R : Int → hy_m → Prop) (x0 : Int) : Nat → Option (sL → sS → Prop) := sLb []
set_option maxRecDepth 30000 in
set_option maxHeartbeats 1000000 in
theorem wk_27_0 (Q : sQ) (R : Int → hy_m → Prop) (s : sS) (x0 : Int) (hQ : ∀ x m', R x m' → Q x (sM s m')) (hr : sRg [(0, 0, 0)] [x0]) (h : wq_27 x0 s.2.2.2 R) : kX dC 1 im_m27 0 0 (sCan [(0, 0, 0)] [x0]) [] s Q := by
  unfold wq_27 at h
  refine wz2_ok (cs := cs_27) (wr := []) (lb := lb_27_0 s Q R x0) cs_27_ok kLb_n (okL_can rfl hr) (fun Y hY hl => ?_)
  refine hY _ _ _ _ (hY _ _ _ _ (hY _ _ _ _ (?_ : Y 3 [(0, 0, true, x0)] [(0, false, -x0), (0, true, x0)] s)))
  refine hY _ _ _ _ (?_ : Y 4 [(0, 0, true, x0)] [(0, true, iA x0 (-x0))] s)
  refine hY _ _ _ _ (hY _ _ _ _ (?_ : Y 6 [(0, 0, true, x0)] [(0, false, (iA x0 (-x0)) - 1)] s))
  refine hY _ _ _ _ ?_
  refine Exists.intro _ (And.intro (wc_307_0f ((iA x0 (-x0)) - 1) _ _ h) (fun r1 m1 h => ?_))
  show Y 9 [(0, 0, true, x0)] [(0, true, r1)] (sM s m1)
  refine hY _ _ _ _ ?_
  exact hQ r1 m1 h
def we_27 : sFf := sEf 1 [(0, 0, 0)] (fun xs s Q => ap1 (fun x0 => wq_27 x0 s.2.2.2 Q) xs)
theorem we_27_ok : kS dC 2 27 0 (.inl we_27) := sEf_ok (mi := im_m27) rfl rfl rfl (fun R xs s r1 hb => by obtain ⟨x0, rfl, hb⟩ := ap1_ok hb; exact wk_27_0 _ R s x0 (fun x m' hx => ⟨m', rfl, hx⟩) r1 hb)
/-- LM$Program.firstOf(J)I -/
def wq_58 (x0 : Int) (x1 : Int) (T : hy_T) (m : hy_m) (Q : Int → hy_m → Prop) : Prop := T.1 (x0).toNat = some (5, 3) ∧ (wq_59 x0 x1 T m (fun r1 m1 => (r1 ≠ 0 → (wq_27 r1 m1 (fun r2 m2 => Q r2 m2))) ∧ (r1 = 0 → (Q (-9) m1))))
theorem wc_59_3t_1t (x0 : Int) (x1 : Int) (s : sS) (R : Int → hy_m → Prop) (h : wq_59 x0 x1 s.1 s.2.2.2 R) : we_59 [(3, true, x0), (1, true, x1)] s R := h
theorem wc_27_0t (x0 : Int) (s : sS) (R : Int → hy_m → Prop) (h : wq_27 x0 s.2.2.2 R) : we_27 [(0, true, x0)] s R := h
def cs_58 : List (Nat × Nat × sFS) := [(27, 0, .inl we_27), (59, 0, .inl we_59)]
theorem cs_58_ok : kCs dC 3 cs_58 := (kCs_c (Or.inl rfl) (we_27_ok.deep (by decide)) (kCs_c (Or.inl rfl) (we_59_ok.deep (by decide)) kCs_n))
def lb_58_0 (s : sS) (Q : sQ) (R : Int → hy_m → Prop) (x0 : Int) (x1 : Int) : Nat → Option (sL → sS → Prop) := sLb []
set_option maxRecDepth 30000 in
set_option maxHeartbeats 1000000 in
theorem wk_58_0 (Q : sQ) (R : Int → hy_m → Prop) (s : sS) (x0 : Int) (x1 : Int) (hQ : ∀ x m', R x m' → Q x (sM s m')) (hr : sRg [(0, 3, 0), (1, 1, 0)] [x0, x1]) (h : wq_58 x0 x1 s.1 s.2.2.2 R) : kX dC 3 im_m58 0 0 (sCan [(0, 3, 0), (1, 1, 0)] [x0, x1]) [] s Q := by
  unfold wq_58 at h
  refine wz2_ok (cs := cs_58) (wr := []) (lb := lb_58_0 s Q R x0 x1) cs_58_ok kLb_n (okL_can rfl hr) (fun Y hY hl => ?_)
  refine hY _ _ _ _ (hY _ _ _ _ (?_ : Y 2 [(0, 3, true, x0), (1, 1, true, x1)] [(1, true, x1), (3, true, x0)] s))
  refine hY _ _ _ _ ?_
  refine (And.intro h.1 ?_)
  refine Exists.intro _ (And.intro (wc_59_3t_1t x0 x1 _ _ h.2) (fun r1 m1 h => ?_))
  refine hY _ _ _ _ (hY _ _ _ _ (?_ : Y 7 [(3, 0, true, r1), (0, 3, true, x0), (1, 1, true, x1)] [(0, true, r1)] (sM s m1)))
  refine hY _ _ _ _ ?_
  refine And.intro (fun hc => ?_) (fun hc => ?_)
  · have h := h.1 hc
    refine hY _ _ _ _ (?_ : Y 16 [(3, 0, true, r1), (0, 3, true, x0), (1, 1, true, x1)] [(0, true, r1)] (sM s m1))
    refine hY _ _ _ _ ?_
    refine Exists.intro _ (And.intro (wc_27_0t r1 _ _ h) (fun r2 m2 h => ?_))
    show Y 19 [(3, 0, true, r1), (0, 3, true, x0), (1, 1, true, x1)] [(0, true, r2)] (sM s m2)
    refine hY _ _ _ _ ?_
    exact hQ r2 m2 h
  · have h := h.2 hc
    refine hY _ _ _ _ (hY _ _ _ _ (?_ : Y 19 [(3, 0, true, r1), (0, 3, true, x0), (1, 1, true, x1)] [(0, true, (-9))] (sM s m1)))
    refine hY _ _ _ _ ?_
    exact hQ (-9) m1 h
def we_58 : sFf := sEf 4 [(0, 3, 0), (1, 1, 0)] (fun xs s Q => ap2 (fun x0 x1 => wq_58 x0 x1 s.1 s.2.2.2 Q) xs)
theorem we_58_ok : kS dC 4 58 0 (.inl we_58) := sEf_ok (mi := im_m58) rfl rfl rfl (fun R xs s r1 hb => by obtain ⟨x0, x1, rfl, hb⟩ := ap2_ok hb; exact wk_58_0 _ R s x0 x1 (fun x m' hx => ⟨m', rfl, hx⟩) r1 hb)
/-- LM$Program.countPredicates()I -/
def wf_61_4 (x0 : Int) (T : hy_T) (Q : Int → hy_m → Prop) (P4 : Int → Int → hy_m → Prop) (x1 : Int) (x2 : Int) (m : hy_m) : Prop := T.1 (x0).toNat = some (5, 3) ∧ (((m ((x0).toNat) 2) ≤ x2 → (Q x1 m)) ∧ (x2 < (m ((x0).toNat) 2) → (T.1 (x0).toNat = some (5, 3) ∧ (∃ t1 n1 : Nat, T.1 (m ((x0).toNat) 1).toNat = some (t1, n1) ∧ 110 ≤ t1 ∧ (0 ≤ x2 ∧ x2 < (n1 : Int) ∧ (T.1 (m ((m ((x0).toNat) 1).toNat) x2).toNat = some (3, 9) ∧ (wq_45 (m ((m ((x0).toNat) 1).toNat) x2) T m (fun r2 m2 => T.1 (x0).toNat = some (5, 3) ∧ (wq_58 x0 r2 T m2 (fun r3 m3 => (r3 ≠ x2 → (hy_r 0 (x1 + 0) ∧ (hy_r 0 (x2 + 1) ∧ (P4 (x1 + 0) (x2 + 1) m3)))) ∧ (r3 = x2 → (hy_r 0 (x1 + 1) ∧ (hy_r 0 (x2 + 1) ∧ (P4 (x1 + 1) (x2 + 1) m3))))))))))))))
def wq_61_4 (x0 : Int) (x1 : Int) (x2 : Int) (T : hy_T) (m : hy_m) (Q : Int → hy_m → Prop) : Prop := wL2 hy_m (wf_61_4 x0 T Q) x1 x2 m
def wq_61 (x0 : Int) (T : hy_T) (m : hy_m) (Q : Int → hy_m → Prop) : Prop := wq_61_4 x0 0 0 T m Q
theorem wc_58_3t_1t (x0 : Int) (x1 : Int) (s : sS) (R : Int → hy_m → Prop) (h : wq_58 x0 x1 s.1 s.2.2.2 R) : we_58 [(3, true, x0), (1, true, x1)] s R := h
def cs_61 : List (Nat × Nat × sFS) := [(45, 1, .inl we_45), (58, 0, .inl we_58)]
theorem cs_61_ok : kCs dC 4 cs_61 := (kCs_c (Or.inr (Or.inl rfl)) (we_45_ok.deep (by decide)) (kCs_c (Or.inl rfl) (we_58_ok.deep (by decide)) kCs_n))
def lb_61_4 (s : sS) (Q : sQ) (P4 : Int → Int → hy_m → Prop) (R : Int → hy_m → Prop) (x0 : Int) (x1 : Int) (x2 : Int) : Nat → Option (sL → sS → Prop) := sLb [(4, fun lv t => sG [(0, 3, 0), (1, 0, 0), (2, 0, 0)] lv (ap3 (fun w0 w1 w2 => ∃ m', t = sM s m' ∧ w0 = x0 ∧ P4 w1 w2 m')))]
set_option maxRecDepth 30000 in
set_option maxHeartbeats 1000000 in
theorem wj_61_4 (Q : sQ) (R : Int → hy_m → Prop) (s : sS) (P4 : Int → Int → hy_m → Prop) (x0 : Int) (x1 : Int) (x2 : Int) (m : hy_m) (hP4 : ∀ (z1 z2 : Int) (m : hy_m), P4 z1 z2 m → sRg [(0, 3, 0), (1, 0, 0), (2, 0, 0)] [x0, z1, z2] → kX dC 4 im_m61 0 4 (sCan [(0, 3, 0), (1, 0, 0), (2, 0, 0)] [x0, z1, z2]) [] (sM s m) Q) (hQ : ∀ x m', R x m' → Q x (sM s m')) (hr : sRg [(0, 3, 0), (1, 0, 0), (2, 0, 0)] [x0, x1, x2]) (h : wf_61_4 x0 s.1 R P4 x1 x2 m) : kX dC 4 im_m61 0 4 (sCan [(0, 3, 0), (1, 0, 0), (2, 0, 0)] [x0, x1, x2]) [] (sM s m) Q := by
  unfold wf_61_4 at h
  refine wz2_ok (cs := cs_61) (wr := []) (lb := lb_61_4 s Q P4 R x0 x1 x2) cs_61_ok (kLb_c (kLab (Bd := fun xs t => ap3 (fun w0 w1 w2 => ∃ m', t = sM s m' ∧ w0 = x0 ∧ P4 w1 w2 m') xs) rfl (fun xs t r1 r2 hb => by obtain ⟨w0, w1, w2, rfl, hb⟩ := ap3_ok hb; obtain ⟨m', rfl, rfl, hx⟩ := hb; exact hP4 _ _ m' hx r1)) kLb_n) (okL_can rfl hr) (fun Y hY hl => ?_)
  have l4 := hl 4 _ rfl
  refine hY _ _ _ _ (hY _ _ _ _ (?_ : Y 6 [(0, 3, true, x0), (1, 0, true, x1), (2, 0, true, x2)] [(3, true, x0), (0, true, x2)] (sM s m)))
  refine hY _ _ _ _ ?_
  refine (And.intro h.1 ?_)
  show Y 9 [(0, 3, true, x0), (1, 0, true, x1), (2, 0, true, x2)] [(0, true, m ((x0).toNat) 2), (0, true, x2)] (sM s m)
  refine hY _ _ _ _ ?_
  refine And.intro (fun hc => ?_) (fun hc => ?_)
  · have h := h.2.1 hc
    refine hY _ _ _ _ (?_ : Y 44 [(0, 3, true, x0), (1, 0, true, x1), (2, 0, true, x2)] [(0, true, x1)] (sM s m))
    refine hY _ _ _ _ ?_
    exact hQ x1 m h
  · have h := h.2.2 hc
    refine hY _ _ _ _ (hY _ _ _ _ (hY _ _ _ _ (?_ : Y 15 [(0, 3, true, x0), (1, 0, true, x1), (2, 0, true, x2)] [(3, true, x0), (3, true, x0), (0, true, x1)] (sM s m))))
    refine hY _ _ _ _ ?_
    refine (And.intro h.1 ?_)
    refine hY _ _ _ _ (?_ : Y 19 [(0, 3, true, x0), (1, 0, true, x1), (2, 0, true, x2)] [(0, true, x2), (3, true, m ((x0).toNat) 1), (3, true, x0), (0, true, x1)] (sM s m))
    refine hY _ _ _ _ ?_
    obtain ⟨t1, n1, h⟩ := h.2
    refine Exists.intro t1 (Exists.intro n1 (And.intro h.1 (And.intro h.2.1 ?_)))
    refine (And.intro h.2.2.1 (And.intro h.2.2.2.1 ?_))
    show Y 20 [(0, 3, true, x0), (1, 0, true, x1), (2, 0, true, x2)] [(3, true, m ((m ((x0).toNat) 1).toNat) x2), (3, true, x0), (0, true, x1)] (sM s m)
    refine hY _ _ _ _ ?_
    refine (And.intro h.2.2.2.2.1 ?_)
    refine Exists.intro _ (And.intro (wc_45_3t (m ((m ((x0).toNat) 1).toNat) x2) _ _ h.2.2.2.2.2) (fun r2 m2 h => ?_))
    show Y 23 [(0, 3, true, x0), (1, 0, true, x1), (2, 0, true, x2)] [(1, true, r2), (3, true, x0), (0, true, x1)] (sM s m2)
    refine hY _ _ _ _ ?_
    refine (And.intro h.1 ?_)
    refine Exists.intro _ (And.intro (wc_58_3t_1t x0 r2 _ _ h.2) (fun r3 m3 h => ?_))
    refine hY _ _ _ _ (?_ : Y 27 [(0, 3, true, x0), (1, 0, true, x1), (2, 0, true, x2)] [(0, true, x2), (0, true, r3), (0, true, x1)] (sM s m3))
    refine hY _ _ _ _ ?_
    refine And.intro (fun hc => ?_) (fun hc => ?_)
    · have h := h.1 hc
      refine hY _ _ _ _ (hY _ _ _ _ (hY _ _ _ _ (?_ : Y 37 [(1, 0, false, x1 + 0), (0, 3, true, x0), (2, 0, true, x2)] [] (sM s m3))))
      refine hY _ _ _ _ (hY _ _ _ _ (?_ : Y 4 [(2, 0, false, x2 + 1), (1, 0, false, x1 + 0), (0, 3, true, x0)] [] (sM s m3)))
      refine l4 _ _ ?_
      refine And.intro h.1 ?_
      refine And.intro h.2.1 ?_
      exact (Exists.intro m3 (And.intro rfl (And.intro rfl h.2.2)))
    · have h := h.2 hc
      refine hY _ _ _ _ (hY _ _ _ _ (hY _ _ _ _ (?_ : Y 36 [(0, 3, true, x0), (1, 0, true, x1), (2, 0, true, x2)] [(0, false, x1 + 1)] (sM s m3))))
      refine hY _ _ _ _ (hY _ _ _ _ (hY _ _ _ _ (?_ : Y 4 [(2, 0, false, x2 + 1), (1, 0, false, x1 + 1), (0, 3, true, x0)] [] (sM s m3))))
      refine l4 _ _ ?_
      refine And.intro h.1 ?_
      refine And.intro h.2.1 ?_
      exact (Exists.intro m3 (And.intro rfl (And.intro rfl h.2.2)))
theorem wk_61_4 (Q : sQ) (R : Int → hy_m → Prop) (s : sS) (x0 : Int) (x1 : Int) (x2 : Int) (hQ : ∀ x m', R x m' → Q x (sM s m')) (hr : sRg [(0, 3, 0), (1, 0, 0), (2, 0, 0)] [x0, x1, x2]) (h : wq_61_4 x0 x1 x2 s.1 s.2.2.2 R) : kX dC 4 im_m61 0 4 (sCan [(0, 3, 0), (1, 0, 0), (2, 0, 0)] [x0, x1, x2]) [] s Q :=
  h (fun x1 x2 m => sRg [(0, 3, 0), (1, 0, 0), (2, 0, 0)] [x0, x1, x2] → kX dC 4 im_m61 0 4 (sCan [(0, 3, 0), (1, 0, 0), (2, 0, 0)] [x0, x1, x2]) [] (sM s m) Q) (fun x1 x2 m h hr => wj_61_4 Q R s (fun x1 x2 m => sRg [(0, 3, 0), (1, 0, 0), (2, 0, 0)] [x0, x1, x2] → kX dC 4 im_m61 0 4 (sCan [(0, 3, 0), (1, 0, 0), (2, 0, 0)] [x0, x1, x2]) [] (sM s m) Q) x0 x1 x2 m  (fun _ _ _ hp hr => hp hr) hQ hr h) hr
def lb_61_0 (s : sS) (Q : sQ) (R : Int → hy_m → Prop) (x0 : Int) : Nat → Option (sL → sS → Prop) := sLb [(4, fun lv t => sG [(0, 3, 0), (1, 0, 0), (2, 0, 0)] lv (ap3 (fun w0 w1 w2 => ∃ m', t = sM s m' ∧ wq_61_4 w0 w1 w2 s.1 m' R)))]
set_option maxRecDepth 30000 in
set_option maxHeartbeats 1000000 in
theorem wk_61_0 (Q : sQ) (R : Int → hy_m → Prop) (s : sS) (x0 : Int) (hQ : ∀ x m', R x m' → Q x (sM s m')) (hr : sRg [(0, 3, 0)] [x0]) (h : wq_61 x0 s.1 s.2.2.2 R) : kX dC 4 im_m61 0 0 (sCan [(0, 3, 0)] [x0]) [] s Q := by
  unfold wq_61 at h
  refine wz2_ok (cs := cs_61) (wr := []) (lb := lb_61_0 s Q R x0) cs_61_ok (kLb_c (kLab (Bd := fun xs t => ap3 (fun w0 w1 w2 => ∃ m', t = sM s m' ∧ wq_61_4 w0 w1 w2 s.1 m' R) xs) rfl (fun xs t r1 r2 hb => by obtain ⟨w0, w1, w2, rfl, hb⟩ := ap3_ok hb; obtain ⟨m', rfl, hx⟩ := hb; exact wk_61_4 Q R (sM s m') _ _ _ (fun x m'' hy => hQ x m'' hy) r1 hx)) kLb_n) (okL_can rfl hr) (fun Y hY hl => ?_)
  have l4 := hl 4 _ rfl
  refine hY _ _ _ _ (hY _ _ _ _ (hY _ _ _ _ (?_ : Y 3 [(1, 2, true, 0), (0, 3, true, x0)] [(2, true, 0)] s)))
  refine hY _ _ _ _ (?_ : Y 4 [(2, 2, true, 0), (1, 2, true, 0), (0, 3, true, x0)] [] s)
  refine l4 _ _ ?_
  exact (Exists.intro s.2.2.2 (And.intro rfl h))
def we_61 : sFf := sEf 3 [(0, 3, 0)] (fun xs s Q => ap1 (fun x0 => wq_61 x0 s.1 s.2.2.2 Q) xs)
theorem we_61_ok : kS dC 5 61 0 (.inl we_61) := sEf_ok (mi := im_m61) rfl rfl rfl (fun R xs s r1 hb => by obtain ⟨x0, rfl, hb⟩ := ap1_ok hb; exact wk_61_0 _ R s x0 (fun x m' hx => ⟨m', rfl, hx⟩) r1 hb)
/-- LM$Program.isCalledBefore(II)Z -/
def wf_63_51 (P15 : Int → hy_m → Prop) (x0 : Int) (x1 : Int) (x2 : Int) (x3 : Int) (x5 : Int) (x6 : Int) (x7 : Int) (T : hy_T) (Q : Int → hy_m → Prop) (P51 : Int → hy_m → Prop) (x8 : Int) (m : hy_m) : Prop := (x7 ≤ x8 → (hy_r 0 (x5 + 1) ∧ (P15 (x5 + 1) m))) ∧ (x8 < x7 → (∃ n1 : Nat, T.1 (x6).toNat = some (101, n1) ∧ (0 ≤ x8 ∧ x8 < (n1 : Int) ∧ (((m ((x6).toNat) x8) ≠ x3 → (hy_r 0 (x8 + 1) ∧ (P51 (x8 + 1) m))) ∧ ((m ((x6).toNat) x8) = x3 → (Q 1 m))))))
def wq_63_51 (P15 : Int → hy_m → Prop) (x0 : Int) (x1 : Int) (x2 : Int) (x3 : Int) (x5 : Int) (x6 : Int) (x7 : Int) (x8 : Int) (T : hy_T) (m : hy_m) (Q : Int → hy_m → Prop) : Prop := wL1 hy_m (wf_63_51 P15 x0 x1 x2 x3 x5 x6 x7 T Q) x8 m
def wf_63_15 (x0 : Int) (x1 : Int) (x2 : Int) (x3 : Int) (T : hy_T) (Q : Int → hy_m → Prop) (P15 : Int → hy_m → Prop) (x5 : Int) (m : hy_m) : Prop := (x1 < x5 → (Q 0 m)) ∧ (x5 ≤ x1 → (T.1 (x0).toNat = some (5, 3) ∧ (∃ t1 n1 : Nat, T.1 (m ((x0).toNat) 1).toNat = some (t1, n1) ∧ 110 ≤ t1 ∧ (0 ≤ x5 ∧ x5 < (n1 : Int) ∧ (T.1 (m ((m ((x0).toNat) 1).toNat) x5).toNat = some (3, 9) ∧ ((x5 ≠ x1 → (∃ t2 n2 : Nat, T.1 (m ((m ((m ((x0).toNat) 1).toNat) x5).toNat) 7).toNat = some (t2, n2) ∧ 99 ≤ t2 ∧ (wq_63_51 P15 x0 x1 x2 x3 x5 (m ((m ((m ((x0).toNat) 1).toNat) x5).toNat) 7) (n2 : Int) 0 T m Q))) ∧ (x5 = x1 → (wq_63_51 P15 x0 x1 x2 x3 x5 (m ((m ((m ((x0).toNat) 1).toNat) x5).toNat) 7) x2 0 T m Q))))))))
def wq_63_15 (x0 : Int) (x1 : Int) (x2 : Int) (x3 : Int) (x5 : Int) (T : hy_T) (m : hy_m) (Q : Int → hy_m → Prop) : Prop := wL1 hy_m (wf_63_15 x0 x1 x2 x3 T Q) x5 m
def wq_63 (x0 : Int) (x1 : Int) (x2 : Int) (T : hy_T) (m : hy_m) (Q : Int → hy_m → Prop) : Prop := T.1 (x0).toNat = some (5, 3) ∧ (∃ t1 n1 : Nat, T.1 (m ((x0).toNat) 1).toNat = some (t1, n1) ∧ 110 ≤ t1 ∧ (0 ≤ x1 ∧ x1 < (n1 : Int) ∧ (T.1 (m ((m ((x0).toNat) 1).toNat) x1).toNat = some (3, 9) ∧ (∃ n2 : Nat, T.1 (m ((m ((m ((x0).toNat) 1).toNat) x1).toNat) 7).toNat = some (101, n2) ∧ (0 ≤ x2 ∧ x2 < (n2 : Int) ∧ (wq_63_15 x0 x1 x2 (m ((m ((m ((m ((x0).toNat) 1).toNat) x1).toNat) 7).toNat) x2) 0 T m Q))))))
def cs_63 : List (Nat × Nat × sFS) := []
theorem cs_63_ok : kCs dC 0 cs_63 := kCs_n
def lb_63_51 (s : sS) (Q : sQ) (P15 : Int → hy_m → Prop) (P51 : Int → hy_m → Prop) (R : Int → hy_m → Prop) (x0 : Int) (x1 : Int) (x2 : Int) (x3 : Int) (x5 : Int) (x6 : Int) (x7 : Int) (x8 : Int) : Nat → Option (sL → sS → Prop) := sLb [(15, fun lv t => sG [(0, 3, 0), (1, 0, 0), (2, 0, 0), (3, 1, 0), (5, 0, 0)] lv (ap5 (fun w0 w1 w2 w3 w5 => ∃ m', t = sM s m' ∧ w0 = x0 ∧ w1 = x1 ∧ w2 = x2 ∧ w3 = x3 ∧ P15 w5 m'))), (51, fun lv t => sG [(0, 3, 0), (1, 0, 0), (2, 0, 0), (3, 1, 0), (5, 0, 0), (6, 3, 0), (7, 0, 0), (8, 0, 0)] lv (ap8 (fun w0 w1 w2 w3 w5 w6 w7 w8 => ∃ m', t = sM s m' ∧ w0 = x0 ∧ w1 = x1 ∧ w2 = x2 ∧ w3 = x3 ∧ w5 = x5 ∧ w6 = x6 ∧ w7 = x7 ∧ P51 w8 m')))]
set_option maxRecDepth 30000 in
set_option maxHeartbeats 1000000 in
theorem wj_63_51 (Q : sQ) (R : Int → hy_m → Prop) (s : sS) (P15 : Int → hy_m → Prop) (P51 : Int → hy_m → Prop) (x0 : Int) (x1 : Int) (x2 : Int) (x3 : Int) (x5 : Int) (x6 : Int) (x7 : Int) (x8 : Int) (m : hy_m) (hP15 : ∀ (z5 : Int) (m : hy_m), P15 z5 m → sRg [(0, 3, 0), (1, 0, 0), (2, 0, 0), (3, 1, 0), (5, 0, 0)] [x0, x1, x2, x3, z5] → kX dC 0 im_m63 2 15 (sCan [(0, 3, 0), (1, 0, 0), (2, 0, 0), (3, 1, 0), (5, 0, 0)] [x0, x1, x2, x3, z5]) [] (sM s m) Q) (hP51 : ∀ (z8 : Int) (m : hy_m), P51 z8 m → sRg [(0, 3, 0), (1, 0, 0), (2, 0, 0), (3, 1, 0), (5, 0, 0), (6, 3, 0), (7, 0, 0), (8, 0, 0)] [x0, x1, x2, x3, x5, x6, x7, z8] → kX dC 0 im_m63 2 51 (sCan [(0, 3, 0), (1, 0, 0), (2, 0, 0), (3, 1, 0), (5, 0, 0), (6, 3, 0), (7, 0, 0), (8, 0, 0)] [x0, x1, x2, x3, x5, x6, x7, z8]) [] (sM s m) Q) (hQ : ∀ x m', R x m' → Q x (sM s m')) (hr : sRg [(0, 3, 0), (1, 0, 0), (2, 0, 0), (3, 1, 0), (5, 0, 0), (6, 3, 0), (7, 0, 0), (8, 0, 0)] [x0, x1, x2, x3, x5, x6, x7, x8]) (h : wf_63_51 P15 x0 x1 x2 x3 x5 x6 x7 s.1 R P51 x8 m) : kX dC 0 im_m63 2 51 (sCan [(0, 3, 0), (1, 0, 0), (2, 0, 0), (3, 1, 0), (5, 0, 0), (6, 3, 0), (7, 0, 0), (8, 0, 0)] [x0, x1, x2, x3, x5, x6, x7, x8]) [] (sM s m) Q := by
  unfold wf_63_51 at h
  refine wz2_ok (cs := cs_63) (wr := []) (lb := lb_63_51 s Q P15 P51 R x0 x1 x2 x3 x5 x6 x7 x8) cs_63_ok (kLb_c (kLab (Bd := fun xs t => ap5 (fun w0 w1 w2 w3 w5 => ∃ m', t = sM s m' ∧ w0 = x0 ∧ w1 = x1 ∧ w2 = x2 ∧ w3 = x3 ∧ P15 w5 m') xs) rfl (fun xs t r1 r2 hb => by obtain ⟨w0, w1, w2, w3, w5, rfl, hb⟩ := ap5_ok hb; obtain ⟨m', rfl, rfl, rfl, rfl, rfl, hx⟩ := hb; exact hP15 _ m' hx r1)) (kLb_c (kLab (Bd := fun xs t => ap8 (fun w0 w1 w2 w3 w5 w6 w7 w8 => ∃ m', t = sM s m' ∧ w0 = x0 ∧ w1 = x1 ∧ w2 = x2 ∧ w3 = x3 ∧ w5 = x5 ∧ w6 = x6 ∧ w7 = x7 ∧ P51 w8 m') xs) rfl (fun xs t r1 r2 hb => by obtain ⟨w0, w1, w2, w3, w5, w6, w7, w8, rfl, hb⟩ := ap8_ok hb; obtain ⟨m', rfl, rfl, rfl, rfl, rfl, rfl, rfl, rfl, hx⟩ := hb; exact hP51 _ m' hx r1)) kLb_n)) (okL_can rfl hr) (fun Y hY hl => ?_)
  have l15 := hl 15 _ rfl
  have l51 := hl 51 _ rfl
  refine hY _ _ _ _ (hY _ _ _ _ (?_ : Y 55 [(0, 3, true, x0), (1, 0, true, x1), (2, 0, true, x2), (3, 1, true, x3), (5, 0, true, x5), (6, 3, true, x6), (7, 0, true, x7), (8, 0, true, x8)] [(0, true, x7), (0, true, x8)] (sM s m)))
  refine hY _ _ _ _ ?_
  refine And.intro (fun hc => ?_) (fun hc => ?_)
  · have h := h.1 hc
    refine hY _ _ _ _ (hY _ _ _ _ (?_ : Y 15 [(5, 0, false, x5 + 1), (0, 3, true, x0), (1, 0, true, x1), (2, 0, true, x2), (3, 1, true, x3), (6, 3, true, x6), (7, 0, true, x7), (8, 0, true, x8)] [] (sM s m)))
    refine l15 _ _ ?_
    refine And.intro h.1 ?_
    exact (Exists.intro m (And.intro rfl (And.intro rfl (And.intro rfl (And.intro rfl (And.intro rfl h.2))))))
  · have h := h.2 hc
    refine hY _ _ _ _ (hY _ _ _ _ (?_ : Y 62 [(0, 3, true, x0), (1, 0, true, x1), (2, 0, true, x2), (3, 1, true, x3), (5, 0, true, x5), (6, 3, true, x6), (7, 0, true, x7), (8, 0, true, x8)] [(0, true, x8), (3, true, x6)] (sM s m)))
    refine hY _ _ _ _ ?_
    obtain ⟨n1, h⟩ := h
    refine Exists.intro n1 (And.intro h.1 ?_)
    refine (And.intro h.2.1 (And.intro h.2.2.1 ?_))
    refine hY _ _ _ _ (?_ : Y 64 [(0, 3, true, x0), (1, 0, true, x1), (2, 0, true, x2), (3, 1, true, x3), (5, 0, true, x5), (6, 3, true, x6), (7, 0, true, x7), (8, 0, true, x8)] [(1, true, x3), (1, true, m ((x6).toNat) x8)] (sM s m))
    refine hY _ _ _ _ ?_
    refine And.intro (fun hc => ?_) (fun hc => ?_)
    · have h := h.2.2.2.1 hc
      refine hY _ _ _ _ (hY _ _ _ _ (?_ : Y 51 [(8, 0, false, x8 + 1), (0, 3, true, x0), (1, 0, true, x1), (2, 0, true, x2), (3, 1, true, x3), (5, 0, true, x5), (6, 3, true, x6), (7, 0, true, x7)] [] (sM s m)))
      refine l51 _ _ ?_
      refine And.intro h.1 ?_
      exact (Exists.intro m (And.intro rfl (And.intro rfl (And.intro rfl (And.intro rfl (And.intro rfl (And.intro rfl (And.intro rfl (And.intro rfl h.2)))))))))
    · have h := h.2.2.2.2 hc
      refine hY _ _ _ _ (?_ : Y 69 [(0, 3, true, x0), (1, 0, true, x1), (2, 0, true, x2), (3, 1, true, x3), (5, 0, true, x5), (6, 3, true, x6), (7, 0, true, x7), (8, 0, true, x8)] [(2, true, 1)] (sM s m))
      refine hY _ _ _ _ ?_
      exact hQ 1 m h
theorem wk_63_51 (Q : sQ) (R : Int → hy_m → Prop) (s : sS) (P15 : Int → hy_m → Prop) (x0 : Int) (x1 : Int) (x2 : Int) (x3 : Int) (x5 : Int) (x6 : Int) (x7 : Int) (x8 : Int) (hP15 : ∀ (z5 : Int) (m : hy_m), P15 z5 m → sRg [(0, 3, 0), (1, 0, 0), (2, 0, 0), (3, 1, 0), (5, 0, 0)] [x0, x1, x2, x3, z5] → kX dC 0 im_m63 2 15 (sCan [(0, 3, 0), (1, 0, 0), (2, 0, 0), (3, 1, 0), (5, 0, 0)] [x0, x1, x2, x3, z5]) [] (sM s m) Q) (hQ : ∀ x m', R x m' → Q x (sM s m')) (hr : sRg [(0, 3, 0), (1, 0, 0), (2, 0, 0), (3, 1, 0), (5, 0, 0), (6, 3, 0), (7, 0, 0), (8, 0, 0)] [x0, x1, x2, x3, x5, x6, x7, x8]) (h : wq_63_51 P15 x0 x1 x2 x3 x5 x6 x7 x8 s.1 s.2.2.2 R) : kX dC 0 im_m63 2 51 (sCan [(0, 3, 0), (1, 0, 0), (2, 0, 0), (3, 1, 0), (5, 0, 0), (6, 3, 0), (7, 0, 0), (8, 0, 0)] [x0, x1, x2, x3, x5, x6, x7, x8]) [] s Q :=
  h (fun x8 m => sRg [(0, 3, 0), (1, 0, 0), (2, 0, 0), (3, 1, 0), (5, 0, 0), (6, 3, 0), (7, 0, 0), (8, 0, 0)] [x0, x1, x2, x3, x5, x6, x7, x8] → kX dC 0 im_m63 2 51 (sCan [(0, 3, 0), (1, 0, 0), (2, 0, 0), (3, 1, 0), (5, 0, 0), (6, 3, 0), (7, 0, 0), (8, 0, 0)] [x0, x1, x2, x3, x5, x6, x7, x8]) [] (sM s m) Q) (fun x8 m h hr => wj_63_51 Q R s P15 (fun x8 m => sRg [(0, 3, 0), (1, 0, 0), (2, 0, 0), (3, 1, 0), (5, 0, 0), (6, 3, 0), (7, 0, 0), (8, 0, 0)] [x0, x1, x2, x3, x5, x6, x7, x8] → kX dC 0 im_m63 2 51 (sCan [(0, 3, 0), (1, 0, 0), (2, 0, 0), (3, 1, 0), (5, 0, 0), (6, 3, 0), (7, 0, 0), (8, 0, 0)] [x0, x1, x2, x3, x5, x6, x7, x8]) [] (sM s m) Q) x0 x1 x2 x3 x5 x6 x7 x8 m  hP15 (fun _ _ hp hr => hp hr) hQ hr h) hr
def lb_63_15 (s : sS) (Q : sQ) (P15 : Int → hy_m → Prop) (R : Int → hy_m → Prop) (x0 : Int) (x1 : Int) (x2 : Int) (x3 : Int) (x5 : Int) : Nat → Option (sL → sS → Prop) := sLb [(51, fun lv t => sG [(0, 3, 0), (1, 0, 0), (2, 0, 0), (3, 1, 0), (5, 0, 0), (6, 3, 0), (7, 0, 0), (8, 0, 0)] lv (ap8 (fun w0 w1 w2 w3 w5 w6 w7 w8 => ∃ m', t = sM s m' ∧ w0 = x0 ∧ w1 = x1 ∧ w2 = x2 ∧ w3 = x3 ∧ wq_63_51 P15 w0 w1 w2 w3 w5 w6 w7 w8 s.1 m' R))), (15, fun lv t => sG [(0, 3, 0), (1, 0, 0), (2, 0, 0), (3, 1, 0), (5, 0, 0)] lv (ap5 (fun w0 w1 w2 w3 w5 => ∃ m', t = sM s m' ∧ w0 = x0 ∧ w1 = x1 ∧ w2 = x2 ∧ w3 = x3 ∧ P15 w5 m')))]
set_option maxRecDepth 30000 in
set_option maxHeartbeats 1000000 in
theorem wj_63_15 (Q : sQ) (R : Int → hy_m → Prop) (s : sS) (P15 : Int → hy_m → Prop) (x0 : Int) (x1 : Int) (x2 : Int) (x3 : Int) (x5 : Int) (m : hy_m) (hP15 : ∀ (z5 : Int) (m : hy_m), P15 z5 m → sRg [(0, 3, 0), (1, 0, 0), (2, 0, 0), (3, 1, 0), (5, 0, 0)] [x0, x1, x2, x3, z5] → kX dC 0 im_m63 2 15 (sCan [(0, 3, 0), (1, 0, 0), (2, 0, 0), (3, 1, 0), (5, 0, 0)] [x0, x1, x2, x3, z5]) [] (sM s m) Q) (hQ : ∀ x m', R x m' → Q x (sM s m')) (hr : sRg [(0, 3, 0), (1, 0, 0), (2, 0, 0), (3, 1, 0), (5, 0, 0)] [x0, x1, x2, x3, x5]) (h : wf_63_15 x0 x1 x2 x3 s.1 R P15 x5 m) : kX dC 0 im_m63 2 15 (sCan [(0, 3, 0), (1, 0, 0), (2, 0, 0), (3, 1, 0), (5, 0, 0)] [x0, x1, x2, x3, x5]) [] (sM s m) Q := by
  unfold wf_63_15 at h
  refine wz2_ok (cs := cs_63) (wr := []) (lb := lb_63_15 s Q P15 R x0 x1 x2 x3 x5) cs_63_ok (kLb_c (kLab (Bd := fun xs t => ap8 (fun w0 w1 w2 w3 w5 w6 w7 w8 => ∃ m', t = sM s m' ∧ w0 = x0 ∧ w1 = x1 ∧ w2 = x2 ∧ w3 = x3 ∧ wq_63_51 P15 w0 w1 w2 w3 w5 w6 w7 w8 s.1 m' R) xs) rfl (fun xs t r1 r2 hb => by obtain ⟨w0, w1, w2, w3, w5, w6, w7, w8, rfl, hb⟩ := ap8_ok hb; obtain ⟨m', rfl, rfl, rfl, rfl, rfl, hx⟩ := hb; exact wk_63_51 Q R (sM s m') P15 _ _ _ _ _ _ _ _ hP15 (fun x m'' hy => hQ x m'' hy) r1 hx)) (kLb_c (kLab (Bd := fun xs t => ap5 (fun w0 w1 w2 w3 w5 => ∃ m', t = sM s m' ∧ w0 = x0 ∧ w1 = x1 ∧ w2 = x2 ∧ w3 = x3 ∧ P15 w5 m') xs) rfl (fun xs t r1 r2 hb => by obtain ⟨w0, w1, w2, w3, w5, rfl, hb⟩ := ap5_ok hb; obtain ⟨m', rfl, rfl, rfl, rfl, rfl, hx⟩ := hb; exact hP15 _ m' hx r1)) kLb_n)) (okL_can rfl hr) (fun Y hY hl => ?_)
  have l51 := hl 51 _ rfl
  have l15 := hl 15 _ rfl
  refine hY _ _ _ _ (hY _ _ _ _ (?_ : Y 18 [(0, 3, true, x0), (1, 0, true, x1), (2, 0, true, x2), (3, 1, true, x3), (5, 0, true, x5)] [(0, true, x1), (0, true, x5)] (sM s m)))
  refine hY _ _ _ _ ?_
  refine And.intro (fun hc => ?_) (fun hc => ?_)
  · have h := h.1 hc
    refine hY _ _ _ _ (?_ : Y 83 [(0, 3, true, x0), (1, 0, true, x1), (2, 0, true, x2), (3, 1, true, x3), (5, 0, true, x5)] [(2, true, 0)] (sM s m))
    refine hY _ _ _ _ ?_
    exact hQ 0 m h
  · have h := h.2 hc
    refine hY _ _ _ _ (?_ : Y 22 [(0, 3, true, x0), (1, 0, true, x1), (2, 0, true, x2), (3, 1, true, x3), (5, 0, true, x5)] [(3, true, x0)] (sM s m))
    refine hY _ _ _ _ ?_
    refine (And.intro h.1 ?_)
    refine hY _ _ _ _ (?_ : Y 27 [(0, 3, true, x0), (1, 0, true, x1), (2, 0, true, x2), (3, 1, true, x3), (5, 0, true, x5)] [(0, true, x5), (3, true, m ((x0).toNat) 1)] (sM s m))
    refine hY _ _ _ _ ?_
    obtain ⟨t1, n1, h⟩ := h.2
    refine Exists.intro t1 (Exists.intro n1 (And.intro h.1 (And.intro h.2.1 ?_)))
    refine (And.intro h.2.2.1 (And.intro h.2.2.2.1 ?_))
    show Y 28 [(0, 3, true, x0), (1, 0, true, x1), (2, 0, true, x2), (3, 1, true, x3), (5, 0, true, x5)] [(3, true, m ((m ((x0).toNat) 1).toNat) x5)] (sM s m)
    refine hY _ _ _ _ ?_
    refine (And.intro h.2.2.2.2.1 ?_)
    refine hY _ _ _ _ (hY _ _ _ _ (hY _ _ _ _ (?_ : Y 36 [(6, 3, true, m ((m ((m ((x0).toNat) 1).toNat) x5).toNat) 7), (0, 3, true, x0), (1, 0, true, x1), (2, 0, true, x2), (3, 1, true, x3), (5, 0, true, x5)] [(0, true, x1), (0, true, x5)] (sM s m))))
    refine hY _ _ _ _ ?_
    refine And.intro (fun hc => ?_) (fun hc => ?_)
    · have h := h.2.2.2.2.2.1 hc
      refine hY _ _ _ _ (?_ : Y 45 [(6, 3, true, m ((m ((m ((x0).toNat) 1).toNat) x5).toNat) 7), (0, 3, true, x0), (1, 0, true, x1), (2, 0, true, x2), (3, 1, true, x3), (5, 0, true, x5)] [(3, true, m ((m ((m ((x0).toNat) 1).toNat) x5).toNat) 7)] (sM s m))
      refine hY _ _ _ _ ?_
      obtain ⟨t2, n2, h⟩ := h
      refine Exists.intro t2 (Exists.intro n2 (And.intro h.1 (And.intro h.2.1 ?_)))
      refine hY _ _ _ _ (hY _ _ _ _ (hY _ _ _ _ (?_ : Y 51 [(8, 2, true, 0), (7, 0, true, (n2 : Int)), (6, 3, true, m ((m ((m ((x0).toNat) 1).toNat) x5).toNat) 7), (0, 3, true, x0), (1, 0, true, x1), (2, 0, true, x2), (3, 1, true, x3), (5, 0, true, x5)] [] (sM s m))))
      refine l51 _ _ ?_
      exact (Exists.intro m (And.intro rfl (And.intro rfl (And.intro rfl (And.intro rfl (And.intro rfl h.2.2))))))
    · have h := h.2.2.2.2.2.2 hc
      refine hY _ _ _ _ (hY _ _ _ _ (hY _ _ _ _ (?_ : Y 48 [(7, 0, true, x2), (6, 3, true, m ((m ((m ((x0).toNat) 1).toNat) x5).toNat) 7), (0, 3, true, x0), (1, 0, true, x1), (2, 0, true, x2), (3, 1, true, x3), (5, 0, true, x5)] [] (sM s m))))
      refine hY _ _ _ _ (hY _ _ _ _ (?_ : Y 51 [(8, 2, true, 0), (7, 0, true, x2), (6, 3, true, m ((m ((m ((x0).toNat) 1).toNat) x5).toNat) 7), (0, 3, true, x0), (1, 0, true, x1), (2, 0, true, x2), (3, 1, true, x3), (5, 0, true, x5)] [] (sM s m)))
      refine l51 _ _ ?_
      exact (Exists.intro m (And.intro rfl (And.intro rfl (And.intro rfl (And.intro rfl (And.intro rfl h))))))
theorem wk_63_15 (Q : sQ) (R : Int → hy_m → Prop) (s : sS) (x0 : Int) (x1 : Int) (x2 : Int) (x3 : Int) (x5 : Int) (hQ : ∀ x m', R x m' → Q x (sM s m')) (hr : sRg [(0, 3, 0), (1, 0, 0), (2, 0, 0), (3, 1, 0), (5, 0, 0)] [x0, x1, x2, x3, x5]) (h : wq_63_15 x0 x1 x2 x3 x5 s.1 s.2.2.2 R) : kX dC 0 im_m63 2 15 (sCan [(0, 3, 0), (1, 0, 0), (2, 0, 0), (3, 1, 0), (5, 0, 0)] [x0, x1, x2, x3, x5]) [] s Q :=
  h (fun x5 m => sRg [(0, 3, 0), (1, 0, 0), (2, 0, 0), (3, 1, 0), (5, 0, 0)] [x0, x1, x2, x3, x5] → kX dC 0 im_m63 2 15 (sCan [(0, 3, 0), (1, 0, 0), (2, 0, 0), (3, 1, 0), (5, 0, 0)] [x0, x1, x2, x3, x5]) [] (sM s m) Q) (fun x5 m h hr => wj_63_15 Q R s (fun x5 m => sRg [(0, 3, 0), (1, 0, 0), (2, 0, 0), (3, 1, 0), (5, 0, 0)] [x0, x1, x2, x3, x5] → kX dC 0 im_m63 2 15 (sCan [(0, 3, 0), (1, 0, 0), (2, 0, 0), (3, 1, 0), (5, 0, 0)] [x0, x1, x2, x3, x5]) [] (sM s m) Q) x0 x1 x2 x3 x5 m  (fun _ _ hp hr => hp hr) hQ hr h) hr
def lb_63_0 (s : sS) (Q : sQ) (R : Int → hy_m → Prop) (x0 : Int) (x1 : Int) (x2 : Int) : Nat → Option (sL → sS → Prop) := sLb [(15, fun lv t => sG [(0, 3, 0), (1, 0, 0), (2, 0, 0), (3, 1, 0), (5, 0, 0)] lv (ap5 (fun w0 w1 w2 w3 w5 => ∃ m', t = sM s m' ∧ wq_63_15 w0 w1 w2 w3 w5 s.1 m' R)))]
set_option maxRecDepth 30000 in
set_option maxHeartbeats 1000000 in
theorem wk_63_0 (Q : sQ) (R : Int → hy_m → Prop) (s : sS) (x0 : Int) (x1 : Int) (x2 : Int) (hQ : ∀ x m', R x m' → Q x (sM s m')) (hr : sRg [(0, 3, 0), (1, 0, 0), (2, 0, 0)] [x0, x1, x2]) (h : wq_63 x0 x1 x2 s.1 s.2.2.2 R) : kX dC 0 im_m63 2 0 (sCan [(0, 3, 0), (1, 0, 0), (2, 0, 0)] [x0, x1, x2]) [] s Q := by
  unfold wq_63 at h
  refine wz2_ok (cs := cs_63) (wr := []) (lb := lb_63_0 s Q R x0 x1 x2) cs_63_ok (kLb_c (kLab (Bd := fun xs t => ap5 (fun w0 w1 w2 w3 w5 => ∃ m', t = sM s m' ∧ wq_63_15 w0 w1 w2 w3 w5 s.1 m' R) xs) rfl (fun xs t r1 r2 hb => by obtain ⟨w0, w1, w2, w3, w5, rfl, hb⟩ := ap5_ok hb; obtain ⟨m', rfl, hx⟩ := hb; exact wk_63_15 Q R (sM s m') _ _ _ _ _ (fun x m'' hy => hQ x m'' hy) r1 hx)) kLb_n) (okL_can rfl hr) (fun Y hY hl => ?_)
  have l15 := hl 15 _ rfl
  refine hY _ _ _ _ (?_ : Y 1 [(0, 3, true, x0), (1, 0, true, x1), (2, 0, true, x2)] [(3, true, x0)] s)
  refine hY _ _ _ _ ?_
  refine (And.intro h.1 ?_)
  refine hY _ _ _ _ (?_ : Y 5 [(0, 3, true, x0), (1, 0, true, x1), (2, 0, true, x2)] [(0, true, x1), (3, true, s.2.2.2 ((x0).toNat) 1)] s)
  refine hY _ _ _ _ ?_
  obtain ⟨t1, n1, h⟩ := h.2
  refine Exists.intro t1 (Exists.intro n1 (And.intro h.1 (And.intro h.2.1 ?_)))
  refine (And.intro h.2.2.1 (And.intro h.2.2.2.1 ?_))
  show Y 6 [(0, 3, true, x0), (1, 0, true, x1), (2, 0, true, x2)] [(3, true, s.2.2.2 ((s.2.2.2 ((x0).toNat) 1).toNat) x1)] s
  refine hY _ _ _ _ ?_
  refine (And.intro h.2.2.2.2.1 ?_)
  refine hY _ _ _ _ (?_ : Y 10 [(0, 3, true, x0), (1, 0, true, x1), (2, 0, true, x2)] [(0, true, x2), (3, true, s.2.2.2 ((s.2.2.2 ((s.2.2.2 ((x0).toNat) 1).toNat) x1).toNat) 7)] s)
  refine hY _ _ _ _ ?_
  obtain ⟨n2, h⟩ := h.2.2.2.2.2
  refine Exists.intro n2 (And.intro h.1 ?_)
  refine (And.intro h.2.1 (And.intro h.2.2.1 ?_))
  refine hY _ _ _ _ (hY _ _ _ _ (hY _ _ _ _ (?_ : Y 15 [(5, 2, true, 0), (3, 1, true, s.2.2.2 ((s.2.2.2 ((s.2.2.2 ((s.2.2.2 ((x0).toNat) 1).toNat) x1).toNat) 7).toNat) x2), (0, 3, true, x0), (1, 0, true, x1), (2, 0, true, x2)] [] s)))
  refine l15 _ _ ?_
  exact (Exists.intro s.2.2.2 (And.intro rfl h.2.2.2))
def we_63 : sFf := sEf 9 [(0, 3, 0), (1, 0, 0), (2, 0, 0)] (fun xs s Q => ap3 (fun x0 x1 x2 => wq_63 x0 x1 x2 s.1 s.2.2.2 Q) xs)
theorem we_63_ok : kS dC 1 63 2 (.inl we_63) := sEf_ok (mi := im_m63) rfl rfl rfl (fun R xs s r1 hb => by obtain ⟨x0, x1, x2, rfl, hb⟩ := ap3_ok hb; exact wk_63_0 _ R s x0 x1 x2 (fun x m' hx => ⟨m', rfl, hx⟩) r1 hb)
/-- LM$Program.countMissing()I -/
def wf_62_25 (P4 : Int → Int → hy_m → Prop) (x0 : Int) (x2 : Int) (x3 : Int) (T : hy_T) (Q : Int → hy_m → Prop) (P25 : Int → Int → hy_m → Prop) (x1 : Int) (x4 : Int) (m : hy_m) : Prop := ∃ t1 n1 : Nat, T.1 (x3).toNat = some (t1, n1) ∧ 99 ≤ t1 ∧ (((n1 : Int) ≤ x4 → (hy_r 0 (x2 + 1) ∧ (P4 x1 (x2 + 1) m))) ∧ (x4 < (n1 : Int) → (∃ n2 : Nat, T.1 (x3).toNat = some (101, n2) ∧ (0 ≤ x4 ∧ x4 < (n2 : Int) ∧ (((m ((x3).toNat) x4) = 0 → (hy_r 0 (x4 + 1) ∧ (P25 x1 (x4 + 1) m))) ∧ ((m ((x3).toNat) x4) ≠ 0 → (∃ n3 : Nat, T.1 (x3).toNat = some (101, n3) ∧ (0 ≤ x4 ∧ x4 < (n3 : Int) ∧ (T.1 (x0).toNat = some (5, 3) ∧ (wq_59 x0 (m ((x3).toNat) x4) T m (fun r4 m4 => (r4 ≠ 0 → (hy_r 0 (x4 + 1) ∧ (P25 x1 (x4 + 1) m4))) ∧ (r4 = 0 → (T.1 (x0).toNat = some (5, 3) ∧ (wq_63 x0 x2 x4 T m4 (fun r5 m5 => (r5 ≠ 0 → (hy_r 0 (x4 + 1) ∧ (P25 x1 (x4 + 1) m5))) ∧ (r5 = 0 → (hy_r 0 (x1 + 1) ∧ (hy_r 0 (x4 + 1) ∧ (P25 (x1 + 1) (x4 + 1) m5)))))))))))))))))))
def wq_62_25 (P4 : Int → Int → hy_m → Prop) (x0 : Int) (x1 : Int) (x2 : Int) (x3 : Int) (x4 : Int) (T : hy_T) (m : hy_m) (Q : Int → hy_m → Prop) : Prop := wL2 hy_m (wf_62_25 P4 x0 x2 x3 T Q) x1 x4 m
def wf_62_4 (x0 : Int) (T : hy_T) (Q : Int → hy_m → Prop) (P4 : Int → Int → hy_m → Prop) (x1 : Int) (x2 : Int) (m : hy_m) : Prop := T.1 (x0).toNat = some (5, 3) ∧ (((m ((x0).toNat) 2) ≤ x2 → (Q x1 m)) ∧ (x2 < (m ((x0).toNat) 2) → (T.1 (x0).toNat = some (5, 3) ∧ (∃ t1 n1 : Nat, T.1 (m ((x0).toNat) 1).toNat = some (t1, n1) ∧ 110 ≤ t1 ∧ (0 ≤ x2 ∧ x2 < (n1 : Int) ∧ (T.1 (m ((m ((x0).toNat) 1).toNat) x2).toNat = some (3, 9) ∧ (wq_62_25 P4 x0 x1 x2 (m ((m ((m ((x0).toNat) 1).toNat) x2).toNat) 7) 0 T m Q)))))))
def wq_62_4 (x0 : Int) (x1 : Int) (x2 : Int) (T : hy_T) (m : hy_m) (Q : Int → hy_m → Prop) : Prop := wL2 hy_m (wf_62_4 x0 T Q) x1 x2 m
def wq_62 (x0 : Int) (T : hy_T) (m : hy_m) (Q : Int → hy_m → Prop) : Prop := wq_62_4 x0 0 0 T m Q
theorem wc_63_3t_0t_0t (x0 : Int) (x1 : Int) (x2 : Int) (s : sS) (R : Int → hy_m → Prop) (h : wq_63 x0 x1 x2 s.1 s.2.2.2 R) : we_63 [(3, true, x0), (0, true, x1), (0, true, x2)] s R := h
def cs_62 : List (Nat × Nat × sFS) := [(59, 0, .inl we_59), (63, 2, .inl we_63)]
theorem cs_62_ok : kCs dC 3 cs_62 := (kCs_c (Or.inl rfl) (we_59_ok.deep (by decide)) (kCs_c (Or.inr (Or.inr (Or.inl rfl))) (we_63_ok.deep (by decide)) kCs_n))
def lb_62_25 (s : sS) (Q : sQ) (P4 : Int → Int → hy_m → Prop) (P25 : Int → Int → hy_m → Prop) (R : Int → hy_m → Prop) (x0 : Int) (x1 : Int) (x2 : Int) (x3 : Int) (x4 : Int) : Nat → Option (sL → sS → Prop) := sLb [(4, fun lv t => sG [(0, 3, 0), (1, 0, 0), (2, 0, 0)] lv (ap3 (fun w0 w1 w2 => ∃ m', t = sM s m' ∧ w0 = x0 ∧ P4 w1 w2 m'))), (25, fun lv t => sG [(0, 3, 0), (1, 0, 0), (2, 0, 0), (3, 3, 0), (4, 0, 0)] lv (ap5 (fun w0 w1 w2 w3 w4 => ∃ m', t = sM s m' ∧ w0 = x0 ∧ w2 = x2 ∧ w3 = x3 ∧ P25 w1 w4 m')))]
set_option maxRecDepth 30000 in
set_option maxHeartbeats 1000000 in
theorem wj_62_25 (Q : sQ) (R : Int → hy_m → Prop) (s : sS) (P4 : Int → Int → hy_m → Prop) (P25 : Int → Int → hy_m → Prop) (x0 : Int) (x1 : Int) (x2 : Int) (x3 : Int) (x4 : Int) (m : hy_m) (hP4 : ∀ (z1 z2 : Int) (m : hy_m), P4 z1 z2 m → sRg [(0, 3, 0), (1, 0, 0), (2, 0, 0)] [x0, z1, z2] → kX dC 3 im_m62 0 4 (sCan [(0, 3, 0), (1, 0, 0), (2, 0, 0)] [x0, z1, z2]) [] (sM s m) Q) (hP25 : ∀ (z1 z4 : Int) (m : hy_m), P25 z1 z4 m → sRg [(0, 3, 0), (1, 0, 0), (2, 0, 0), (3, 3, 0), (4, 0, 0)] [x0, z1, x2, x3, z4] → kX dC 3 im_m62 0 25 (sCan [(0, 3, 0), (1, 0, 0), (2, 0, 0), (3, 3, 0), (4, 0, 0)] [x0, z1, x2, x3, z4]) [] (sM s m) Q) (hQ : ∀ x m', R x m' → Q x (sM s m')) (hr : sRg [(0, 3, 0), (1, 0, 0), (2, 0, 0), (3, 3, 0), (4, 0, 0)] [x0, x1, x2, x3, x4]) (h : wf_62_25 P4 x0 x2 x3 s.1 R P25 x1 x4 m) : kX dC 3 im_m62 0 25 (sCan [(0, 3, 0), (1, 0, 0), (2, 0, 0), (3, 3, 0), (4, 0, 0)] [x0, x1, x2, x3, x4]) [] (sM s m) Q := by
  unfold wf_62_25 at h
  refine wz2_ok (cs := cs_62) (wr := []) (lb := lb_62_25 s Q P4 P25 R x0 x1 x2 x3 x4) cs_62_ok (kLb_c (kLab (Bd := fun xs t => ap3 (fun w0 w1 w2 => ∃ m', t = sM s m' ∧ w0 = x0 ∧ P4 w1 w2 m') xs) rfl (fun xs t r1 r2 hb => by obtain ⟨w0, w1, w2, rfl, hb⟩ := ap3_ok hb; obtain ⟨m', rfl, rfl, hx⟩ := hb; exact hP4 _ _ m' hx r1)) (kLb_c (kLab (Bd := fun xs t => ap5 (fun w0 w1 w2 w3 w4 => ∃ m', t = sM s m' ∧ w0 = x0 ∧ w2 = x2 ∧ w3 = x3 ∧ P25 w1 w4 m') xs) rfl (fun xs t r1 r2 hb => by obtain ⟨w0, w1, w2, w3, w4, rfl, hb⟩ := ap5_ok hb; obtain ⟨m', rfl, rfl, rfl, rfl, hx⟩ := hb; exact hP25 _ _ m' hx r1)) kLb_n)) (okL_can rfl hr) (fun Y hY hl => ?_)
  have l4 := hl 4 _ rfl
  have l25 := hl 25 _ rfl
  refine hY _ _ _ _ (hY _ _ _ _ (?_ : Y 28 [(0, 3, true, x0), (1, 0, true, x1), (2, 0, true, x2), (3, 3, true, x3), (4, 0, true, x4)] [(3, true, x3), (0, true, x4)] (sM s m)))
  refine hY _ _ _ _ ?_
  obtain ⟨t1, n1, h⟩ := h
  refine Exists.intro t1 (Exists.intro n1 (And.intro h.1 (And.intro h.2.1 ?_)))
  show Y 29 [(0, 3, true, x0), (1, 0, true, x1), (2, 0, true, x2), (3, 3, true, x3), (4, 0, true, x4)] [(0, true, (n1 : Int)), (0, true, x4)] (sM s m)
  refine hY _ _ _ _ ?_
  refine And.intro (fun hc => ?_) (fun hc => ?_)
  · have h := h.2.2.1 hc
    refine hY _ _ _ _ (hY _ _ _ _ (?_ : Y 4 [(2, 0, false, x2 + 1), (0, 3, true, x0), (1, 0, true, x1), (3, 3, true, x3), (4, 0, true, x4)] [] (sM s m)))
    refine l4 _ _ ?_
    refine And.intro h.1 ?_
    exact (Exists.intro m (And.intro rfl (And.intro rfl h.2)))
  · have h := h.2.2.2 hc
    refine hY _ _ _ _ (hY _ _ _ _ (?_ : Y 35 [(0, 3, true, x0), (1, 0, true, x1), (2, 0, true, x2), (3, 3, true, x3), (4, 0, true, x4)] [(0, true, x4), (3, true, x3)] (sM s m)))
    refine hY _ _ _ _ ?_
    obtain ⟨n2, h⟩ := h
    refine Exists.intro n2 (And.intro h.1 ?_)
    refine (And.intro h.2.1 (And.intro h.2.2.1 ?_))
    refine hY _ _ _ _ (?_ : Y 37 [(0, 3, true, x0), (1, 0, true, x1), (2, 0, true, x2), (3, 3, true, x3), (4, 0, true, x4)] [(1, true, 0), (1, true, m ((x3).toNat) x4)] (sM s m))
    refine hY _ _ _ _ ?_
    refine And.intro (fun hc => ?_) (fun hc => ?_)
    · have h := h.2.2.2.1 hc
      refine hY _ _ _ _ (hY _ _ _ _ (?_ : Y 25 [(4, 0, false, x4 + 1), (0, 3, true, x0), (1, 0, true, x1), (2, 0, true, x2), (3, 3, true, x3)] [] (sM s m)))
      refine l25 _ _ ?_
      refine And.intro h.1 ?_
      exact (Exists.intro m (And.intro rfl (And.intro rfl (And.intro rfl (And.intro rfl h.2)))))
    · have h := h.2.2.2.2 hc
      refine hY _ _ _ _ (hY _ _ _ _ (hY _ _ _ _ (?_ : Y 45 [(0, 3, true, x0), (1, 0, true, x1), (2, 0, true, x2), (3, 3, true, x3), (4, 0, true, x4)] [(0, true, x4), (3, true, x3), (3, true, x0)] (sM s m))))
      refine hY _ _ _ _ ?_
      obtain ⟨n3, h⟩ := h
      refine Exists.intro n3 (And.intro h.1 ?_)
      refine (And.intro h.2.1 (And.intro h.2.2.1 ?_))
      show Y 46 [(0, 3, true, x0), (1, 0, true, x1), (2, 0, true, x2), (3, 3, true, x3), (4, 0, true, x4)] [(1, true, m ((x3).toNat) x4), (3, true, x0)] (sM s m)
      refine hY _ _ _ _ ?_
      refine (And.intro h.2.2.2.1 ?_)
      refine Exists.intro _ (And.intro (wc_59_3t_1t x0 (m ((x3).toNat) x4) _ _ h.2.2.2.2) (fun r4 m4 h => ?_))
      show Y 49 [(0, 3, true, x0), (1, 0, true, x1), (2, 0, true, x2), (3, 3, true, x3), (4, 0, true, x4)] [(0, true, r4)] (sM s m4)
      refine hY _ _ _ _ ?_
      refine And.intro (fun hc => ?_) (fun hc => ?_)
      · have h := h.1 hc
        refine hY _ _ _ _ (hY _ _ _ _ (?_ : Y 25 [(4, 0, false, x4 + 1), (0, 3, true, x0), (1, 0, true, x1), (2, 0, true, x2), (3, 3, true, x3)] [] (sM s m4)))
        refine l25 _ _ ?_
        refine And.intro h.1 ?_
        exact (Exists.intro m4 (And.intro rfl (And.intro rfl (And.intro rfl (And.intro rfl h.2)))))
      · have h := h.2 hc
        refine hY _ _ _ _ (hY _ _ _ _ (hY _ _ _ _ (?_ : Y 56 [(0, 3, true, x0), (1, 0, true, x1), (2, 0, true, x2), (3, 3, true, x3), (4, 0, true, x4)] [(0, true, x4), (0, true, x2), (3, true, x0)] (sM s m4))))
        refine hY _ _ _ _ ?_
        refine (And.intro h.1 ?_)
        refine Exists.intro _ (And.intro (wc_63_3t_0t_0t x0 x2 x4 _ _ h.2) (fun r5 m5 h => ?_))
        show Y 59 [(0, 3, true, x0), (1, 0, true, x1), (2, 0, true, x2), (3, 3, true, x3), (4, 0, true, x4)] [(2, true, r5)] (sM s m5)
        refine hY _ _ _ _ ?_
        refine And.intro (fun hc => ?_) (fun hc => ?_)
        · have h := h.1 hc
          refine hY _ _ _ _ (hY _ _ _ _ (?_ : Y 25 [(4, 0, false, x4 + 1), (0, 3, true, x0), (1, 0, true, x1), (2, 0, true, x2), (3, 3, true, x3)] [] (sM s m5)))
          refine l25 _ _ ?_
          refine And.intro h.1 ?_
          exact (Exists.intro m5 (And.intro rfl (And.intro rfl (And.intro rfl (And.intro rfl h.2)))))
        · have h := h.2 hc
          refine hY _ _ _ _ (hY _ _ _ _ (hY _ _ _ _ (?_ : Y 25 [(4, 0, false, x4 + 1), (1, 0, false, x1 + 1), (0, 3, true, x0), (2, 0, true, x2), (3, 3, true, x3)] [] (sM s m5))))
          refine l25 _ _ ?_
          refine And.intro h.1 ?_
          refine And.intro h.2.1 ?_
          exact (Exists.intro m5 (And.intro rfl (And.intro rfl (And.intro rfl (And.intro rfl h.2.2)))))
theorem wk_62_25 (Q : sQ) (R : Int → hy_m → Prop) (s : sS) (P4 : Int → Int → hy_m → Prop) (x0 : Int) (x1 : Int) (x2 : Int) (x3 : Int) (x4 : Int) (hP4 : ∀ (z1 z2 : Int) (m : hy_m), P4 z1 z2 m → sRg [(0, 3, 0), (1, 0, 0), (2, 0, 0)] [x0, z1, z2] → kX dC 3 im_m62 0 4 (sCan [(0, 3, 0), (1, 0, 0), (2, 0, 0)] [x0, z1, z2]) [] (sM s m) Q) (hQ : ∀ x m', R x m' → Q x (sM s m')) (hr : sRg [(0, 3, 0), (1, 0, 0), (2, 0, 0), (3, 3, 0), (4, 0, 0)] [x0, x1, x2, x3, x4]) (h : wq_62_25 P4 x0 x1 x2 x3 x4 s.1 s.2.2.2 R) : kX dC 3 im_m62 0 25 (sCan [(0, 3, 0), (1, 0, 0), (2, 0, 0), (3, 3, 0), (4, 0, 0)] [x0, x1, x2, x3, x4]) [] s Q :=
  h (fun x1 x4 m => sRg [(0, 3, 0), (1, 0, 0), (2, 0, 0), (3, 3, 0), (4, 0, 0)] [x0, x1, x2, x3, x4] → kX dC 3 im_m62 0 25 (sCan [(0, 3, 0), (1, 0, 0), (2, 0, 0), (3, 3, 0), (4, 0, 0)] [x0, x1, x2, x3, x4]) [] (sM s m) Q) (fun x1 x4 m h hr => wj_62_25 Q R s P4 (fun x1 x4 m => sRg [(0, 3, 0), (1, 0, 0), (2, 0, 0), (3, 3, 0), (4, 0, 0)] [x0, x1, x2, x3, x4] → kX dC 3 im_m62 0 25 (sCan [(0, 3, 0), (1, 0, 0), (2, 0, 0), (3, 3, 0), (4, 0, 0)] [x0, x1, x2, x3, x4]) [] (sM s m) Q) x0 x1 x2 x3 x4 m  hP4 (fun _ _ _ hp hr => hp hr) hQ hr h) hr
def lb_62_4 (s : sS) (Q : sQ) (P4 : Int → Int → hy_m → Prop) (R : Int → hy_m → Prop) (x0 : Int) (x1 : Int) (x2 : Int) : Nat → Option (sL → sS → Prop) := sLb [(25, fun lv t => sG [(0, 3, 0), (1, 0, 0), (2, 0, 0), (3, 3, 0), (4, 0, 0)] lv (ap5 (fun w0 w1 w2 w3 w4 => ∃ m', t = sM s m' ∧ w0 = x0 ∧ wq_62_25 P4 w0 w1 w2 w3 w4 s.1 m' R))), (4, fun lv t => sG [(0, 3, 0), (1, 0, 0), (2, 0, 0)] lv (ap3 (fun w0 w1 w2 => ∃ m', t = sM s m' ∧ w0 = x0 ∧ P4 w1 w2 m')))]
set_option maxRecDepth 30000 in
set_option maxHeartbeats 1000000 in
theorem wj_62_4 (Q : sQ) (R : Int → hy_m → Prop) (s : sS) (P4 : Int → Int → hy_m → Prop) (x0 : Int) (x1 : Int) (x2 : Int) (m : hy_m) (hP4 : ∀ (z1 z2 : Int) (m : hy_m), P4 z1 z2 m → sRg [(0, 3, 0), (1, 0, 0), (2, 0, 0)] [x0, z1, z2] → kX dC 3 im_m62 0 4 (sCan [(0, 3, 0), (1, 0, 0), (2, 0, 0)] [x0, z1, z2]) [] (sM s m) Q) (hQ : ∀ x m', R x m' → Q x (sM s m')) (hr : sRg [(0, 3, 0), (1, 0, 0), (2, 0, 0)] [x0, x1, x2]) (h : wf_62_4 x0 s.1 R P4 x1 x2 m) : kX dC 3 im_m62 0 4 (sCan [(0, 3, 0), (1, 0, 0), (2, 0, 0)] [x0, x1, x2]) [] (sM s m) Q := by
  unfold wf_62_4 at h
  refine wz2_ok (cs := cs_62) (wr := []) (lb := lb_62_4 s Q P4 R x0 x1 x2) cs_62_ok (kLb_c (kLab (Bd := fun xs t => ap5 (fun w0 w1 w2 w3 w4 => ∃ m', t = sM s m' ∧ w0 = x0 ∧ wq_62_25 P4 w0 w1 w2 w3 w4 s.1 m' R) xs) rfl (fun xs t r1 r2 hb => by obtain ⟨w0, w1, w2, w3, w4, rfl, hb⟩ := ap5_ok hb; obtain ⟨m', rfl, rfl, hx⟩ := hb; exact wk_62_25 Q R (sM s m') P4 _ _ _ _ _ hP4 (fun x m'' hy => hQ x m'' hy) r1 hx)) (kLb_c (kLab (Bd := fun xs t => ap3 (fun w0 w1 w2 => ∃ m', t = sM s m' ∧ w0 = x0 ∧ P4 w1 w2 m') xs) rfl (fun xs t r1 r2 hb => by obtain ⟨w0, w1, w2, rfl, hb⟩ := ap3_ok hb; obtain ⟨m', rfl, rfl, hx⟩ := hb; exact hP4 _ _ m' hx r1)) kLb_n)) (okL_can rfl hr) (fun Y hY hl => ?_)
  have l25 := hl 25 _ rfl
  have l4 := hl 4 _ rfl
  refine hY _ _ _ _ (hY _ _ _ _ (?_ : Y 6 [(0, 3, true, x0), (1, 0, true, x1), (2, 0, true, x2)] [(3, true, x0), (0, true, x2)] (sM s m)))
  refine hY _ _ _ _ ?_
  refine (And.intro h.1 ?_)
  show Y 9 [(0, 3, true, x0), (1, 0, true, x1), (2, 0, true, x2)] [(0, true, m ((x0).toNat) 2), (0, true, x2)] (sM s m)
  refine hY _ _ _ _ ?_
  refine And.intro (fun hc => ?_) (fun hc => ?_)
  · have h := h.2.1 hc
    refine hY _ _ _ _ (?_ : Y 78 [(0, 3, true, x0), (1, 0, true, x1), (2, 0, true, x2)] [(0, true, x1)] (sM s m))
    refine hY _ _ _ _ ?_
    exact hQ x1 m h
  · have h := h.2.2 hc
    refine hY _ _ _ _ (?_ : Y 13 [(0, 3, true, x0), (1, 0, true, x1), (2, 0, true, x2)] [(3, true, x0)] (sM s m))
    refine hY _ _ _ _ ?_
    refine (And.intro h.1 ?_)
    refine hY _ _ _ _ (?_ : Y 17 [(0, 3, true, x0), (1, 0, true, x1), (2, 0, true, x2)] [(0, true, x2), (3, true, m ((x0).toNat) 1)] (sM s m))
    refine hY _ _ _ _ ?_
    obtain ⟨t1, n1, h⟩ := h.2
    refine Exists.intro t1 (Exists.intro n1 (And.intro h.1 (And.intro h.2.1 ?_)))
    refine (And.intro h.2.2.1 (And.intro h.2.2.2.1 ?_))
    show Y 18 [(0, 3, true, x0), (1, 0, true, x1), (2, 0, true, x2)] [(3, true, m ((m ((x0).toNat) 1).toNat) x2)] (sM s m)
    refine hY _ _ _ _ ?_
    refine (And.intro h.2.2.2.2.1 ?_)
    refine hY _ _ _ _ (hY _ _ _ _ (hY _ _ _ _ (?_ : Y 25 [(4, 2, true, 0), (3, 3, true, m ((m ((m ((x0).toNat) 1).toNat) x2).toNat) 7), (0, 3, true, x0), (1, 0, true, x1), (2, 0, true, x2)] [] (sM s m))))
    refine l25 _ _ ?_
    exact (Exists.intro m (And.intro rfl (And.intro rfl h.2.2.2.2.2)))
theorem wk_62_4 (Q : sQ) (R : Int → hy_m → Prop) (s : sS) (x0 : Int) (x1 : Int) (x2 : Int) (hQ : ∀ x m', R x m' → Q x (sM s m')) (hr : sRg [(0, 3, 0), (1, 0, 0), (2, 0, 0)] [x0, x1, x2]) (h : wq_62_4 x0 x1 x2 s.1 s.2.2.2 R) : kX dC 3 im_m62 0 4 (sCan [(0, 3, 0), (1, 0, 0), (2, 0, 0)] [x0, x1, x2]) [] s Q :=
  h (fun x1 x2 m => sRg [(0, 3, 0), (1, 0, 0), (2, 0, 0)] [x0, x1, x2] → kX dC 3 im_m62 0 4 (sCan [(0, 3, 0), (1, 0, 0), (2, 0, 0)] [x0, x1, x2]) [] (sM s m) Q) (fun x1 x2 m h hr => wj_62_4 Q R s (fun x1 x2 m => sRg [(0, 3, 0), (1, 0, 0), (2, 0, 0)] [x0, x1, x2] → kX dC 3 im_m62 0 4 (sCan [(0, 3, 0), (1, 0, 0), (2, 0, 0)] [x0, x1, x2]) [] (sM s m) Q) x0 x1 x2 m  (fun _ _ _ hp hr => hp hr) hQ hr h) hr
def lb_62_0 (s : sS) (Q : sQ) (R : Int → hy_m → Prop) (x0 : Int) : Nat → Option (sL → sS → Prop) := sLb [(4, fun lv t => sG [(0, 3, 0), (1, 0, 0), (2, 0, 0)] lv (ap3 (fun w0 w1 w2 => ∃ m', t = sM s m' ∧ wq_62_4 w0 w1 w2 s.1 m' R)))]
set_option maxRecDepth 30000 in
set_option maxHeartbeats 1000000 in
theorem wk_62_0 (Q : sQ) (R : Int → hy_m → Prop) (s : sS) (x0 : Int) (hQ : ∀ x m', R x m' → Q x (sM s m')) (hr : sRg [(0, 3, 0)] [x0]) (h : wq_62 x0 s.1 s.2.2.2 R) : kX dC 3 im_m62 0 0 (sCan [(0, 3, 0)] [x0]) [] s Q := by
  unfold wq_62 at h
  refine wz2_ok (cs := cs_62) (wr := []) (lb := lb_62_0 s Q R x0) cs_62_ok (kLb_c (kLab (Bd := fun xs t => ap3 (fun w0 w1 w2 => ∃ m', t = sM s m' ∧ wq_62_4 w0 w1 w2 s.1 m' R) xs) rfl (fun xs t r1 r2 hb => by obtain ⟨w0, w1, w2, rfl, hb⟩ := ap3_ok hb; obtain ⟨m', rfl, hx⟩ := hb; exact wk_62_4 Q R (sM s m') _ _ _ (fun x m'' hy => hQ x m'' hy) r1 hx)) kLb_n) (okL_can rfl hr) (fun Y hY hl => ?_)
  have l4 := hl 4 _ rfl
  refine hY _ _ _ _ (hY _ _ _ _ (hY _ _ _ _ (?_ : Y 3 [(1, 2, true, 0), (0, 3, true, x0)] [(2, true, 0)] s)))
  refine hY _ _ _ _ (?_ : Y 4 [(2, 2, true, 0), (1, 2, true, 0), (0, 3, true, x0)] [] s)
  refine l4 _ _ ?_
  exact (Exists.intro s.2.2.2 (And.intro rfl h))
def we_62 : sFf := sEf 5 [(0, 3, 0)] (fun xs s Q => ap1 (fun x0 => wq_62 x0 s.1 s.2.2.2 Q) xs)
theorem we_62_ok : kS dC 4 62 0 (.inl we_62) := sEf_ok (mi := im_m62) rfl rfl rfl (fun R xs s r1 hb => by obtain ⟨x0, rfl, hb⟩ := ap1_ok hb; exact wk_62_0 _ R s x0 (fun x m' hx => ⟨m', rfl, hx⟩) r1 hb)
/-- LM.told(I)I -/
def wq_8 (x1 : Int) (T : hy_T) (m : hy_m) (Q : Int → hy_m → Prop) : Prop := ((x1 = 0 + 0 → (Q (m 21 2) m)) ∧ ((x1 = 0 + 1 → (wq_61 21 T m (fun r1 m1 => Q r1 m1))) ∧ ((x1 = 0 + 2 → (wq_62 21 T m (fun r2 m2 => Q r2 m2))) ∧ ((x1 = 0 + 3 → (Q (m 1 4) m)) ∧ ((x1 = 0 + 4 → (Q (m 2 1) m)) ∧ (True)))))) ∧ (x1 < 0 ∨ 4 < x1 → (Q (-1) m))
theorem wc_61_r21 (s : sS) (R : Int → hy_m → Prop) (h : wq_61 21 s.1 s.2.2.2 R) : we_61 [(5, true, 21)] s R := h
theorem wc_62_r21 (s : sS) (R : Int → hy_m → Prop) (h : wq_62 21 s.1 s.2.2.2 R) : we_62 [(5, true, 21)] s R := h
def cs_8 : List (Nat × Nat × sFS) := [(61, 0, .inl we_61), (62, 0, .inl we_62)]
theorem cs_8_ok : kCs dC 5 cs_8 := (kCs_c (Or.inl rfl) (we_61_ok.deep (by decide)) (kCs_c (Or.inl rfl) (we_62_ok.deep (by decide)) kCs_n))
def lb_8_0 (s : sS) (Q : sQ) (R : Int → hy_m → Prop) (x1 : Int) : Nat → Option (sL → sS → Prop) := sLb []
set_option maxRecDepth 30000 in
set_option maxHeartbeats 1000000 in
theorem wk_8_0 (Q : sQ) (R : Int → hy_m → Prop) (s : sS) (x1 : Int) (hQ : ∀ x m', R x m' → Q x (sM s m')) (hr : sRg [(0, 5, 1), (1, 0, 0)] [x1]) (h : wq_8 x1 s.1 s.2.2.2 R) : kX dC 5 im_m8 0 0 (sCan [(0, 5, 1), (1, 0, 0)] [x1]) [] s Q := by
  unfold wq_8 at h
  refine wz2_ok (cs := cs_8) (wr := []) (lb := lb_8_0 s Q R x1) cs_8_ok kLb_n (okL_can rfl hr) (fun Y hY hl => ?_)
  refine hY _ _ _ _ (?_ : Y 1 [(0, 5, true, 1), (1, 0, true, x1)] [(0, true, x1)] s)
  refine hY _ _ _ _ ?_
  refine And.intro (And.intro (fun hc => ?_) (And.intro (fun hc => ?_) (And.intro (fun hc => ?_) (And.intro (fun hc => ?_) (And.intro (fun hc => ?_) trivial))))) (fun hc => ?_)
  · have h := h.1.1 hc
    refine hY _ _ _ _ (hY _ _ _ _ (hY _ _ _ _ (?_ : Y 43 [(0, 5, true, 1), (1, 0, true, x1)] [(0, true, s.2.2.2 21 2)] s)))
    refine hY _ _ _ _ ?_
    exact hQ (s.2.2.2 21 2) s.2.2.2 h
  · have h := h.1.2.1 hc
    refine hY _ _ _ _ (hY _ _ _ _ (?_ : Y 48 [(0, 5, true, 1), (1, 0, true, x1)] [(5, true, 21)] s))
    refine hY _ _ _ _ ?_
    refine Exists.intro _ (And.intro (wc_61_r21 _ _ h) (fun r1 m1 h => ?_))
    show Y 51 [(0, 5, true, 1), (1, 0, true, x1)] [(0, true, r1)] (sM s m1)
    refine hY _ _ _ _ ?_
    exact hQ r1 m1 h
  · have h := h.1.2.2.1 hc
    refine hY _ _ _ _ (hY _ _ _ _ (?_ : Y 56 [(0, 5, true, 1), (1, 0, true, x1)] [(5, true, 21)] s))
    refine hY _ _ _ _ ?_
    refine Exists.intro _ (And.intro (wc_62_r21 _ _ h) (fun r2 m2 h => ?_))
    show Y 59 [(0, 5, true, 1), (1, 0, true, x1)] [(0, true, r2)] (sM s m2)
    refine hY _ _ _ _ ?_
    exact hQ r2 m2 h
  · have h := h.1.2.2.2.1 hc
    refine hY _ _ _ _ (hY _ _ _ _ (?_ : Y 64 [(0, 5, true, 1), (1, 0, true, x1)] [(0, true, s.2.2.2 1 4)] s))
    refine hY _ _ _ _ ?_
    exact hQ (s.2.2.2 1 4) s.2.2.2 h
  · have h := h.1.2.2.2.2.1 hc
    refine hY _ _ _ _ (hY _ _ _ _ (hY _ _ _ _ (?_ : Y 72 [(0, 5, true, 1), (1, 0, true, x1)] [(0, true, s.2.2.2 2 1)] s)))
    refine hY _ _ _ _ ?_
    exact hQ (s.2.2.2 2 1) s.2.2.2 h
  · have h := h.2 hc
    refine hY _ _ _ _ (?_ : Y 74 [(0, 5, true, 1), (1, 0, true, x1)] [(0, true, (-1))] s)
    refine hY _ _ _ _ ?_
    exact hQ (-1) s.2.2.2 h
def we_8 : sFf := sEf 2 [(0, 5, 1), (1, 0, 0)] (fun xs s Q => ap1 (fun x1 => wq_8 x1 s.1 s.2.2.2 Q) xs)
theorem we_8_ok : kS dC 6 8 0 (.inl we_8) := sEf_ok (mi := im_m8) rfl rfl rfl (fun R xs s r1 hb => by obtain ⟨x1, rfl, hb⟩ := ap1_ok hb; exact wk_8_0 _ R s x1 (fun x m' hx => ⟨m', rfl, hx⟩) r1 hb)
/-- LM$Clause.firstKind()I -/
def wq_46 (x0 : Int) (T : hy_T) (m : hy_m) (Q : Int → hy_m → Prop) : Prop := T.1 (x0).toNat = some (3, 9) ∧ (wq_45 x0 T m (fun r1 m1 => wq_26 r1 m1 (fun r2 m2 => (r2 ≠ 0 → (T.1 (x0).toNat = some (3, 9) ∧ (T.1 (x0).toNat = some (3, 9) ∧ (wq_42 x0 (m2 ((x0).toNat) 3) 0 T m2 (fun r3 m3 => T.1 (x0).toNat = some (3, 9) ∧ (wq_40 x0 r3 T m3 (fun r4 m4 => Q r4 m4))))))) ∧ (r2 = 0 → (Q 0 m2)))))
def cs_46 : List (Nat × Nat × sFS) := [(26, 0, .inl we_26), (40, 0, .inl we_40), (42, 0, .inl we_42), (45, 1, .inl we_45)]
theorem cs_46_ok : kCs dC 2 cs_46 := (kCs_c (Or.inl rfl) (we_26_ok.deep (by decide)) (kCs_c (Or.inl rfl) (we_40_ok.deep (by decide)) (kCs_c (Or.inl rfl) (we_42_ok.deep (by decide)) (kCs_c (Or.inr (Or.inl rfl)) (we_45_ok.deep (by decide)) kCs_n))))
def lb_46_0 (s : sS) (Q : sQ) (R : Int → hy_m → Prop) (x0 : Int) : Nat → Option (sL → sS → Prop) := sLb []
set_option maxRecDepth 30000 in
set_option maxHeartbeats 1000000 in
theorem wk_46_0 (Q : sQ) (R : Int → hy_m → Prop) (s : sS) (x0 : Int) (hQ : ∀ x m', R x m' → Q x (sM s m')) (hr : sRg [(0, 3, 0)] [x0]) (h : wq_46 x0 s.1 s.2.2.2 R) : kX dC 2 im_m46 0 0 (sCan [(0, 3, 0)] [x0]) [] s Q := by
  unfold wq_46 at h
  refine wz2_ok (cs := cs_46) (wr := []) (lb := lb_46_0 s Q R x0) cs_46_ok kLb_n (okL_can rfl hr) (fun Y hY hl => ?_)
  refine hY _ _ _ _ (?_ : Y 1 [(0, 3, true, x0)] [(3, true, x0)] s)
  refine hY _ _ _ _ ?_
  refine (And.intro h.1 ?_)
  refine Exists.intro _ (And.intro (wc_45_3t x0 _ _ h.2) (fun r1 m1 h => ?_))
  show Y 4 [(0, 3, true, x0)] [(1, true, r1)] (sM s m1)
  refine hY _ _ _ _ ?_
  refine Exists.intro _ (And.intro (wc_26_1t r1 _ _ h) (fun r2 m2 h => ?_))
  show Y 7 [(0, 3, true, x0)] [(0, true, r2)] (sM s m2)
  refine hY _ _ _ _ ?_
  refine And.intro (fun hc => ?_) (fun hc => ?_)
  · have h := h.1 hc
    refine hY _ _ _ _ (hY _ _ _ _ (hY _ _ _ _ (?_ : Y 17 [(0, 3, true, x0)] [(3, true, x0), (3, true, x0), (3, true, x0)] (sM s m2))))
    refine hY _ _ _ _ ?_
    refine (And.intro h.1 ?_)
    refine hY _ _ _ _ (?_ : Y 21 [(0, 3, true, x0)] [(2, true, 0), (0, true, m2 ((x0).toNat) 3), (3, true, x0), (3, true, x0)] (sM s m2))
    refine hY _ _ _ _ ?_
    refine (And.intro h.2.1 ?_)
    refine Exists.intro _ (And.intro (wc_42_3t_0t_2t x0 (m2 ((x0).toNat) 3) 0 _ _ h.2.2) (fun r3 m3 h => ?_))
    show Y 24 [(0, 3, true, x0)] [(0, true, r3), (3, true, x0)] (sM s m3)
    refine hY _ _ _ _ ?_
    refine (And.intro h.1 ?_)
    refine Exists.intro _ (And.intro (wc_40_3t_0t x0 r3 _ _ h.2) (fun r4 m4 h => ?_))
    show Y 27 [(0, 3, true, x0)] [(0, true, r4)] (sM s m4)
    refine hY _ _ _ _ ?_
    exact hQ r4 m4 h
  · have h := h.2 hc
    refine hY _ _ _ _ (hY _ _ _ _ (?_ : Y 27 [(0, 3, true, x0)] [(2, true, 0)] (sM s m2)))
    refine hY _ _ _ _ ?_
    exact hQ 0 m2 h
def we_46 : sFf := sEf 1 [(0, 3, 0)] (fun xs s Q => ap1 (fun x0 => wq_46 x0 s.1 s.2.2.2 Q) xs)
theorem we_46_ok : kS dC 3 46 0 (.inl we_46) := sEf_ok (mi := im_m46) rfl rfl rfl (fun R xs s r1 hb => by obtain ⟨x0, rfl, hb⟩ := ap1_ok hb; exact wk_46_0 _ R s x0 (fun x m' hx => ⟨m', rfl, hx⟩) r1 hb)
/-- LM$Clause.endsWithOwnPredicate()Z -/
def wq_48 (x0 : Int) (T : hy_T) (m : hy_m) (Q : Int → hy_m → Prop) : Prop := T.1 (x0).toNat = some (3, 9) ∧ (∃ t1 n1 : Nat, T.1 (m ((x0).toNat) 4).toNat = some (t1, n1) ∧ 99 ≤ t1 ∧ (((n1 : Int) ≤ 0 → (Q 0 m)) ∧ (0 < (n1 : Int) → (T.1 (x0).toNat = some (3, 9) ∧ (T.1 (x0).toNat = some (3, 9) ∧ (∃ t2 n2 : Nat, T.1 (m ((x0).toNat) 4).toNat = some (t2, n2) ∧ 99 ≤ t2 ∧ (∃ n3 : Nat, T.1 (m ((x0).toNat) 4).toNat = some (100, n3) ∧ (0 ≤ ((n2 : Int) - 1) ∧ ((n2 : Int) - 1) < (n3 : Int) ∧ (T.1 (x0).toNat = some (3, 9) ∧ (wq_41 x0 (m ((m ((x0).toNat) 4).toNat) ((n2 : Int) - 1)) T m (fun r4 m4 => T.1 (x0).toNat = some (3, 9) ∧ (wq_45 x0 T m4 (fun r5 m5 => (r4 ≠ r5 → (Q 0 m5)) ∧ (r4 = r5 → (Q 1 m5)))))))))))))))
def cs_48 : List (Nat × Nat × sFS) := [(41, 1, .inl we_41), (45, 1, .inl we_45)]
theorem cs_48_ok : kCs dC 2 cs_48 := (kCs_c (Or.inr (Or.inl rfl)) (we_41_ok.deep (by decide)) (kCs_c (Or.inr (Or.inl rfl)) (we_45_ok.deep (by decide)) kCs_n))
def lb_48_0 (s : sS) (Q : sQ) (R : Int → hy_m → Prop) (x0 : Int) : Nat → Option (sL → sS → Prop) := sLb []
set_option maxRecDepth 30000 in
set_option maxHeartbeats 1000000 in
theorem wk_48_0 (Q : sQ) (R : Int → hy_m → Prop) (s : sS) (x0 : Int) (hQ : ∀ x m', R x m' → Q x (sM s m')) (hr : sRg [(0, 3, 0)] [x0]) (h : wq_48 x0 s.1 s.2.2.2 R) : kX dC 2 im_m48 2 0 (sCan [(0, 3, 0)] [x0]) [] s Q := by
  unfold wq_48 at h
  refine wz2_ok (cs := cs_48) (wr := []) (lb := lb_48_0 s Q R x0) cs_48_ok kLb_n (okL_can rfl hr) (fun Y hY hl => ?_)
  refine hY _ _ _ _ (?_ : Y 1 [(0, 3, true, x0)] [(3, true, x0)] s)
  refine hY _ _ _ _ ?_
  refine (And.intro h.1 ?_)
  show Y 4 [(0, 3, true, x0)] [(3, true, s.2.2.2 ((x0).toNat) 4)] s
  refine hY _ _ _ _ ?_
  obtain ⟨t1, n1, h⟩ := h.2
  refine Exists.intro t1 (Exists.intro n1 (And.intro h.1 (And.intro h.2.1 ?_)))
  show Y 5 [(0, 3, true, x0)] [(0, true, (n1 : Int))] s
  refine hY _ _ _ _ ?_
  refine And.intro (fun hc => ?_) (fun hc => ?_)
  · have h := h.2.2.1 hc
    refine hY _ _ _ _ (?_ : Y 37 [(0, 3, true, x0)] [(2, true, 0)] s)
    refine hY _ _ _ _ ?_
    exact hQ 0 s.2.2.2 h
  · have h := h.2.2.2 hc
    refine hY _ _ _ _ (hY _ _ _ _ (?_ : Y 10 [(0, 3, true, x0)] [(3, true, x0), (3, true, x0)] s))
    refine hY _ _ _ _ ?_
    refine (And.intro h.1 ?_)
    refine hY _ _ _ _ (?_ : Y 14 [(0, 3, true, x0)] [(3, true, x0), (3, true, s.2.2.2 ((x0).toNat) 4), (3, true, x0)] s)
    refine hY _ _ _ _ ?_
    refine (And.intro h.2.1 ?_)
    show Y 17 [(0, 3, true, x0)] [(3, true, s.2.2.2 ((x0).toNat) 4), (3, true, s.2.2.2 ((x0).toNat) 4), (3, true, x0)] s
    refine hY _ _ _ _ ?_
    obtain ⟨t2, n2, h⟩ := h.2.2
    refine Exists.intro t2 (Exists.intro n2 (And.intro h.1 (And.intro h.2.1 ?_)))
    refine hY _ _ _ _ (hY _ _ _ _ (?_ : Y 20 [(0, 3, true, x0)] [(0, false, (n2 : Int) - 1), (3, true, s.2.2.2 ((x0).toNat) 4), (3, true, x0)] s))
    refine hY _ _ _ _ ?_
    obtain ⟨n3, h⟩ := h.2.2
    refine Exists.intro n3 (And.intro h.1 ?_)
    refine (And.intro h.2.1 (And.intro h.2.2.1 ?_))
    show Y 21 [(0, 3, true, x0)] [(0, true, s.2.2.2 ((s.2.2.2 ((x0).toNat) 4).toNat) ((n2 : Int) - 1)), (3, true, x0)] s
    refine hY _ _ _ _ ?_
    refine (And.intro h.2.2.2.1 ?_)
    refine Exists.intro _ (And.intro (wc_41_3t_0t x0 (s.2.2.2 ((s.2.2.2 ((x0).toNat) 4).toNat) ((n2 : Int) - 1)) _ _ h.2.2.2.2) (fun r4 m4 h => ?_))
    refine hY _ _ _ _ (?_ : Y 25 [(0, 3, true, x0)] [(3, true, x0), (1, true, r4)] (sM s m4))
    refine hY _ _ _ _ ?_
    refine (And.intro h.1 ?_)
    refine Exists.intro _ (And.intro (wc_45_3t x0 _ _ h.2) (fun r5 m5 h => ?_))
    show Y 28 [(0, 3, true, x0)] [(1, true, r5), (1, true, r4)] (sM s m5)
    refine hY _ _ _ _ ?_
    refine And.intro (fun hc => ?_) (fun hc => ?_)
    · have h := h.1 hc
      refine hY _ _ _ _ (?_ : Y 37 [(0, 3, true, x0)] [(2, true, 0)] (sM s m5))
      refine hY _ _ _ _ ?_
      exact hQ 0 m5 h
    · have h := h.2 hc
      refine hY _ _ _ _ (hY _ _ _ _ (?_ : Y 37 [(0, 3, true, x0)] [(2, true, 1)] (sM s m5)))
      refine hY _ _ _ _ ?_
      exact hQ 1 m5 h
def we_48 : sFf := sEf 1 [(0, 3, 0)] (fun xs s Q => ap1 (fun x0 => wq_48 x0 s.1 s.2.2.2 Q) xs)
theorem we_48_ok : kS dC 3 48 2 (.inl we_48) := sEf_ok (mi := im_m48) rfl rfl rfl (fun R xs s r1 hb => by obtain ⟨x0, rfl, hb⟩ := ap1_ok hb; exact wk_48_0 _ R s x0 (fun x m' hx => ⟨m', rfl, hx⟩) r1 hb)
/-- LM$Search.triesOf(I)I -/
def wq_105 (x1 : Int) (m : hy_m) (Q : Int → hy_m → Prop) : Prop := ((m 36 10) = 0 → (Q 0 m)) ∧ ((m 36 10) ≠ 0 → ((x1 < 0 → (Q 0 m)) ∧ (0 ≤ x1 → ((x1 < 20 → (0 ≤ x1 ∧ x1 < 20 ∧ (Q (m 39 x1) m))) ∧ (20 ≤ x1 → (Q 0 m))))))
def cs_105 : List (Nat × Nat × sFS) := []
theorem cs_105_ok : kCs dC 0 cs_105 := kCs_n
def lb_105_0 (s : sS) (Q : sQ) (R : Int → hy_m → Prop) (x1 : Int) : Nat → Option (sL → sS → Prop) := sLb []
set_option maxRecDepth 30000 in
set_option maxHeartbeats 1000000 in
theorem wk_105_0 (Q : sQ) (R : Int → hy_m → Prop) (s : sS) (x1 : Int) (hQ : ∀ x m', R x m' → Q x (sM s m')) (hr : sRg [(0, 5, 36), (1, 0, 0)] [x1]) (h : wq_105 x1 s.2.2.2 R) : kX dC 0 im_m105 0 0 (sCan [(0, 5, 36), (1, 0, 0)] [x1]) [] s Q := by
  unfold wq_105 at h
  refine wz2_ok (cs := cs_105) (wr := []) (lb := lb_105_0 s Q R x1) cs_105_ok kLb_n (okL_can rfl hr) (fun Y hY hl => ?_)
  refine hY _ _ _ _ (hY _ _ _ _ (?_ : Y 4 [(0, 5, true, 36), (1, 0, true, x1)] [(0, true, s.2.2.2 36 10)] s))
  refine hY _ _ _ _ ?_
  refine And.intro (fun hc => ?_) (fun hc => ?_)
  · have h := h.1 hc
    refine hY _ _ _ _ (hY _ _ _ _ (?_ : Y 30 [(0, 5, true, 36), (1, 0, true, x1)] [(2, true, 0)] s))
    refine hY _ _ _ _ ?_
    exact hQ 0 s.2.2.2 h
  · have h := h.2 hc
    refine hY _ _ _ _ (?_ : Y 8 [(0, 5, true, 36), (1, 0, true, x1)] [(0, true, x1)] s)
    refine hY _ _ _ _ ?_
    refine And.intro (fun hc => ?_) (fun hc => ?_)
    · have h := h.1 hc
      refine hY _ _ _ _ (hY _ _ _ _ (?_ : Y 30 [(0, 5, true, 36), (1, 0, true, x1)] [(2, true, 0)] s))
      refine hY _ _ _ _ ?_
      exact hQ 0 s.2.2.2 h
    · have h := h.2 hc
      refine hY _ _ _ _ (hY _ _ _ _ (hY _ _ _ _ (?_ : Y 16 [(0, 5, true, 36), (1, 0, true, x1)] [(5, true, 39), (0, true, x1)] s)))
      refine hY _ _ _ _ (?_ : Y 17 [(0, 5, true, 36), (1, 0, true, x1)] [(0, true, 20), (0, true, x1)] s)
      refine hY _ _ _ _ ?_
      refine And.intro (fun hc => ?_) (fun hc => ?_)
      · have h := h.1 hc
        refine hY _ _ _ _ (hY _ _ _ _ (hY _ _ _ _ (?_ : Y 29 [(0, 5, true, 36), (1, 0, true, x1)] [(0, true, x1), (5, true, 39)] s)))
        refine hY _ _ _ _ ?_
        refine (And.intro h.1 (And.intro h.2.1 ?_))
        show Y 30 [(0, 5, true, 36), (1, 0, true, x1)] [(0, true, s.2.2.2 39 x1)] s
        refine hY _ _ _ _ ?_
        exact hQ (s.2.2.2 39 x1) s.2.2.2 h.2.2
      · have h := h.2 hc
        refine hY _ _ _ _ (hY _ _ _ _ (?_ : Y 30 [(0, 5, true, 36), (1, 0, true, x1)] [(2, true, 0)] s))
        refine hY _ _ _ _ ?_
        exact hQ 0 s.2.2.2 h
def we_105 : sFf := sEf 2 [(0, 5, 36), (1, 0, 0)] (fun xs s Q => ap1 (fun x1 => wq_105 x1 s.2.2.2 Q) xs)
theorem we_105_ok : kS dC 1 105 0 (.inl we_105) := sEf_ok (mi := im_m105) rfl rfl rfl (fun R xs s r1 hb => by obtain ⟨x1, rfl, hb⟩ := ap1_ok hb; exact wk_105_0 _ R s x1 (fun x m' hx => ⟨m', rfl, hx⟩) r1 hb)
/-- LM$Search.matchesOf(I)I -/
def wq_106 (x1 : Int) (m : hy_m) (Q : Int → hy_m → Prop) : Prop := ((m 36 10) = 0 → (Q 0 m)) ∧ ((m 36 10) ≠ 0 → ((x1 < 0 → (Q 0 m)) ∧ (0 ≤ x1 → ((x1 < 20 → (0 ≤ x1 ∧ x1 < 20 ∧ (Q (m 40 x1) m))) ∧ (20 ≤ x1 → (Q 0 m))))))
def cs_106 : List (Nat × Nat × sFS) := []
theorem cs_106_ok : kCs dC 0 cs_106 := kCs_n
def lb_106_0 (s : sS) (Q : sQ) (R : Int → hy_m → Prop) (x1 : Int) : Nat → Option (sL → sS → Prop) := sLb []
set_option maxRecDepth 30000 in
set_option maxHeartbeats 1000000 in
theorem wk_106_0 (Q : sQ) (R : Int → hy_m → Prop) (s : sS) (x1 : Int) (hQ : ∀ x m', R x m' → Q x (sM s m')) (hr : sRg [(0, 5, 36), (1, 0, 0)] [x1]) (h : wq_106 x1 s.2.2.2 R) : kX dC 0 im_m106 0 0 (sCan [(0, 5, 36), (1, 0, 0)] [x1]) [] s Q := by
  unfold wq_106 at h
  refine wz2_ok (cs := cs_106) (wr := []) (lb := lb_106_0 s Q R x1) cs_106_ok kLb_n (okL_can rfl hr) (fun Y hY hl => ?_)
  refine hY _ _ _ _ (hY _ _ _ _ (?_ : Y 4 [(0, 5, true, 36), (1, 0, true, x1)] [(0, true, s.2.2.2 36 10)] s))
  refine hY _ _ _ _ ?_
  refine And.intro (fun hc => ?_) (fun hc => ?_)
  · have h := h.1 hc
    refine hY _ _ _ _ (hY _ _ _ _ (?_ : Y 30 [(0, 5, true, 36), (1, 0, true, x1)] [(2, true, 0)] s))
    refine hY _ _ _ _ ?_
    exact hQ 0 s.2.2.2 h
  · have h := h.2 hc
    refine hY _ _ _ _ (?_ : Y 8 [(0, 5, true, 36), (1, 0, true, x1)] [(0, true, x1)] s)
    refine hY _ _ _ _ ?_
    refine And.intro (fun hc => ?_) (fun hc => ?_)
    · have h := h.1 hc
      refine hY _ _ _ _ (hY _ _ _ _ (?_ : Y 30 [(0, 5, true, 36), (1, 0, true, x1)] [(2, true, 0)] s))
      refine hY _ _ _ _ ?_
      exact hQ 0 s.2.2.2 h
    · have h := h.2 hc
      refine hY _ _ _ _ (hY _ _ _ _ (hY _ _ _ _ (?_ : Y 16 [(0, 5, true, 36), (1, 0, true, x1)] [(5, true, 40), (0, true, x1)] s)))
      refine hY _ _ _ _ (?_ : Y 17 [(0, 5, true, 36), (1, 0, true, x1)] [(0, true, 20), (0, true, x1)] s)
      refine hY _ _ _ _ ?_
      refine And.intro (fun hc => ?_) (fun hc => ?_)
      · have h := h.1 hc
        refine hY _ _ _ _ (hY _ _ _ _ (hY _ _ _ _ (?_ : Y 29 [(0, 5, true, 36), (1, 0, true, x1)] [(0, true, x1), (5, true, 40)] s)))
        refine hY _ _ _ _ ?_
        refine (And.intro h.1 (And.intro h.2.1 ?_))
        show Y 30 [(0, 5, true, 36), (1, 0, true, x1)] [(0, true, s.2.2.2 40 x1)] s
        refine hY _ _ _ _ ?_
        exact hQ (s.2.2.2 40 x1) s.2.2.2 h.2.2
      · have h := h.2 hc
        refine hY _ _ _ _ (hY _ _ _ _ (?_ : Y 30 [(0, 5, true, 36), (1, 0, true, x1)] [(2, true, 0)] s))
        refine hY _ _ _ _ ?_
        exact hQ 0 s.2.2.2 h
def we_106 : sFf := sEf 2 [(0, 5, 36), (1, 0, 0)] (fun xs s Q => ap1 (fun x1 => wq_106 x1 s.2.2.2 Q) xs)
theorem we_106_ok : kS dC 1 106 0 (.inl we_106) := sEf_ok (mi := im_m106) rfl rfl rfl (fun R xs s r1 hb => by obtain ⟨x1, rfl, hb⟩ := ap1_ok hb; exact wk_106_0 _ R s x1 (fun x m' hx => ⟨m', rfl, hx⟩) r1 hb)
/-- LM.clause(II)I -/
def wq_9 (x1 : Int) (x2 : Int) (T : hy_T) (m : hy_m) (Q : Int → hy_m → Prop) : Prop := wq_52 21 x1 T m (fun r1 m1 => (r1 = 0 → (Q (-1) m1)) ∧ (r1 ≠ 0 → ((x2 < 0 → (Q (-1) m1)) ∧ (0 ≤ x2 → ((x2 ≤ 7 → (wq_53 21 x1 T m1 (fun r2 m2 => ((x2 = 0 + 0 → (T.1 (r2).toNat = some (3, 9) ∧ (∃ t3 n3 : Nat, T.1 (m2 ((r2).toNat) 4).toNat = some (t3, n3) ∧ 99 ≤ t3 ∧ (Q (n3 : Int) m2)))) ∧ ((x2 = 0 + 1 → (T.1 (r2).toNat = some (3, 9) ∧ (Q (m2 ((r2).toNat) 5) m2))) ∧ ((x2 = 0 + 2 → (T.1 (r2).toNat = some (3, 9) ∧ (Q (m2 ((r2).toNat) 6) m2))) ∧ ((x2 = 0 + 3 → (T.1 (r2).toNat = some (3, 9) ∧ (wq_45 r2 T m2 (fun r4 m4 => wq_58 21 r4 T m4 (fun r5 m5 => Q r5 m5))))) ∧ ((x2 = 0 + 4 → (T.1 (r2).toNat = some (3, 9) ∧ (wq_46 r2 T m2 (fun r6 m6 => Q r6 m6)))) ∧ ((x2 = 0 + 5 → (T.1 (r2).toNat = some (3, 9) ∧ (wq_48 r2 T m2 (fun r7 m7 => (r7 = 0 → (Q 0 m7)) ∧ (r7 ≠ 0 → (Q 1 m7)))))) ∧ ((x2 = 0 + 6 → (wq_105 x1 m2 (fun r8 m8 => Q r8 m8))) ∧ (True)))))))) ∧ (x2 < 0 ∨ 6 < x2 → (wq_106 x1 m2 (fun r9 m9 => Q r9 m9)))))) ∧ (7 < x2 → (Q (-1) m1)))))))
theorem wc_53_r21_0t (x1 : Int) (s : sS) (R : Int → hy_m → Prop) (h : wq_53 21 x1 s.1 s.2.2.2 R) : we_53 [(5, true, 21), (0, true, x1)] s R := h
theorem wc_58_r21_1t (x1 : Int) (s : sS) (R : Int → hy_m → Prop) (h : wq_58 21 x1 s.1 s.2.2.2 R) : we_58 [(5, true, 21), (1, true, x1)] s R := h
theorem wc_46_3t (x0 : Int) (s : sS) (R : Int → hy_m → Prop) (h : wq_46 x0 s.1 s.2.2.2 R) : we_46 [(3, true, x0)] s R := h
theorem wc_48_3t (x0 : Int) (s : sS) (R : Int → hy_m → Prop) (h : wq_48 x0 s.1 s.2.2.2 R) : we_48 [(3, true, x0)] s R := h
theorem wc_105_r36_0t (x1 : Int) (s : sS) (R : Int → hy_m → Prop) (h : wq_105 x1 s.2.2.2 R) : we_105 [(5, true, 36), (0, true, x1)] s R := h
theorem wc_106_r36_0t (x1 : Int) (s : sS) (R : Int → hy_m → Prop) (h : wq_106 x1 s.2.2.2 R) : we_106 [(5, true, 36), (0, true, x1)] s R := h
def cs_9 : List (Nat × Nat × sFS) := [(45, 1, .inl we_45), (46, 0, .inl we_46), (48, 2, .inl we_48), (52, 2, .inl we_52), (53, 3, .inl we_53), (58, 0, .inl we_58), (105, 0, .inl we_105), (106, 0, .inl we_106)]
theorem cs_9_ok : kCs dC 4 cs_9 := (kCs_c (Or.inr (Or.inl rfl)) (we_45_ok.deep (by decide)) (kCs_c (Or.inl rfl) (we_46_ok.deep (by decide)) (kCs_c (Or.inr (Or.inr (Or.inl rfl))) (we_48_ok.deep (by decide)) (kCs_c (Or.inr (Or.inr (Or.inl rfl))) (we_52_ok.deep (by decide)) (kCs_c (Or.inr (Or.inr (Or.inr (Or.inl rfl)))) (we_53_ok.deep (by decide)) (kCs_c (Or.inl rfl) (we_58_ok.deep (by decide)) (kCs_c (Or.inl rfl) (we_105_ok.deep (by decide)) (kCs_c (Or.inl rfl) (we_106_ok.deep (by decide)) kCs_n))))))))
def lb_9_0 (s : sS) (Q : sQ) (R : Int → hy_m → Prop) (x1 : Int) (x2 : Int) : Nat → Option (sL → sS → Prop) := sLb []
set_option maxRecDepth 30000 in
set_option maxHeartbeats 1000000 in
theorem wk_9_0 (Q : sQ) (R : Int → hy_m → Prop) (s : sS) (x1 : Int) (x2 : Int) (hQ : ∀ x m', R x m' → Q x (sM s m')) (hr : sRg [(0, 5, 1), (1, 0, 0), (2, 0, 0)] [x1, x2]) (h : wq_9 x1 x2 s.1 s.2.2.2 R) : kX dC 4 im_m9 0 0 (sCan [(0, 5, 1), (1, 0, 0), (2, 0, 0)] [x1, x2]) [] s Q := by
  unfold wq_9 at h
  refine wz2_ok (cs := cs_9) (wr := []) (lb := lb_9_0 s Q R x1 x2) cs_9_ok kLb_n (okL_can rfl hr) (fun Y hY hl => ?_)
  refine hY _ _ _ _ (hY _ _ _ _ (hY _ _ _ _ (?_ : Y 5 [(0, 5, true, 1), (1, 0, true, x1), (2, 0, true, x2)] [(0, true, x1), (5, true, 21)] s)))
  refine hY _ _ _ _ ?_
  refine Exists.intro _ (And.intro (wc_52_r21_0t x1 _ _ h) (fun r1 m1 h => ?_))
  show Y 8 [(0, 5, true, 1), (1, 0, true, x1), (2, 0, true, x2)] [(2, true, r1)] (sM s m1)
  refine hY _ _ _ _ ?_
  refine And.intro (fun hc => ?_) (fun hc => ?_)
  · have h := h.1 hc
    refine hY _ _ _ _ (?_ : Y 22 [(0, 5, true, 1), (1, 0, true, x1), (2, 0, true, x2)] [(0, true, (-1))] (sM s m1))
    refine hY _ _ _ _ ?_
    exact hQ (-1) m1 h
  · have h := h.2 hc
    refine hY _ _ _ _ (?_ : Y 12 [(0, 5, true, 1), (1, 0, true, x1), (2, 0, true, x2)] [(0, true, x2)] (sM s m1))
    refine hY _ _ _ _ ?_
    refine And.intro (fun hc => ?_) (fun hc => ?_)
    · have h := h.1 hc
      refine hY _ _ _ _ (?_ : Y 22 [(0, 5, true, 1), (1, 0, true, x1), (2, 0, true, x2)] [(0, true, (-1))] (sM s m1))
      refine hY _ _ _ _ ?_
      exact hQ (-1) m1 h
    · have h := h.2 hc
      refine hY _ _ _ _ (hY _ _ _ _ (?_ : Y 18 [(0, 5, true, 1), (1, 0, true, x1), (2, 0, true, x2)] [(0, true, 7), (0, true, x2)] (sM s m1)))
      refine hY _ _ _ _ ?_
      refine And.intro (fun hc => ?_) (fun hc => ?_)
      · have h := h.1 hc
        refine hY _ _ _ _ (hY _ _ _ _ (hY _ _ _ _ (?_ : Y 28 [(0, 5, true, 1), (1, 0, true, x1), (2, 0, true, x2)] [(0, true, x1), (5, true, 21)] (sM s m1))))
        refine hY _ _ _ _ ?_
        refine Exists.intro _ (And.intro (wc_53_r21_0t x1 _ _ h) (fun r2 m2 h => ?_))
        refine hY _ _ _ _ (hY _ _ _ _ (?_ : Y 33 [(3, 3, true, r2), (0, 5, true, 1), (1, 0, true, x1), (2, 0, true, x2)] [(0, true, x2)] (sM s m2)))
        refine hY _ _ _ _ ?_
        refine And.intro (And.intro (fun hc => ?_) (And.intro (fun hc => ?_) (And.intro (fun hc => ?_) (And.intro (fun hc => ?_) (And.intro (fun hc => ?_) (And.intro (fun hc => ?_) (And.intro (fun hc => ?_) trivial))))))) (fun hc => ?_)
        · have h := h.1.1 hc
          refine hY _ _ _ _ (?_ : Y 77 [(3, 3, true, r2), (0, 5, true, 1), (1, 0, true, x1), (2, 0, true, x2)] [(3, true, r2)] (sM s m2))
          refine hY _ _ _ _ ?_
          refine (And.intro h.1 ?_)
          show Y 80 [(3, 3, true, r2), (0, 5, true, 1), (1, 0, true, x1), (2, 0, true, x2)] [(3, true, m2 ((r2).toNat) 4)] (sM s m2)
          refine hY _ _ _ _ ?_
          obtain ⟨t3, n3, h⟩ := h.2
          refine Exists.intro t3 (Exists.intro n3 (And.intro h.1 (And.intro h.2.1 ?_)))
          show Y 81 [(3, 3, true, r2), (0, 5, true, 1), (1, 0, true, x1), (2, 0, true, x2)] [(0, true, (n3 : Int))] (sM s m2)
          refine hY _ _ _ _ ?_
          exact hQ (n3 : Int) m2 h.2.2
        · have h := h.1.2.1 hc
          refine hY _ _ _ _ (?_ : Y 83 [(3, 3, true, r2), (0, 5, true, 1), (1, 0, true, x1), (2, 0, true, x2)] [(3, true, r2)] (sM s m2))
          refine hY _ _ _ _ ?_
          refine (And.intro h.1 ?_)
          show Y 86 [(3, 3, true, r2), (0, 5, true, 1), (1, 0, true, x1), (2, 0, true, x2)] [(0, true, m2 ((r2).toNat) 5)] (sM s m2)
          refine hY _ _ _ _ ?_
          exact hQ (m2 ((r2).toNat) 5) m2 h.2
        · have h := h.1.2.2.1 hc
          refine hY _ _ _ _ (?_ : Y 88 [(3, 3, true, r2), (0, 5, true, 1), (1, 0, true, x1), (2, 0, true, x2)] [(3, true, r2)] (sM s m2))
          refine hY _ _ _ _ ?_
          refine (And.intro h.1 ?_)
          show Y 91 [(3, 3, true, r2), (0, 5, true, 1), (1, 0, true, x1), (2, 0, true, x2)] [(0, true, m2 ((r2).toNat) 6)] (sM s m2)
          refine hY _ _ _ _ ?_
          exact hQ (m2 ((r2).toNat) 6) m2 h.2
        · have h := h.1.2.2.2.1 hc
          refine hY _ _ _ _ (hY _ _ _ _ (hY _ _ _ _ (?_ : Y 97 [(3, 3, true, r2), (0, 5, true, 1), (1, 0, true, x1), (2, 0, true, x2)] [(3, true, r2), (5, true, 21)] (sM s m2))))
          refine hY _ _ _ _ ?_
          refine (And.intro h.1 ?_)
          refine Exists.intro _ (And.intro (wc_45_3t r2 _ _ h.2) (fun r4 m4 h => ?_))
          show Y 100 [(3, 3, true, r2), (0, 5, true, 1), (1, 0, true, x1), (2, 0, true, x2)] [(1, true, r4), (5, true, 21)] (sM s m4)
          refine hY _ _ _ _ ?_
          refine Exists.intro _ (And.intro (wc_58_r21_1t r4 _ _ h) (fun r5 m5 h => ?_))
          show Y 103 [(3, 3, true, r2), (0, 5, true, 1), (1, 0, true, x1), (2, 0, true, x2)] [(0, true, r5)] (sM s m5)
          refine hY _ _ _ _ ?_
          exact hQ r5 m5 h
        · have h := h.1.2.2.2.2.1 hc
          refine hY _ _ _ _ (?_ : Y 105 [(3, 3, true, r2), (0, 5, true, 1), (1, 0, true, x1), (2, 0, true, x2)] [(3, true, r2)] (sM s m2))
          refine hY _ _ _ _ ?_
          refine (And.intro h.1 ?_)
          refine Exists.intro _ (And.intro (wc_46_3t r2 _ _ h.2) (fun r6 m6 h => ?_))
          show Y 108 [(3, 3, true, r2), (0, 5, true, 1), (1, 0, true, x1), (2, 0, true, x2)] [(0, true, r6)] (sM s m6)
          refine hY _ _ _ _ ?_
          exact hQ r6 m6 h
        · have h := h.1.2.2.2.2.2.1 hc
          refine hY _ _ _ _ (?_ : Y 110 [(3, 3, true, r2), (0, 5, true, 1), (1, 0, true, x1), (2, 0, true, x2)] [(3, true, r2)] (sM s m2))
          refine hY _ _ _ _ ?_
          refine (And.intro h.1 ?_)
          refine Exists.intro _ (And.intro (wc_48_3t r2 _ _ h.2) (fun r7 m7 h => ?_))
          show Y 113 [(3, 3, true, r2), (0, 5, true, 1), (1, 0, true, x1), (2, 0, true, x2)] [(2, true, r7)] (sM s m7)
          refine hY _ _ _ _ ?_
          refine And.intro (fun hc => ?_) (fun hc => ?_)
          · have h := h.1 hc
            refine hY _ _ _ _ (?_ : Y 121 [(3, 3, true, r2), (0, 5, true, 1), (1, 0, true, x1), (2, 0, true, x2)] [(2, true, 0)] (sM s m7))
            refine hY _ _ _ _ ?_
            exact hQ 0 m7 h
          · have h := h.2 hc
            refine hY _ _ _ _ (hY _ _ _ _ (?_ : Y 121 [(3, 3, true, r2), (0, 5, true, 1), (1, 0, true, x1), (2, 0, true, x2)] [(2, true, 1)] (sM s m7)))
            refine hY _ _ _ _ ?_
            exact hQ 1 m7 h
        · have h := h.1.2.2.2.2.2.2.1 hc
          refine hY _ _ _ _ (hY _ _ _ _ (hY _ _ _ _ (?_ : Y 127 [(3, 3, true, r2), (0, 5, true, 1), (1, 0, true, x1), (2, 0, true, x2)] [(0, true, x1), (5, true, 36)] (sM s m2))))
          refine hY _ _ _ _ ?_
          refine Exists.intro _ (And.intro (wc_105_r36_0t x1 _ _ h) (fun r8 m8 h => ?_))
          show Y 130 [(3, 3, true, r2), (0, 5, true, 1), (1, 0, true, x1), (2, 0, true, x2)] [(0, true, r8)] (sM s m8)
          refine hY _ _ _ _ ?_
          exact hQ r8 m8 h
        · have h := h.2 hc
          refine hY _ _ _ _ (hY _ _ _ _ (hY _ _ _ _ (?_ : Y 136 [(3, 3, true, r2), (0, 5, true, 1), (1, 0, true, x1), (2, 0, true, x2)] [(0, true, x1), (5, true, 36)] (sM s m2))))
          refine hY _ _ _ _ ?_
          refine Exists.intro _ (And.intro (wc_106_r36_0t x1 _ _ h) (fun r9 m9 h => ?_))
          show Y 139 [(3, 3, true, r2), (0, 5, true, 1), (1, 0, true, x1), (2, 0, true, x2)] [(0, true, r9)] (sM s m9)
          refine hY _ _ _ _ ?_
          exact hQ r9 m9 h
      · have h := h.2 hc
        refine hY _ _ _ _ (?_ : Y 22 [(0, 5, true, 1), (1, 0, true, x1), (2, 0, true, x2)] [(0, true, (-1))] (sM s m1))
        refine hY _ _ _ _ ?_
        exact hQ (-1) m1 h
def we_9 : sFf := sEf 4 [(0, 5, 1), (1, 0, 0), (2, 0, 0)] (fun xs s Q => ap2 (fun x1 x2 => wq_9 x1 x2 s.1 s.2.2.2 Q) xs)
theorem we_9_ok : kS dC 5 9 0 (.inl we_9) := sEf_ok (mi := im_m9) rfl rfl rfl (fun R xs s r1 hb => by obtain ⟨x1, x2, rfl, hb⟩ := ap2_ok hb; exact wk_9_0 _ R s x1 x2 (fun x m' hx => ⟨m', rfl, hx⟩) r1 hb)
/-- LM$Writer.restart()V -/
def wq_156 (m : hy_m) (Q : Int → hy_m → Prop) : Prop := Q 0 (hy_u (hy_u m 69 2 0) 69 4 0)
def cs_156 : List (Nat × Nat × sFS) := []
theorem cs_156_ok : kCs dC 0 cs_156 := kCs_n
def lb_156_0 (s : sS) (Q : sQ) (R : Int → hy_m → Prop) : Nat → Option (sL → sS → Prop) := sLb []
set_option maxRecDepth 30000 in
set_option maxHeartbeats 1000000 in
theorem wk_156_0 (Q : sQ) (R : Int → hy_m → Prop) (s : sS) (hQ : ∀ x m', R x m' → Q x (sM s m')) (hr : sRg [(0, 5, 69)] []) (h : wq_156 s.2.2.2 R) : kX dC 0 im_m156 9 0 (sCan [(0, 5, 69)] []) [] s Q := by
  unfold wq_156 at h
  refine wz2_ok (cs := cs_156) (wr := []) (lb := lb_156_0 s Q R) cs_156_ok kLb_n (okL_can rfl hr) (fun Y hY hl => ?_)
  refine hY _ _ _ _ (hY _ _ _ _ (?_ : Y 2 [(0, 5, true, 69)] [(2, true, 0), (5, true, 69)] s))
  refine hY _ _ _ _ ?_
  refine hY _ _ _ _ (hY _ _ _ _ (?_ : Y 7 [(0, 5, true, 69)] [(2, true, 0), (5, true, 69)] (sM s (hy_u s.2.2.2 69 2 0))))
  refine hY _ _ _ _ ?_
  show Y 10 [(0, 5, true, 69)] [] (sM s (hy_u (hy_u s.2.2.2 69 2 0) 69 4 0))
  refine hY _ _ _ _ ?_
  exact hQ 0 (hy_u (hy_u s.2.2.2 69 2 0) 69 4 0) h
def we_156 : sFf := sEf 1 [(0, 5, 69)] (fun xs s Q => ap0 (wq_156 s.2.2.2 Q) xs)
theorem we_156_ok : kS dC 1 156 9 (.inl we_156) := sEf_ok (mi := im_m156) rfl rfl rfl (fun R xs s r1 hb => by obtain ⟨rfl, hb⟩ := ap0_ok hb; exact wk_156_0 _ R s (fun x m' hx => ⟨m', rfl, hx⟩) r1 hb)
/-- LM$Store.put(ILLogicMachine$Clause;I)I -/
def wq_118 (x1 : Int) (x2 : Int) (x3 : Int) (T : hy_T) (m : hy_m) (Q : Int → hy_m → Prop) : Prop := (x1 < 0 → (hy_r 0 (x1 * 128) ∧ (Q (x1 * 128) m))) ∧ (0 ≤ x1 → (∃ t1 n1 : Nat, T.1 (m 41 1).toNat = some (t1, n1) ∧ 99 ≤ t1 ∧ (((n1 : Int) ≤ x1 → (hy_r 0 (x1 * 128) ∧ (Q (x1 * 128) m))) ∧ (x1 < (n1 : Int) → (∃ t2 n2 : Nat, T.1 (m 41 1).toNat = some (t2, n2) ∧ 110 ≤ t2 ∧ (0 ≤ x1 ∧ x1 < (n2 : Int) ∧ ((x2 = 0 ∨ ∃ nv, T.1 (x2).toNat = some (t2 - 110, nv) ∧ t2 < 160) ∧ (∃ n3 : Nat, T.1 ((hy_u m ((m 41 1).toNat) x1 x2) 41 2).toNat = some (100, n3) ∧ (0 ≤ x1 ∧ x1 < (n3 : Int) ∧ (hy_r 0 (x1 * 8) ∧ (hy_r 0 ((x1 + 1) * 8) ∧ (wq_303 ((hy_u (hy_u m ((m 41 1).toNat) x1 x2) (((hy_u m ((m 41 1).toNat) x1 x2) 41 2).toNat) x1 x3) 41 4) (x1 * 8) ((x1 + 1) * 8) (-1) T (hy_u (hy_u m ((m 41 1).toNat) x1 x2) (((hy_u m ((m 41 1).toNat) x1 x2) 41 2).toNat) x1 x3) (fun _ m4 => hy_r 0 (x1 * 128) ∧ (Q (x1 * 128) m4))))))))))))))
theorem wc_303_3t_0f_0f_0t (x0 : Int) (x1 : Int) (x2 : Int) (x3 : Int) (s : sS) (R : Int → hy_m → Prop) (h : hy_r 0 x1 ∧ hy_r 0 x2 ∧ wq_303 x0 x1 x2 x3 s.1 s.2.2.2 R) : we_303 [(3, true, x0), (0, false, x1), (0, false, x2), (0, true, x3)] s R := h
def cs_118 : List (Nat × Nat × sFS) := [(303, 9, .inl we_303)]
theorem cs_118_ok : kCs dC 2 cs_118 := (kCs_c (Or.inr (Or.inr (Or.inr (Or.inr rfl)))) (we_303_ok.deep (by decide)) kCs_n)
def lb_118_0 (s : sS) (Q : sQ) (R : Int → hy_m → Prop) (x1 : Int) (x2 : Int) (x3 : Int) : Nat → Option (sL → sS → Prop) := sLb []
set_option maxRecDepth 30000 in
set_option maxHeartbeats 1000000 in
theorem wk_118_0 (Q : sQ) (R : Int → hy_m → Prop) (s : sS) (x1 : Int) (x2 : Int) (x3 : Int) (hQ : ∀ x m', R x m' → Q x (sM s m')) (hr : sRg [(0, 5, 41), (1, 0, 0), (2, 3, 0), (3, 0, 0)] [x1, x2, x3]) (h : wq_118 x1 x2 x3 s.1 s.2.2.2 R) : kX dC 2 im_m118 0 0 (sCan [(0, 5, 41), (1, 0, 0), (2, 3, 0), (3, 0, 0)] [x1, x2, x3]) [] s Q := by
  unfold wq_118 at h
  refine wz2_ok (cs := cs_118) (wr := []) (lb := lb_118_0 s Q R x1 x2 x3) cs_118_ok kLb_n (okL_can rfl hr) (fun Y hY hl => ?_)
  refine hY _ _ _ _ (?_ : Y 1 [(0, 5, true, 41), (1, 0, true, x1), (2, 3, true, x2), (3, 0, true, x3)] [(0, true, x1)] s)
  refine hY _ _ _ _ ?_
  refine And.intro (fun hc => ?_) (fun hc => ?_)
  · have h := h.1 hc
    refine hY _ _ _ _ (hY _ _ _ _ (hY _ _ _ _ (?_ : Y 50 [(0, 5, true, 41), (1, 0, true, x1), (2, 3, true, x2), (3, 0, true, x3)] [(0, false, x1 * 128)] s)))
    refine hY _ _ _ _ ?_
    refine And.intro h.1 ?_
    exact hQ (x1 * 128) s.2.2.2 h.2
  · have h := h.2 hc
    refine hY _ _ _ _ (hY _ _ _ _ (hY _ _ _ _ (?_ : Y 9 [(0, 5, true, 41), (1, 0, true, x1), (2, 3, true, x2), (3, 0, true, x3)] [(3, true, s.2.2.2 41 1), (0, true, x1)] s)))
    refine hY _ _ _ _ ?_
    obtain ⟨t1, n1, h⟩ := h
    refine Exists.intro t1 (Exists.intro n1 (And.intro h.1 (And.intro h.2.1 ?_)))
    show Y 10 [(0, 5, true, 41), (1, 0, true, x1), (2, 3, true, x2), (3, 0, true, x3)] [(0, true, (n1 : Int)), (0, true, x1)] s
    refine hY _ _ _ _ ?_
    refine And.intro (fun hc => ?_) (fun hc => ?_)
    · have h := h.2.2.1 hc
      refine hY _ _ _ _ (hY _ _ _ _ (hY _ _ _ _ (?_ : Y 50 [(0, 5, true, 41), (1, 0, true, x1), (2, 3, true, x2), (3, 0, true, x3)] [(0, false, x1 * 128)] s)))
      refine hY _ _ _ _ ?_
      refine And.intro h.1 ?_
      exact hQ (x1 * 128) s.2.2.2 h.2
    · have h := h.2.2.2 hc
      refine hY _ _ _ _ (hY _ _ _ _ (hY _ _ _ _ (?_ : Y 18 [(0, 5, true, 41), (1, 0, true, x1), (2, 3, true, x2), (3, 0, true, x3)] [(0, true, x1), (3, true, s.2.2.2 41 1)] s)))
      refine hY _ _ _ _ (?_ : Y 19 [(0, 5, true, 41), (1, 0, true, x1), (2, 3, true, x2), (3, 0, true, x3)] [(3, true, x2), (0, true, x1), (3, true, s.2.2.2 41 1)] s)
      refine hY _ _ _ _ ?_
      obtain ⟨t2, n2, h⟩ := h
      refine Exists.intro t2 (Exists.intro n2 (And.intro h.1 (And.intro h.2.1 ?_)))
      refine (And.intro h.2.2.1 (And.intro h.2.2.2.1 ?_))
      refine (And.intro h.2.2.2.2.1 ?_)
      refine hY _ _ _ _ (hY _ _ _ _ (hY _ _ _ _ (?_ : Y 25 [(0, 5, true, 41), (1, 0, true, x1), (2, 3, true, x2), (3, 0, true, x3)] [(0, true, x1), (3, true, (hy_u s.2.2.2 ((s.2.2.2 41 1).toNat) x1 x2) 41 2)] (sM s (hy_u s.2.2.2 ((s.2.2.2 41 1).toNat) x1 x2)))))
      refine hY _ _ _ _ (?_ : Y 26 [(0, 5, true, 41), (1, 0, true, x1), (2, 3, true, x2), (3, 0, true, x3)] [(0, true, x3), (0, true, x1), (3, true, (hy_u s.2.2.2 ((s.2.2.2 41 1).toNat) x1 x2) 41 2)] (sM s (hy_u s.2.2.2 ((s.2.2.2 41 1).toNat) x1 x2)))
      refine hY _ _ _ _ ?_
      obtain ⟨n3, h⟩ := h.2.2.2.2.2
      refine Exists.intro n3 (And.intro h.1 ?_)
      refine (And.intro h.2.1 (And.intro h.2.2.1 ?_))
      refine hY _ _ _ _ (hY _ _ _ _ (hY _ _ _ _ (?_ : Y 32 [(0, 5, true, 41), (1, 0, true, x1), (2, 3, true, x2), (3, 0, true, x3)] [(0, true, x1), (3, true, (hy_u (hy_u s.2.2.2 ((s.2.2.2 41 1).toNat) x1 x2) (((hy_u s.2.2.2 ((s.2.2.2 41 1).toNat) x1 x2) 41 2).toNat) x1 x3) 41 4)] (sM s (hy_u (hy_u s.2.2.2 ((s.2.2.2 41 1).toNat) x1 x2) (((hy_u s.2.2.2 ((s.2.2.2 41 1).toNat) x1 x2) 41 2).toNat) x1 x3)))))
      refine hY _ _ _ _ (hY _ _ _ _ (hY _ _ _ _ (?_ : Y 36 [(0, 5, true, 41), (1, 0, true, x1), (2, 3, true, x2), (3, 0, true, x3)] [(0, true, x1), (0, false, x1 * 8), (3, true, (hy_u (hy_u s.2.2.2 ((s.2.2.2 41 1).toNat) x1 x2) (((hy_u s.2.2.2 ((s.2.2.2 41 1).toNat) x1 x2) 41 2).toNat) x1 x3) 41 4)] (sM s (hy_u (hy_u s.2.2.2 ((s.2.2.2 41 1).toNat) x1 x2) (((hy_u s.2.2.2 ((s.2.2.2 41 1).toNat) x1 x2) 41 2).toNat) x1 x3)))))
      refine hY _ _ _ _ (hY _ _ _ _ (hY _ _ _ _ (?_ : Y 40 [(0, 5, true, 41), (1, 0, true, x1), (2, 3, true, x2), (3, 0, true, x3)] [(0, true, 8), (0, false, x1 + 1), (0, false, x1 * 8), (3, true, (hy_u (hy_u s.2.2.2 ((s.2.2.2 41 1).toNat) x1 x2) (((hy_u s.2.2.2 ((s.2.2.2 41 1).toNat) x1 x2) 41 2).toNat) x1 x3) 41 4)] (sM s (hy_u (hy_u s.2.2.2 ((s.2.2.2 41 1).toNat) x1 x2) (((hy_u s.2.2.2 ((s.2.2.2 41 1).toNat) x1 x2) 41 2).toNat) x1 x3)))))
      refine hY _ _ _ _ (hY _ _ _ _ (?_ : Y 42 [(0, 5, true, 41), (1, 0, true, x1), (2, 3, true, x2), (3, 0, true, x3)] [(0, true, (-1)), (0, false, (x1 + 1) * 8), (0, false, x1 * 8), (3, true, (hy_u (hy_u s.2.2.2 ((s.2.2.2 41 1).toNat) x1 x2) (((hy_u s.2.2.2 ((s.2.2.2 41 1).toNat) x1 x2) 41 2).toNat) x1 x3) 41 4)] (sM s (hy_u (hy_u s.2.2.2 ((s.2.2.2 41 1).toNat) x1 x2) (((hy_u s.2.2.2 ((s.2.2.2 41 1).toNat) x1 x2) 41 2).toNat) x1 x3))))
      refine hY _ _ _ _ ?_
      refine Exists.intro _ (And.intro (wc_303_3t_0f_0f_0t ((hy_u (hy_u s.2.2.2 ((s.2.2.2 41 1).toNat) x1 x2) (((hy_u s.2.2.2 ((s.2.2.2 41 1).toNat) x1 x2) 41 2).toNat) x1 x3) 41 4) (x1 * 8) ((x1 + 1) * 8) (-1) _ _ h.2.2.2) (fun r4 m4 h => ?_))
      refine hY _ _ _ _ (hY _ _ _ _ (hY _ _ _ _ (?_ : Y 50 [(0, 5, true, 41), (1, 0, true, x1), (2, 3, true, x2), (3, 0, true, x3)] [(0, false, x1 * 128)] (sM s m4))))
      refine hY _ _ _ _ ?_
      refine And.intro h.1 ?_
      exact hQ (x1 * 128) m4 h.2
def we_118 : sFf := sEf 4 [(0, 5, 41), (1, 0, 0), (2, 3, 0), (3, 0, 0)] (fun xs s Q => ap3 (fun x1 x2 x3 => wq_118 x1 x2 x3 s.1 s.2.2.2 Q) xs)
theorem we_118_ok : kS dC 3 118 0 (.inl we_118) := sEf_ok (mi := im_m118) rfl rfl rfl (fun R xs s r1 hb => by obtain ⟨x1, x2, x3, rfl, hb⟩ := ap3_ok hb; exact wk_118_0 _ R s x1 x2 x3 (fun x m' hx => ⟨m', rfl, hx⟩) r1 hb)
