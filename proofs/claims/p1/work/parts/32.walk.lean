/-! THE LAW'S OWN CODE, for any invariant of the two objects -/
theorem lw_ix {j L : Nat} (h : j < L) (hL : L ≤ 1536) : im_ix (nI j) L = some j := by
  unfold im_ix
  rw [if_neg (nI_pos (by omega)), nI_clamp (by omega), if_neg (by omega)]
theorem lw_ix1 {k L : Nat} (h : 3 * k + 3 ≤ L) (hL : L ≤ 1536) : im_ix (nI (3 * k) + 1) L = some (3 * k + 1) := by rw [nI_1]; exact lw_ix (by omega) hL
theorem lw_ix2 {k L : Nat} (h : 3 * k + 3 ≤ L) (hL : L ≤ 1536) : im_ix (nI (3 * k) + 2) L = some (3 * k + 2) := by rw [show (2 : Int32) = nI 2 from rfl, nI_add]; exact lw_ix (by omega) hL
theorem lw_more {k L : Nat} (hL : L ≤ 1536) (hk : k ≤ 1536) : (nI L - 3 < nI (3 * k)) ↔ L < 3 * k + 3 := by
  rw [show (3 : Int32) = nI 3 from rfl, Int32.lt_iff_toInt_lt, pk_sub_toInt (by omega) (by omega), nI_toInt (by omega)]
  omega
def lw_as (xs : Nat → Int32) (k n : Nat) : List Value := if n = 0 then [] else if n = 1 then [.int (xs (3 * k + 1))] else [.int (xs (3 * k + 1)), .int (xs (3 * k + 2))]

set_option maxRecDepth 20000 in
theorem lw_c0 {L k : Nat} {xs : Nat → Int32} {h h1 h2 : im_H} {x : Int32} {c c1 : im_C} {Q : im_R → Prop} (hk : 3 * k + 3 ≤ L) (hL : L ≤ 1536) (hs : h.2.2 0 = some (99, L, fun j => .int (xs j))) (hx1 : h.2.2 1 = some c) (hc : c.1 = 0) (hm1 : wp_M 11 1 (.ref 1 :: lw_as xs k 1) h (fun r => r = (h1, some (.int x)))) (hs1 : h1.2.2 0 = some (99, L, fun j => .int (xs j))) (hx2 : h1.2.2 74 = some c1) (hc2 : c1.1 = 12) (hm2 : wp_M 11 69 (.ref 74 :: lw_as xs k 1) h1 (fun r => r = (h2, some (.int x))))
    (K : wp_X 12 im_m104 645 [(3, .int (nI (3 * k))), (2, .ref 74), (1, .ref 1), (0, .ref 0)] [] h2 Q) : wp_X 12 im_m104 132 [(3, .int (nI (3 * k))), (2, .ref 74), (1, .ref 1), (0, .ref 0)] [] h Q := by
  refine wp_s (pc' := 133) (lv' := [(3, .int (nI (3 * k))), (2, .ref 74), (1, .ref 1), (0, .ref 0)]) (st' := [.ref 1]) (h' := h) rfl (fun _ => rfl) ?_
  refine wp_s (pc' := 134) (lv' := [(3, .int (nI (3 * k))), (2, .ref 74), (1, .ref 1), (0, .ref 0)]) (st' := [.ref 0, .ref 1]) (h' := h) rfl (fun _ => rfl) ?_
  refine wp_s (pc' := 135) (lv' := [(3, .int (nI (3 * k))), (2, .ref 74), (1, .ref 1), (0, .ref 0)]) (st' := [.int (nI (3 * k)), .ref 0, .ref 1]) (h' := h) rfl (fun _ => rfl) ?_
  refine wp_s (pc' := 136) (lv' := [(3, .int (nI (3 * k))), (2, .ref 74), (1, .ref 1), (0, .ref 0)]) (st' := [.int 1, .int (nI (3 * k)), .ref 0, .ref 1]) (h' := h) rfl (fun _ => rfl) ?_
  refine wp_s (pc' := 137) (lv' := [(3, .int (nI (3 * k))), (2, .ref 74), (1, .ref 1), (0, .ref 0)]) (st' := [.int (nI (3 * k) + 1), .ref 0, .ref 1]) (h' := h) rfl (fun _ => rfl) ?_
  refine wp_h (t := 138) rfl rfl (wh_ia (v := .int (xs (3 * k + 1))) hs (Or.inl rfl) (lw_ix1 hk hL) rfl) rfl ?_
  refine wp_vi (t := 141) rfl rfl (Or.inl rfl) rfl rfl (by decide) hx1 hc (wp_M.deep hm1 (by decide)) rfl (fun h' v hP => ?_)
  cases hP
  show wp_X _ _ 141 [(3, .int (nI (3 * k))), (2, .ref 74), (1, .ref 1), (0, .ref 0)] [.int x] h1 _
  refine wp_s (pc' := 142) (lv' := [(3, .int (nI (3 * k))), (2, .ref 74), (1, .ref 1), (0, .ref 0)]) (st' := [.ref 74, .int x]) (h' := h1) rfl (fun _ => rfl) ?_
  refine wp_s (pc' := 143) (lv' := [(3, .int (nI (3 * k))), (2, .ref 74), (1, .ref 1), (0, .ref 0)]) (st' := [.ref 0, .ref 74, .int x]) (h' := h1) rfl (fun _ => rfl) ?_
  refine wp_s (pc' := 144) (lv' := [(3, .int (nI (3 * k))), (2, .ref 74), (1, .ref 1), (0, .ref 0)]) (st' := [.int (nI (3 * k)), .ref 0, .ref 74, .int x]) (h' := h1) rfl (fun _ => rfl) ?_
  refine wp_s (pc' := 145) (lv' := [(3, .int (nI (3 * k))), (2, .ref 74), (1, .ref 1), (0, .ref 0)]) (st' := [.int 1, .int (nI (3 * k)), .ref 0, .ref 74, .int x]) (h' := h1) rfl (fun _ => rfl) ?_
  refine wp_s (pc' := 146) (lv' := [(3, .int (nI (3 * k))), (2, .ref 74), (1, .ref 1), (0, .ref 0)]) (st' := [.int (nI (3 * k) + 1), .ref 0, .ref 74, .int x]) (h' := h1) rfl (fun _ => rfl) ?_
  refine wp_h (t := 147) rfl rfl (wh_ia (v := .int (xs (3 * k + 1))) hs1 (Or.inl rfl) (lw_ix1 hk hL) rfl) rfl ?_
  refine wp_vi (t := 150) rfl rfl (Or.inl rfl) rfl rfl (by simp [Value.category]) hx2 hc2 (wp_M.deep hm2 (by decide)) rfl (fun h' v hP => ?_)
  cases hP
  show wp_X _ _ 150 [(3, .int (nI (3 * k))), (2, .ref 74), (1, .ref 1), (0, .ref 0)] [.int x, .int x] h2 _
  exact wp_b (st' := []) (t := 645) rfl rfl (if_pos rfl) rfl K
set_option maxRecDepth 20000 in
theorem lw_c1 {L k : Nat} {xs : Nat → Int32} {h h1 h2 : im_H} {x : Int32} {c c1 : im_C} {Q : im_R → Prop} (hk : 3 * k + 3 ≤ L) (hL : L ≤ 1536) (hs : h.2.2 0 = some (99, L, fun j => .int (xs j))) (hx1 : h.2.2 1 = some c) (hc : c.1 = 0) (hm1 : wp_M 11 2 (.ref 1 :: lw_as xs k 0) h (fun r => r = (h1, some (.int x)))) (hs1 : h1.2.2 0 = some (99, L, fun j => .int (xs j))) (hx2 : h1.2.2 74 = some c1) (hc2 : c1.1 = 12) (hm2 : wp_M 11 70 (.ref 74 :: lw_as xs k 0) h1 (fun r => r = (h2, some (.int x))))
    (K : wp_X 12 im_m104 645 [(3, .int (nI (3 * k))), (2, .ref 74), (1, .ref 1), (0, .ref 0)] [] h2 Q) : wp_X 12 im_m104 155 [(3, .int (nI (3 * k))), (2, .ref 74), (1, .ref 1), (0, .ref 0)] [] h Q := by
  refine wp_s (pc' := 156) (lv' := [(3, .int (nI (3 * k))), (2, .ref 74), (1, .ref 1), (0, .ref 0)]) (st' := [.ref 1]) (h' := h) rfl (fun _ => rfl) ?_
  refine wp_vi (t := 159) rfl rfl (Or.inl rfl) rfl rfl (by decide) hx1 hc (wp_M.deep hm1 (by decide)) rfl (fun h' v hP => ?_)
  cases hP
  show wp_X _ _ 159 [(3, .int (nI (3 * k))), (2, .ref 74), (1, .ref 1), (0, .ref 0)] [.int x] h1 _
  refine wp_s (pc' := 160) (lv' := [(3, .int (nI (3 * k))), (2, .ref 74), (1, .ref 1), (0, .ref 0)]) (st' := [.ref 74, .int x]) (h' := h1) rfl (fun _ => rfl) ?_
  refine wp_vi (t := 163) rfl rfl (Or.inl rfl) rfl rfl (by simp [Value.category]) hx2 hc2 (wp_M.deep hm2 (by decide)) rfl (fun h' v hP => ?_)
  cases hP
  show wp_X _ _ 163 [(3, .int (nI (3 * k))), (2, .ref 74), (1, .ref 1), (0, .ref 0)] [.int x, .int x] h2 _
  exact wp_b (st' := []) (t := 645) rfl rfl (if_pos rfl) rfl K
set_option maxRecDepth 20000 in
theorem lw_c2 {L k : Nat} {xs : Nat → Int32} {h h1 h2 : im_H} {x : Int32} {c c1 : im_C} {Q : im_R → Prop} (hk : 3 * k + 3 ≤ L) (hL : L ≤ 1536) (hs : h.2.2 0 = some (99, L, fun j => .int (xs j))) (hx1 : h.2.2 1 = some c) (hc : c.1 = 0) (hm1 : wp_M 11 3 (.ref 1 :: lw_as xs k 1) h (fun r => r = (h1, some (.int x)))) (hs1 : h1.2.2 0 = some (99, L, fun j => .int (xs j))) (hx2 : h1.2.2 74 = some c1) (hc2 : c1.1 = 12) (hm2 : wp_M 11 71 (.ref 74 :: lw_as xs k 1) h1 (fun r => r = (h2, some (.int x))))
    (K : wp_X 12 im_m104 645 [(3, .int (nI (3 * k))), (2, .ref 74), (1, .ref 1), (0, .ref 0)] [] h2 Q) : wp_X 12 im_m104 168 [(3, .int (nI (3 * k))), (2, .ref 74), (1, .ref 1), (0, .ref 0)] [] h Q := by
  refine wp_s (pc' := 169) (lv' := [(3, .int (nI (3 * k))), (2, .ref 74), (1, .ref 1), (0, .ref 0)]) (st' := [.ref 1]) (h' := h) rfl (fun _ => rfl) ?_
  refine wp_s (pc' := 170) (lv' := [(3, .int (nI (3 * k))), (2, .ref 74), (1, .ref 1), (0, .ref 0)]) (st' := [.ref 0, .ref 1]) (h' := h) rfl (fun _ => rfl) ?_
  refine wp_s (pc' := 171) (lv' := [(3, .int (nI (3 * k))), (2, .ref 74), (1, .ref 1), (0, .ref 0)]) (st' := [.int (nI (3 * k)), .ref 0, .ref 1]) (h' := h) rfl (fun _ => rfl) ?_
  refine wp_s (pc' := 172) (lv' := [(3, .int (nI (3 * k))), (2, .ref 74), (1, .ref 1), (0, .ref 0)]) (st' := [.int 1, .int (nI (3 * k)), .ref 0, .ref 1]) (h' := h) rfl (fun _ => rfl) ?_
  refine wp_s (pc' := 173) (lv' := [(3, .int (nI (3 * k))), (2, .ref 74), (1, .ref 1), (0, .ref 0)]) (st' := [.int (nI (3 * k) + 1), .ref 0, .ref 1]) (h' := h) rfl (fun _ => rfl) ?_
  refine wp_h (t := 174) rfl rfl (wh_ia (v := .int (xs (3 * k + 1))) hs (Or.inl rfl) (lw_ix1 hk hL) rfl) rfl ?_
  refine wp_vi (t := 177) rfl rfl (Or.inl rfl) rfl rfl (by decide) hx1 hc (wp_M.deep hm1 (by decide)) rfl (fun h' v hP => ?_)
  cases hP
  show wp_X _ _ 177 [(3, .int (nI (3 * k))), (2, .ref 74), (1, .ref 1), (0, .ref 0)] [.int x] h1 _
  refine wp_s (pc' := 178) (lv' := [(3, .int (nI (3 * k))), (2, .ref 74), (1, .ref 1), (0, .ref 0)]) (st' := [.ref 74, .int x]) (h' := h1) rfl (fun _ => rfl) ?_
  refine wp_s (pc' := 179) (lv' := [(3, .int (nI (3 * k))), (2, .ref 74), (1, .ref 1), (0, .ref 0)]) (st' := [.ref 0, .ref 74, .int x]) (h' := h1) rfl (fun _ => rfl) ?_
  refine wp_s (pc' := 180) (lv' := [(3, .int (nI (3 * k))), (2, .ref 74), (1, .ref 1), (0, .ref 0)]) (st' := [.int (nI (3 * k)), .ref 0, .ref 74, .int x]) (h' := h1) rfl (fun _ => rfl) ?_
  refine wp_s (pc' := 181) (lv' := [(3, .int (nI (3 * k))), (2, .ref 74), (1, .ref 1), (0, .ref 0)]) (st' := [.int 1, .int (nI (3 * k)), .ref 0, .ref 74, .int x]) (h' := h1) rfl (fun _ => rfl) ?_
  refine wp_s (pc' := 182) (lv' := [(3, .int (nI (3 * k))), (2, .ref 74), (1, .ref 1), (0, .ref 0)]) (st' := [.int (nI (3 * k) + 1), .ref 0, .ref 74, .int x]) (h' := h1) rfl (fun _ => rfl) ?_
  refine wp_h (t := 183) rfl rfl (wh_ia (v := .int (xs (3 * k + 1))) hs1 (Or.inl rfl) (lw_ix1 hk hL) rfl) rfl ?_
  refine wp_vi (t := 186) rfl rfl (Or.inl rfl) rfl rfl (by simp [Value.category]) hx2 hc2 (wp_M.deep hm2 (by decide)) rfl (fun h' v hP => ?_)
  cases hP
  show wp_X _ _ 186 [(3, .int (nI (3 * k))), (2, .ref 74), (1, .ref 1), (0, .ref 0)] [.int x, .int x] h2 _
  exact wp_b (st' := []) (t := 645) rfl rfl (if_pos rfl) rfl K
set_option maxRecDepth 20000 in
theorem lw_c3 {L k : Nat} {xs : Nat → Int32} {h h1 h2 : im_H} {x : Int32} {c c1 : im_C} {Q : im_R → Prop} (hk : 3 * k + 3 ≤ L) (hL : L ≤ 1536) (hs : h.2.2 0 = some (99, L, fun j => .int (xs j))) (hx1 : h.2.2 1 = some c) (hc : c.1 = 0) (hm1 : wp_M 11 4 (.ref 1 :: lw_as xs k 0) h (fun r => r = (h1, some (.int x)))) (hs1 : h1.2.2 0 = some (99, L, fun j => .int (xs j))) (hx2 : h1.2.2 74 = some c1) (hc2 : c1.1 = 12) (hm2 : wp_M 11 75 (.ref 74 :: lw_as xs k 0) h1 (fun r => r = (h2, some (.int x))))
    (K : wp_X 12 im_m104 645 [(3, .int (nI (3 * k))), (2, .ref 74), (1, .ref 1), (0, .ref 0)] [] h2 Q) : wp_X 12 im_m104 191 [(3, .int (nI (3 * k))), (2, .ref 74), (1, .ref 1), (0, .ref 0)] [] h Q := by
  refine wp_s (pc' := 192) (lv' := [(3, .int (nI (3 * k))), (2, .ref 74), (1, .ref 1), (0, .ref 0)]) (st' := [.ref 1]) (h' := h) rfl (fun _ => rfl) ?_
  refine wp_vi (t := 195) rfl rfl (Or.inl rfl) rfl rfl (by decide) hx1 hc (wp_M.deep hm1 (by decide)) rfl (fun h' v hP => ?_)
  cases hP
  show wp_X _ _ 195 [(3, .int (nI (3 * k))), (2, .ref 74), (1, .ref 1), (0, .ref 0)] [.int x] h1 _
  refine wp_s (pc' := 196) (lv' := [(3, .int (nI (3 * k))), (2, .ref 74), (1, .ref 1), (0, .ref 0)]) (st' := [.ref 74, .int x]) (h' := h1) rfl (fun _ => rfl) ?_
  refine wp_vi (t := 199) rfl rfl (Or.inl rfl) rfl rfl (by simp [Value.category]) hx2 hc2 (wp_M.deep hm2 (by decide)) rfl (fun h' v hP => ?_)
  cases hP
  show wp_X _ _ 199 [(3, .int (nI (3 * k))), (2, .ref 74), (1, .ref 1), (0, .ref 0)] [.int x, .int x] h2 _
  exact wp_b (st' := []) (t := 645) rfl rfl (if_pos rfl) rfl K
set_option maxRecDepth 20000 in
theorem lw_c4 {L k : Nat} {xs : Nat → Int32} {h h1 h2 : im_H} {x : Int32} {c c1 : im_C} {Q : im_R → Prop} (hk : 3 * k + 3 ≤ L) (hL : L ≤ 1536) (hs : h.2.2 0 = some (99, L, fun j => .int (xs j))) (hx1 : h.2.2 1 = some c) (hc : c.1 = 0) (hm1 : wp_M 11 5 (.ref 1 :: lw_as xs k 1) h (fun r => r = (h1, some (.int x)))) (hs1 : h1.2.2 0 = some (99, L, fun j => .int (xs j))) (hx2 : h1.2.2 74 = some c1) (hc2 : c1.1 = 12) (hm2 : wp_M 11 76 (.ref 74 :: lw_as xs k 1) h1 (fun r => r = (h2, some (.int x))))
    (K : wp_X 12 im_m104 645 [(3, .int (nI (3 * k))), (2, .ref 74), (1, .ref 1), (0, .ref 0)] [] h2 Q) : wp_X 12 im_m104 204 [(3, .int (nI (3 * k))), (2, .ref 74), (1, .ref 1), (0, .ref 0)] [] h Q := by
  refine wp_s (pc' := 205) (lv' := [(3, .int (nI (3 * k))), (2, .ref 74), (1, .ref 1), (0, .ref 0)]) (st' := [.ref 1]) (h' := h) rfl (fun _ => rfl) ?_
  refine wp_s (pc' := 206) (lv' := [(3, .int (nI (3 * k))), (2, .ref 74), (1, .ref 1), (0, .ref 0)]) (st' := [.ref 0, .ref 1]) (h' := h) rfl (fun _ => rfl) ?_
  refine wp_s (pc' := 207) (lv' := [(3, .int (nI (3 * k))), (2, .ref 74), (1, .ref 1), (0, .ref 0)]) (st' := [.int (nI (3 * k)), .ref 0, .ref 1]) (h' := h) rfl (fun _ => rfl) ?_
  refine wp_s (pc' := 208) (lv' := [(3, .int (nI (3 * k))), (2, .ref 74), (1, .ref 1), (0, .ref 0)]) (st' := [.int 1, .int (nI (3 * k)), .ref 0, .ref 1]) (h' := h) rfl (fun _ => rfl) ?_
  refine wp_s (pc' := 209) (lv' := [(3, .int (nI (3 * k))), (2, .ref 74), (1, .ref 1), (0, .ref 0)]) (st' := [.int (nI (3 * k) + 1), .ref 0, .ref 1]) (h' := h) rfl (fun _ => rfl) ?_
  refine wp_h (t := 210) rfl rfl (wh_ia (v := .int (xs (3 * k + 1))) hs (Or.inl rfl) (lw_ix1 hk hL) rfl) rfl ?_
  refine wp_vi (t := 213) rfl rfl (Or.inl rfl) rfl rfl (by decide) hx1 hc (wp_M.deep hm1 (by decide)) rfl (fun h' v hP => ?_)
  cases hP
  show wp_X _ _ 213 [(3, .int (nI (3 * k))), (2, .ref 74), (1, .ref 1), (0, .ref 0)] [.int x] h1 _
  refine wp_s (pc' := 214) (lv' := [(3, .int (nI (3 * k))), (2, .ref 74), (1, .ref 1), (0, .ref 0)]) (st' := [.ref 74, .int x]) (h' := h1) rfl (fun _ => rfl) ?_
  refine wp_s (pc' := 215) (lv' := [(3, .int (nI (3 * k))), (2, .ref 74), (1, .ref 1), (0, .ref 0)]) (st' := [.ref 0, .ref 74, .int x]) (h' := h1) rfl (fun _ => rfl) ?_
  refine wp_s (pc' := 216) (lv' := [(3, .int (nI (3 * k))), (2, .ref 74), (1, .ref 1), (0, .ref 0)]) (st' := [.int (nI (3 * k)), .ref 0, .ref 74, .int x]) (h' := h1) rfl (fun _ => rfl) ?_
  refine wp_s (pc' := 217) (lv' := [(3, .int (nI (3 * k))), (2, .ref 74), (1, .ref 1), (0, .ref 0)]) (st' := [.int 1, .int (nI (3 * k)), .ref 0, .ref 74, .int x]) (h' := h1) rfl (fun _ => rfl) ?_
  refine wp_s (pc' := 218) (lv' := [(3, .int (nI (3 * k))), (2, .ref 74), (1, .ref 1), (0, .ref 0)]) (st' := [.int (nI (3 * k) + 1), .ref 0, .ref 74, .int x]) (h' := h1) rfl (fun _ => rfl) ?_
  refine wp_h (t := 219) rfl rfl (wh_ia (v := .int (xs (3 * k + 1))) hs1 (Or.inl rfl) (lw_ix1 hk hL) rfl) rfl ?_
  refine wp_vi (t := 222) rfl rfl (Or.inl rfl) rfl rfl (by simp [Value.category]) hx2 hc2 (wp_M.deep hm2 (by decide)) rfl (fun h' v hP => ?_)
  cases hP
  show wp_X _ _ 222 [(3, .int (nI (3 * k))), (2, .ref 74), (1, .ref 1), (0, .ref 0)] [.int x, .int x] h2 _
  exact wp_b (st' := []) (t := 645) rfl rfl (if_pos rfl) rfl K
set_option maxRecDepth 20000 in
theorem lw_c5 {L k : Nat} {xs : Nat → Int32} {h h1 h2 : im_H} {x : Int32} {c c1 : im_C} {Q : im_R → Prop} (hk : 3 * k + 3 ≤ L) (hL : L ≤ 1536) (hs : h.2.2 0 = some (99, L, fun j => .int (xs j))) (hx1 : h.2.2 1 = some c) (hc : c.1 = 0) (hm1 : wp_M 11 6 (.ref 1 :: lw_as xs k 2) h (fun r => r = (h1, some (.int x)))) (hs1 : h1.2.2 0 = some (99, L, fun j => .int (xs j))) (hx2 : h1.2.2 74 = some c1) (hc2 : c1.1 = 12) (hm2 : wp_M 11 77 (.ref 74 :: lw_as xs k 2) h1 (fun r => r = (h2, some (.int x))))
    (K : wp_X 12 im_m104 645 [(3, .int (nI (3 * k))), (2, .ref 74), (1, .ref 1), (0, .ref 0)] [] h2 Q) : wp_X 12 im_m104 227 [(3, .int (nI (3 * k))), (2, .ref 74), (1, .ref 1), (0, .ref 0)] [] h Q := by
  refine wp_s (pc' := 228) (lv' := [(3, .int (nI (3 * k))), (2, .ref 74), (1, .ref 1), (0, .ref 0)]) (st' := [.ref 1]) (h' := h) rfl (fun _ => rfl) ?_
  refine wp_s (pc' := 229) (lv' := [(3, .int (nI (3 * k))), (2, .ref 74), (1, .ref 1), (0, .ref 0)]) (st' := [.ref 0, .ref 1]) (h' := h) rfl (fun _ => rfl) ?_
  refine wp_s (pc' := 230) (lv' := [(3, .int (nI (3 * k))), (2, .ref 74), (1, .ref 1), (0, .ref 0)]) (st' := [.int (nI (3 * k)), .ref 0, .ref 1]) (h' := h) rfl (fun _ => rfl) ?_
  refine wp_s (pc' := 231) (lv' := [(3, .int (nI (3 * k))), (2, .ref 74), (1, .ref 1), (0, .ref 0)]) (st' := [.int 1, .int (nI (3 * k)), .ref 0, .ref 1]) (h' := h) rfl (fun _ => rfl) ?_
  refine wp_s (pc' := 232) (lv' := [(3, .int (nI (3 * k))), (2, .ref 74), (1, .ref 1), (0, .ref 0)]) (st' := [.int (nI (3 * k) + 1), .ref 0, .ref 1]) (h' := h) rfl (fun _ => rfl) ?_
  refine wp_h (t := 233) rfl rfl (wh_ia (v := .int (xs (3 * k + 1))) hs (Or.inl rfl) (lw_ix1 hk hL) rfl) rfl ?_
  refine wp_s (pc' := 234) (lv' := [(3, .int (nI (3 * k))), (2, .ref 74), (1, .ref 1), (0, .ref 0)]) (st' := [.ref 0, .int (xs (3 * k + 1)), .ref 1]) (h' := h) rfl (fun _ => rfl) ?_
  refine wp_s (pc' := 235) (lv' := [(3, .int (nI (3 * k))), (2, .ref 74), (1, .ref 1), (0, .ref 0)]) (st' := [.int (nI (3 * k)), .ref 0, .int (xs (3 * k + 1)), .ref 1]) (h' := h) rfl (fun _ => rfl) ?_
  refine wp_s (pc' := 236) (lv' := [(3, .int (nI (3 * k))), (2, .ref 74), (1, .ref 1), (0, .ref 0)]) (st' := [.int 2, .int (nI (3 * k)), .ref 0, .int (xs (3 * k + 1)), .ref 1]) (h' := h) rfl (fun _ => rfl) ?_
  refine wp_s (pc' := 237) (lv' := [(3, .int (nI (3 * k))), (2, .ref 74), (1, .ref 1), (0, .ref 0)]) (st' := [.int (nI (3 * k) + 2), .ref 0, .int (xs (3 * k + 1)), .ref 1]) (h' := h) rfl (fun _ => rfl) ?_
  refine wp_h (t := 238) rfl rfl (wh_ia (v := .int (xs (3 * k + 2))) hs (Or.inl rfl) (lw_ix2 hk hL) rfl) rfl ?_
  refine wp_vi (t := 241) rfl rfl (Or.inl rfl) rfl rfl (by decide) hx1 hc (wp_M.deep hm1 (by decide)) rfl (fun h' v hP => ?_)
  cases hP
  show wp_X _ _ 241 [(3, .int (nI (3 * k))), (2, .ref 74), (1, .ref 1), (0, .ref 0)] [.int x] h1 _
  refine wp_s (pc' := 242) (lv' := [(3, .int (nI (3 * k))), (2, .ref 74), (1, .ref 1), (0, .ref 0)]) (st' := [.ref 74, .int x]) (h' := h1) rfl (fun _ => rfl) ?_
  refine wp_s (pc' := 243) (lv' := [(3, .int (nI (3 * k))), (2, .ref 74), (1, .ref 1), (0, .ref 0)]) (st' := [.ref 0, .ref 74, .int x]) (h' := h1) rfl (fun _ => rfl) ?_
  refine wp_s (pc' := 244) (lv' := [(3, .int (nI (3 * k))), (2, .ref 74), (1, .ref 1), (0, .ref 0)]) (st' := [.int (nI (3 * k)), .ref 0, .ref 74, .int x]) (h' := h1) rfl (fun _ => rfl) ?_
  refine wp_s (pc' := 245) (lv' := [(3, .int (nI (3 * k))), (2, .ref 74), (1, .ref 1), (0, .ref 0)]) (st' := [.int 1, .int (nI (3 * k)), .ref 0, .ref 74, .int x]) (h' := h1) rfl (fun _ => rfl) ?_
  refine wp_s (pc' := 246) (lv' := [(3, .int (nI (3 * k))), (2, .ref 74), (1, .ref 1), (0, .ref 0)]) (st' := [.int (nI (3 * k) + 1), .ref 0, .ref 74, .int x]) (h' := h1) rfl (fun _ => rfl) ?_
  refine wp_h (t := 247) rfl rfl (wh_ia (v := .int (xs (3 * k + 1))) hs1 (Or.inl rfl) (lw_ix1 hk hL) rfl) rfl ?_
  refine wp_s (pc' := 248) (lv' := [(3, .int (nI (3 * k))), (2, .ref 74), (1, .ref 1), (0, .ref 0)]) (st' := [.ref 0, .int (xs (3 * k + 1)), .ref 74, .int x]) (h' := h1) rfl (fun _ => rfl) ?_
  refine wp_s (pc' := 249) (lv' := [(3, .int (nI (3 * k))), (2, .ref 74), (1, .ref 1), (0, .ref 0)]) (st' := [.int (nI (3 * k)), .ref 0, .int (xs (3 * k + 1)), .ref 74, .int x]) (h' := h1) rfl (fun _ => rfl) ?_
  refine wp_s (pc' := 250) (lv' := [(3, .int (nI (3 * k))), (2, .ref 74), (1, .ref 1), (0, .ref 0)]) (st' := [.int 2, .int (nI (3 * k)), .ref 0, .int (xs (3 * k + 1)), .ref 74, .int x]) (h' := h1) rfl (fun _ => rfl) ?_
  refine wp_s (pc' := 251) (lv' := [(3, .int (nI (3 * k))), (2, .ref 74), (1, .ref 1), (0, .ref 0)]) (st' := [.int (nI (3 * k) + 2), .ref 0, .int (xs (3 * k + 1)), .ref 74, .int x]) (h' := h1) rfl (fun _ => rfl) ?_
  refine wp_h (t := 252) rfl rfl (wh_ia (v := .int (xs (3 * k + 2))) hs1 (Or.inl rfl) (lw_ix2 hk hL) rfl) rfl ?_
  refine wp_vi (t := 255) rfl rfl (Or.inl rfl) rfl rfl (by simp [Value.category]) hx2 hc2 (wp_M.deep hm2 (by decide)) rfl (fun h' v hP => ?_)
  cases hP
  show wp_X _ _ 255 [(3, .int (nI (3 * k))), (2, .ref 74), (1, .ref 1), (0, .ref 0)] [.int x, .int x] h2 _
  exact wp_b (st' := []) (t := 645) rfl rfl (if_pos rfl) rfl K
set_option maxRecDepth 20000 in
theorem lw_c6 {L k : Nat} {xs : Nat → Int32} {h h1 h2 : im_H} {x : Int32} {c c1 : im_C} {Q : im_R → Prop} (hk : 3 * k + 3 ≤ L) (hL : L ≤ 1536) (hs : h.2.2 0 = some (99, L, fun j => .int (xs j))) (hx1 : h.2.2 1 = some c) (hc : c.1 = 0) (hm1 : wp_M 11 7 (.ref 1 :: lw_as xs k 0) h (fun r => r = (h1, some (.int x)))) (hs1 : h1.2.2 0 = some (99, L, fun j => .int (xs j))) (hx2 : h1.2.2 74 = some c1) (hc2 : c1.1 = 12) (hm2 : wp_M 11 78 (.ref 74 :: lw_as xs k 0) h1 (fun r => r = (h2, some (.int x))))
    (K : wp_X 12 im_m104 645 [(3, .int (nI (3 * k))), (2, .ref 74), (1, .ref 1), (0, .ref 0)] [] h2 Q) : wp_X 12 im_m104 260 [(3, .int (nI (3 * k))), (2, .ref 74), (1, .ref 1), (0, .ref 0)] [] h Q := by
  refine wp_s (pc' := 261) (lv' := [(3, .int (nI (3 * k))), (2, .ref 74), (1, .ref 1), (0, .ref 0)]) (st' := [.ref 1]) (h' := h) rfl (fun _ => rfl) ?_
  refine wp_vi (t := 264) rfl rfl (Or.inl rfl) rfl rfl (by decide) hx1 hc (wp_M.deep hm1 (by decide)) rfl (fun h' v hP => ?_)
  cases hP
  show wp_X _ _ 264 [(3, .int (nI (3 * k))), (2, .ref 74), (1, .ref 1), (0, .ref 0)] [.int x] h1 _
  refine wp_s (pc' := 265) (lv' := [(3, .int (nI (3 * k))), (2, .ref 74), (1, .ref 1), (0, .ref 0)]) (st' := [.ref 74, .int x]) (h' := h1) rfl (fun _ => rfl) ?_
  refine wp_vi (t := 268) rfl rfl (Or.inl rfl) rfl rfl (by simp [Value.category]) hx2 hc2 (wp_M.deep hm2 (by decide)) rfl (fun h' v hP => ?_)
  cases hP
  show wp_X _ _ 268 [(3, .int (nI (3 * k))), (2, .ref 74), (1, .ref 1), (0, .ref 0)] [.int x, .int x] h2 _
  exact wp_b (st' := []) (t := 645) rfl rfl (if_pos rfl) rfl K
set_option maxRecDepth 20000 in
theorem lw_c7 {L k : Nat} {xs : Nat → Int32} {h h1 h2 : im_H} {x : Int32} {c c1 : im_C} {Q : im_R → Prop} (hk : 3 * k + 3 ≤ L) (hL : L ≤ 1536) (hs : h.2.2 0 = some (99, L, fun j => .int (xs j))) (hx1 : h.2.2 1 = some c) (hc : c.1 = 0) (hm1 : wp_M 11 8 (.ref 1 :: lw_as xs k 1) h (fun r => r = (h1, some (.int x)))) (hs1 : h1.2.2 0 = some (99, L, fun j => .int (xs j))) (hx2 : h1.2.2 74 = some c1) (hc2 : c1.1 = 12) (hm2 : wp_M 11 81 (.ref 74 :: lw_as xs k 1) h1 (fun r => r = (h2, some (.int x))))
    (K : wp_X 12 im_m104 645 [(3, .int (nI (3 * k))), (2, .ref 74), (1, .ref 1), (0, .ref 0)] [] h2 Q) : wp_X 12 im_m104 273 [(3, .int (nI (3 * k))), (2, .ref 74), (1, .ref 1), (0, .ref 0)] [] h Q := by
  refine wp_s (pc' := 274) (lv' := [(3, .int (nI (3 * k))), (2, .ref 74), (1, .ref 1), (0, .ref 0)]) (st' := [.ref 1]) (h' := h) rfl (fun _ => rfl) ?_
  refine wp_s (pc' := 275) (lv' := [(3, .int (nI (3 * k))), (2, .ref 74), (1, .ref 1), (0, .ref 0)]) (st' := [.ref 0, .ref 1]) (h' := h) rfl (fun _ => rfl) ?_
  refine wp_s (pc' := 276) (lv' := [(3, .int (nI (3 * k))), (2, .ref 74), (1, .ref 1), (0, .ref 0)]) (st' := [.int (nI (3 * k)), .ref 0, .ref 1]) (h' := h) rfl (fun _ => rfl) ?_
  refine wp_s (pc' := 277) (lv' := [(3, .int (nI (3 * k))), (2, .ref 74), (1, .ref 1), (0, .ref 0)]) (st' := [.int 1, .int (nI (3 * k)), .ref 0, .ref 1]) (h' := h) rfl (fun _ => rfl) ?_
  refine wp_s (pc' := 278) (lv' := [(3, .int (nI (3 * k))), (2, .ref 74), (1, .ref 1), (0, .ref 0)]) (st' := [.int (nI (3 * k) + 1), .ref 0, .ref 1]) (h' := h) rfl (fun _ => rfl) ?_
  refine wp_h (t := 279) rfl rfl (wh_ia (v := .int (xs (3 * k + 1))) hs (Or.inl rfl) (lw_ix1 hk hL) rfl) rfl ?_
  refine wp_vi (t := 282) rfl rfl (Or.inl rfl) rfl rfl (by decide) hx1 hc (wp_M.deep hm1 (by decide)) rfl (fun h' v hP => ?_)
  cases hP
  show wp_X _ _ 282 [(3, .int (nI (3 * k))), (2, .ref 74), (1, .ref 1), (0, .ref 0)] [.int x] h1 _
  refine wp_s (pc' := 283) (lv' := [(3, .int (nI (3 * k))), (2, .ref 74), (1, .ref 1), (0, .ref 0)]) (st' := [.ref 74, .int x]) (h' := h1) rfl (fun _ => rfl) ?_
  refine wp_s (pc' := 284) (lv' := [(3, .int (nI (3 * k))), (2, .ref 74), (1, .ref 1), (0, .ref 0)]) (st' := [.ref 0, .ref 74, .int x]) (h' := h1) rfl (fun _ => rfl) ?_
  refine wp_s (pc' := 285) (lv' := [(3, .int (nI (3 * k))), (2, .ref 74), (1, .ref 1), (0, .ref 0)]) (st' := [.int (nI (3 * k)), .ref 0, .ref 74, .int x]) (h' := h1) rfl (fun _ => rfl) ?_
  refine wp_s (pc' := 286) (lv' := [(3, .int (nI (3 * k))), (2, .ref 74), (1, .ref 1), (0, .ref 0)]) (st' := [.int 1, .int (nI (3 * k)), .ref 0, .ref 74, .int x]) (h' := h1) rfl (fun _ => rfl) ?_
  refine wp_s (pc' := 287) (lv' := [(3, .int (nI (3 * k))), (2, .ref 74), (1, .ref 1), (0, .ref 0)]) (st' := [.int (nI (3 * k) + 1), .ref 0, .ref 74, .int x]) (h' := h1) rfl (fun _ => rfl) ?_
  refine wp_h (t := 288) rfl rfl (wh_ia (v := .int (xs (3 * k + 1))) hs1 (Or.inl rfl) (lw_ix1 hk hL) rfl) rfl ?_
  refine wp_vi (t := 291) rfl rfl (Or.inl rfl) rfl rfl (by simp [Value.category]) hx2 hc2 (wp_M.deep hm2 (by decide)) rfl (fun h' v hP => ?_)
  cases hP
  show wp_X _ _ 291 [(3, .int (nI (3 * k))), (2, .ref 74), (1, .ref 1), (0, .ref 0)] [.int x, .int x] h2 _
  exact wp_b (st' := []) (t := 645) rfl rfl (if_pos rfl) rfl K
set_option maxRecDepth 20000 in
theorem lw_c8 {L k : Nat} {xs : Nat → Int32} {h h1 h2 : im_H} {x : Int32} {c c1 : im_C} {Q : im_R → Prop} (hk : 3 * k + 3 ≤ L) (hL : L ≤ 1536) (hs : h.2.2 0 = some (99, L, fun j => .int (xs j))) (hx1 : h.2.2 1 = some c) (hc : c.1 = 0) (hm1 : wp_M 11 9 (.ref 1 :: lw_as xs k 2) h (fun r => r = (h1, some (.int x)))) (hs1 : h1.2.2 0 = some (99, L, fun j => .int (xs j))) (hx2 : h1.2.2 74 = some c1) (hc2 : c1.1 = 12) (hm2 : wp_M 11 82 (.ref 74 :: lw_as xs k 2) h1 (fun r => r = (h2, some (.int x))))
    (K : wp_X 12 im_m104 645 [(3, .int (nI (3 * k))), (2, .ref 74), (1, .ref 1), (0, .ref 0)] [] h2 Q) : wp_X 12 im_m104 296 [(3, .int (nI (3 * k))), (2, .ref 74), (1, .ref 1), (0, .ref 0)] [] h Q := by
  refine wp_s (pc' := 297) (lv' := [(3, .int (nI (3 * k))), (2, .ref 74), (1, .ref 1), (0, .ref 0)]) (st' := [.ref 1]) (h' := h) rfl (fun _ => rfl) ?_
  refine wp_s (pc' := 298) (lv' := [(3, .int (nI (3 * k))), (2, .ref 74), (1, .ref 1), (0, .ref 0)]) (st' := [.ref 0, .ref 1]) (h' := h) rfl (fun _ => rfl) ?_
  refine wp_s (pc' := 299) (lv' := [(3, .int (nI (3 * k))), (2, .ref 74), (1, .ref 1), (0, .ref 0)]) (st' := [.int (nI (3 * k)), .ref 0, .ref 1]) (h' := h) rfl (fun _ => rfl) ?_
  refine wp_s (pc' := 300) (lv' := [(3, .int (nI (3 * k))), (2, .ref 74), (1, .ref 1), (0, .ref 0)]) (st' := [.int 1, .int (nI (3 * k)), .ref 0, .ref 1]) (h' := h) rfl (fun _ => rfl) ?_
  refine wp_s (pc' := 301) (lv' := [(3, .int (nI (3 * k))), (2, .ref 74), (1, .ref 1), (0, .ref 0)]) (st' := [.int (nI (3 * k) + 1), .ref 0, .ref 1]) (h' := h) rfl (fun _ => rfl) ?_
  refine wp_h (t := 302) rfl rfl (wh_ia (v := .int (xs (3 * k + 1))) hs (Or.inl rfl) (lw_ix1 hk hL) rfl) rfl ?_
  refine wp_s (pc' := 303) (lv' := [(3, .int (nI (3 * k))), (2, .ref 74), (1, .ref 1), (0, .ref 0)]) (st' := [.ref 0, .int (xs (3 * k + 1)), .ref 1]) (h' := h) rfl (fun _ => rfl) ?_
  refine wp_s (pc' := 304) (lv' := [(3, .int (nI (3 * k))), (2, .ref 74), (1, .ref 1), (0, .ref 0)]) (st' := [.int (nI (3 * k)), .ref 0, .int (xs (3 * k + 1)), .ref 1]) (h' := h) rfl (fun _ => rfl) ?_
  refine wp_s (pc' := 305) (lv' := [(3, .int (nI (3 * k))), (2, .ref 74), (1, .ref 1), (0, .ref 0)]) (st' := [.int 2, .int (nI (3 * k)), .ref 0, .int (xs (3 * k + 1)), .ref 1]) (h' := h) rfl (fun _ => rfl) ?_
  refine wp_s (pc' := 306) (lv' := [(3, .int (nI (3 * k))), (2, .ref 74), (1, .ref 1), (0, .ref 0)]) (st' := [.int (nI (3 * k) + 2), .ref 0, .int (xs (3 * k + 1)), .ref 1]) (h' := h) rfl (fun _ => rfl) ?_
  refine wp_h (t := 307) rfl rfl (wh_ia (v := .int (xs (3 * k + 2))) hs (Or.inl rfl) (lw_ix2 hk hL) rfl) rfl ?_
  refine wp_vi (t := 310) rfl rfl (Or.inl rfl) rfl rfl (by decide) hx1 hc (wp_M.deep hm1 (by decide)) rfl (fun h' v hP => ?_)
  cases hP
  show wp_X _ _ 310 [(3, .int (nI (3 * k))), (2, .ref 74), (1, .ref 1), (0, .ref 0)] [.int x] h1 _
  refine wp_s (pc' := 311) (lv' := [(3, .int (nI (3 * k))), (2, .ref 74), (1, .ref 1), (0, .ref 0)]) (st' := [.ref 74, .int x]) (h' := h1) rfl (fun _ => rfl) ?_
  refine wp_s (pc' := 312) (lv' := [(3, .int (nI (3 * k))), (2, .ref 74), (1, .ref 1), (0, .ref 0)]) (st' := [.ref 0, .ref 74, .int x]) (h' := h1) rfl (fun _ => rfl) ?_
  refine wp_s (pc' := 313) (lv' := [(3, .int (nI (3 * k))), (2, .ref 74), (1, .ref 1), (0, .ref 0)]) (st' := [.int (nI (3 * k)), .ref 0, .ref 74, .int x]) (h' := h1) rfl (fun _ => rfl) ?_
  refine wp_s (pc' := 314) (lv' := [(3, .int (nI (3 * k))), (2, .ref 74), (1, .ref 1), (0, .ref 0)]) (st' := [.int 1, .int (nI (3 * k)), .ref 0, .ref 74, .int x]) (h' := h1) rfl (fun _ => rfl) ?_
  refine wp_s (pc' := 315) (lv' := [(3, .int (nI (3 * k))), (2, .ref 74), (1, .ref 1), (0, .ref 0)]) (st' := [.int (nI (3 * k) + 1), .ref 0, .ref 74, .int x]) (h' := h1) rfl (fun _ => rfl) ?_
  refine wp_h (t := 316) rfl rfl (wh_ia (v := .int (xs (3 * k + 1))) hs1 (Or.inl rfl) (lw_ix1 hk hL) rfl) rfl ?_
  refine wp_s (pc' := 317) (lv' := [(3, .int (nI (3 * k))), (2, .ref 74), (1, .ref 1), (0, .ref 0)]) (st' := [.ref 0, .int (xs (3 * k + 1)), .ref 74, .int x]) (h' := h1) rfl (fun _ => rfl) ?_
  refine wp_s (pc' := 318) (lv' := [(3, .int (nI (3 * k))), (2, .ref 74), (1, .ref 1), (0, .ref 0)]) (st' := [.int (nI (3 * k)), .ref 0, .int (xs (3 * k + 1)), .ref 74, .int x]) (h' := h1) rfl (fun _ => rfl) ?_
  refine wp_s (pc' := 319) (lv' := [(3, .int (nI (3 * k))), (2, .ref 74), (1, .ref 1), (0, .ref 0)]) (st' := [.int 2, .int (nI (3 * k)), .ref 0, .int (xs (3 * k + 1)), .ref 74, .int x]) (h' := h1) rfl (fun _ => rfl) ?_
  refine wp_s (pc' := 320) (lv' := [(3, .int (nI (3 * k))), (2, .ref 74), (1, .ref 1), (0, .ref 0)]) (st' := [.int (nI (3 * k) + 2), .ref 0, .int (xs (3 * k + 1)), .ref 74, .int x]) (h' := h1) rfl (fun _ => rfl) ?_
  refine wp_h (t := 321) rfl rfl (wh_ia (v := .int (xs (3 * k + 2))) hs1 (Or.inl rfl) (lw_ix2 hk hL) rfl) rfl ?_
  refine wp_vi (t := 324) rfl rfl (Or.inl rfl) rfl rfl (by simp [Value.category]) hx2 hc2 (wp_M.deep hm2 (by decide)) rfl (fun h' v hP => ?_)
  cases hP
  show wp_X _ _ 324 [(3, .int (nI (3 * k))), (2, .ref 74), (1, .ref 1), (0, .ref 0)] [.int x, .int x] h2 _
  exact wp_b (st' := []) (t := 645) rfl rfl (if_pos rfl) rfl K
set_option maxRecDepth 20000 in
theorem lw_c9 {L k : Nat} {xs : Nat → Int32} {h h1 h2 : im_H} {x : Int32} {c c1 : im_C} {Q : im_R → Prop} (hk : 3 * k + 3 ≤ L) (hL : L ≤ 1536) (hs : h.2.2 0 = some (99, L, fun j => .int (xs j))) (hx1 : h.2.2 1 = some c) (hc : c.1 = 0) (hm1 : wp_M 11 10 (.ref 1 :: lw_as xs k 2) h (fun r => r = (h1, some (.int x)))) (hs1 : h1.2.2 0 = some (99, L, fun j => .int (xs j))) (hx2 : h1.2.2 74 = some c1) (hc2 : c1.1 = 12) (hm2 : wp_M 11 95 (.ref 74 :: lw_as xs k 2) h1 (fun r => r = (h2, some (.int x))))
    (K : wp_X 12 im_m104 645 [(3, .int (nI (3 * k))), (2, .ref 74), (1, .ref 1), (0, .ref 0)] [] h2 Q) : wp_X 12 im_m104 329 [(3, .int (nI (3 * k))), (2, .ref 74), (1, .ref 1), (0, .ref 0)] [] h Q := by
  refine wp_s (pc' := 330) (lv' := [(3, .int (nI (3 * k))), (2, .ref 74), (1, .ref 1), (0, .ref 0)]) (st' := [.ref 1]) (h' := h) rfl (fun _ => rfl) ?_
  refine wp_s (pc' := 331) (lv' := [(3, .int (nI (3 * k))), (2, .ref 74), (1, .ref 1), (0, .ref 0)]) (st' := [.ref 0, .ref 1]) (h' := h) rfl (fun _ => rfl) ?_
  refine wp_s (pc' := 332) (lv' := [(3, .int (nI (3 * k))), (2, .ref 74), (1, .ref 1), (0, .ref 0)]) (st' := [.int (nI (3 * k)), .ref 0, .ref 1]) (h' := h) rfl (fun _ => rfl) ?_
  refine wp_s (pc' := 333) (lv' := [(3, .int (nI (3 * k))), (2, .ref 74), (1, .ref 1), (0, .ref 0)]) (st' := [.int 1, .int (nI (3 * k)), .ref 0, .ref 1]) (h' := h) rfl (fun _ => rfl) ?_
  refine wp_s (pc' := 334) (lv' := [(3, .int (nI (3 * k))), (2, .ref 74), (1, .ref 1), (0, .ref 0)]) (st' := [.int (nI (3 * k) + 1), .ref 0, .ref 1]) (h' := h) rfl (fun _ => rfl) ?_
  refine wp_h (t := 335) rfl rfl (wh_ia (v := .int (xs (3 * k + 1))) hs (Or.inl rfl) (lw_ix1 hk hL) rfl) rfl ?_
  refine wp_s (pc' := 336) (lv' := [(3, .int (nI (3 * k))), (2, .ref 74), (1, .ref 1), (0, .ref 0)]) (st' := [.ref 0, .int (xs (3 * k + 1)), .ref 1]) (h' := h) rfl (fun _ => rfl) ?_
  refine wp_s (pc' := 337) (lv' := [(3, .int (nI (3 * k))), (2, .ref 74), (1, .ref 1), (0, .ref 0)]) (st' := [.int (nI (3 * k)), .ref 0, .int (xs (3 * k + 1)), .ref 1]) (h' := h) rfl (fun _ => rfl) ?_
  refine wp_s (pc' := 338) (lv' := [(3, .int (nI (3 * k))), (2, .ref 74), (1, .ref 1), (0, .ref 0)]) (st' := [.int 2, .int (nI (3 * k)), .ref 0, .int (xs (3 * k + 1)), .ref 1]) (h' := h) rfl (fun _ => rfl) ?_
  refine wp_s (pc' := 339) (lv' := [(3, .int (nI (3 * k))), (2, .ref 74), (1, .ref 1), (0, .ref 0)]) (st' := [.int (nI (3 * k) + 2), .ref 0, .int (xs (3 * k + 1)), .ref 1]) (h' := h) rfl (fun _ => rfl) ?_
  refine wp_h (t := 340) rfl rfl (wh_ia (v := .int (xs (3 * k + 2))) hs (Or.inl rfl) (lw_ix2 hk hL) rfl) rfl ?_
  refine wp_vi (t := 343) rfl rfl (Or.inl rfl) rfl rfl (by decide) hx1 hc (wp_M.deep hm1 (by decide)) rfl (fun h' v hP => ?_)
  cases hP
  show wp_X _ _ 343 [(3, .int (nI (3 * k))), (2, .ref 74), (1, .ref 1), (0, .ref 0)] [.int x] h1 _
  refine wp_s (pc' := 344) (lv' := [(3, .int (nI (3 * k))), (2, .ref 74), (1, .ref 1), (0, .ref 0)]) (st' := [.ref 74, .int x]) (h' := h1) rfl (fun _ => rfl) ?_
  refine wp_s (pc' := 345) (lv' := [(3, .int (nI (3 * k))), (2, .ref 74), (1, .ref 1), (0, .ref 0)]) (st' := [.ref 0, .ref 74, .int x]) (h' := h1) rfl (fun _ => rfl) ?_
  refine wp_s (pc' := 346) (lv' := [(3, .int (nI (3 * k))), (2, .ref 74), (1, .ref 1), (0, .ref 0)]) (st' := [.int (nI (3 * k)), .ref 0, .ref 74, .int x]) (h' := h1) rfl (fun _ => rfl) ?_
  refine wp_s (pc' := 347) (lv' := [(3, .int (nI (3 * k))), (2, .ref 74), (1, .ref 1), (0, .ref 0)]) (st' := [.int 1, .int (nI (3 * k)), .ref 0, .ref 74, .int x]) (h' := h1) rfl (fun _ => rfl) ?_
  refine wp_s (pc' := 348) (lv' := [(3, .int (nI (3 * k))), (2, .ref 74), (1, .ref 1), (0, .ref 0)]) (st' := [.int (nI (3 * k) + 1), .ref 0, .ref 74, .int x]) (h' := h1) rfl (fun _ => rfl) ?_
  refine wp_h (t := 349) rfl rfl (wh_ia (v := .int (xs (3 * k + 1))) hs1 (Or.inl rfl) (lw_ix1 hk hL) rfl) rfl ?_
  refine wp_s (pc' := 350) (lv' := [(3, .int (nI (3 * k))), (2, .ref 74), (1, .ref 1), (0, .ref 0)]) (st' := [.ref 0, .int (xs (3 * k + 1)), .ref 74, .int x]) (h' := h1) rfl (fun _ => rfl) ?_
  refine wp_s (pc' := 351) (lv' := [(3, .int (nI (3 * k))), (2, .ref 74), (1, .ref 1), (0, .ref 0)]) (st' := [.int (nI (3 * k)), .ref 0, .int (xs (3 * k + 1)), .ref 74, .int x]) (h' := h1) rfl (fun _ => rfl) ?_
  refine wp_s (pc' := 352) (lv' := [(3, .int (nI (3 * k))), (2, .ref 74), (1, .ref 1), (0, .ref 0)]) (st' := [.int 2, .int (nI (3 * k)), .ref 0, .int (xs (3 * k + 1)), .ref 74, .int x]) (h' := h1) rfl (fun _ => rfl) ?_
  refine wp_s (pc' := 353) (lv' := [(3, .int (nI (3 * k))), (2, .ref 74), (1, .ref 1), (0, .ref 0)]) (st' := [.int (nI (3 * k) + 2), .ref 0, .int (xs (3 * k + 1)), .ref 74, .int x]) (h' := h1) rfl (fun _ => rfl) ?_
  refine wp_h (t := 354) rfl rfl (wh_ia (v := .int (xs (3 * k + 2))) hs1 (Or.inl rfl) (lw_ix2 hk hL) rfl) rfl ?_
  refine wp_vi (t := 357) rfl rfl (Or.inl rfl) rfl rfl (by simp [Value.category]) hx2 hc2 (wp_M.deep hm2 (by decide)) rfl (fun h' v hP => ?_)
  cases hP
  show wp_X _ _ 357 [(3, .int (nI (3 * k))), (2, .ref 74), (1, .ref 1), (0, .ref 0)] [.int x, .int x] h2 _
  exact wp_b (st' := []) (t := 645) rfl rfl (if_pos rfl) rfl K
set_option maxRecDepth 20000 in
theorem lw_c10 {L k : Nat} {xs : Nat → Int32} {h h1 h2 : im_H} {x : Int32} {c c1 : im_C} {Q : im_R → Prop} (hk : 3 * k + 3 ≤ L) (hL : L ≤ 1536) (hs : h.2.2 0 = some (99, L, fun j => .int (xs j))) (hx1 : h.2.2 1 = some c) (hc : c.1 = 0) (hm1 : wp_M 11 11 (.ref 1 :: lw_as xs k 1) h (fun r => r = (h1, some (.int x)))) (hs1 : h1.2.2 0 = some (99, L, fun j => .int (xs j))) (hx2 : h1.2.2 74 = some c1) (hc2 : c1.1 = 12) (hm2 : wp_M 11 83 (.ref 74 :: lw_as xs k 1) h1 (fun r => r = (h2, some (.int x))))
    (K : wp_X 12 im_m104 645 [(3, .int (nI (3 * k))), (2, .ref 74), (1, .ref 1), (0, .ref 0)] [] h2 Q) : wp_X 12 im_m104 362 [(3, .int (nI (3 * k))), (2, .ref 74), (1, .ref 1), (0, .ref 0)] [] h Q := by
  refine wp_s (pc' := 363) (lv' := [(3, .int (nI (3 * k))), (2, .ref 74), (1, .ref 1), (0, .ref 0)]) (st' := [.ref 1]) (h' := h) rfl (fun _ => rfl) ?_
  refine wp_s (pc' := 364) (lv' := [(3, .int (nI (3 * k))), (2, .ref 74), (1, .ref 1), (0, .ref 0)]) (st' := [.ref 0, .ref 1]) (h' := h) rfl (fun _ => rfl) ?_
  refine wp_s (pc' := 365) (lv' := [(3, .int (nI (3 * k))), (2, .ref 74), (1, .ref 1), (0, .ref 0)]) (st' := [.int (nI (3 * k)), .ref 0, .ref 1]) (h' := h) rfl (fun _ => rfl) ?_
  refine wp_s (pc' := 366) (lv' := [(3, .int (nI (3 * k))), (2, .ref 74), (1, .ref 1), (0, .ref 0)]) (st' := [.int 1, .int (nI (3 * k)), .ref 0, .ref 1]) (h' := h) rfl (fun _ => rfl) ?_
  refine wp_s (pc' := 367) (lv' := [(3, .int (nI (3 * k))), (2, .ref 74), (1, .ref 1), (0, .ref 0)]) (st' := [.int (nI (3 * k) + 1), .ref 0, .ref 1]) (h' := h) rfl (fun _ => rfl) ?_
  refine wp_h (t := 368) rfl rfl (wh_ia (v := .int (xs (3 * k + 1))) hs (Or.inl rfl) (lw_ix1 hk hL) rfl) rfl ?_
  refine wp_vi (t := 371) rfl rfl (Or.inl rfl) rfl rfl (by decide) hx1 hc (wp_M.deep hm1 (by decide)) rfl (fun h' v hP => ?_)
  cases hP
  show wp_X _ _ 371 [(3, .int (nI (3 * k))), (2, .ref 74), (1, .ref 1), (0, .ref 0)] [.int x] h1 _
  refine wp_s (pc' := 372) (lv' := [(3, .int (nI (3 * k))), (2, .ref 74), (1, .ref 1), (0, .ref 0)]) (st' := [.ref 74, .int x]) (h' := h1) rfl (fun _ => rfl) ?_
  refine wp_s (pc' := 373) (lv' := [(3, .int (nI (3 * k))), (2, .ref 74), (1, .ref 1), (0, .ref 0)]) (st' := [.ref 0, .ref 74, .int x]) (h' := h1) rfl (fun _ => rfl) ?_
  refine wp_s (pc' := 374) (lv' := [(3, .int (nI (3 * k))), (2, .ref 74), (1, .ref 1), (0, .ref 0)]) (st' := [.int (nI (3 * k)), .ref 0, .ref 74, .int x]) (h' := h1) rfl (fun _ => rfl) ?_
  refine wp_s (pc' := 375) (lv' := [(3, .int (nI (3 * k))), (2, .ref 74), (1, .ref 1), (0, .ref 0)]) (st' := [.int 1, .int (nI (3 * k)), .ref 0, .ref 74, .int x]) (h' := h1) rfl (fun _ => rfl) ?_
  refine wp_s (pc' := 376) (lv' := [(3, .int (nI (3 * k))), (2, .ref 74), (1, .ref 1), (0, .ref 0)]) (st' := [.int (nI (3 * k) + 1), .ref 0, .ref 74, .int x]) (h' := h1) rfl (fun _ => rfl) ?_
  refine wp_h (t := 377) rfl rfl (wh_ia (v := .int (xs (3 * k + 1))) hs1 (Or.inl rfl) (lw_ix1 hk hL) rfl) rfl ?_
  refine wp_vi (t := 380) rfl rfl (Or.inl rfl) rfl rfl (by simp [Value.category]) hx2 hc2 (wp_M.deep hm2 (by decide)) rfl (fun h' v hP => ?_)
  cases hP
  show wp_X _ _ 380 [(3, .int (nI (3 * k))), (2, .ref 74), (1, .ref 1), (0, .ref 0)] [.int x, .int x] h2 _
  exact wp_b (st' := []) (t := 645) rfl rfl (if_pos rfl) rfl K
set_option maxRecDepth 20000 in
theorem lw_c11 {L k : Nat} {xs : Nat → Int32} {h h1 h2 : im_H} {x : Int32} {c c1 : im_C} {Q : im_R → Prop} (hk : 3 * k + 3 ≤ L) (hL : L ≤ 1536) (hs : h.2.2 0 = some (99, L, fun j => .int (xs j))) (hx1 : h.2.2 1 = some c) (hc : c.1 = 0) (hm1 : wp_M 11 12 (.ref 1 :: lw_as xs k 2) h (fun r => r = (h1, some (.int x)))) (hs1 : h1.2.2 0 = some (99, L, fun j => .int (xs j))) (hx2 : h1.2.2 74 = some c1) (hc2 : c1.1 = 12) (hm2 : wp_M 11 84 (.ref 74 :: lw_as xs k 2) h1 (fun r => r = (h2, some (.int x))))
    (K : wp_X 12 im_m104 645 [(3, .int (nI (3 * k))), (2, .ref 74), (1, .ref 1), (0, .ref 0)] [] h2 Q) : wp_X 12 im_m104 385 [(3, .int (nI (3 * k))), (2, .ref 74), (1, .ref 1), (0, .ref 0)] [] h Q := by
  refine wp_s (pc' := 386) (lv' := [(3, .int (nI (3 * k))), (2, .ref 74), (1, .ref 1), (0, .ref 0)]) (st' := [.ref 1]) (h' := h) rfl (fun _ => rfl) ?_
  refine wp_s (pc' := 387) (lv' := [(3, .int (nI (3 * k))), (2, .ref 74), (1, .ref 1), (0, .ref 0)]) (st' := [.ref 0, .ref 1]) (h' := h) rfl (fun _ => rfl) ?_
  refine wp_s (pc' := 388) (lv' := [(3, .int (nI (3 * k))), (2, .ref 74), (1, .ref 1), (0, .ref 0)]) (st' := [.int (nI (3 * k)), .ref 0, .ref 1]) (h' := h) rfl (fun _ => rfl) ?_
  refine wp_s (pc' := 389) (lv' := [(3, .int (nI (3 * k))), (2, .ref 74), (1, .ref 1), (0, .ref 0)]) (st' := [.int 1, .int (nI (3 * k)), .ref 0, .ref 1]) (h' := h) rfl (fun _ => rfl) ?_
  refine wp_s (pc' := 390) (lv' := [(3, .int (nI (3 * k))), (2, .ref 74), (1, .ref 1), (0, .ref 0)]) (st' := [.int (nI (3 * k) + 1), .ref 0, .ref 1]) (h' := h) rfl (fun _ => rfl) ?_
  refine wp_h (t := 391) rfl rfl (wh_ia (v := .int (xs (3 * k + 1))) hs (Or.inl rfl) (lw_ix1 hk hL) rfl) rfl ?_
  refine wp_s (pc' := 392) (lv' := [(3, .int (nI (3 * k))), (2, .ref 74), (1, .ref 1), (0, .ref 0)]) (st' := [.ref 0, .int (xs (3 * k + 1)), .ref 1]) (h' := h) rfl (fun _ => rfl) ?_
  refine wp_s (pc' := 393) (lv' := [(3, .int (nI (3 * k))), (2, .ref 74), (1, .ref 1), (0, .ref 0)]) (st' := [.int (nI (3 * k)), .ref 0, .int (xs (3 * k + 1)), .ref 1]) (h' := h) rfl (fun _ => rfl) ?_
  refine wp_s (pc' := 394) (lv' := [(3, .int (nI (3 * k))), (2, .ref 74), (1, .ref 1), (0, .ref 0)]) (st' := [.int 2, .int (nI (3 * k)), .ref 0, .int (xs (3 * k + 1)), .ref 1]) (h' := h) rfl (fun _ => rfl) ?_
  refine wp_s (pc' := 395) (lv' := [(3, .int (nI (3 * k))), (2, .ref 74), (1, .ref 1), (0, .ref 0)]) (st' := [.int (nI (3 * k) + 2), .ref 0, .int (xs (3 * k + 1)), .ref 1]) (h' := h) rfl (fun _ => rfl) ?_
  refine wp_h (t := 396) rfl rfl (wh_ia (v := .int (xs (3 * k + 2))) hs (Or.inl rfl) (lw_ix2 hk hL) rfl) rfl ?_
  refine wp_vi (t := 399) rfl rfl (Or.inl rfl) rfl rfl (by decide) hx1 hc (wp_M.deep hm1 (by decide)) rfl (fun h' v hP => ?_)
  cases hP
  show wp_X _ _ 399 [(3, .int (nI (3 * k))), (2, .ref 74), (1, .ref 1), (0, .ref 0)] [.int x] h1 _
  refine wp_s (pc' := 400) (lv' := [(3, .int (nI (3 * k))), (2, .ref 74), (1, .ref 1), (0, .ref 0)]) (st' := [.ref 74, .int x]) (h' := h1) rfl (fun _ => rfl) ?_
  refine wp_s (pc' := 401) (lv' := [(3, .int (nI (3 * k))), (2, .ref 74), (1, .ref 1), (0, .ref 0)]) (st' := [.ref 0, .ref 74, .int x]) (h' := h1) rfl (fun _ => rfl) ?_
  refine wp_s (pc' := 402) (lv' := [(3, .int (nI (3 * k))), (2, .ref 74), (1, .ref 1), (0, .ref 0)]) (st' := [.int (nI (3 * k)), .ref 0, .ref 74, .int x]) (h' := h1) rfl (fun _ => rfl) ?_
  refine wp_s (pc' := 403) (lv' := [(3, .int (nI (3 * k))), (2, .ref 74), (1, .ref 1), (0, .ref 0)]) (st' := [.int 1, .int (nI (3 * k)), .ref 0, .ref 74, .int x]) (h' := h1) rfl (fun _ => rfl) ?_
  refine wp_s (pc' := 404) (lv' := [(3, .int (nI (3 * k))), (2, .ref 74), (1, .ref 1), (0, .ref 0)]) (st' := [.int (nI (3 * k) + 1), .ref 0, .ref 74, .int x]) (h' := h1) rfl (fun _ => rfl) ?_
  refine wp_h (t := 405) rfl rfl (wh_ia (v := .int (xs (3 * k + 1))) hs1 (Or.inl rfl) (lw_ix1 hk hL) rfl) rfl ?_
  refine wp_s (pc' := 406) (lv' := [(3, .int (nI (3 * k))), (2, .ref 74), (1, .ref 1), (0, .ref 0)]) (st' := [.ref 0, .int (xs (3 * k + 1)), .ref 74, .int x]) (h' := h1) rfl (fun _ => rfl) ?_
  refine wp_s (pc' := 407) (lv' := [(3, .int (nI (3 * k))), (2, .ref 74), (1, .ref 1), (0, .ref 0)]) (st' := [.int (nI (3 * k)), .ref 0, .int (xs (3 * k + 1)), .ref 74, .int x]) (h' := h1) rfl (fun _ => rfl) ?_
  refine wp_s (pc' := 408) (lv' := [(3, .int (nI (3 * k))), (2, .ref 74), (1, .ref 1), (0, .ref 0)]) (st' := [.int 2, .int (nI (3 * k)), .ref 0, .int (xs (3 * k + 1)), .ref 74, .int x]) (h' := h1) rfl (fun _ => rfl) ?_
  refine wp_s (pc' := 409) (lv' := [(3, .int (nI (3 * k))), (2, .ref 74), (1, .ref 1), (0, .ref 0)]) (st' := [.int (nI (3 * k) + 2), .ref 0, .int (xs (3 * k + 1)), .ref 74, .int x]) (h' := h1) rfl (fun _ => rfl) ?_
  refine wp_h (t := 410) rfl rfl (wh_ia (v := .int (xs (3 * k + 2))) hs1 (Or.inl rfl) (lw_ix2 hk hL) rfl) rfl ?_
  refine wp_vi (t := 413) rfl rfl (Or.inl rfl) rfl rfl (by simp [Value.category]) hx2 hc2 (wp_M.deep hm2 (by decide)) rfl (fun h' v hP => ?_)
  cases hP
  show wp_X _ _ 413 [(3, .int (nI (3 * k))), (2, .ref 74), (1, .ref 1), (0, .ref 0)] [.int x, .int x] h2 _
  exact wp_b (st' := []) (t := 645) rfl rfl (if_pos rfl) rfl K
set_option maxRecDepth 20000 in
theorem lw_c12 {L k : Nat} {xs : Nat → Int32} {h h1 h2 : im_H} {x : Int32} {c c1 : im_C} {Q : im_R → Prop} (hk : 3 * k + 3 ≤ L) (hL : L ≤ 1536) (hs : h.2.2 0 = some (99, L, fun j => .int (xs j))) (hx1 : h.2.2 1 = some c) (hc : c.1 = 0) (hm1 : wp_M 11 13 (.ref 1 :: lw_as xs k 0) h (fun r => r = (h1, some (.int x)))) (hs1 : h1.2.2 0 = some (99, L, fun j => .int (xs j))) (hx2 : h1.2.2 74 = some c1) (hc2 : c1.1 = 12) (hm2 : wp_M 11 88 (.ref 74 :: lw_as xs k 0) h1 (fun r => r = (h2, some (.int x))))
    (K : wp_X 12 im_m104 645 [(3, .int (nI (3 * k))), (2, .ref 74), (1, .ref 1), (0, .ref 0)] [] h2 Q) : wp_X 12 im_m104 418 [(3, .int (nI (3 * k))), (2, .ref 74), (1, .ref 1), (0, .ref 0)] [] h Q := by
  refine wp_s (pc' := 419) (lv' := [(3, .int (nI (3 * k))), (2, .ref 74), (1, .ref 1), (0, .ref 0)]) (st' := [.ref 1]) (h' := h) rfl (fun _ => rfl) ?_
  refine wp_vi (t := 422) rfl rfl (Or.inl rfl) rfl rfl (by decide) hx1 hc (wp_M.deep hm1 (by decide)) rfl (fun h' v hP => ?_)
  cases hP
  show wp_X _ _ 422 [(3, .int (nI (3 * k))), (2, .ref 74), (1, .ref 1), (0, .ref 0)] [.int x] h1 _
  refine wp_s (pc' := 423) (lv' := [(3, .int (nI (3 * k))), (2, .ref 74), (1, .ref 1), (0, .ref 0)]) (st' := [.ref 74, .int x]) (h' := h1) rfl (fun _ => rfl) ?_
  refine wp_vi (t := 426) rfl rfl (Or.inl rfl) rfl rfl (by simp [Value.category]) hx2 hc2 (wp_M.deep hm2 (by decide)) rfl (fun h' v hP => ?_)
  cases hP
  show wp_X _ _ 426 [(3, .int (nI (3 * k))), (2, .ref 74), (1, .ref 1), (0, .ref 0)] [.int x, .int x] h2 _
  exact wp_b (st' := []) (t := 645) rfl rfl (if_pos rfl) rfl K
set_option maxRecDepth 20000 in
theorem lw_c13 {L k : Nat} {xs : Nat → Int32} {h h1 h2 : im_H} {x : Int32} {c c1 : im_C} {Q : im_R → Prop} (hk : 3 * k + 3 ≤ L) (hL : L ≤ 1536) (hs : h.2.2 0 = some (99, L, fun j => .int (xs j))) (hx1 : h.2.2 1 = some c) (hc : c.1 = 0) (hm1 : wp_M 11 14 (.ref 1 :: lw_as xs k 1) h (fun r => r = (h1, some (.int x)))) (hs1 : h1.2.2 0 = some (99, L, fun j => .int (xs j))) (hx2 : h1.2.2 74 = some c1) (hc2 : c1.1 = 12) (hm2 : wp_M 11 87 (.ref 74 :: lw_as xs k 1) h1 (fun r => r = (h2, some (.int x))))
    (K : wp_X 12 im_m104 645 [(3, .int (nI (3 * k))), (2, .ref 74), (1, .ref 1), (0, .ref 0)] [] h2 Q) : wp_X 12 im_m104 431 [(3, .int (nI (3 * k))), (2, .ref 74), (1, .ref 1), (0, .ref 0)] [] h Q := by
  refine wp_s (pc' := 432) (lv' := [(3, .int (nI (3 * k))), (2, .ref 74), (1, .ref 1), (0, .ref 0)]) (st' := [.ref 1]) (h' := h) rfl (fun _ => rfl) ?_
  refine wp_s (pc' := 433) (lv' := [(3, .int (nI (3 * k))), (2, .ref 74), (1, .ref 1), (0, .ref 0)]) (st' := [.ref 0, .ref 1]) (h' := h) rfl (fun _ => rfl) ?_
  refine wp_s (pc' := 434) (lv' := [(3, .int (nI (3 * k))), (2, .ref 74), (1, .ref 1), (0, .ref 0)]) (st' := [.int (nI (3 * k)), .ref 0, .ref 1]) (h' := h) rfl (fun _ => rfl) ?_
  refine wp_s (pc' := 435) (lv' := [(3, .int (nI (3 * k))), (2, .ref 74), (1, .ref 1), (0, .ref 0)]) (st' := [.int 1, .int (nI (3 * k)), .ref 0, .ref 1]) (h' := h) rfl (fun _ => rfl) ?_
  refine wp_s (pc' := 436) (lv' := [(3, .int (nI (3 * k))), (2, .ref 74), (1, .ref 1), (0, .ref 0)]) (st' := [.int (nI (3 * k) + 1), .ref 0, .ref 1]) (h' := h) rfl (fun _ => rfl) ?_
  refine wp_h (t := 437) rfl rfl (wh_ia (v := .int (xs (3 * k + 1))) hs (Or.inl rfl) (lw_ix1 hk hL) rfl) rfl ?_
  refine wp_vi (t := 440) rfl rfl (Or.inl rfl) rfl rfl (by decide) hx1 hc (wp_M.deep hm1 (by decide)) rfl (fun h' v hP => ?_)
  cases hP
  show wp_X _ _ 440 [(3, .int (nI (3 * k))), (2, .ref 74), (1, .ref 1), (0, .ref 0)] [.int x] h1 _
  refine wp_s (pc' := 441) (lv' := [(3, .int (nI (3 * k))), (2, .ref 74), (1, .ref 1), (0, .ref 0)]) (st' := [.ref 74, .int x]) (h' := h1) rfl (fun _ => rfl) ?_
  refine wp_s (pc' := 442) (lv' := [(3, .int (nI (3 * k))), (2, .ref 74), (1, .ref 1), (0, .ref 0)]) (st' := [.ref 0, .ref 74, .int x]) (h' := h1) rfl (fun _ => rfl) ?_
  refine wp_s (pc' := 443) (lv' := [(3, .int (nI (3 * k))), (2, .ref 74), (1, .ref 1), (0, .ref 0)]) (st' := [.int (nI (3 * k)), .ref 0, .ref 74, .int x]) (h' := h1) rfl (fun _ => rfl) ?_
  refine wp_s (pc' := 444) (lv' := [(3, .int (nI (3 * k))), (2, .ref 74), (1, .ref 1), (0, .ref 0)]) (st' := [.int 1, .int (nI (3 * k)), .ref 0, .ref 74, .int x]) (h' := h1) rfl (fun _ => rfl) ?_
  refine wp_s (pc' := 445) (lv' := [(3, .int (nI (3 * k))), (2, .ref 74), (1, .ref 1), (0, .ref 0)]) (st' := [.int (nI (3 * k) + 1), .ref 0, .ref 74, .int x]) (h' := h1) rfl (fun _ => rfl) ?_
  refine wp_h (t := 446) rfl rfl (wh_ia (v := .int (xs (3 * k + 1))) hs1 (Or.inl rfl) (lw_ix1 hk hL) rfl) rfl ?_
  refine wp_vi (t := 449) rfl rfl (Or.inl rfl) rfl rfl (by simp [Value.category]) hx2 hc2 (wp_M.deep hm2 (by decide)) rfl (fun h' v hP => ?_)
  cases hP
  show wp_X _ _ 449 [(3, .int (nI (3 * k))), (2, .ref 74), (1, .ref 1), (0, .ref 0)] [.int x, .int x] h2 _
  exact wp_b (st' := []) (t := 645) rfl rfl (if_pos rfl) rfl K
set_option maxRecDepth 20000 in
theorem lw_c14 {L k : Nat} {xs : Nat → Int32} {h h1 h2 : im_H} {x : Int32} {c c1 : im_C} {Q : im_R → Prop} (hk : 3 * k + 3 ≤ L) (hL : L ≤ 1536) (hs : h.2.2 0 = some (99, L, fun j => .int (xs j))) (hx1 : h.2.2 1 = some c) (hc : c.1 = 0) (hm1 : wp_M 11 15 (.ref 1 :: lw_as xs k 0) h (fun r => r = (h1, some (.int x)))) (hs1 : h1.2.2 0 = some (99, L, fun j => .int (xs j))) (hx2 : h1.2.2 74 = some c1) (hc2 : c1.1 = 12) (hm2 : wp_M 11 89 (.ref 74 :: lw_as xs k 0) h1 (fun r => r = (h2, some (.int x))))
    (K : wp_X 12 im_m104 645 [(3, .int (nI (3 * k))), (2, .ref 74), (1, .ref 1), (0, .ref 0)] [] h2 Q) : wp_X 12 im_m104 454 [(3, .int (nI (3 * k))), (2, .ref 74), (1, .ref 1), (0, .ref 0)] [] h Q := by
  refine wp_s (pc' := 455) (lv' := [(3, .int (nI (3 * k))), (2, .ref 74), (1, .ref 1), (0, .ref 0)]) (st' := [.ref 1]) (h' := h) rfl (fun _ => rfl) ?_
  refine wp_vi (t := 458) rfl rfl (Or.inl rfl) rfl rfl (by decide) hx1 hc (wp_M.deep hm1 (by decide)) rfl (fun h' v hP => ?_)
  cases hP
  show wp_X _ _ 458 [(3, .int (nI (3 * k))), (2, .ref 74), (1, .ref 1), (0, .ref 0)] [.int x] h1 _
  refine wp_s (pc' := 459) (lv' := [(3, .int (nI (3 * k))), (2, .ref 74), (1, .ref 1), (0, .ref 0)]) (st' := [.ref 74, .int x]) (h' := h1) rfl (fun _ => rfl) ?_
  refine wp_vi (t := 462) rfl rfl (Or.inl rfl) rfl rfl (by simp [Value.category]) hx2 hc2 (wp_M.deep hm2 (by decide)) rfl (fun h' v hP => ?_)
  cases hP
  show wp_X _ _ 462 [(3, .int (nI (3 * k))), (2, .ref 74), (1, .ref 1), (0, .ref 0)] [.int x, .int x] h2 _
  exact wp_b (st' := []) (t := 645) rfl rfl (if_pos rfl) rfl K
set_option maxRecDepth 20000 in
theorem lw_c15 {L k : Nat} {xs : Nat → Int32} {h h1 h2 : im_H} {x : Int32} {c c1 : im_C} {Q : im_R → Prop} (hk : 3 * k + 3 ≤ L) (hL : L ≤ 1536) (hs : h.2.2 0 = some (99, L, fun j => .int (xs j))) (hx1 : h.2.2 1 = some c) (hc : c.1 = 0) (hm1 : wp_M 11 16 (.ref 1 :: lw_as xs k 1) h (fun r => r = (h1, some (.int x)))) (hs1 : h1.2.2 0 = some (99, L, fun j => .int (xs j))) (hx2 : h1.2.2 74 = some c1) (hc2 : c1.1 = 12) (hm2 : wp_M 11 92 (.ref 74 :: lw_as xs k 1) h1 (fun r => r = (h2, some (.int x))))
    (K : wp_X 12 im_m104 645 [(3, .int (nI (3 * k))), (2, .ref 74), (1, .ref 1), (0, .ref 0)] [] h2 Q) : wp_X 12 im_m104 467 [(3, .int (nI (3 * k))), (2, .ref 74), (1, .ref 1), (0, .ref 0)] [] h Q := by
  refine wp_s (pc' := 468) (lv' := [(3, .int (nI (3 * k))), (2, .ref 74), (1, .ref 1), (0, .ref 0)]) (st' := [.ref 1]) (h' := h) rfl (fun _ => rfl) ?_
  refine wp_s (pc' := 469) (lv' := [(3, .int (nI (3 * k))), (2, .ref 74), (1, .ref 1), (0, .ref 0)]) (st' := [.ref 0, .ref 1]) (h' := h) rfl (fun _ => rfl) ?_
  refine wp_s (pc' := 470) (lv' := [(3, .int (nI (3 * k))), (2, .ref 74), (1, .ref 1), (0, .ref 0)]) (st' := [.int (nI (3 * k)), .ref 0, .ref 1]) (h' := h) rfl (fun _ => rfl) ?_
  refine wp_s (pc' := 471) (lv' := [(3, .int (nI (3 * k))), (2, .ref 74), (1, .ref 1), (0, .ref 0)]) (st' := [.int 1, .int (nI (3 * k)), .ref 0, .ref 1]) (h' := h) rfl (fun _ => rfl) ?_
  refine wp_s (pc' := 472) (lv' := [(3, .int (nI (3 * k))), (2, .ref 74), (1, .ref 1), (0, .ref 0)]) (st' := [.int (nI (3 * k) + 1), .ref 0, .ref 1]) (h' := h) rfl (fun _ => rfl) ?_
  refine wp_h (t := 473) rfl rfl (wh_ia (v := .int (xs (3 * k + 1))) hs (Or.inl rfl) (lw_ix1 hk hL) rfl) rfl ?_
  refine wp_vi (t := 476) rfl rfl (Or.inl rfl) rfl rfl (by decide) hx1 hc (wp_M.deep hm1 (by decide)) rfl (fun h' v hP => ?_)
  cases hP
  show wp_X _ _ 476 [(3, .int (nI (3 * k))), (2, .ref 74), (1, .ref 1), (0, .ref 0)] [.int x] h1 _
  refine wp_s (pc' := 477) (lv' := [(3, .int (nI (3 * k))), (2, .ref 74), (1, .ref 1), (0, .ref 0)]) (st' := [.ref 74, .int x]) (h' := h1) rfl (fun _ => rfl) ?_
  refine wp_s (pc' := 478) (lv' := [(3, .int (nI (3 * k))), (2, .ref 74), (1, .ref 1), (0, .ref 0)]) (st' := [.ref 0, .ref 74, .int x]) (h' := h1) rfl (fun _ => rfl) ?_
  refine wp_s (pc' := 479) (lv' := [(3, .int (nI (3 * k))), (2, .ref 74), (1, .ref 1), (0, .ref 0)]) (st' := [.int (nI (3 * k)), .ref 0, .ref 74, .int x]) (h' := h1) rfl (fun _ => rfl) ?_
  refine wp_s (pc' := 480) (lv' := [(3, .int (nI (3 * k))), (2, .ref 74), (1, .ref 1), (0, .ref 0)]) (st' := [.int 1, .int (nI (3 * k)), .ref 0, .ref 74, .int x]) (h' := h1) rfl (fun _ => rfl) ?_
  refine wp_s (pc' := 481) (lv' := [(3, .int (nI (3 * k))), (2, .ref 74), (1, .ref 1), (0, .ref 0)]) (st' := [.int (nI (3 * k) + 1), .ref 0, .ref 74, .int x]) (h' := h1) rfl (fun _ => rfl) ?_
  refine wp_h (t := 482) rfl rfl (wh_ia (v := .int (xs (3 * k + 1))) hs1 (Or.inl rfl) (lw_ix1 hk hL) rfl) rfl ?_
  refine wp_vi (t := 485) rfl rfl (Or.inl rfl) rfl rfl (by simp [Value.category]) hx2 hc2 (wp_M.deep hm2 (by decide)) rfl (fun h' v hP => ?_)
  cases hP
  show wp_X _ _ 485 [(3, .int (nI (3 * k))), (2, .ref 74), (1, .ref 1), (0, .ref 0)] [.int x, .int x] h2 _
  exact wp_b (st' := []) (t := 645) rfl rfl (if_pos rfl) rfl K
set_option maxRecDepth 20000 in
theorem lw_c16 {L k : Nat} {xs : Nat → Int32} {h h1 h2 : im_H} {x : Int32} {c c1 : im_C} {Q : im_R → Prop} (hk : 3 * k + 3 ≤ L) (hL : L ≤ 1536) (hs : h.2.2 0 = some (99, L, fun j => .int (xs j))) (hx1 : h.2.2 1 = some c) (hc : c.1 = 0) (hm1 : wp_M 11 17 (.ref 1 :: lw_as xs k 2) h (fun r => r = (h1, some (.int x)))) (hs1 : h1.2.2 0 = some (99, L, fun j => .int (xs j))) (hx2 : h1.2.2 74 = some c1) (hc2 : c1.1 = 12) (hm2 : wp_M 11 94 (.ref 74 :: lw_as xs k 2) h1 (fun r => r = (h2, some (.int x))))
    (K : wp_X 12 im_m104 645 [(3, .int (nI (3 * k))), (2, .ref 74), (1, .ref 1), (0, .ref 0)] [] h2 Q) : wp_X 12 im_m104 490 [(3, .int (nI (3 * k))), (2, .ref 74), (1, .ref 1), (0, .ref 0)] [] h Q := by
  refine wp_s (pc' := 491) (lv' := [(3, .int (nI (3 * k))), (2, .ref 74), (1, .ref 1), (0, .ref 0)]) (st' := [.ref 1]) (h' := h) rfl (fun _ => rfl) ?_
  refine wp_s (pc' := 492) (lv' := [(3, .int (nI (3 * k))), (2, .ref 74), (1, .ref 1), (0, .ref 0)]) (st' := [.ref 0, .ref 1]) (h' := h) rfl (fun _ => rfl) ?_
  refine wp_s (pc' := 493) (lv' := [(3, .int (nI (3 * k))), (2, .ref 74), (1, .ref 1), (0, .ref 0)]) (st' := [.int (nI (3 * k)), .ref 0, .ref 1]) (h' := h) rfl (fun _ => rfl) ?_
  refine wp_s (pc' := 494) (lv' := [(3, .int (nI (3 * k))), (2, .ref 74), (1, .ref 1), (0, .ref 0)]) (st' := [.int 1, .int (nI (3 * k)), .ref 0, .ref 1]) (h' := h) rfl (fun _ => rfl) ?_
  refine wp_s (pc' := 495) (lv' := [(3, .int (nI (3 * k))), (2, .ref 74), (1, .ref 1), (0, .ref 0)]) (st' := [.int (nI (3 * k) + 1), .ref 0, .ref 1]) (h' := h) rfl (fun _ => rfl) ?_
  refine wp_h (t := 496) rfl rfl (wh_ia (v := .int (xs (3 * k + 1))) hs (Or.inl rfl) (lw_ix1 hk hL) rfl) rfl ?_
  refine wp_s (pc' := 497) (lv' := [(3, .int (nI (3 * k))), (2, .ref 74), (1, .ref 1), (0, .ref 0)]) (st' := [.ref 0, .int (xs (3 * k + 1)), .ref 1]) (h' := h) rfl (fun _ => rfl) ?_
  refine wp_s (pc' := 498) (lv' := [(3, .int (nI (3 * k))), (2, .ref 74), (1, .ref 1), (0, .ref 0)]) (st' := [.int (nI (3 * k)), .ref 0, .int (xs (3 * k + 1)), .ref 1]) (h' := h) rfl (fun _ => rfl) ?_
  refine wp_s (pc' := 499) (lv' := [(3, .int (nI (3 * k))), (2, .ref 74), (1, .ref 1), (0, .ref 0)]) (st' := [.int 2, .int (nI (3 * k)), .ref 0, .int (xs (3 * k + 1)), .ref 1]) (h' := h) rfl (fun _ => rfl) ?_
  refine wp_s (pc' := 500) (lv' := [(3, .int (nI (3 * k))), (2, .ref 74), (1, .ref 1), (0, .ref 0)]) (st' := [.int (nI (3 * k) + 2), .ref 0, .int (xs (3 * k + 1)), .ref 1]) (h' := h) rfl (fun _ => rfl) ?_
  refine wp_h (t := 501) rfl rfl (wh_ia (v := .int (xs (3 * k + 2))) hs (Or.inl rfl) (lw_ix2 hk hL) rfl) rfl ?_
  refine wp_vi (t := 504) rfl rfl (Or.inl rfl) rfl rfl (by decide) hx1 hc (wp_M.deep hm1 (by decide)) rfl (fun h' v hP => ?_)
  cases hP
  show wp_X _ _ 504 [(3, .int (nI (3 * k))), (2, .ref 74), (1, .ref 1), (0, .ref 0)] [.int x] h1 _
  refine wp_s (pc' := 505) (lv' := [(3, .int (nI (3 * k))), (2, .ref 74), (1, .ref 1), (0, .ref 0)]) (st' := [.ref 74, .int x]) (h' := h1) rfl (fun _ => rfl) ?_
  refine wp_s (pc' := 506) (lv' := [(3, .int (nI (3 * k))), (2, .ref 74), (1, .ref 1), (0, .ref 0)]) (st' := [.ref 0, .ref 74, .int x]) (h' := h1) rfl (fun _ => rfl) ?_
  refine wp_s (pc' := 507) (lv' := [(3, .int (nI (3 * k))), (2, .ref 74), (1, .ref 1), (0, .ref 0)]) (st' := [.int (nI (3 * k)), .ref 0, .ref 74, .int x]) (h' := h1) rfl (fun _ => rfl) ?_
  refine wp_s (pc' := 508) (lv' := [(3, .int (nI (3 * k))), (2, .ref 74), (1, .ref 1), (0, .ref 0)]) (st' := [.int 1, .int (nI (3 * k)), .ref 0, .ref 74, .int x]) (h' := h1) rfl (fun _ => rfl) ?_
  refine wp_s (pc' := 509) (lv' := [(3, .int (nI (3 * k))), (2, .ref 74), (1, .ref 1), (0, .ref 0)]) (st' := [.int (nI (3 * k) + 1), .ref 0, .ref 74, .int x]) (h' := h1) rfl (fun _ => rfl) ?_
  refine wp_h (t := 510) rfl rfl (wh_ia (v := .int (xs (3 * k + 1))) hs1 (Or.inl rfl) (lw_ix1 hk hL) rfl) rfl ?_
  refine wp_s (pc' := 511) (lv' := [(3, .int (nI (3 * k))), (2, .ref 74), (1, .ref 1), (0, .ref 0)]) (st' := [.ref 0, .int (xs (3 * k + 1)), .ref 74, .int x]) (h' := h1) rfl (fun _ => rfl) ?_
  refine wp_s (pc' := 512) (lv' := [(3, .int (nI (3 * k))), (2, .ref 74), (1, .ref 1), (0, .ref 0)]) (st' := [.int (nI (3 * k)), .ref 0, .int (xs (3 * k + 1)), .ref 74, .int x]) (h' := h1) rfl (fun _ => rfl) ?_
  refine wp_s (pc' := 513) (lv' := [(3, .int (nI (3 * k))), (2, .ref 74), (1, .ref 1), (0, .ref 0)]) (st' := [.int 2, .int (nI (3 * k)), .ref 0, .int (xs (3 * k + 1)), .ref 74, .int x]) (h' := h1) rfl (fun _ => rfl) ?_
  refine wp_s (pc' := 514) (lv' := [(3, .int (nI (3 * k))), (2, .ref 74), (1, .ref 1), (0, .ref 0)]) (st' := [.int (nI (3 * k) + 2), .ref 0, .int (xs (3 * k + 1)), .ref 74, .int x]) (h' := h1) rfl (fun _ => rfl) ?_
  refine wp_h (t := 515) rfl rfl (wh_ia (v := .int (xs (3 * k + 2))) hs1 (Or.inl rfl) (lw_ix2 hk hL) rfl) rfl ?_
  refine wp_vi (t := 518) rfl rfl (Or.inl rfl) rfl rfl (by simp [Value.category]) hx2 hc2 (wp_M.deep hm2 (by decide)) rfl (fun h' v hP => ?_)
  cases hP
  show wp_X _ _ 518 [(3, .int (nI (3 * k))), (2, .ref 74), (1, .ref 1), (0, .ref 0)] [.int x, .int x] h2 _
  exact wp_b (st' := []) (t := 645) rfl rfl (if_pos rfl) rfl K
set_option maxRecDepth 20000 in
theorem lw_c17 {L k : Nat} {xs : Nat → Int32} {h h1 h2 : im_H} {x : Int32} {c c1 : im_C} {Q : im_R → Prop} (hk : 3 * k + 3 ≤ L) (hL : L ≤ 1536) (hs : h.2.2 0 = some (99, L, fun j => .int (xs j))) (hx1 : h.2.2 1 = some c) (hc : c.1 = 0) (hm1 : wp_M 11 18 (.ref 1 :: lw_as xs k 2) h (fun r => r = (h1, some (.int x)))) (hs1 : h1.2.2 0 = some (99, L, fun j => .int (xs j))) (hx2 : h1.2.2 74 = some c1) (hc2 : c1.1 = 12) (hm2 : wp_M 11 96 (.ref 74 :: lw_as xs k 2) h1 (fun r => r = (h2, some (.int x))))
    (K : wp_X 12 im_m104 645 [(3, .int (nI (3 * k))), (2, .ref 74), (1, .ref 1), (0, .ref 0)] [] h2 Q) : wp_X 12 im_m104 523 [(3, .int (nI (3 * k))), (2, .ref 74), (1, .ref 1), (0, .ref 0)] [] h Q := by
  refine wp_s (pc' := 524) (lv' := [(3, .int (nI (3 * k))), (2, .ref 74), (1, .ref 1), (0, .ref 0)]) (st' := [.ref 1]) (h' := h) rfl (fun _ => rfl) ?_
  refine wp_s (pc' := 525) (lv' := [(3, .int (nI (3 * k))), (2, .ref 74), (1, .ref 1), (0, .ref 0)]) (st' := [.ref 0, .ref 1]) (h' := h) rfl (fun _ => rfl) ?_
  refine wp_s (pc' := 526) (lv' := [(3, .int (nI (3 * k))), (2, .ref 74), (1, .ref 1), (0, .ref 0)]) (st' := [.int (nI (3 * k)), .ref 0, .ref 1]) (h' := h) rfl (fun _ => rfl) ?_
  refine wp_s (pc' := 527) (lv' := [(3, .int (nI (3 * k))), (2, .ref 74), (1, .ref 1), (0, .ref 0)]) (st' := [.int 1, .int (nI (3 * k)), .ref 0, .ref 1]) (h' := h) rfl (fun _ => rfl) ?_
  refine wp_s (pc' := 528) (lv' := [(3, .int (nI (3 * k))), (2, .ref 74), (1, .ref 1), (0, .ref 0)]) (st' := [.int (nI (3 * k) + 1), .ref 0, .ref 1]) (h' := h) rfl (fun _ => rfl) ?_
  refine wp_h (t := 529) rfl rfl (wh_ia (v := .int (xs (3 * k + 1))) hs (Or.inl rfl) (lw_ix1 hk hL) rfl) rfl ?_
  refine wp_s (pc' := 530) (lv' := [(3, .int (nI (3 * k))), (2, .ref 74), (1, .ref 1), (0, .ref 0)]) (st' := [.ref 0, .int (xs (3 * k + 1)), .ref 1]) (h' := h) rfl (fun _ => rfl) ?_
  refine wp_s (pc' := 531) (lv' := [(3, .int (nI (3 * k))), (2, .ref 74), (1, .ref 1), (0, .ref 0)]) (st' := [.int (nI (3 * k)), .ref 0, .int (xs (3 * k + 1)), .ref 1]) (h' := h) rfl (fun _ => rfl) ?_
  refine wp_s (pc' := 532) (lv' := [(3, .int (nI (3 * k))), (2, .ref 74), (1, .ref 1), (0, .ref 0)]) (st' := [.int 2, .int (nI (3 * k)), .ref 0, .int (xs (3 * k + 1)), .ref 1]) (h' := h) rfl (fun _ => rfl) ?_
  refine wp_s (pc' := 533) (lv' := [(3, .int (nI (3 * k))), (2, .ref 74), (1, .ref 1), (0, .ref 0)]) (st' := [.int (nI (3 * k) + 2), .ref 0, .int (xs (3 * k + 1)), .ref 1]) (h' := h) rfl (fun _ => rfl) ?_
  refine wp_h (t := 534) rfl rfl (wh_ia (v := .int (xs (3 * k + 2))) hs (Or.inl rfl) (lw_ix2 hk hL) rfl) rfl ?_
  refine wp_vi (t := 537) rfl rfl (Or.inl rfl) rfl rfl (by decide) hx1 hc (wp_M.deep hm1 (by decide)) rfl (fun h' v hP => ?_)
  cases hP
  show wp_X _ _ 537 [(3, .int (nI (3 * k))), (2, .ref 74), (1, .ref 1), (0, .ref 0)] [.int x] h1 _
  refine wp_s (pc' := 538) (lv' := [(3, .int (nI (3 * k))), (2, .ref 74), (1, .ref 1), (0, .ref 0)]) (st' := [.ref 74, .int x]) (h' := h1) rfl (fun _ => rfl) ?_
  refine wp_s (pc' := 539) (lv' := [(3, .int (nI (3 * k))), (2, .ref 74), (1, .ref 1), (0, .ref 0)]) (st' := [.ref 0, .ref 74, .int x]) (h' := h1) rfl (fun _ => rfl) ?_
  refine wp_s (pc' := 540) (lv' := [(3, .int (nI (3 * k))), (2, .ref 74), (1, .ref 1), (0, .ref 0)]) (st' := [.int (nI (3 * k)), .ref 0, .ref 74, .int x]) (h' := h1) rfl (fun _ => rfl) ?_
  refine wp_s (pc' := 541) (lv' := [(3, .int (nI (3 * k))), (2, .ref 74), (1, .ref 1), (0, .ref 0)]) (st' := [.int 1, .int (nI (3 * k)), .ref 0, .ref 74, .int x]) (h' := h1) rfl (fun _ => rfl) ?_
  refine wp_s (pc' := 542) (lv' := [(3, .int (nI (3 * k))), (2, .ref 74), (1, .ref 1), (0, .ref 0)]) (st' := [.int (nI (3 * k) + 1), .ref 0, .ref 74, .int x]) (h' := h1) rfl (fun _ => rfl) ?_
  refine wp_h (t := 543) rfl rfl (wh_ia (v := .int (xs (3 * k + 1))) hs1 (Or.inl rfl) (lw_ix1 hk hL) rfl) rfl ?_
  refine wp_s (pc' := 544) (lv' := [(3, .int (nI (3 * k))), (2, .ref 74), (1, .ref 1), (0, .ref 0)]) (st' := [.ref 0, .int (xs (3 * k + 1)), .ref 74, .int x]) (h' := h1) rfl (fun _ => rfl) ?_
  refine wp_s (pc' := 545) (lv' := [(3, .int (nI (3 * k))), (2, .ref 74), (1, .ref 1), (0, .ref 0)]) (st' := [.int (nI (3 * k)), .ref 0, .int (xs (3 * k + 1)), .ref 74, .int x]) (h' := h1) rfl (fun _ => rfl) ?_
  refine wp_s (pc' := 546) (lv' := [(3, .int (nI (3 * k))), (2, .ref 74), (1, .ref 1), (0, .ref 0)]) (st' := [.int 2, .int (nI (3 * k)), .ref 0, .int (xs (3 * k + 1)), .ref 74, .int x]) (h' := h1) rfl (fun _ => rfl) ?_
  refine wp_s (pc' := 547) (lv' := [(3, .int (nI (3 * k))), (2, .ref 74), (1, .ref 1), (0, .ref 0)]) (st' := [.int (nI (3 * k) + 2), .ref 0, .int (xs (3 * k + 1)), .ref 74, .int x]) (h' := h1) rfl (fun _ => rfl) ?_
  refine wp_h (t := 548) rfl rfl (wh_ia (v := .int (xs (3 * k + 2))) hs1 (Or.inl rfl) (lw_ix2 hk hL) rfl) rfl ?_
  refine wp_vi (t := 551) rfl rfl (Or.inl rfl) rfl rfl (by simp [Value.category]) hx2 hc2 (wp_M.deep hm2 (by decide)) rfl (fun h' v hP => ?_)
  cases hP
  show wp_X _ _ 551 [(3, .int (nI (3 * k))), (2, .ref 74), (1, .ref 1), (0, .ref 0)] [.int x, .int x] h2 _
  exact wp_b (st' := []) (t := 645) rfl rfl (if_pos rfl) rfl K
set_option maxRecDepth 20000 in
theorem lw_c18 {L k : Nat} {xs : Nat → Int32} {h h1 h2 : im_H} {x : Int32} {c c1 : im_C} {Q : im_R → Prop} (hk : 3 * k + 3 ≤ L) (hL : L ≤ 1536) (hs : h.2.2 0 = some (99, L, fun j => .int (xs j))) (hx1 : h.2.2 1 = some c) (hc : c.1 = 0) (hm1 : wp_M 11 19 (.ref 1 :: lw_as xs k 1) h (fun r => r = (h1, some (.int x)))) (hs1 : h1.2.2 0 = some (99, L, fun j => .int (xs j))) (hx2 : h1.2.2 74 = some c1) (hc2 : c1.1 = 12) (hm2 : wp_M 11 97 (.ref 74 :: lw_as xs k 1) h1 (fun r => r = (h2, some (.int x))))
    (K : wp_X 12 im_m104 645 [(3, .int (nI (3 * k))), (2, .ref 74), (1, .ref 1), (0, .ref 0)] [] h2 Q) : wp_X 12 im_m104 556 [(3, .int (nI (3 * k))), (2, .ref 74), (1, .ref 1), (0, .ref 0)] [] h Q := by
  refine wp_s (pc' := 557) (lv' := [(3, .int (nI (3 * k))), (2, .ref 74), (1, .ref 1), (0, .ref 0)]) (st' := [.ref 1]) (h' := h) rfl (fun _ => rfl) ?_
  refine wp_s (pc' := 558) (lv' := [(3, .int (nI (3 * k))), (2, .ref 74), (1, .ref 1), (0, .ref 0)]) (st' := [.ref 0, .ref 1]) (h' := h) rfl (fun _ => rfl) ?_
  refine wp_s (pc' := 559) (lv' := [(3, .int (nI (3 * k))), (2, .ref 74), (1, .ref 1), (0, .ref 0)]) (st' := [.int (nI (3 * k)), .ref 0, .ref 1]) (h' := h) rfl (fun _ => rfl) ?_
  refine wp_s (pc' := 560) (lv' := [(3, .int (nI (3 * k))), (2, .ref 74), (1, .ref 1), (0, .ref 0)]) (st' := [.int 1, .int (nI (3 * k)), .ref 0, .ref 1]) (h' := h) rfl (fun _ => rfl) ?_
  refine wp_s (pc' := 561) (lv' := [(3, .int (nI (3 * k))), (2, .ref 74), (1, .ref 1), (0, .ref 0)]) (st' := [.int (nI (3 * k) + 1), .ref 0, .ref 1]) (h' := h) rfl (fun _ => rfl) ?_
  refine wp_h (t := 562) rfl rfl (wh_ia (v := .int (xs (3 * k + 1))) hs (Or.inl rfl) (lw_ix1 hk hL) rfl) rfl ?_
  refine wp_vi (t := 565) rfl rfl (Or.inl rfl) rfl rfl (by decide) hx1 hc (wp_M.deep hm1 (by decide)) rfl (fun h' v hP => ?_)
  cases hP
  show wp_X _ _ 565 [(3, .int (nI (3 * k))), (2, .ref 74), (1, .ref 1), (0, .ref 0)] [.int x] h1 _
  refine wp_s (pc' := 566) (lv' := [(3, .int (nI (3 * k))), (2, .ref 74), (1, .ref 1), (0, .ref 0)]) (st' := [.ref 74, .int x]) (h' := h1) rfl (fun _ => rfl) ?_
  refine wp_s (pc' := 567) (lv' := [(3, .int (nI (3 * k))), (2, .ref 74), (1, .ref 1), (0, .ref 0)]) (st' := [.ref 0, .ref 74, .int x]) (h' := h1) rfl (fun _ => rfl) ?_
  refine wp_s (pc' := 568) (lv' := [(3, .int (nI (3 * k))), (2, .ref 74), (1, .ref 1), (0, .ref 0)]) (st' := [.int (nI (3 * k)), .ref 0, .ref 74, .int x]) (h' := h1) rfl (fun _ => rfl) ?_
  refine wp_s (pc' := 569) (lv' := [(3, .int (nI (3 * k))), (2, .ref 74), (1, .ref 1), (0, .ref 0)]) (st' := [.int 1, .int (nI (3 * k)), .ref 0, .ref 74, .int x]) (h' := h1) rfl (fun _ => rfl) ?_
  refine wp_s (pc' := 570) (lv' := [(3, .int (nI (3 * k))), (2, .ref 74), (1, .ref 1), (0, .ref 0)]) (st' := [.int (nI (3 * k) + 1), .ref 0, .ref 74, .int x]) (h' := h1) rfl (fun _ => rfl) ?_
  refine wp_h (t := 571) rfl rfl (wh_ia (v := .int (xs (3 * k + 1))) hs1 (Or.inl rfl) (lw_ix1 hk hL) rfl) rfl ?_
  refine wp_vi (t := 574) rfl rfl (Or.inl rfl) rfl rfl (by simp [Value.category]) hx2 hc2 (wp_M.deep hm2 (by decide)) rfl (fun h' v hP => ?_)
  cases hP
  show wp_X _ _ 574 [(3, .int (nI (3 * k))), (2, .ref 74), (1, .ref 1), (0, .ref 0)] [.int x, .int x] h2 _
  exact wp_b (st' := []) (t := 645) rfl rfl (if_pos rfl) rfl K
set_option maxRecDepth 20000 in
theorem lw_c19 {L k : Nat} {xs : Nat → Int32} {h h1 h2 : im_H} {x : Int32} {c c1 : im_C} {Q : im_R → Prop} (hk : 3 * k + 3 ≤ L) (hL : L ≤ 1536) (hs : h.2.2 0 = some (99, L, fun j => .int (xs j))) (hx1 : h.2.2 1 = some c) (hc : c.1 = 0) (hm1 : wp_M 11 20 (.ref 1 :: lw_as xs k 2) h (fun r => r = (h1, some (.int x)))) (hs1 : h1.2.2 0 = some (99, L, fun j => .int (xs j))) (hx2 : h1.2.2 74 = some c1) (hc2 : c1.1 = 12) (hm2 : wp_M 11 98 (.ref 74 :: lw_as xs k 2) h1 (fun r => r = (h2, some (.int x))))
    (K : wp_X 12 im_m104 645 [(3, .int (nI (3 * k))), (2, .ref 74), (1, .ref 1), (0, .ref 0)] [] h2 Q) : wp_X 12 im_m104 579 [(3, .int (nI (3 * k))), (2, .ref 74), (1, .ref 1), (0, .ref 0)] [] h Q := by
  refine wp_s (pc' := 580) (lv' := [(3, .int (nI (3 * k))), (2, .ref 74), (1, .ref 1), (0, .ref 0)]) (st' := [.ref 1]) (h' := h) rfl (fun _ => rfl) ?_
  refine wp_s (pc' := 581) (lv' := [(3, .int (nI (3 * k))), (2, .ref 74), (1, .ref 1), (0, .ref 0)]) (st' := [.ref 0, .ref 1]) (h' := h) rfl (fun _ => rfl) ?_
  refine wp_s (pc' := 582) (lv' := [(3, .int (nI (3 * k))), (2, .ref 74), (1, .ref 1), (0, .ref 0)]) (st' := [.int (nI (3 * k)), .ref 0, .ref 1]) (h' := h) rfl (fun _ => rfl) ?_
  refine wp_s (pc' := 583) (lv' := [(3, .int (nI (3 * k))), (2, .ref 74), (1, .ref 1), (0, .ref 0)]) (st' := [.int 1, .int (nI (3 * k)), .ref 0, .ref 1]) (h' := h) rfl (fun _ => rfl) ?_
  refine wp_s (pc' := 584) (lv' := [(3, .int (nI (3 * k))), (2, .ref 74), (1, .ref 1), (0, .ref 0)]) (st' := [.int (nI (3 * k) + 1), .ref 0, .ref 1]) (h' := h) rfl (fun _ => rfl) ?_
  refine wp_h (t := 585) rfl rfl (wh_ia (v := .int (xs (3 * k + 1))) hs (Or.inl rfl) (lw_ix1 hk hL) rfl) rfl ?_
  refine wp_s (pc' := 586) (lv' := [(3, .int (nI (3 * k))), (2, .ref 74), (1, .ref 1), (0, .ref 0)]) (st' := [.ref 0, .int (xs (3 * k + 1)), .ref 1]) (h' := h) rfl (fun _ => rfl) ?_
  refine wp_s (pc' := 587) (lv' := [(3, .int (nI (3 * k))), (2, .ref 74), (1, .ref 1), (0, .ref 0)]) (st' := [.int (nI (3 * k)), .ref 0, .int (xs (3 * k + 1)), .ref 1]) (h' := h) rfl (fun _ => rfl) ?_
  refine wp_s (pc' := 588) (lv' := [(3, .int (nI (3 * k))), (2, .ref 74), (1, .ref 1), (0, .ref 0)]) (st' := [.int 2, .int (nI (3 * k)), .ref 0, .int (xs (3 * k + 1)), .ref 1]) (h' := h) rfl (fun _ => rfl) ?_
  refine wp_s (pc' := 589) (lv' := [(3, .int (nI (3 * k))), (2, .ref 74), (1, .ref 1), (0, .ref 0)]) (st' := [.int (nI (3 * k) + 2), .ref 0, .int (xs (3 * k + 1)), .ref 1]) (h' := h) rfl (fun _ => rfl) ?_
  refine wp_h (t := 590) rfl rfl (wh_ia (v := .int (xs (3 * k + 2))) hs (Or.inl rfl) (lw_ix2 hk hL) rfl) rfl ?_
  refine wp_vi (t := 593) rfl rfl (Or.inl rfl) rfl rfl (by decide) hx1 hc (wp_M.deep hm1 (by decide)) rfl (fun h' v hP => ?_)
  cases hP
  show wp_X _ _ 593 [(3, .int (nI (3 * k))), (2, .ref 74), (1, .ref 1), (0, .ref 0)] [.int x] h1 _
  refine wp_s (pc' := 594) (lv' := [(3, .int (nI (3 * k))), (2, .ref 74), (1, .ref 1), (0, .ref 0)]) (st' := [.ref 74, .int x]) (h' := h1) rfl (fun _ => rfl) ?_
  refine wp_s (pc' := 595) (lv' := [(3, .int (nI (3 * k))), (2, .ref 74), (1, .ref 1), (0, .ref 0)]) (st' := [.ref 0, .ref 74, .int x]) (h' := h1) rfl (fun _ => rfl) ?_
  refine wp_s (pc' := 596) (lv' := [(3, .int (nI (3 * k))), (2, .ref 74), (1, .ref 1), (0, .ref 0)]) (st' := [.int (nI (3 * k)), .ref 0, .ref 74, .int x]) (h' := h1) rfl (fun _ => rfl) ?_
  refine wp_s (pc' := 597) (lv' := [(3, .int (nI (3 * k))), (2, .ref 74), (1, .ref 1), (0, .ref 0)]) (st' := [.int 1, .int (nI (3 * k)), .ref 0, .ref 74, .int x]) (h' := h1) rfl (fun _ => rfl) ?_
  refine wp_s (pc' := 598) (lv' := [(3, .int (nI (3 * k))), (2, .ref 74), (1, .ref 1), (0, .ref 0)]) (st' := [.int (nI (3 * k) + 1), .ref 0, .ref 74, .int x]) (h' := h1) rfl (fun _ => rfl) ?_
  refine wp_h (t := 599) rfl rfl (wh_ia (v := .int (xs (3 * k + 1))) hs1 (Or.inl rfl) (lw_ix1 hk hL) rfl) rfl ?_
  refine wp_s (pc' := 600) (lv' := [(3, .int (nI (3 * k))), (2, .ref 74), (1, .ref 1), (0, .ref 0)]) (st' := [.ref 0, .int (xs (3 * k + 1)), .ref 74, .int x]) (h' := h1) rfl (fun _ => rfl) ?_
  refine wp_s (pc' := 601) (lv' := [(3, .int (nI (3 * k))), (2, .ref 74), (1, .ref 1), (0, .ref 0)]) (st' := [.int (nI (3 * k)), .ref 0, .int (xs (3 * k + 1)), .ref 74, .int x]) (h' := h1) rfl (fun _ => rfl) ?_
  refine wp_s (pc' := 602) (lv' := [(3, .int (nI (3 * k))), (2, .ref 74), (1, .ref 1), (0, .ref 0)]) (st' := [.int 2, .int (nI (3 * k)), .ref 0, .int (xs (3 * k + 1)), .ref 74, .int x]) (h' := h1) rfl (fun _ => rfl) ?_
  refine wp_s (pc' := 603) (lv' := [(3, .int (nI (3 * k))), (2, .ref 74), (1, .ref 1), (0, .ref 0)]) (st' := [.int (nI (3 * k) + 2), .ref 0, .int (xs (3 * k + 1)), .ref 74, .int x]) (h' := h1) rfl (fun _ => rfl) ?_
  refine wp_h (t := 604) rfl rfl (wh_ia (v := .int (xs (3 * k + 2))) hs1 (Or.inl rfl) (lw_ix2 hk hL) rfl) rfl ?_
  refine wp_vi (t := 607) rfl rfl (Or.inl rfl) rfl rfl (by simp [Value.category]) hx2 hc2 (wp_M.deep hm2 (by decide)) rfl (fun h' v hP => ?_)
  cases hP
  show wp_X _ _ 607 [(3, .int (nI (3 * k))), (2, .ref 74), (1, .ref 1), (0, .ref 0)] [.int x, .int x] h2 _
  exact wp_b (st' := []) (t := 645) rfl rfl (if_pos rfl) rfl K
set_option maxRecDepth 20000 in
theorem lw_c20 {L k : Nat} {xs : Nat → Int32} {h h1 h2 : im_H} {x : Int32} {c c1 : im_C} {Q : im_R → Prop} (hk : 3 * k + 3 ≤ L) (hL : L ≤ 1536) (hs : h.2.2 0 = some (99, L, fun j => .int (xs j))) (hx1 : h.2.2 1 = some c) (hc : c.1 = 0) (hm1 : wp_M 11 21 (.ref 1 :: lw_as xs k 2) h (fun r => r = (h1, some (.int x)))) (hs1 : h1.2.2 0 = some (99, L, fun j => .int (xs j))) (hx2 : h1.2.2 74 = some c1) (hc2 : c1.1 = 12) (hm2 : wp_M 11 99 (.ref 74 :: lw_as xs k 2) h1 (fun r => r = (h2, some (.int x))))
    (K : wp_X 12 im_m104 645 [(3, .int (nI (3 * k))), (2, .ref 74), (1, .ref 1), (0, .ref 0)] [] h2 Q) : wp_X 12 im_m104 612 [(3, .int (nI (3 * k))), (2, .ref 74), (1, .ref 1), (0, .ref 0)] [] h Q := by
  refine wp_s (pc' := 613) (lv' := [(3, .int (nI (3 * k))), (2, .ref 74), (1, .ref 1), (0, .ref 0)]) (st' := [.ref 1]) (h' := h) rfl (fun _ => rfl) ?_
  refine wp_s (pc' := 614) (lv' := [(3, .int (nI (3 * k))), (2, .ref 74), (1, .ref 1), (0, .ref 0)]) (st' := [.ref 0, .ref 1]) (h' := h) rfl (fun _ => rfl) ?_
  refine wp_s (pc' := 615) (lv' := [(3, .int (nI (3 * k))), (2, .ref 74), (1, .ref 1), (0, .ref 0)]) (st' := [.int (nI (3 * k)), .ref 0, .ref 1]) (h' := h) rfl (fun _ => rfl) ?_
  refine wp_s (pc' := 616) (lv' := [(3, .int (nI (3 * k))), (2, .ref 74), (1, .ref 1), (0, .ref 0)]) (st' := [.int 1, .int (nI (3 * k)), .ref 0, .ref 1]) (h' := h) rfl (fun _ => rfl) ?_
  refine wp_s (pc' := 617) (lv' := [(3, .int (nI (3 * k))), (2, .ref 74), (1, .ref 1), (0, .ref 0)]) (st' := [.int (nI (3 * k) + 1), .ref 0, .ref 1]) (h' := h) rfl (fun _ => rfl) ?_
  refine wp_h (t := 618) rfl rfl (wh_ia (v := .int (xs (3 * k + 1))) hs (Or.inl rfl) (lw_ix1 hk hL) rfl) rfl ?_
  refine wp_s (pc' := 619) (lv' := [(3, .int (nI (3 * k))), (2, .ref 74), (1, .ref 1), (0, .ref 0)]) (st' := [.ref 0, .int (xs (3 * k + 1)), .ref 1]) (h' := h) rfl (fun _ => rfl) ?_
  refine wp_s (pc' := 620) (lv' := [(3, .int (nI (3 * k))), (2, .ref 74), (1, .ref 1), (0, .ref 0)]) (st' := [.int (nI (3 * k)), .ref 0, .int (xs (3 * k + 1)), .ref 1]) (h' := h) rfl (fun _ => rfl) ?_
  refine wp_s (pc' := 621) (lv' := [(3, .int (nI (3 * k))), (2, .ref 74), (1, .ref 1), (0, .ref 0)]) (st' := [.int 2, .int (nI (3 * k)), .ref 0, .int (xs (3 * k + 1)), .ref 1]) (h' := h) rfl (fun _ => rfl) ?_
  refine wp_s (pc' := 622) (lv' := [(3, .int (nI (3 * k))), (2, .ref 74), (1, .ref 1), (0, .ref 0)]) (st' := [.int (nI (3 * k) + 2), .ref 0, .int (xs (3 * k + 1)), .ref 1]) (h' := h) rfl (fun _ => rfl) ?_
  refine wp_h (t := 623) rfl rfl (wh_ia (v := .int (xs (3 * k + 2))) hs (Or.inl rfl) (lw_ix2 hk hL) rfl) rfl ?_
  refine wp_vi (t := 626) rfl rfl (Or.inl rfl) rfl rfl (by decide) hx1 hc (wp_M.deep hm1 (by decide)) rfl (fun h' v hP => ?_)
  cases hP
  show wp_X _ _ 626 [(3, .int (nI (3 * k))), (2, .ref 74), (1, .ref 1), (0, .ref 0)] [.int x] h1 _
  refine wp_s (pc' := 627) (lv' := [(3, .int (nI (3 * k))), (2, .ref 74), (1, .ref 1), (0, .ref 0)]) (st' := [.ref 74, .int x]) (h' := h1) rfl (fun _ => rfl) ?_
  refine wp_s (pc' := 628) (lv' := [(3, .int (nI (3 * k))), (2, .ref 74), (1, .ref 1), (0, .ref 0)]) (st' := [.ref 0, .ref 74, .int x]) (h' := h1) rfl (fun _ => rfl) ?_
  refine wp_s (pc' := 629) (lv' := [(3, .int (nI (3 * k))), (2, .ref 74), (1, .ref 1), (0, .ref 0)]) (st' := [.int (nI (3 * k)), .ref 0, .ref 74, .int x]) (h' := h1) rfl (fun _ => rfl) ?_
  refine wp_s (pc' := 630) (lv' := [(3, .int (nI (3 * k))), (2, .ref 74), (1, .ref 1), (0, .ref 0)]) (st' := [.int 1, .int (nI (3 * k)), .ref 0, .ref 74, .int x]) (h' := h1) rfl (fun _ => rfl) ?_
  refine wp_s (pc' := 631) (lv' := [(3, .int (nI (3 * k))), (2, .ref 74), (1, .ref 1), (0, .ref 0)]) (st' := [.int (nI (3 * k) + 1), .ref 0, .ref 74, .int x]) (h' := h1) rfl (fun _ => rfl) ?_
  refine wp_h (t := 632) rfl rfl (wh_ia (v := .int (xs (3 * k + 1))) hs1 (Or.inl rfl) (lw_ix1 hk hL) rfl) rfl ?_
  refine wp_s (pc' := 633) (lv' := [(3, .int (nI (3 * k))), (2, .ref 74), (1, .ref 1), (0, .ref 0)]) (st' := [.ref 0, .int (xs (3 * k + 1)), .ref 74, .int x]) (h' := h1) rfl (fun _ => rfl) ?_
  refine wp_s (pc' := 634) (lv' := [(3, .int (nI (3 * k))), (2, .ref 74), (1, .ref 1), (0, .ref 0)]) (st' := [.int (nI (3 * k)), .ref 0, .int (xs (3 * k + 1)), .ref 74, .int x]) (h' := h1) rfl (fun _ => rfl) ?_
  refine wp_s (pc' := 635) (lv' := [(3, .int (nI (3 * k))), (2, .ref 74), (1, .ref 1), (0, .ref 0)]) (st' := [.int 2, .int (nI (3 * k)), .ref 0, .int (xs (3 * k + 1)), .ref 74, .int x]) (h' := h1) rfl (fun _ => rfl) ?_
  refine wp_s (pc' := 636) (lv' := [(3, .int (nI (3 * k))), (2, .ref 74), (1, .ref 1), (0, .ref 0)]) (st' := [.int (nI (3 * k) + 2), .ref 0, .int (xs (3 * k + 1)), .ref 74, .int x]) (h' := h1) rfl (fun _ => rfl) ?_
  refine wp_h (t := 637) rfl rfl (wh_ia (v := .int (xs (3 * k + 2))) hs1 (Or.inl rfl) (lw_ix2 hk hL) rfl) rfl ?_
  refine wp_vi (t := 640) rfl rfl (Or.inl rfl) rfl rfl (by simp [Value.category]) hx2 hc2 (wp_M.deep hm2 (by decide)) rfl (fun h' v hP => ?_)
  cases hP
  show wp_X _ _ 640 [(3, .int (nI (3 * k))), (2, .ref 74), (1, .ref 1), (0, .ref 0)] [.int x, .int x] h2 _
  exact wp_b (st' := []) (t := 645) rfl rfl (if_pos rfl) rfl K
def lw_ops : List (Nat × Nat × Nat) := [(1, 69, 1), (2, 70, 0), (3, 71, 1), (4, 75, 0), (5, 76, 1), (6, 77, 2), (7, 78, 0), (8, 81, 1), (9, 82, 2), (10, 95, 2), (11, 83, 1), (12, 84, 2), (13, 88, 0), (14, 87, 1), (15, 89, 0), (16, 92, 1), (17, 94, 2), (18, 96, 2), (19, 97, 1), (20, 98, 2), (21, 99, 2)]
/-- a call on both objects: both answer x, and the invariant holds behind them -/
def lw_Pr (L : Nat) (xs : Nat → Int32) (k : Nat) (h : im_H) (M1 M2 n : Nat) (I' : im_H → Prop) : Prop := ∃ (h1 h2 : im_H) (x : Int32) (c1 : im_C), wp_M 11 M1 (.ref 1 :: lw_as xs k n) h (fun r => r = (h1, some (.int x))) ∧ h1.2.2 0 = some (99, L, fun j => .int (xs j)) ∧ h1.2.2 74 = some c1 ∧ c1.1 = 12 ∧ wp_M 11 M2 (.ref 74 :: lw_as xs k n) h1 (fun r => r = (h2, some (.int x))) ∧ I' h2
/-- what an invariant must say of the heap for the law's own code -/
def lw_Ok (L : Nat) (xs : Nat → Int32) (h : im_H) : Prop := h.2.2 0 = some (99, L, fun j => .int (xs j)) ∧ (∃ c, h.2.2 1 = some c ∧ c.1 = 0) ∧ h.1 ≤ 600000 + 1 ∧ h.2.1 ≤ 7302250
abbrev lw_End : im_R → Prop := fun r => r.2 = some (.int 1) ∧ r.1.1 ≤ 600000 + 1 ∧ r.1.2.1 ≤ 7302250

set_option maxRecDepth 20000 in
theorem lw_loop {L : Nat} {xs : Nat → Int32} (hL : L ≤ 1536) (Iv : Nat → im_H → Prop) (hI : ∀ k h, Iv k h → lw_Ok L xs h) (hskip : ∀ k h, Iv k h → Iv (k + 1) h) (hstep : ∀ k h, Iv k h → 3 * k + 3 ≤ L → ∀ (j M1 M2 n : Nat), lw_ops[j]? = some (M1, M2, n) → lw_Pr L xs k h M1 M2 n (Iv (k + 1))) : ∀ (n k : Nat) (h : im_H), L < 3 * (k + n) + 3 → k ≤ 1536 → 3 * k ≤ L + 3 → Iv k h → wp_X 12 im_m104 18 [(3, .int (nI (3 * k))), (2, .ref 74), (1, .ref 1), (0, .ref 0)] [] h lw_End := by
  intro n
  induction n with
  | zero =>
    intro k h hend hk hk3 hi
    have hend : L < 3 * k + 3 := by omega
    obtain ⟨hs, ⟨c, hx1, hc⟩, hb1, hb2⟩ := hI k h hi
    refine wp_s (pc' := 19) (lv' := [(3, .int (nI (3 * k))), (2, .ref 74), (1, .ref 1), (0, .ref 0)]) (st' := [.int (nI (3 * k))]) (h' := h) rfl (fun _ => rfl) ?_
    refine wp_s (pc' := 20) (lv' := [(3, .int (nI (3 * k))), (2, .ref 74), (1, .ref 1), (0, .ref 0)]) (st' := [.ref 0, .int (nI (3 * k))]) (h' := h) rfl (fun _ => rfl) ?_
    refine wp_h (t := 21) rfl rfl (wh_al hs (by decide)) rfl ?_
    refine wp_s (pc' := 22) (lv' := [(3, .int (nI (3 * k))), (2, .ref 74), (1, .ref 1), (0, .ref 0)]) (st' := [.int 3, .int (nI L), .int (nI (3 * k))]) (h' := h) rfl (fun _ => rfl) ?_
    refine wp_s (pc' := 23) (lv' := [(3, .int (nI (3 * k))), (2, .ref 74), (1, .ref 1), (0, .ref 0)]) (st' := [.int (nI L - 3), .int (nI (3 * k))]) (h' := h) rfl (fun _ => rfl) ?_
    refine wp_b (st' := []) (t := 651) rfl rfl (if_pos ((lw_more hL hk).mpr hend)) rfl ?_
    refine wp_s (pc' := 652) (lv' := [(3, .int (nI (3 * k))), (2, .ref 74), (1, .ref 1), (0, .ref 0)]) (st' := [.int 1]) (h' := h) rfl (fun _ => rfl) ?_
    exact wp_r (r := (h, some (.int 1))) rfl (fun _ => rfl) ⟨rfl, hb1, hb2⟩
  | succ n ih =>
    intro k h hend0 hk hk3 hi
    obtain ⟨hs, ⟨c, hx1, hc⟩, hb1, hb2⟩ := hI k h hi
    refine wp_s (pc' := 19) (lv' := [(3, .int (nI (3 * k))), (2, .ref 74), (1, .ref 1), (0, .ref 0)]) (st' := [.int (nI (3 * k))]) (h' := h) rfl (fun _ => rfl) ?_
    refine wp_s (pc' := 20) (lv' := [(3, .int (nI (3 * k))), (2, .ref 74), (1, .ref 1), (0, .ref 0)]) (st' := [.ref 0, .int (nI (3 * k))]) (h' := h) rfl (fun _ => rfl) ?_
    refine wp_h (t := 21) rfl rfl (wh_al hs (by decide)) rfl ?_
    refine wp_s (pc' := 22) (lv' := [(3, .int (nI (3 * k))), (2, .ref 74), (1, .ref 1), (0, .ref 0)]) (st' := [.int 3, .int (nI L), .int (nI (3 * k))]) (h' := h) rfl (fun _ => rfl) ?_
    refine wp_s (pc' := 23) (lv' := [(3, .int (nI (3 * k))), (2, .ref 74), (1, .ref 1), (0, .ref 0)]) (st' := [.int (nI L - 3), .int (nI (3 * k))]) (h' := h) rfl (fun _ => rfl) ?_
    by_cases hend : L < 3 * k + 3
    · refine wp_b (st' := []) (t := 651) rfl rfl (if_pos ((lw_more hL hk).mpr hend)) rfl ?_
      refine wp_s (pc' := 652) (lv' := [(3, .int (nI (3 * k))), (2, .ref 74), (1, .ref 1), (0, .ref 0)]) (st' := [.int 1]) (h' := h) rfl (fun _ => rfl) ?_
      exact wp_r (r := (h, some (.int 1))) rfl (fun _ => rfl) ⟨rfl, hb1, hb2⟩
    · refine wp_b (st' := []) (t := 26) rfl rfl (if_neg (fun q => hend ((lw_more hL hk).mp q))) rfl ?_
      have hk1 : 3 * k + 3 ≤ L := by omega
      have tail : ∀ h2 : im_H, Iv (k + 1) h2 → wp_X 12 im_m104 645 [(3, .int (nI (3 * k))), (2, .ref 74), (1, .ref 1), (0, .ref 0)] [] h2 lw_End := by
        intro h2 hi2
        refine wp_s (pc' := 648) (lv' := [(3, .int (nI (3 * (k + 1)))), (2, .ref 74), (1, .ref 1), (0, .ref 0)]) (st' := []) (h' := h2) rfl (fun _ => ?_) ?_
        · show some (Sum.inl (648, [(3, Value.int (nI (3 * k) + Int32.ofInt 3)), (2, .ref 74), (1, .ref 1), (0, .ref 0)], [], h2)) = _
          rw [show nI (3 * k) + Int32.ofInt 3 = nI (3 * (k + 1)) by rw [show Int32.ofInt 3 = nI 3 from rfl, nI_add]; congr 1]
        · refine wp_b (t := 18) rfl rfl rfl rfl ?_
          exact ih (k + 1) h2 (by omega) (by omega) (by omega) hi2
      refine wp_s (pc' := 27) (lv' := [(3, .int (nI (3 * k))), (2, .ref 74), (1, .ref 1), (0, .ref 0)]) (st' := [.ref 0]) (h' := h) rfl (fun _ => rfl) ?_
      refine wp_s (pc' := 28) (lv' := [(3, .int (nI (3 * k))), (2, .ref 74), (1, .ref 1), (0, .ref 0)]) (st' := [.int (nI (3 * k)), .ref 0]) (h' := h) rfl (fun _ => rfl) ?_
      refine wp_h (t := 29) rfl rfl (wh_ia (v := .int (xs (3 * k))) hs (Or.inl rfl) (lw_ix (by omega) hL) rfl) rfl ?_
      refine wp_s (pc' := 31) (lv' := [(3, .int (nI (3 * k))), (2, .ref 74), (1, .ref 1), (0, .ref 0)]) (st' := [.int 31, .int (xs (3 * k))]) (h' := h) rfl (fun _ => rfl) ?_
      refine wp_s (pc' := 32) (lv' := [(3, .int (nI (3 * k))), (2, .ref 74), (1, .ref 1), (0, .ref 0)]) (st' := [.int (xs (3 * k) &&& 31)]) (h' := h) rfl (fun _ => rfl) ?_
      obtain ⟨j, hj, ej⟩ := pk_andE (xs (3 * k)) (m := 31) 5 (by decide)
      rw [ej]
      match j, hj with
      | 0, _ =>
        obtain ⟨h1, h2, x, c1, g1, g2, g3, g4, g5, g6⟩ := hstep k h hi hk1 0 1 69 1 rfl
        refine wp_b (o := some 100) (st' := []) (t := 132) rfl rfl (by decide +kernel) rfl ?_
        exact lw_c0 hk1 hL hs hx1 hc g1 g2 g3 g4 g5 (tail h2 g6)
      | 1, _ =>
        obtain ⟨h1, h2, x, c1, g1, g2, g3, g4, g5, g6⟩ := hstep k h hi hk1 1 2 70 0 rfl
        refine wp_b (o := some 123) (st' := []) (t := 155) rfl rfl (by decide +kernel) rfl ?_
        exact lw_c1 hk1 hL hs hx1 hc g1 g2 g3 g4 g5 (tail h2 g6)
      | 2, _ =>
        obtain ⟨h1, h2, x, c1, g1, g2, g3, g4, g5, g6⟩ := hstep k h hi hk1 2 3 71 1 rfl
        refine wp_b (o := some 136) (st' := []) (t := 168) rfl rfl (by decide +kernel) rfl ?_
        exact lw_c2 hk1 hL hs hx1 hc g1 g2 g3 g4 g5 (tail h2 g6)
      | 3, _ =>
        obtain ⟨h1, h2, x, c1, g1, g2, g3, g4, g5, g6⟩ := hstep k h hi hk1 3 4 75 0 rfl
        refine wp_b (o := some 159) (st' := []) (t := 191) rfl rfl (by decide +kernel) rfl ?_
        exact lw_c3 hk1 hL hs hx1 hc g1 g2 g3 g4 g5 (tail h2 g6)
      | 4, _ =>
        obtain ⟨h1, h2, x, c1, g1, g2, g3, g4, g5, g6⟩ := hstep k h hi hk1 4 5 76 1 rfl
        refine wp_b (o := some 172) (st' := []) (t := 204) rfl rfl (by decide +kernel) rfl ?_
        exact lw_c4 hk1 hL hs hx1 hc g1 g2 g3 g4 g5 (tail h2 g6)
      | 5, _ =>
        obtain ⟨h1, h2, x, c1, g1, g2, g3, g4, g5, g6⟩ := hstep k h hi hk1 5 6 77 2 rfl
        refine wp_b (o := some 195) (st' := []) (t := 227) rfl rfl (by decide +kernel) rfl ?_
        exact lw_c5 hk1 hL hs hx1 hc g1 g2 g3 g4 g5 (tail h2 g6)
      | 6, _ =>
        obtain ⟨h1, h2, x, c1, g1, g2, g3, g4, g5, g6⟩ := hstep k h hi hk1 6 7 78 0 rfl
        refine wp_b (o := some 228) (st' := []) (t := 260) rfl rfl (by decide +kernel) rfl ?_
        exact lw_c6 hk1 hL hs hx1 hc g1 g2 g3 g4 g5 (tail h2 g6)
      | 7, _ =>
        obtain ⟨h1, h2, x, c1, g1, g2, g3, g4, g5, g6⟩ := hstep k h hi hk1 7 8 81 1 rfl
        refine wp_b (o := some 241) (st' := []) (t := 273) rfl rfl (by decide +kernel) rfl ?_
        exact lw_c7 hk1 hL hs hx1 hc g1 g2 g3 g4 g5 (tail h2 g6)
      | 8, _ =>
        obtain ⟨h1, h2, x, c1, g1, g2, g3, g4, g5, g6⟩ := hstep k h hi hk1 8 9 82 2 rfl
        refine wp_b (o := some 264) (st' := []) (t := 296) rfl rfl (by decide +kernel) rfl ?_
        exact lw_c8 hk1 hL hs hx1 hc g1 g2 g3 g4 g5 (tail h2 g6)
      | 9, _ =>
        obtain ⟨h1, h2, x, c1, g1, g2, g3, g4, g5, g6⟩ := hstep k h hi hk1 9 10 95 2 rfl
        refine wp_b (o := some 297) (st' := []) (t := 329) rfl rfl (by decide +kernel) rfl ?_
        exact lw_c9 hk1 hL hs hx1 hc g1 g2 g3 g4 g5 (tail h2 g6)
      | 10, _ =>
        obtain ⟨h1, h2, x, c1, g1, g2, g3, g4, g5, g6⟩ := hstep k h hi hk1 10 11 83 1 rfl
        refine wp_b (o := some 330) (st' := []) (t := 362) rfl rfl (by decide +kernel) rfl ?_
        exact lw_c10 hk1 hL hs hx1 hc g1 g2 g3 g4 g5 (tail h2 g6)
      | 11, _ =>
        obtain ⟨h1, h2, x, c1, g1, g2, g3, g4, g5, g6⟩ := hstep k h hi hk1 11 12 84 2 rfl
        refine wp_b (o := some 353) (st' := []) (t := 385) rfl rfl (by decide +kernel) rfl ?_
        exact lw_c11 hk1 hL hs hx1 hc g1 g2 g3 g4 g5 (tail h2 g6)
      | 12, _ =>
        obtain ⟨h1, h2, x, c1, g1, g2, g3, g4, g5, g6⟩ := hstep k h hi hk1 12 13 88 0 rfl
        refine wp_b (o := some 386) (st' := []) (t := 418) rfl rfl (by decide +kernel) rfl ?_
        exact lw_c12 hk1 hL hs hx1 hc g1 g2 g3 g4 g5 (tail h2 g6)
      | 13, _ =>
        obtain ⟨h1, h2, x, c1, g1, g2, g3, g4, g5, g6⟩ := hstep k h hi hk1 13 14 87 1 rfl
        refine wp_b (o := some 399) (st' := []) (t := 431) rfl rfl (by decide +kernel) rfl ?_
        exact lw_c13 hk1 hL hs hx1 hc g1 g2 g3 g4 g5 (tail h2 g6)
      | 14, _ =>
        obtain ⟨h1, h2, x, c1, g1, g2, g3, g4, g5, g6⟩ := hstep k h hi hk1 14 15 89 0 rfl
        refine wp_b (o := some 422) (st' := []) (t := 454) rfl rfl (by decide +kernel) rfl ?_
        exact lw_c14 hk1 hL hs hx1 hc g1 g2 g3 g4 g5 (tail h2 g6)
      | 15, _ =>
        obtain ⟨h1, h2, x, c1, g1, g2, g3, g4, g5, g6⟩ := hstep k h hi hk1 15 16 92 1 rfl
        refine wp_b (o := some 435) (st' := []) (t := 467) rfl rfl (by decide +kernel) rfl ?_
        exact lw_c15 hk1 hL hs hx1 hc g1 g2 g3 g4 g5 (tail h2 g6)
      | 16, _ =>
        obtain ⟨h1, h2, x, c1, g1, g2, g3, g4, g5, g6⟩ := hstep k h hi hk1 16 17 94 2 rfl
        refine wp_b (o := some 458) (st' := []) (t := 490) rfl rfl (by decide +kernel) rfl ?_
        exact lw_c16 hk1 hL hs hx1 hc g1 g2 g3 g4 g5 (tail h2 g6)
      | 17, _ =>
        obtain ⟨h1, h2, x, c1, g1, g2, g3, g4, g5, g6⟩ := hstep k h hi hk1 17 18 96 2 rfl
        refine wp_b (o := some 491) (st' := []) (t := 523) rfl rfl (by decide +kernel) rfl ?_
        exact lw_c17 hk1 hL hs hx1 hc g1 g2 g3 g4 g5 (tail h2 g6)
      | 18, _ =>
        obtain ⟨h1, h2, x, c1, g1, g2, g3, g4, g5, g6⟩ := hstep k h hi hk1 18 19 97 1 rfl
        refine wp_b (o := some 524) (st' := []) (t := 556) rfl rfl (by decide +kernel) rfl ?_
        exact lw_c18 hk1 hL hs hx1 hc g1 g2 g3 g4 g5 (tail h2 g6)
      | 19, _ =>
        obtain ⟨h1, h2, x, c1, g1, g2, g3, g4, g5, g6⟩ := hstep k h hi hk1 19 20 98 2 rfl
        refine wp_b (o := some 547) (st' := []) (t := 579) rfl rfl (by decide +kernel) rfl ?_
        exact lw_c19 hk1 hL hs hx1 hc g1 g2 g3 g4 g5 (tail h2 g6)
      | 20, _ =>
        obtain ⟨h1, h2, x, c1, g1, g2, g3, g4, g5, g6⟩ := hstep k h hi hk1 20 21 99 2 rfl
        refine wp_b (o := some 580) (st' := []) (t := 612) rfl rfl (by decide +kernel) rfl ?_
        exact lw_c20 hk1 hL hs hx1 hc g1 g2 g3 g4 g5 (tail h2 g6)
      | 21, _ =>
        refine wp_b (o := some 613) (st' := []) (t := 645) rfl rfl (by decide +kernel) rfl ?_
        exact tail h (hskip k h hi)
      | 22, _ =>
        refine wp_b (o := some 613) (st' := []) (t := 645) rfl rfl (by decide +kernel) rfl ?_
        exact tail h (hskip k h hi)
      | 23, _ =>
        refine wp_b (o := some 613) (st' := []) (t := 645) rfl rfl (by decide +kernel) rfl ?_
        exact tail h (hskip k h hi)
      | 24, _ =>
        refine wp_b (o := some 613) (st' := []) (t := 645) rfl rfl (by decide +kernel) rfl ?_
        exact tail h (hskip k h hi)
      | 25, _ =>
        refine wp_b (o := some 613) (st' := []) (t := 645) rfl rfl (by decide +kernel) rfl ?_
        exact tail h (hskip k h hi)
      | 26, _ =>
        refine wp_b (o := some 613) (st' := []) (t := 645) rfl rfl (by decide +kernel) rfl ?_
        exact tail h (hskip k h hi)
      | 27, _ =>
        refine wp_b (o := some 613) (st' := []) (t := 645) rfl rfl (by decide +kernel) rfl ?_
        exact tail h (hskip k h hi)
      | 28, _ =>
        refine wp_b (o := some 613) (st' := []) (t := 645) rfl rfl (by decide +kernel) rfl ?_
        exact tail h (hskip k h hi)
      | 29, _ =>
        refine wp_b (o := some 613) (st' := []) (t := 645) rfl rfl (by decide +kernel) rfl ?_
        exact tail h (hskip k h hi)
      | 30, _ =>
        refine wp_b (o := some 613) (st' := []) (t := 645) rfl rfl (by decide +kernel) rfl ?_
        exact tail h (hskip k h hi)
      | 31, _ =>
        refine wp_b (o := some 613) (st' := []) (t := 645) rfl rfl (by decide +kernel) rfl ?_
        exact tail h (hskip k h hi)
      | j + 32, hj => omega
