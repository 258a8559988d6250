/-! each cell by its place (made by wip/gen/points.py) -/
theorem wf_objv {ca : Nat → ClassId} {a ci j q N : Nat} {v : Int32} {vs : List Value} {es : List (Nat × Int32)} (h : es[j]? = some (N, v)) (hq : q = a + 1 + 2 * j) : WF ca a ci vs es q = .inr (8, [.ref (q + 1), .int v, .int 0]) := by
  unfold WF
  rw [if_neg (by omega), if_pos (by omega), show (q - a - 1) / 2 = j by omega, List.getD_eq_getElem?_getD, h]
  rfl
theorem wf_arrv {ca : Nat → ClassId} {a ci j q N : Nat} {v : Int32} {vs : List Value} {es : List (Nat × Int32)} (h : es[j]? = some (N, v)) (hq : q = a + 2 + 2 * j) : WF ca a ci vs es q = .inl (ca 1, N, .inl (fun i => if i = 0 then v else 0)) := by
  unfold WF
  rw [if_neg (by omega), if_neg (by omega), show (q - a - 1) / 2 = j by omega, List.getD_eq_getElem?_getD, h]
  rfl
section Points
variable {ca : Nat → ClassId} {x n w N : Nat}
theorem pt_2 : FT ca x n w N (x + (2 + 2 * n)) = .inr (0, [.ref ((x + (2 + 2 * n)) + 1)]) := by
  rw [FT_b1 (by omega) (by omega)]
  show WF ca _ _ _ _ (x + (2 + 2 * n) + (x + (2 + 2 * n) - (x + (2 + 2 * n)))) = _
  rw [Nat.sub_self]
  exact WF_at
theorem pt_3 : FT ca x n w N (x + (3 + 2 * n)) = .inr (8, [.ref (x + (3 + 2 * n) + 1), .int 0, .int 0]) := by
  rw [FT_b1 (by omega) (by omega)]
  show WF ca _ _ _ _ (x + (2 + 2 * n) + (x + (3 + 2 * n) - (x + (2 + 2 * n)))) = _
  rw [show x + (2 + 2 * n) + (x + (3 + 2 * n) - (x + (2 + 2 * n))) = x + (3 + 2 * n) by omega]
  exact wf_objv (j := 0) rfl (by omega)
theorem pt_4 : FT ca x n w N (x + (4 + 2 * n)) = .inl (ca 1, N, .inl (fun i => if i = 0 then 0 else 0)) := by
  rw [FT_b1 (by omega) (by omega)]
  show WF ca _ _ _ _ (x + (2 + 2 * n) + (x + (4 + 2 * n) - (x + (2 + 2 * n)))) = _
  rw [show x + (2 + 2 * n) + (x + (4 + 2 * n) - (x + (2 + 2 * n))) = x + (4 + 2 * n) by omega]
  exact wf_arrv (j := 0) rfl (by omega)
theorem pt_5 : FT ca x n w N (x + (5 + 2 * n)) = .inr (1, [.ref (x + (2 + 2 * n)), .ref ((x + (5 + 2 * n)) + 1), .ref ((x + (5 + 2 * n)) + 3), .ref ((x + (5 + 2 * n)) + 5), .ref ((x + (5 + 2 * n)) + 7)]) := by
  rw [FT_b2 (by omega) (by omega)]
  show WF ca _ _ _ _ (x + (5 + 2 * n) + (x + (5 + 2 * n) - (x + (5 + 2 * n)))) = _
  rw [Nat.sub_self]
  exact WF_at
theorem pt_6 : FT ca x n w N (x + (6 + 2 * n)) = .inr (8, [.ref (x + (6 + 2 * n) + 1), .int 0, .int 0]) := by
  rw [FT_b2 (by omega) (by omega)]
  show WF ca _ _ _ _ (x + (5 + 2 * n) + (x + (6 + 2 * n) - (x + (5 + 2 * n)))) = _
  rw [show x + (5 + 2 * n) + (x + (6 + 2 * n) - (x + (5 + 2 * n))) = x + (6 + 2 * n) by omega]
  exact wf_objv (j := 0) rfl (by omega)
theorem pt_7 : FT ca x n w N (x + (7 + 2 * n)) = .inl (ca 1, N, .inl (fun i => if i = 0 then 0 else 0)) := by
  rw [FT_b2 (by omega) (by omega)]
  show WF ca _ _ _ _ (x + (5 + 2 * n) + (x + (7 + 2 * n) - (x + (5 + 2 * n)))) = _
  rw [show x + (5 + 2 * n) + (x + (7 + 2 * n) - (x + (5 + 2 * n))) = x + (7 + 2 * n) by omega]
  exact wf_arrv (j := 0) rfl (by omega)
theorem pt_8 : FT ca x n w N (x + (8 + 2 * n)) = .inr (8, [.ref (x + (8 + 2 * n) + 1), .int 0, .int 0]) := by
  rw [FT_b2 (by omega) (by omega)]
  show WF ca _ _ _ _ (x + (5 + 2 * n) + (x + (8 + 2 * n) - (x + (5 + 2 * n)))) = _
  rw [show x + (5 + 2 * n) + (x + (8 + 2 * n) - (x + (5 + 2 * n))) = x + (8 + 2 * n) by omega]
  exact wf_objv (j := 1) rfl (by omega)
theorem pt_9 : FT ca x n w N (x + (9 + 2 * n)) = .inl (ca 1, N, .inl (fun i => if i = 0 then 0 else 0)) := by
  rw [FT_b2 (by omega) (by omega)]
  show WF ca _ _ _ _ (x + (5 + 2 * n) + (x + (9 + 2 * n) - (x + (5 + 2 * n)))) = _
  rw [show x + (5 + 2 * n) + (x + (9 + 2 * n) - (x + (5 + 2 * n))) = x + (9 + 2 * n) by omega]
  exact wf_arrv (j := 1) rfl (by omega)
theorem pt_10 : FT ca x n w N (x + (10 + 2 * n)) = .inr (8, [.ref (x + (10 + 2 * n) + 1), .int 0, .int 0]) := by
  rw [FT_b2 (by omega) (by omega)]
  show WF ca _ _ _ _ (x + (5 + 2 * n) + (x + (10 + 2 * n) - (x + (5 + 2 * n)))) = _
  rw [show x + (5 + 2 * n) + (x + (10 + 2 * n) - (x + (5 + 2 * n))) = x + (10 + 2 * n) by omega]
  exact wf_objv (j := 2) rfl (by omega)
theorem pt_11 : FT ca x n w N (x + (11 + 2 * n)) = .inl (ca 1, N, .inl (fun i => if i = 0 then 0 else 0)) := by
  rw [FT_b2 (by omega) (by omega)]
  show WF ca _ _ _ _ (x + (5 + 2 * n) + (x + (11 + 2 * n) - (x + (5 + 2 * n)))) = _
  rw [show x + (5 + 2 * n) + (x + (11 + 2 * n) - (x + (5 + 2 * n))) = x + (11 + 2 * n) by omega]
  exact wf_arrv (j := 2) rfl (by omega)
theorem pt_12 : FT ca x n w N (x + (12 + 2 * n)) = .inr (8, [.ref (x + (12 + 2 * n) + 1), .int 0, .int 0]) := by
  rw [FT_b2 (by omega) (by omega)]
  show WF ca _ _ _ _ (x + (5 + 2 * n) + (x + (12 + 2 * n) - (x + (5 + 2 * n)))) = _
  rw [show x + (5 + 2 * n) + (x + (12 + 2 * n) - (x + (5 + 2 * n))) = x + (12 + 2 * n) by omega]
  exact wf_objv (j := 3) rfl (by omega)
theorem pt_13 : FT ca x n w N (x + (13 + 2 * n)) = .inl (ca 1, N, .inl (fun i => if i = 0 then 0 else 0)) := by
  rw [FT_b2 (by omega) (by omega)]
  show WF ca _ _ _ _ (x + (5 + 2 * n) + (x + (13 + 2 * n) - (x + (5 + 2 * n)))) = _
  rw [show x + (5 + 2 * n) + (x + (13 + 2 * n) - (x + (5 + 2 * n))) = x + (13 + 2 * n) by omega]
  exact wf_arrv (j := 3) rfl (by omega)
theorem pt_14 : FT ca x n w N (x + (14 + 2 * n)) = .inr (3, [.int 0, .ref (x + (2 + 2 * n)), .ref ((x + (14 + 2 * n)) + 1), .ref ((x + (14 + 2 * n)) + 3), .ref ((x + (14 + 2 * n)) + 5), .ref ((x + (14 + 2 * n)) + 7), .ref ((x + (14 + 2 * n)) + 9), .long 0, .long 0, .long 0, .long 0]) := by
  rw [FT_b3 (by omega) (by omega)]
  show WF ca _ _ _ _ (x + (14 + 2 * n) + (x + (14 + 2 * n) - (x + (14 + 2 * n)))) = _
  rw [Nat.sub_self]
  exact WF_at
theorem pt_15 : FT ca x n w N (x + (15 + 2 * n)) = .inr (8, [.ref (x + (15 + 2 * n) + 1), .int 0, .int 0]) := by
  rw [FT_b3 (by omega) (by omega)]
  show WF ca _ _ _ _ (x + (14 + 2 * n) + (x + (15 + 2 * n) - (x + (14 + 2 * n)))) = _
  rw [show x + (14 + 2 * n) + (x + (15 + 2 * n) - (x + (14 + 2 * n))) = x + (15 + 2 * n) by omega]
  exact wf_objv (j := 0) rfl (by omega)
theorem pt_16 : FT ca x n w N (x + (16 + 2 * n)) = .inl (ca 1, N, .inl (fun i => if i = 0 then 0 else 0)) := by
  rw [FT_b3 (by omega) (by omega)]
  show WF ca _ _ _ _ (x + (14 + 2 * n) + (x + (16 + 2 * n) - (x + (14 + 2 * n)))) = _
  rw [show x + (14 + 2 * n) + (x + (16 + 2 * n) - (x + (14 + 2 * n))) = x + (16 + 2 * n) by omega]
  exact wf_arrv (j := 0) rfl (by omega)
theorem pt_17 : FT ca x n w N (x + (17 + 2 * n)) = .inr (8, [.ref (x + (17 + 2 * n) + 1), .int 0, .int 0]) := by
  rw [FT_b3 (by omega) (by omega)]
  show WF ca _ _ _ _ (x + (14 + 2 * n) + (x + (17 + 2 * n) - (x + (14 + 2 * n)))) = _
  rw [show x + (14 + 2 * n) + (x + (17 + 2 * n) - (x + (14 + 2 * n))) = x + (17 + 2 * n) by omega]
  exact wf_objv (j := 1) rfl (by omega)
theorem pt_18 : FT ca x n w N (x + (18 + 2 * n)) = .inl (ca 1, N, .inl (fun i => if i = 0 then 0 else 0)) := by
  rw [FT_b3 (by omega) (by omega)]
  show WF ca _ _ _ _ (x + (14 + 2 * n) + (x + (18 + 2 * n) - (x + (14 + 2 * n)))) = _
  rw [show x + (14 + 2 * n) + (x + (18 + 2 * n) - (x + (14 + 2 * n))) = x + (18 + 2 * n) by omega]
  exact wf_arrv (j := 1) rfl (by omega)
theorem pt_19 : FT ca x n w N (x + (19 + 2 * n)) = .inr (8, [.ref (x + (19 + 2 * n) + 1), .int 0, .int 0]) := by
  rw [FT_b3 (by omega) (by omega)]
  show WF ca _ _ _ _ (x + (14 + 2 * n) + (x + (19 + 2 * n) - (x + (14 + 2 * n)))) = _
  rw [show x + (14 + 2 * n) + (x + (19 + 2 * n) - (x + (14 + 2 * n))) = x + (19 + 2 * n) by omega]
  exact wf_objv (j := 2) rfl (by omega)
theorem pt_20 : FT ca x n w N (x + (20 + 2 * n)) = .inl (ca 1, N, .inl (fun i => if i = 0 then 0 else 0)) := by
  rw [FT_b3 (by omega) (by omega)]
  show WF ca _ _ _ _ (x + (14 + 2 * n) + (x + (20 + 2 * n) - (x + (14 + 2 * n)))) = _
  rw [show x + (14 + 2 * n) + (x + (20 + 2 * n) - (x + (14 + 2 * n))) = x + (20 + 2 * n) by omega]
  exact wf_arrv (j := 2) rfl (by omega)
theorem pt_21 : FT ca x n w N (x + (21 + 2 * n)) = .inr (8, [.ref (x + (21 + 2 * n) + 1), .int 0, .int 0]) := by
  rw [FT_b3 (by omega) (by omega)]
  show WF ca _ _ _ _ (x + (14 + 2 * n) + (x + (21 + 2 * n) - (x + (14 + 2 * n)))) = _
  rw [show x + (14 + 2 * n) + (x + (21 + 2 * n) - (x + (14 + 2 * n))) = x + (21 + 2 * n) by omega]
  exact wf_objv (j := 3) rfl (by omega)
theorem pt_22 : FT ca x n w N (x + (22 + 2 * n)) = .inl (ca 1, N, .inl (fun i => if i = 0 then 0 else 0)) := by
  rw [FT_b3 (by omega) (by omega)]
  show WF ca _ _ _ _ (x + (14 + 2 * n) + (x + (22 + 2 * n) - (x + (14 + 2 * n)))) = _
  rw [show x + (14 + 2 * n) + (x + (22 + 2 * n) - (x + (14 + 2 * n))) = x + (22 + 2 * n) by omega]
  exact wf_arrv (j := 3) rfl (by omega)
theorem pt_23 : FT ca x n w N (x + (23 + 2 * n)) = .inr (8, [.ref (x + (23 + 2 * n) + 1), .int 0, .int 0]) := by
  rw [FT_b3 (by omega) (by omega)]
  show WF ca _ _ _ _ (x + (14 + 2 * n) + (x + (23 + 2 * n) - (x + (14 + 2 * n)))) = _
  rw [show x + (14 + 2 * n) + (x + (23 + 2 * n) - (x + (14 + 2 * n))) = x + (23 + 2 * n) by omega]
  exact wf_objv (j := 4) rfl (by omega)
theorem pt_24 : FT ca x n w N (x + (24 + 2 * n)) = .inl (ca 1, N, .inl (fun i => if i = 0 then 0 else 0)) := by
  rw [FT_b3 (by omega) (by omega)]
  show WF ca _ _ _ _ (x + (14 + 2 * n) + (x + (24 + 2 * n) - (x + (14 + 2 * n)))) = _
  rw [show x + (14 + 2 * n) + (x + (24 + 2 * n) - (x + (14 + 2 * n))) = x + (24 + 2 * n) by omega]
  exact wf_arrv (j := 4) rfl (by omega)
theorem pt_25 : FT ca x n w N (x + (25 + 2 * n)) = .inr (2, [.ref ((x + (25 + 2 * n)) + 5), .ref ((x + (25 + 2 * n)) + 11), .ref ((x + (25 + 2 * n)) + 15), .ref (x + (2 + 2 * n)), .ref ((x + (25 + 2 * n)) + 1), .ref ((x + (25 + 2 * n)) + 3), .ref ((x + (25 + 2 * n)) + 7), .ref ((x + (25 + 2 * n)) + 9), .ref ((x + (25 + 2 * n)) + 13), .ref ((x + (25 + 2 * n)) + 17)]) := by
  rw [FT_b4 (by omega) (by omega)]
  show WF ca _ _ _ _ (x + (25 + 2 * n) + (x + (25 + 2 * n) - (x + (25 + 2 * n)))) = _
  rw [Nat.sub_self]
  exact WF_at
theorem pt_26 : FT ca x n w N (x + (26 + 2 * n)) = .inr (8, [.ref (x + (26 + 2 * n) + 1), .int 0, .int 0]) := by
  rw [FT_b4 (by omega) (by omega)]
  show WF ca _ _ _ _ (x + (25 + 2 * n) + (x + (26 + 2 * n) - (x + (25 + 2 * n)))) = _
  rw [show x + (25 + 2 * n) + (x + (26 + 2 * n) - (x + (25 + 2 * n))) = x + (26 + 2 * n) by omega]
  exact wf_objv (j := 0) rfl (by omega)
theorem pt_27 : FT ca x n w N (x + (27 + 2 * n)) = .inl (ca 1, N, .inl (fun i => if i = 0 then 0 else 0)) := by
  rw [FT_b4 (by omega) (by omega)]
  show WF ca _ _ _ _ (x + (25 + 2 * n) + (x + (27 + 2 * n) - (x + (25 + 2 * n)))) = _
  rw [show x + (25 + 2 * n) + (x + (27 + 2 * n) - (x + (25 + 2 * n))) = x + (27 + 2 * n) by omega]
  exact wf_arrv (j := 0) rfl (by omega)
theorem pt_28 : FT ca x n w N (x + (28 + 2 * n)) = .inr (8, [.ref (x + (28 + 2 * n) + 1), .int 0, .int 0]) := by
  rw [FT_b4 (by omega) (by omega)]
  show WF ca _ _ _ _ (x + (25 + 2 * n) + (x + (28 + 2 * n) - (x + (25 + 2 * n)))) = _
  rw [show x + (25 + 2 * n) + (x + (28 + 2 * n) - (x + (25 + 2 * n))) = x + (28 + 2 * n) by omega]
  exact wf_objv (j := 1) rfl (by omega)
theorem pt_29 : FT ca x n w N (x + (29 + 2 * n)) = .inl (ca 1, N, .inl (fun i => if i = 0 then 0 else 0)) := by
  rw [FT_b4 (by omega) (by omega)]
  show WF ca _ _ _ _ (x + (25 + 2 * n) + (x + (29 + 2 * n) - (x + (25 + 2 * n)))) = _
  rw [show x + (25 + 2 * n) + (x + (29 + 2 * n) - (x + (25 + 2 * n))) = x + (29 + 2 * n) by omega]
  exact wf_arrv (j := 1) rfl (by omega)
theorem pt_30 : FT ca x n w N (x + (30 + 2 * n)) = .inr (8, [.ref (x + (30 + 2 * n) + 1), .int 0, .int 0]) := by
  rw [FT_b4 (by omega) (by omega)]
  show WF ca _ _ _ _ (x + (25 + 2 * n) + (x + (30 + 2 * n) - (x + (25 + 2 * n)))) = _
  rw [show x + (25 + 2 * n) + (x + (30 + 2 * n) - (x + (25 + 2 * n))) = x + (30 + 2 * n) by omega]
  exact wf_objv (j := 2) rfl (by omega)
theorem pt_31 : FT ca x n w N (x + (31 + 2 * n)) = .inl (ca 1, N, .inl (fun i => if i = 0 then 0 else 0)) := by
  rw [FT_b4 (by omega) (by omega)]
  show WF ca _ _ _ _ (x + (25 + 2 * n) + (x + (31 + 2 * n) - (x + (25 + 2 * n)))) = _
  rw [show x + (25 + 2 * n) + (x + (31 + 2 * n) - (x + (25 + 2 * n))) = x + (31 + 2 * n) by omega]
  exact wf_arrv (j := 2) rfl (by omega)
theorem pt_32 : FT ca x n w N (x + (32 + 2 * n)) = .inr (8, [.ref (x + (32 + 2 * n) + 1), .int 0, .int 0]) := by
  rw [FT_b4 (by omega) (by omega)]
  show WF ca _ _ _ _ (x + (25 + 2 * n) + (x + (32 + 2 * n) - (x + (25 + 2 * n)))) = _
  rw [show x + (25 + 2 * n) + (x + (32 + 2 * n) - (x + (25 + 2 * n))) = x + (32 + 2 * n) by omega]
  exact wf_objv (j := 3) rfl (by omega)
theorem pt_33 : FT ca x n w N (x + (33 + 2 * n)) = .inl (ca 1, N, .inl (fun i => if i = 0 then 0 else 0)) := by
  rw [FT_b4 (by omega) (by omega)]
  show WF ca _ _ _ _ (x + (25 + 2 * n) + (x + (33 + 2 * n) - (x + (25 + 2 * n)))) = _
  rw [show x + (25 + 2 * n) + (x + (33 + 2 * n) - (x + (25 + 2 * n))) = x + (33 + 2 * n) by omega]
  exact wf_arrv (j := 3) rfl (by omega)
theorem pt_34 : FT ca x n w N (x + (34 + 2 * n)) = .inr (8, [.ref (x + (34 + 2 * n) + 1), .int 0, .int 0]) := by
  rw [FT_b4 (by omega) (by omega)]
  show WF ca _ _ _ _ (x + (25 + 2 * n) + (x + (34 + 2 * n) - (x + (25 + 2 * n)))) = _
  rw [show x + (25 + 2 * n) + (x + (34 + 2 * n) - (x + (25 + 2 * n))) = x + (34 + 2 * n) by omega]
  exact wf_objv (j := 4) rfl (by omega)
theorem pt_35 : FT ca x n w N (x + (35 + 2 * n)) = .inl (ca 1, N, .inl (fun i => if i = 0 then 0 else 0)) := by
  rw [FT_b4 (by omega) (by omega)]
  show WF ca _ _ _ _ (x + (25 + 2 * n) + (x + (35 + 2 * n) - (x + (25 + 2 * n)))) = _
  rw [show x + (25 + 2 * n) + (x + (35 + 2 * n) - (x + (25 + 2 * n))) = x + (35 + 2 * n) by omega]
  exact wf_arrv (j := 4) rfl (by omega)
theorem pt_36 : FT ca x n w N (x + (36 + 2 * n)) = .inr (8, [.ref (x + (36 + 2 * n) + 1), .int 0, .int 0]) := by
  rw [FT_b4 (by omega) (by omega)]
  show WF ca _ _ _ _ (x + (25 + 2 * n) + (x + (36 + 2 * n) - (x + (25 + 2 * n)))) = _
  rw [show x + (25 + 2 * n) + (x + (36 + 2 * n) - (x + (25 + 2 * n))) = x + (36 + 2 * n) by omega]
  exact wf_objv (j := 5) rfl (by omega)
theorem pt_37 : FT ca x n w N (x + (37 + 2 * n)) = .inl (ca 1, N, .inl (fun i => if i = 0 then 0 else 0)) := by
  rw [FT_b4 (by omega) (by omega)]
  show WF ca _ _ _ _ (x + (25 + 2 * n) + (x + (37 + 2 * n) - (x + (25 + 2 * n)))) = _
  rw [show x + (25 + 2 * n) + (x + (37 + 2 * n) - (x + (25 + 2 * n))) = x + (37 + 2 * n) by omega]
  exact wf_arrv (j := 5) rfl (by omega)
theorem pt_38 : FT ca x n w N (x + (38 + 2 * n)) = .inr (8, [.ref (x + (38 + 2 * n) + 1), .int 0, .int 0]) := by
  rw [FT_b4 (by omega) (by omega)]
  show WF ca _ _ _ _ (x + (25 + 2 * n) + (x + (38 + 2 * n) - (x + (25 + 2 * n)))) = _
  rw [show x + (25 + 2 * n) + (x + (38 + 2 * n) - (x + (25 + 2 * n))) = x + (38 + 2 * n) by omega]
  exact wf_objv (j := 6) rfl (by omega)
theorem pt_39 : FT ca x n w N (x + (39 + 2 * n)) = .inl (ca 1, N, .inl (fun i => if i = 0 then 0 else 0)) := by
  rw [FT_b4 (by omega) (by omega)]
  show WF ca _ _ _ _ (x + (25 + 2 * n) + (x + (39 + 2 * n) - (x + (25 + 2 * n)))) = _
  rw [show x + (25 + 2 * n) + (x + (39 + 2 * n) - (x + (25 + 2 * n))) = x + (39 + 2 * n) by omega]
  exact wf_arrv (j := 6) rfl (by omega)
theorem pt_40 : FT ca x n w N (x + (40 + 2 * n)) = .inr (8, [.ref (x + (40 + 2 * n) + 1), .int 0, .int 0]) := by
  rw [FT_b4 (by omega) (by omega)]
  show WF ca _ _ _ _ (x + (25 + 2 * n) + (x + (40 + 2 * n) - (x + (25 + 2 * n)))) = _
  rw [show x + (25 + 2 * n) + (x + (40 + 2 * n) - (x + (25 + 2 * n))) = x + (40 + 2 * n) by omega]
  exact wf_objv (j := 7) rfl (by omega)
theorem pt_41 : FT ca x n w N (x + (41 + 2 * n)) = .inl (ca 1, N, .inl (fun i => if i = 0 then 0 else 0)) := by
  rw [FT_b4 (by omega) (by omega)]
  show WF ca _ _ _ _ (x + (25 + 2 * n) + (x + (41 + 2 * n) - (x + (25 + 2 * n)))) = _
  rw [show x + (25 + 2 * n) + (x + (41 + 2 * n) - (x + (25 + 2 * n))) = x + (41 + 2 * n) by omega]
  exact wf_arrv (j := 7) rfl (by omega)
theorem pt_42 : FT ca x n w N (x + (42 + 2 * n)) = .inr (8, [.ref (x + (42 + 2 * n) + 1), .int 0, .int 0]) := by
  rw [FT_b4 (by omega) (by omega)]
  show WF ca _ _ _ _ (x + (25 + 2 * n) + (x + (42 + 2 * n) - (x + (25 + 2 * n)))) = _
  rw [show x + (25 + 2 * n) + (x + (42 + 2 * n) - (x + (25 + 2 * n))) = x + (42 + 2 * n) by omega]
  exact wf_objv (j := 8) rfl (by omega)
theorem pt_43 : FT ca x n w N (x + (43 + 2 * n)) = .inl (ca 1, N, .inl (fun i => if i = 0 then 0 else 0)) := by
  rw [FT_b4 (by omega) (by omega)]
  show WF ca _ _ _ _ (x + (25 + 2 * n) + (x + (43 + 2 * n) - (x + (25 + 2 * n)))) = _
  rw [show x + (25 + 2 * n) + (x + (43 + 2 * n) - (x + (25 + 2 * n))) = x + (43 + 2 * n) by omega]
  exact wf_arrv (j := 8) rfl (by omega)
theorem pt_44 : FT ca x n w N (x + (44 + 2 * n)) = .inr (5, [.ref (x + (2 + 2 * n)), .ref ((x + (44 + 2 * n)) + 1), .ref ((x + (44 + 2 * n)) + 3), .ref ((x + (44 + 2 * n)) + 5), .ref ((x + (44 + 2 * n)) + 7), .ref ((x + (44 + 2 * n)) + 9), .ref ((x + (44 + 2 * n)) + 11), .ref ((x + (44 + 2 * n)) + 13)]) := by
  rw [FT_b5 (by omega) (by omega)]
  show WF ca _ _ _ _ (x + (44 + 2 * n) + (x + (44 + 2 * n) - (x + (44 + 2 * n)))) = _
  rw [Nat.sub_self]
  exact WF_at
theorem pt_45 : FT ca x n w N (x + (45 + 2 * n)) = .inr (8, [.ref (x + (45 + 2 * n) + 1), .int 0, .int 0]) := by
  rw [FT_b5 (by omega) (by omega)]
  show WF ca _ _ _ _ (x + (44 + 2 * n) + (x + (45 + 2 * n) - (x + (44 + 2 * n)))) = _
  rw [show x + (44 + 2 * n) + (x + (45 + 2 * n) - (x + (44 + 2 * n))) = x + (45 + 2 * n) by omega]
  exact wf_objv (j := 0) rfl (by omega)
theorem pt_46 : FT ca x n w N (x + (46 + 2 * n)) = .inl (ca 1, N, .inl (fun i => if i = 0 then 0 else 0)) := by
  rw [FT_b5 (by omega) (by omega)]
  show WF ca _ _ _ _ (x + (44 + 2 * n) + (x + (46 + 2 * n) - (x + (44 + 2 * n)))) = _
  rw [show x + (44 + 2 * n) + (x + (46 + 2 * n) - (x + (44 + 2 * n))) = x + (46 + 2 * n) by omega]
  exact wf_arrv (j := 0) rfl (by omega)
theorem pt_47 : FT ca x n w N (x + (47 + 2 * n)) = .inr (8, [.ref (x + (47 + 2 * n) + 1), .int 0, .int 0]) := by
  rw [FT_b5 (by omega) (by omega)]
  show WF ca _ _ _ _ (x + (44 + 2 * n) + (x + (47 + 2 * n) - (x + (44 + 2 * n)))) = _
  rw [show x + (44 + 2 * n) + (x + (47 + 2 * n) - (x + (44 + 2 * n))) = x + (47 + 2 * n) by omega]
  exact wf_objv (j := 1) rfl (by omega)
theorem pt_48 : FT ca x n w N (x + (48 + 2 * n)) = .inl (ca 1, N, .inl (fun i => if i = 0 then 0 else 0)) := by
  rw [FT_b5 (by omega) (by omega)]
  show WF ca _ _ _ _ (x + (44 + 2 * n) + (x + (48 + 2 * n) - (x + (44 + 2 * n)))) = _
  rw [show x + (44 + 2 * n) + (x + (48 + 2 * n) - (x + (44 + 2 * n))) = x + (48 + 2 * n) by omega]
  exact wf_arrv (j := 1) rfl (by omega)
theorem pt_49 : FT ca x n w N (x + (49 + 2 * n)) = .inr (8, [.ref (x + (49 + 2 * n) + 1), .int 0, .int 0]) := by
  rw [FT_b5 (by omega) (by omega)]
  show WF ca _ _ _ _ (x + (44 + 2 * n) + (x + (49 + 2 * n) - (x + (44 + 2 * n)))) = _
  rw [show x + (44 + 2 * n) + (x + (49 + 2 * n) - (x + (44 + 2 * n))) = x + (49 + 2 * n) by omega]
  exact wf_objv (j := 2) rfl (by omega)
theorem pt_50 : FT ca x n w N (x + (50 + 2 * n)) = .inl (ca 1, N, .inl (fun i => if i = 0 then 0 else 0)) := by
  rw [FT_b5 (by omega) (by omega)]
  show WF ca _ _ _ _ (x + (44 + 2 * n) + (x + (50 + 2 * n) - (x + (44 + 2 * n)))) = _
  rw [show x + (44 + 2 * n) + (x + (50 + 2 * n) - (x + (44 + 2 * n))) = x + (50 + 2 * n) by omega]
  exact wf_arrv (j := 2) rfl (by omega)
theorem pt_51 : FT ca x n w N (x + (51 + 2 * n)) = .inr (8, [.ref (x + (51 + 2 * n) + 1), .int 0, .int 0]) := by
  rw [FT_b5 (by omega) (by omega)]
  show WF ca _ _ _ _ (x + (44 + 2 * n) + (x + (51 + 2 * n) - (x + (44 + 2 * n)))) = _
  rw [show x + (44 + 2 * n) + (x + (51 + 2 * n) - (x + (44 + 2 * n))) = x + (51 + 2 * n) by omega]
  exact wf_objv (j := 3) rfl (by omega)
theorem pt_52 : FT ca x n w N (x + (52 + 2 * n)) = .inl (ca 1, N, .inl (fun i => if i = 0 then 0 else 0)) := by
  rw [FT_b5 (by omega) (by omega)]
  show WF ca _ _ _ _ (x + (44 + 2 * n) + (x + (52 + 2 * n) - (x + (44 + 2 * n)))) = _
  rw [show x + (44 + 2 * n) + (x + (52 + 2 * n) - (x + (44 + 2 * n))) = x + (52 + 2 * n) by omega]
  exact wf_arrv (j := 3) rfl (by omega)
theorem pt_53 : FT ca x n w N (x + (53 + 2 * n)) = .inr (8, [.ref (x + (53 + 2 * n) + 1), .int 0, .int 0]) := by
  rw [FT_b5 (by omega) (by omega)]
  show WF ca _ _ _ _ (x + (44 + 2 * n) + (x + (53 + 2 * n) - (x + (44 + 2 * n)))) = _
  rw [show x + (44 + 2 * n) + (x + (53 + 2 * n) - (x + (44 + 2 * n))) = x + (53 + 2 * n) by omega]
  exact wf_objv (j := 4) rfl (by omega)
theorem pt_54 : FT ca x n w N (x + (54 + 2 * n)) = .inl (ca 1, N, .inl (fun i => if i = 0 then 0 else 0)) := by
  rw [FT_b5 (by omega) (by omega)]
  show WF ca _ _ _ _ (x + (44 + 2 * n) + (x + (54 + 2 * n) - (x + (44 + 2 * n)))) = _
  rw [show x + (44 + 2 * n) + (x + (54 + 2 * n) - (x + (44 + 2 * n))) = x + (54 + 2 * n) by omega]
  exact wf_arrv (j := 4) rfl (by omega)
theorem pt_55 : FT ca x n w N (x + (55 + 2 * n)) = .inr (8, [.ref (x + (55 + 2 * n) + 1), .int 0, .int 0]) := by
  rw [FT_b5 (by omega) (by omega)]
  show WF ca _ _ _ _ (x + (44 + 2 * n) + (x + (55 + 2 * n) - (x + (44 + 2 * n)))) = _
  rw [show x + (44 + 2 * n) + (x + (55 + 2 * n) - (x + (44 + 2 * n))) = x + (55 + 2 * n) by omega]
  exact wf_objv (j := 5) rfl (by omega)
theorem pt_56 : FT ca x n w N (x + (56 + 2 * n)) = .inl (ca 1, N, .inl (fun i => if i = 0 then 0 else 0)) := by
  rw [FT_b5 (by omega) (by omega)]
  show WF ca _ _ _ _ (x + (44 + 2 * n) + (x + (56 + 2 * n) - (x + (44 + 2 * n)))) = _
  rw [show x + (44 + 2 * n) + (x + (56 + 2 * n) - (x + (44 + 2 * n))) = x + (56 + 2 * n) by omega]
  exact wf_arrv (j := 5) rfl (by omega)
theorem pt_57 : FT ca x n w N (x + (57 + 2 * n)) = .inr (8, [.ref (x + (57 + 2 * n) + 1), .int 0, .int 0]) := by
  rw [FT_b5 (by omega) (by omega)]
  show WF ca _ _ _ _ (x + (44 + 2 * n) + (x + (57 + 2 * n) - (x + (44 + 2 * n)))) = _
  rw [show x + (44 + 2 * n) + (x + (57 + 2 * n) - (x + (44 + 2 * n))) = x + (57 + 2 * n) by omega]
  exact wf_objv (j := 6) rfl (by omega)
theorem pt_58 : FT ca x n w N (x + (58 + 2 * n)) = .inl (ca 1, N, .inl (fun i => if i = 0 then 0 else 0)) := by
  rw [FT_b5 (by omega) (by omega)]
  show WF ca _ _ _ _ (x + (44 + 2 * n) + (x + (58 + 2 * n) - (x + (44 + 2 * n)))) = _
  rw [show x + (44 + 2 * n) + (x + (58 + 2 * n) - (x + (44 + 2 * n))) = x + (58 + 2 * n) by omega]
  exact wf_arrv (j := 6) rfl (by omega)
theorem pt_59 : FT ca x n w N (x + (59 + 2 * n)) = .inr (6, [.ref (x + (2 + 2 * n)), .ref ((x + (59 + 2 * n)) + 1), .ref ((x + (59 + 2 * n)) + 3), .ref ((x + (59 + 2 * n)) + 5), .ref ((x + (59 + 2 * n)) + 7), .ref ((x + (59 + 2 * n)) + 9), .ref ((x + (59 + 2 * n)) + 11), .ref ((x + (59 + 2 * n)) + 13), .ref ((x + (59 + 2 * n)) + 15)]) := by
  rw [FT_b6 (by omega) (by omega)]
  show WF ca _ _ _ _ (x + (59 + 2 * n) + (x + (59 + 2 * n) - (x + (59 + 2 * n)))) = _
  rw [Nat.sub_self]
  exact WF_at
theorem pt_60 : FT ca x n w N (x + (60 + 2 * n)) = .inr (8, [.ref (x + (60 + 2 * n) + 1), .int 0, .int 0]) := by
  rw [FT_b6 (by omega) (by omega)]
  show WF ca _ _ _ _ (x + (59 + 2 * n) + (x + (60 + 2 * n) - (x + (59 + 2 * n)))) = _
  rw [show x + (59 + 2 * n) + (x + (60 + 2 * n) - (x + (59 + 2 * n))) = x + (60 + 2 * n) by omega]
  exact wf_objv (j := 0) rfl (by omega)
theorem pt_61 : FT ca x n w N (x + (61 + 2 * n)) = .inl (ca 1, N, .inl (fun i => if i = 0 then 0 else 0)) := by
  rw [FT_b6 (by omega) (by omega)]
  show WF ca _ _ _ _ (x + (59 + 2 * n) + (x + (61 + 2 * n) - (x + (59 + 2 * n)))) = _
  rw [show x + (59 + 2 * n) + (x + (61 + 2 * n) - (x + (59 + 2 * n))) = x + (61 + 2 * n) by omega]
  exact wf_arrv (j := 0) rfl (by omega)
theorem pt_62 : FT ca x n w N (x + (62 + 2 * n)) = .inr (8, [.ref (x + (62 + 2 * n) + 1), .int 0, .int 0]) := by
  rw [FT_b6 (by omega) (by omega)]
  show WF ca _ _ _ _ (x + (59 + 2 * n) + (x + (62 + 2 * n) - (x + (59 + 2 * n)))) = _
  rw [show x + (59 + 2 * n) + (x + (62 + 2 * n) - (x + (59 + 2 * n))) = x + (62 + 2 * n) by omega]
  exact wf_objv (j := 1) rfl (by omega)
theorem pt_63 : FT ca x n w N (x + (63 + 2 * n)) = .inl (ca 1, N, .inl (fun i => if i = 0 then 0 else 0)) := by
  rw [FT_b6 (by omega) (by omega)]
  show WF ca _ _ _ _ (x + (59 + 2 * n) + (x + (63 + 2 * n) - (x + (59 + 2 * n)))) = _
  rw [show x + (59 + 2 * n) + (x + (63 + 2 * n) - (x + (59 + 2 * n))) = x + (63 + 2 * n) by omega]
  exact wf_arrv (j := 1) rfl (by omega)
theorem pt_64 : FT ca x n w N (x + (64 + 2 * n)) = .inr (8, [.ref (x + (64 + 2 * n) + 1), .int 0, .int 0]) := by
  rw [FT_b6 (by omega) (by omega)]
  show WF ca _ _ _ _ (x + (59 + 2 * n) + (x + (64 + 2 * n) - (x + (59 + 2 * n)))) = _
  rw [show x + (59 + 2 * n) + (x + (64 + 2 * n) - (x + (59 + 2 * n))) = x + (64 + 2 * n) by omega]
  exact wf_objv (j := 2) rfl (by omega)
theorem pt_65 : FT ca x n w N (x + (65 + 2 * n)) = .inl (ca 1, N, .inl (fun i => if i = 0 then 0 else 0)) := by
  rw [FT_b6 (by omega) (by omega)]
  show WF ca _ _ _ _ (x + (59 + 2 * n) + (x + (65 + 2 * n) - (x + (59 + 2 * n)))) = _
  rw [show x + (59 + 2 * n) + (x + (65 + 2 * n) - (x + (59 + 2 * n))) = x + (65 + 2 * n) by omega]
  exact wf_arrv (j := 2) rfl (by omega)
theorem pt_66 : FT ca x n w N (x + (66 + 2 * n)) = .inr (8, [.ref (x + (66 + 2 * n) + 1), .int 0, .int 0]) := by
  rw [FT_b6 (by omega) (by omega)]
  show WF ca _ _ _ _ (x + (59 + 2 * n) + (x + (66 + 2 * n) - (x + (59 + 2 * n)))) = _
  rw [show x + (59 + 2 * n) + (x + (66 + 2 * n) - (x + (59 + 2 * n))) = x + (66 + 2 * n) by omega]
  exact wf_objv (j := 3) rfl (by omega)
theorem pt_67 : FT ca x n w N (x + (67 + 2 * n)) = .inl (ca 1, N, .inl (fun i => if i = 0 then 0 else 0)) := by
  rw [FT_b6 (by omega) (by omega)]
  show WF ca _ _ _ _ (x + (59 + 2 * n) + (x + (67 + 2 * n) - (x + (59 + 2 * n)))) = _
  rw [show x + (59 + 2 * n) + (x + (67 + 2 * n) - (x + (59 + 2 * n))) = x + (67 + 2 * n) by omega]
  exact wf_arrv (j := 3) rfl (by omega)
theorem pt_68 : FT ca x n w N (x + (68 + 2 * n)) = .inr (8, [.ref (x + (68 + 2 * n) + 1), .int 0, .int 0]) := by
  rw [FT_b6 (by omega) (by omega)]
  show WF ca _ _ _ _ (x + (59 + 2 * n) + (x + (68 + 2 * n) - (x + (59 + 2 * n)))) = _
  rw [show x + (59 + 2 * n) + (x + (68 + 2 * n) - (x + (59 + 2 * n))) = x + (68 + 2 * n) by omega]
  exact wf_objv (j := 4) rfl (by omega)
theorem pt_69 : FT ca x n w N (x + (69 + 2 * n)) = .inl (ca 1, N, .inl (fun i => if i = 0 then 0 else 0)) := by
  rw [FT_b6 (by omega) (by omega)]
  show WF ca _ _ _ _ (x + (59 + 2 * n) + (x + (69 + 2 * n) - (x + (59 + 2 * n)))) = _
  rw [show x + (59 + 2 * n) + (x + (69 + 2 * n) - (x + (59 + 2 * n))) = x + (69 + 2 * n) by omega]
  exact wf_arrv (j := 4) rfl (by omega)
theorem pt_70 : FT ca x n w N (x + (70 + 2 * n)) = .inr (8, [.ref (x + (70 + 2 * n) + 1), .int 1, .int 0]) := by
  rw [FT_b6 (by omega) (by omega)]
  show WF ca _ _ _ _ (x + (59 + 2 * n) + (x + (70 + 2 * n) - (x + (59 + 2 * n)))) = _
  rw [show x + (59 + 2 * n) + (x + (70 + 2 * n) - (x + (59 + 2 * n))) = x + (70 + 2 * n) by omega]
  exact wf_objv (j := 5) rfl (by omega)
theorem pt_71 : FT ca x n w N (x + (71 + 2 * n)) = .inl (ca 1, 1, .inl (fun i => if i = 0 then 1 else 0)) := by
  rw [FT_b6 (by omega) (by omega)]
  show WF ca _ _ _ _ (x + (59 + 2 * n) + (x + (71 + 2 * n) - (x + (59 + 2 * n)))) = _
  rw [show x + (59 + 2 * n) + (x + (71 + 2 * n) - (x + (59 + 2 * n))) = x + (71 + 2 * n) by omega]
  exact wf_arrv (j := 5) rfl (by omega)
theorem pt_72 : FT ca x n w N (x + (72 + 2 * n)) = .inr (8, [.ref (x + (72 + 2 * n) + 1), .int 0, .int 0]) := by
  rw [FT_b6 (by omega) (by omega)]
  show WF ca _ _ _ _ (x + (59 + 2 * n) + (x + (72 + 2 * n) - (x + (59 + 2 * n)))) = _
  rw [show x + (59 + 2 * n) + (x + (72 + 2 * n) - (x + (59 + 2 * n))) = x + (72 + 2 * n) by omega]
  exact wf_objv (j := 6) rfl (by omega)
theorem pt_73 : FT ca x n w N (x + (73 + 2 * n)) = .inl (ca 1, N, .inl (fun i => if i = 0 then 0 else 0)) := by
  rw [FT_b6 (by omega) (by omega)]
  show WF ca _ _ _ _ (x + (59 + 2 * n) + (x + (73 + 2 * n) - (x + (59 + 2 * n)))) = _
  rw [show x + (59 + 2 * n) + (x + (73 + 2 * n) - (x + (59 + 2 * n))) = x + (73 + 2 * n) by omega]
  exact wf_arrv (j := 6) rfl (by omega)
theorem pt_74 : FT ca x n w N (x + (74 + 2 * n)) = .inr (8, [.ref (x + (74 + 2 * n) + 1), .int 0, .int 0]) := by
  rw [FT_b6 (by omega) (by omega)]
  show WF ca _ _ _ _ (x + (59 + 2 * n) + (x + (74 + 2 * n) - (x + (59 + 2 * n)))) = _
  rw [show x + (59 + 2 * n) + (x + (74 + 2 * n) - (x + (59 + 2 * n))) = x + (74 + 2 * n) by omega]
  exact wf_objv (j := 7) rfl (by omega)
theorem pt_75 : FT ca x n w N (x + (75 + 2 * n)) = .inl (ca 1, N, .inl (fun i => if i = 0 then 0 else 0)) := by
  rw [FT_b6 (by omega) (by omega)]
  show WF ca _ _ _ _ (x + (59 + 2 * n) + (x + (75 + 2 * n) - (x + (59 + 2 * n)))) = _
  rw [show x + (59 + 2 * n) + (x + (75 + 2 * n) - (x + (59 + 2 * n))) = x + (75 + 2 * n) by omega]
  exact wf_arrv (j := 7) rfl (by omega)
theorem pt_76 : FT ca x n w N (x + (76 + 2 * n)) = .inr (7, [.int 0, .ref (x + (76 + 2 * n) + 1)]) := by
  rw [FT_b7 (by omega) (by omega)]
  show TB (x + (76 + 2 * n)) _ _ _ (x + (76 + 2 * n) + (x + (76 + 2 * n) - (x + (76 + 2 * n)))) = _
  rw [Nat.sub_self]
  exact TB_at
theorem pt_77 : FT ca x n w N (x + (77 + 2 * n)) = .inl (ca 0, 1000, .inl (fun _ => 0)) := by
  rw [FT_b7 (by omega) (by omega)]
  show TB (x + (76 + 2 * n)) _ _ _ (x + (76 + 2 * n) + (x + (77 + 2 * n) - (x + (76 + 2 * n)))) = _
  rw [show x + (76 + 2 * n) + (x + (77 + 2 * n) - (x + (76 + 2 * n))) = x + (76 + 2 * n) + 1 by omega, TB_ne (by omega), va_up_s]
theorem pt_78 : FT ca x n w N (x + (78 + 2 * n)) = .inr (4, [.int 0, .ref (x + (78 + 2 * n) + 1), .ref (x + (78 + 2 * n) + 2)]) := by
  rw [FT_b8 (by omega) (by omega)]
  show TB (x + (78 + 2 * n)) _ _ _ (x + (78 + 2 * n) + (x + (78 + 2 * n) - (x + (78 + 2 * n)))) = _
  rw [Nat.sub_self]
  exact TB_at
theorem pt_79 : FT ca x n w N (x + (79 + 2 * n)) = .inl (ca 0, 10 * w + 2, .inl (fun _ => 0)) := by
  rw [FT_b8 (by omega) (by omega)]
  show TB (x + (78 + 2 * n)) _ _ _ (x + (78 + 2 * n) + (x + (79 + 2 * n) - (x + (78 + 2 * n)))) = _
  rw [show x + (78 + 2 * n) + (x + (79 + 2 * n) - (x + (78 + 2 * n))) = x + (78 + 2 * n) + 1 by omega, TB_ne (by omega)]
  show (if x + (78 + 2 * n) + 1 < x + (78 + 2 * n) + 2 then va_up zB (x + (78 + 2 * n) + 1) _ (x + (78 + 2 * n) + 1) else _) = _
  rw [if_pos (by omega), va_up_s]
theorem pt_80 : FT ca x n w N (x + (80 + 2 * n)) = .inr (8, [.ref (x + (80 + 2 * n) + 1), .int 0, .int 0]) := by
  rw [FT_b8 (by omega) (by omega)]
  show TB (x + (78 + 2 * n)) _ _ _ (x + (78 + 2 * n) + (x + (80 + 2 * n) - (x + (78 + 2 * n)))) = _
  rw [show x + (78 + 2 * n) + (x + (80 + 2 * n) - (x + (78 + 2 * n))) = x + (78 + 2 * n) + 2 by omega, TB_ne (by omega)]
  show (if x + (78 + 2 * n) + 2 < x + (78 + 2 * n) + 2 then _ else LYW ca (x + (78 + 2 * n) + 2) N (x + (78 + 2 * n) + 2 - (x + (78 + 2 * n) + 2))) = _
  rw [if_neg (by omega), Nat.sub_self, show x + (80 + 2 * n) + 1 = x + (78 + 2 * n) + 2 + 1 by omega]
  rfl
theorem pt_81 : FT ca x n w N (x + (81 + 2 * n)) = .inl (ca 1, N, .inl (fun i => if i = 0 then 0 else 0)) := by
  rw [FT_b8 (by omega) (by omega)]
  show TB (x + (78 + 2 * n)) _ _ _ (x + (78 + 2 * n) + (x + (81 + 2 * n) - (x + (78 + 2 * n)))) = _
  rw [show x + (78 + 2 * n) + (x + (81 + 2 * n) - (x + (78 + 2 * n))) = x + (78 + 2 * n) + 3 by omega, TB_ne (by omega)]
  show (if x + (78 + 2 * n) + 3 < x + (78 + 2 * n) + 2 then _ else LYW ca (x + (78 + 2 * n) + 2) N (x + (78 + 2 * n) + 3 - (x + (78 + 2 * n) + 2))) = _
  rw [if_neg (by omega), show x + (78 + 2 * n) + 3 - (x + (78 + 2 * n) + 2) = 1 by omega]
  rfl
theorem pt_82 : FT ca x n w N (x + (82 + 2 * n)) = .inr (8, [.ref (x + (82 + 2 * n) + 1), .int 0, .int 0]) := by
  rw [FT_b9 (by omega) (by omega), Nat.sub_self]
  rfl
theorem pt_83 : FT ca x n w N (x + (83 + 2 * n)) = .inl (ca 1, N, .inl (fun i => if i = 0 then 0 else 0)) := by
  rw [FT_b9 (by omega) (by omega), show x + (83 + 2 * n) - (x + (82 + 2 * n)) = 1 by omega]
  rfl
theorem pt_84 : FT ca x n w N (x + (84 + 2 * n)) = .inr (8, [.ref (x + (84 + 2 * n) + 1), .int 0, .int 0]) := by
  rw [FT_b10 (by omega) (by omega), Nat.sub_self]
  rfl
theorem pt_85 : FT ca x n w N (x + (85 + 2 * n)) = .inl (ca 1, N, .inl (fun i => if i = 0 then 0 else 0)) := by
  rw [FT_b10 (by omega) (by omega), show x + (85 + 2 * n) - (x + (84 + 2 * n)) = 1 by omega]
  rfl
theorem pt_86 : FT ca x n w N (x + (86 + 2 * n)) = .inr (8, [.ref (x + (86 + 2 * n) + 1), .int 1, .int 0]) := FT_one
theorem pt_87 : FT ca x n w N (x + (87 + 2 * n)) = .inl (ca 1, 1, .inl (fun i => if i = 0 then 1 else 0)) := by
  rw [show x + (87 + 2 * n) = x + (86 + 2 * n) + 1 by omega]
  exact FT_one1
theorem pt_88 : FT ca x n w N (x + (88 + 2 * n)) = .inr (10, [.ref ((x + (88 + 2 * n)) + 1), .ref ((x + (88 + 2 * n)) + 2), .ref ((x + (88 + 2 * n)) + 3), .int (nI n), .int (nI w), .int 0, .int 0, .ref ((x + (88 + 2 * n)) + 4), .ref ((x + (88 + 2 * n)) + 5), .int 0, .int 0]) := by
  rw [FT_ge (Nat.le_refl _), TB_at]
theorem pt_89 : FT ca x n w N (x + (89 + 2 * n)) = .inl (ca 1, 10400, .inl (fun _ => 0)) := by
  rw [FT_ge (by omega), show x + (89 + 2 * n) = x + (88 + 2 * n) + 1 by omega, TB_ne (by omega), va_up_n (by omega), va_up_n (by omega), va_up_n (by omega), va_up_n (by omega), va_up_s]
theorem pt_90 : FT ca x n w N (x + (90 + 2 * n)) = .inl (ca 1, 40, .inl (fun _ => 0)) := by
  rw [FT_ge (by omega), show x + (90 + 2 * n) = x + (88 + 2 * n) + 2 by omega, TB_ne (by omega), va_up_n (by omega), va_up_n (by omega), va_up_n (by omega), va_up_s]
theorem pt_91 : FT ca x n w N (x + (91 + 2 * n)) = .inl (ca 1, 40, .inl (fun _ => 0)) := by
  rw [FT_ge (by omega), show x + (91 + 2 * n) = x + (88 + 2 * n) + 3 by omega, TB_ne (by omega), va_up_n (by omega), va_up_n (by omega), va_up_s]
theorem pt_92 : FT ca x n w N (x + (92 + 2 * n)) = .inl (ca 0, 1000, .inl (fun _ => 0)) := by
  rw [FT_ge (by omega), show x + (92 + 2 * n) = x + (88 + 2 * n) + 4 by omega, TB_ne (by omega), va_up_n (by omega), va_up_s]
theorem pt_93 : FT ca x n w N (x + (93 + 2 * n)) = .inl (ca 0, 500, .inl (fun _ => 0)) := by
  rw [FT_ge (by omega), show x + (93 + 2 * n) = x + (88 + 2 * n) + 5 by omega, TB_ne (by omega), va_up_s]
end Points
