/-! constructors of the classes that hold numbers (made by wip/gen/works.py) -/
abbrev rm_X0i : Room := { frames := 4, cells := 2, slots := 103, locals := 110 }
theorem cf_X0_init : CF yX0_init cX0_init 2 none 1 := ⟨(gw_t1 81 rfl rfl), (gw_t1 4 rfl rfl), by decide +kernel⟩
theorem c_X0_init {l : Launch} {D : va_G} {ca : Nat → ClassId} {x N dv : Nat} {r : Int32} (hr : (if 1 < r then r else 1) = nI N) (hN : 1 ≤ N ∧ N ≤ 100) : MeC l D ca yX0_init (Cond.code yX0_init cX0_init 2 none :: GW) rm_X0i x 0 [.null] [.int r] 2 103 (fun d => WF ca x 0 [.ref (x + 1)] [(N, 0)] (x + d)) := by
  refine b_method (by decide) rfl rfl (Nat.le_of_ble_eq_true rfl) ?_
  intro p e s m args below meth c cx
  have cx : CBx p s m args meth c D ca cX0_init 2 RX0 x := cx
  refine b_aload_n (pc := 0) cx dX0_init_0 rfl 0 rfl ?_
  refine b_obj (pc := 1) cx (gw_t1 82 rfl rfl) ⟨Nat.le_of_ble_eq_true rfl, Nat.le_of_ble_eq_true rfl⟩ dX0_init_1 ?_
  refine BW.congr (g := WF ca x 0 [.null] []) (fun q h1 h2 => by rw [show q = x by omega, WF_at]) ?_
  refine b_aload_n (pc := 4) cx dX0_init_4 rfl 0 rfl ?_
  refine b_new (pc := 5) (ci := 8) (C := RX9) (T := TX9) (N := 3) rfl in_X9 tyX9 tyX9_ok (fs := [.null, .int 0, .int 0]) w9_fs cx (gw_t1 83 rfl rfl) (gw_t1 37 rfl rfl) (gw_t1 3 rfl rfl) rfl ⟨Nat.le_of_ble_eq_true rfl, Nat.le_of_ble_eq_true rfl⟩ dX0_init_5 ?_
  refine b_dup (pc := 8) cx dX0_init_8 rfl ?_
  refine b_iload_n (pc := 9) cx dX0_init_9 rfl 1 rfl ?_
  refine b_callC (pc := 10) (x := x + 1) (rest := [.ref (x + 1), .ref x]) [.int r] cx (c_X9_init (N := N) hr hN) cf_X9_init rfl (gw_t1 39 rfl rfl) (gw_t1 84 rfl rfl) rfl rfl (by decide) (if_pos rfl) ⟨rfl, rfl⟩ ⟨Nat.le_of_ble_eq_true rfl, Nat.le_of_ble_eq_true rfl⟩ ⟨Nat.le_of_ble_eq_true rfl, Nat.le_of_ble_eq_true rfl⟩ rfl rfl (Nat.le_of_ble_eq_true rfl) dX0_init_10 ?_
  refine b_putF (pc := 13) (ci := 0) (k := 0) (C := RX0) (T := TX0) (N := 1) (vs := [.null]) rfl in_X0 (by decide) tyX0 tyX0_ok nmX0 rfl rfl (ty := .object "GcdMill$Whole") (by decide +kernel) rfl rfl cx ⟨Nat.le_refl x, by show x < x + 3; omega⟩ (wf_this (by omega)) (Nat.le_of_ble_eq_true rfl) (gw_t1 85 rfl rfl) dX0_init_13 ?_
  refine BW.congr (g := WF ca x 0 [.ref (x + 1)] [(N, 0)]) (wf_step (es := []) rfl) ?_
  exact b_ret (pc := 16) cx rfl (Nat.le_refl _) rfl (fun d hd => rfl) dX0_init_16
abbrev rm_X1i : Room := { frames := 4, cells := 8, slots := 412, locals := 110 }
theorem cf_X1_init : CF yX1_init cX1_init 3 none 2 := ⟨(gw_t1 93 rfl rfl), (gw_t1 5 rfl rfl), by decide +kernel⟩
theorem c_X1_init {l : Launch} {D : va_G} {ca : Nat → ClassId} {x N dv : Nat} {r : Int32} (hr : (if 1 < r then r else 1) = nI N) (hN : 1 ≤ N ∧ N ≤ 100) : MeC l D ca yX1_init (Cond.code yX1_init cX1_init 3 none :: GW) rm_X1i x 1 [.null, .null, .null, .null, .null] [.int r, .ref dv] 8 412 (fun d => WF ca x 1 [.ref dv, .ref (x + 1), .ref (x + 3), .ref (x + 5), .ref (x + 7)] [(N, 0), (N, 0), (N, 0), (N, 0)] (x + d)) := by
  refine b_method (by decide) rfl rfl (Nat.le_of_ble_eq_true rfl) ?_
  intro p e s m args below meth c cx
  have cx : CBx p s m args meth c D ca cX1_init 3 RX1 x := cx
  refine b_aload_n (pc := 0) cx dX1_init_0 rfl 0 rfl ?_
  refine b_obj (pc := 1) cx (gw_t1 94 rfl rfl) ⟨Nat.le_of_ble_eq_true rfl, Nat.le_of_ble_eq_true rfl⟩ dX1_init_1 ?_
  refine BW.congr (g := WF ca x 1 [.null, .null, .null, .null, .null] []) (fun q h1 h2 => by rw [show q = x by omega, WF_at]) ?_
  refine b_aload_n (pc := 4) cx dX1_init_4 rfl 0 rfl ?_
  refine b_aload_n (pc := 5) cx dX1_init_5 rfl 2 rfl ?_
  refine b_putF (pc := 6) (ci := 1) (k := 0) (C := RX1) (T := TX1) (N := 5) (vs := [.null, .null, .null, .null, .null]) rfl in_X1 (by decide) tyX1 tyX1_ok nmX1 rfl rfl (ty := .object "GcdMill$Divider") (by decide +kernel) rfl rfl cx ⟨Nat.le_refl x, by show x < x + 1; omega⟩ WF_at (Nat.le_of_ble_eq_true rfl) (gw_t1 97 rfl rfl) dX1_init_6 ?_
  refine BW.congr (g := WF ca x 1 [.ref dv, .null, .null, .null, .null] []) (fun q h1 h2 => by rw [show q = x by omega, WF_at]; exact if_pos rfl) ?_
  refine b_aload_n (pc := 9) cx dX1_init_9 rfl 0 rfl ?_
  refine b_new (pc := 10) (ci := 8) (C := RX9) (T := TX9) (N := 3) rfl in_X9 tyX9 tyX9_ok (fs := [.null, .int 0, .int 0]) w9_fs cx (gw_t1 95 rfl rfl) (gw_t1 37 rfl rfl) (gw_t1 3 rfl rfl) rfl ⟨Nat.le_of_ble_eq_true rfl, Nat.le_of_ble_eq_true rfl⟩ dX1_init_10 ?_
  refine b_dup (pc := 13) cx dX1_init_13 rfl ?_
  refine b_iload_n (pc := 14) cx dX1_init_14 rfl 1 rfl ?_
  refine b_callC (pc := 15) (x := x + 1) (rest := [.ref (x + 1), .ref x]) [.int r] cx (c_X9_init (N := N) hr hN) cf_X9_init rfl (gw_t1 39 rfl rfl) (gw_t1 96 rfl rfl) rfl rfl (by decide) (if_pos rfl) ⟨rfl, rfl⟩ ⟨Nat.le_of_ble_eq_true rfl, Nat.le_of_ble_eq_true rfl⟩ ⟨Nat.le_of_ble_eq_true rfl, Nat.le_of_ble_eq_true rfl⟩ rfl rfl (Nat.le_of_ble_eq_true rfl) dX1_init_15 ?_
  refine b_putF (pc := 18) (ci := 1) (k := 1) (C := RX1) (T := TX1) (N := 5) (vs := [.ref dv, .null, .null, .null, .null]) rfl in_X1 (by decide) tyX1 tyX1_ok nmX1 rfl rfl (ty := .object "GcdMill$Whole") (by decide +kernel) rfl rfl cx ⟨Nat.le_refl x, by show x < x + 3; omega⟩ (wf_this (by omega)) (Nat.le_of_ble_eq_true rfl) (gw_t1 98 rfl rfl) dX1_init_18 ?_
  refine BW.congr (g := WF ca x 1 [.ref dv, .ref (x + 1), .null, .null, .null] [(N, 0)]) (wf_step (es := []) rfl) ?_
  refine b_aload_n (pc := 21) cx dX1_init_21 rfl 0 rfl ?_
  refine b_new (pc := 22) (ci := 8) (C := RX9) (T := TX9) (N := 3) rfl in_X9 tyX9 tyX9_ok (fs := [.null, .int 0, .int 0]) w9_fs cx (gw_t1 95 rfl rfl) (gw_t1 37 rfl rfl) (gw_t1 3 rfl rfl) rfl ⟨Nat.le_of_ble_eq_true rfl, Nat.le_of_ble_eq_true rfl⟩ dX1_init_22 ?_
  refine b_dup (pc := 25) cx dX1_init_25 rfl ?_
  refine b_iload_n (pc := 26) cx dX1_init_26 rfl 1 rfl ?_
  refine b_callC (pc := 27) (x := x + 3) (rest := [.ref (x + 3), .ref x]) [.int r] cx (c_X9_init (N := N) hr hN) cf_X9_init rfl (gw_t1 39 rfl rfl) (gw_t1 96 rfl rfl) rfl rfl (by decide) (if_pos rfl) ⟨rfl, rfl⟩ ⟨Nat.le_of_ble_eq_true rfl, Nat.le_of_ble_eq_true rfl⟩ ⟨Nat.le_of_ble_eq_true rfl, Nat.le_of_ble_eq_true rfl⟩ rfl rfl (Nat.le_of_ble_eq_true rfl) dX1_init_27 ?_
  refine b_put (pc := 30) (ci := 1) (k := 2) (C := RX1) (T := TX1) (N := 5) (vs := [.ref dv, .ref (x + 1), .null, .null, .null]) rfl in_X1 (by decide) tyX1 tyX1_ok nmX1 rfl (ty := .object "GcdMill$Whole") (by decide +kernel) rfl rfl cx ⟨Nat.le_refl x, by show x < x + 5; omega⟩ (wf_this (by omega)) (Nat.le_of_ble_eq_true rfl) (gw_t1 99 rfl rfl) dX1_init_30 ?_
  refine BW.congr (g := WF ca x 1 [.ref dv, .ref (x + 1), .ref (x + 3), .null, .null] [(N, 0), (N, 0)]) (wf_step (es := [(N, 0)]) rfl) ?_
  refine b_aload_n (pc := 33) cx dX1_init_33 rfl 0 rfl ?_
  refine b_new (pc := 34) (ci := 8) (C := RX9) (T := TX9) (N := 3) rfl in_X9 tyX9 tyX9_ok (fs := [.null, .int 0, .int 0]) w9_fs cx (gw_t1 95 rfl rfl) (gw_t1 37 rfl rfl) (gw_t1 3 rfl rfl) rfl ⟨Nat.le_of_ble_eq_true rfl, Nat.le_of_ble_eq_true rfl⟩ dX1_init_34 ?_
  refine b_dup (pc := 37) cx dX1_init_37 rfl ?_
  refine b_iload_n (pc := 38) cx dX1_init_38 rfl 1 rfl ?_
  refine b_callC (pc := 39) (x := x + 5) (rest := [.ref (x + 5), .ref x]) [.int r] cx (c_X9_init (N := N) hr hN) cf_X9_init rfl (gw_t1 39 rfl rfl) (gw_t1 96 rfl rfl) rfl rfl (by decide) (if_pos rfl) ⟨rfl, rfl⟩ ⟨Nat.le_of_ble_eq_true rfl, Nat.le_of_ble_eq_true rfl⟩ ⟨Nat.le_of_ble_eq_true rfl, Nat.le_of_ble_eq_true rfl⟩ rfl rfl (Nat.le_of_ble_eq_true rfl) dX1_init_39 ?_
  refine b_put (pc := 42) (ci := 1) (k := 3) (C := RX1) (T := TX1) (N := 5) (vs := [.ref dv, .ref (x + 1), .ref (x + 3), .null, .null]) rfl in_X1 (by decide) tyX1 tyX1_ok nmX1 rfl (ty := .object "GcdMill$Whole") (by decide +kernel) rfl rfl cx ⟨Nat.le_refl x, by show x < x + 7; omega⟩ (wf_this (by omega)) (Nat.le_of_ble_eq_true rfl) (gw_t1 100 rfl rfl) dX1_init_42 ?_
  refine BW.congr (g := WF ca x 1 [.ref dv, .ref (x + 1), .ref (x + 3), .ref (x + 5), .null] [(N, 0), (N, 0), (N, 0)]) (wf_step (es := [(N, 0), (N, 0)]) rfl) ?_
  refine b_aload_n (pc := 45) cx dX1_init_45 rfl 0 rfl ?_
  refine b_new (pc := 46) (ci := 8) (C := RX9) (T := TX9) (N := 3) rfl in_X9 tyX9 tyX9_ok (fs := [.null, .int 0, .int 0]) w9_fs cx (gw_t1 95 rfl rfl) (gw_t1 37 rfl rfl) (gw_t1 3 rfl rfl) rfl ⟨Nat.le_of_ble_eq_true rfl, Nat.le_of_ble_eq_true rfl⟩ dX1_init_46 ?_
  refine b_dup (pc := 49) cx dX1_init_49 rfl ?_
  refine b_iload_n (pc := 50) cx dX1_init_50 rfl 1 rfl ?_
  refine b_callC (pc := 51) (x := x + 7) (rest := [.ref (x + 7), .ref x]) [.int r] cx (c_X9_init (N := N) hr hN) cf_X9_init rfl (gw_t1 39 rfl rfl) (gw_t1 96 rfl rfl) rfl rfl (by decide) (if_pos rfl) ⟨rfl, rfl⟩ ⟨Nat.le_of_ble_eq_true rfl, Nat.le_of_ble_eq_true rfl⟩ ⟨Nat.le_of_ble_eq_true rfl, Nat.le_of_ble_eq_true rfl⟩ rfl rfl (Nat.le_of_ble_eq_true rfl) dX1_init_51 ?_
  refine b_put (pc := 54) (ci := 1) (k := 4) (C := RX1) (T := TX1) (N := 5) (vs := [.ref dv, .ref (x + 1), .ref (x + 3), .ref (x + 5), .null]) rfl in_X1 (by decide) tyX1 tyX1_ok nmX1 rfl (ty := .object "GcdMill$Whole") (by decide +kernel) rfl rfl cx ⟨Nat.le_refl x, by show x < x + 9; omega⟩ (wf_this (by omega)) (Nat.le_of_ble_eq_true rfl) (gw_t1 101 rfl rfl) dX1_init_54 ?_
  refine BW.congr (g := WF ca x 1 [.ref dv, .ref (x + 1), .ref (x + 3), .ref (x + 5), .ref (x + 7)] [(N, 0), (N, 0), (N, 0), (N, 0)]) (wf_step (es := [(N, 0), (N, 0), (N, 0)]) rfl) ?_
  exact b_ret (pc := 57) cx rfl (Nat.le_refl _) rfl (fun d hd => rfl) dX1_init_57
abbrev rm_X3i : Room := { frames := 4, cells := 10, slots := 515, locals := 110 }
theorem cf_X3_init : CF yX3_init cX3_init 3 none 2 := ⟨(gw_t1 117 rfl rfl), (gw_t1 6 rfl rfl), by decide +kernel⟩
theorem c_X3_init {l : Launch} {D : va_G} {ca : Nat → ClassId} {x N dv : Nat} {r : Int32} (hr : (if 1 < r then r else 1) = nI N) (hN : 1 ≤ N ∧ N ≤ 100) : MeC l D ca yX3_init (Cond.code yX3_init cX3_init 3 none :: GW) rm_X3i x 3 [.int 0, .null, .null, .null, .null, .null, .null, .long 0, .long 0, .long 0, .long 0] [.int r, .ref dv] 10 515 (fun d => WF ca x 3 [.int 0, .ref dv, .ref (x + 1), .ref (x + 3), .ref (x + 5), .ref (x + 7), .ref (x + 9), .long 0, .long 0, .long 0, .long 0] [(N, 0), (N, 0), (N, 0), (N, 0), (N, 0)] (x + d)) := by
  refine b_method (by decide) rfl rfl (Nat.le_of_ble_eq_true rfl) ?_
  intro p e s m args below meth c cx
  have cx : CBx p s m args meth c D ca cX3_init 3 RX3 x := cx
  refine b_aload_n (pc := 0) cx dX3_init_0 rfl 0 rfl ?_
  refine b_obj (pc := 1) cx (gw_t1 118 rfl rfl) ⟨Nat.le_of_ble_eq_true rfl, Nat.le_of_ble_eq_true rfl⟩ dX3_init_1 ?_
  refine BW.congr (g := WF ca x 3 [.int 0, .null, .null, .null, .null, .null, .null, .long 0, .long 0, .long 0, .long 0] []) (fun q h1 h2 => by rw [show q = x by omega, WF_at]) ?_
  refine b_aload_n (pc := 4) cx dX3_init_4 rfl 0 rfl ?_
  refine b_aload_n (pc := 5) cx dX3_init_5 rfl 2 rfl ?_
  refine b_putF (pc := 6) (ci := 3) (k := 1) (C := RX3) (T := TX3) (N := 11) (vs := [.int 0, .null, .null, .null, .null, .null, .null, .long 0, .long 0, .long 0, .long 0]) rfl in_X3 (by decide) tyX3 tyX3_ok nmX3 rfl rfl (ty := .object "GcdMill$Divider") (by decide +kernel) rfl rfl cx ⟨Nat.le_refl x, by show x < x + 1; omega⟩ WF_at (Nat.le_of_ble_eq_true rfl) (gw_t1 123 rfl rfl) dX3_init_6 ?_
  refine BW.congr (g := WF ca x 3 [.int 0, .ref dv, .null, .null, .null, .null, .null, .long 0, .long 0, .long 0, .long 0] []) (fun q h1 h2 => by rw [show q = x by omega, WF_at]; exact if_pos rfl) ?_
  refine b_aload_n (pc := 9) cx dX3_init_9 rfl 0 rfl ?_
  refine b_new (pc := 10) (ci := 8) (C := RX9) (T := TX9) (N := 3) rfl in_X9 tyX9 tyX9_ok (fs := [.null, .int 0, .int 0]) w9_fs cx (gw_t1 119 rfl rfl) (gw_t1 37 rfl rfl) (gw_t1 3 rfl rfl) rfl ⟨Nat.le_of_ble_eq_true rfl, Nat.le_of_ble_eq_true rfl⟩ dX3_init_10 ?_
  refine b_dup (pc := 13) cx dX3_init_13 rfl ?_
  refine b_iload_n (pc := 14) cx dX3_init_14 rfl 1 rfl ?_
  refine b_callC (pc := 15) (x := x + 1) (rest := [.ref (x + 1), .ref x]) [.int r] cx (c_X9_init (N := N) hr hN) cf_X9_init rfl (gw_t1 39 rfl rfl) (gw_t1 120 rfl rfl) rfl rfl (by decide) (if_pos rfl) ⟨rfl, rfl⟩ ⟨Nat.le_of_ble_eq_true rfl, Nat.le_of_ble_eq_true rfl⟩ ⟨Nat.le_of_ble_eq_true rfl, Nat.le_of_ble_eq_true rfl⟩ rfl rfl (Nat.le_of_ble_eq_true rfl) dX3_init_15 ?_
  refine b_putF (pc := 18) (ci := 3) (k := 2) (C := RX3) (T := TX3) (N := 11) (vs := [.int 0, .ref dv, .null, .null, .null, .null, .null, .long 0, .long 0, .long 0, .long 0]) rfl in_X3 (by decide) tyX3 tyX3_ok nmX3 rfl rfl (ty := .object "GcdMill$Whole") (by decide +kernel) rfl rfl cx ⟨Nat.le_refl x, by show x < x + 3; omega⟩ (wf_this (by omega)) (Nat.le_of_ble_eq_true rfl) (gw_t1 124 rfl rfl) dX3_init_18 ?_
  refine BW.congr (g := WF ca x 3 [.int 0, .ref dv, .ref (x + 1), .null, .null, .null, .null, .long 0, .long 0, .long 0, .long 0] [(N, 0)]) (wf_step (es := []) rfl) ?_
  refine b_aload_n (pc := 21) cx dX3_init_21 rfl 0 rfl ?_
  refine b_new (pc := 22) (ci := 8) (C := RX9) (T := TX9) (N := 3) rfl in_X9 tyX9 tyX9_ok (fs := [.null, .int 0, .int 0]) w9_fs cx (gw_t1 119 rfl rfl) (gw_t1 37 rfl rfl) (gw_t1 3 rfl rfl) rfl ⟨Nat.le_of_ble_eq_true rfl, Nat.le_of_ble_eq_true rfl⟩ dX3_init_22 ?_
  refine b_dup (pc := 25) cx dX3_init_25 rfl ?_
  refine b_iload_n (pc := 26) cx dX3_init_26 rfl 1 rfl ?_
  refine b_callC (pc := 27) (x := x + 3) (rest := [.ref (x + 3), .ref x]) [.int r] cx (c_X9_init (N := N) hr hN) cf_X9_init rfl (gw_t1 39 rfl rfl) (gw_t1 120 rfl rfl) rfl rfl (by decide) (if_pos rfl) ⟨rfl, rfl⟩ ⟨Nat.le_of_ble_eq_true rfl, Nat.le_of_ble_eq_true rfl⟩ ⟨Nat.le_of_ble_eq_true rfl, Nat.le_of_ble_eq_true rfl⟩ rfl rfl (Nat.le_of_ble_eq_true rfl) dX3_init_27 ?_
  refine b_put (pc := 30) (ci := 3) (k := 3) (C := RX3) (T := TX3) (N := 11) (vs := [.int 0, .ref dv, .ref (x + 1), .null, .null, .null, .null, .long 0, .long 0, .long 0, .long 0]) rfl in_X3 (by decide) tyX3 tyX3_ok nmX3 rfl (ty := .object "GcdMill$Whole") (by decide +kernel) rfl rfl cx ⟨Nat.le_refl x, by show x < x + 5; omega⟩ (wf_this (by omega)) (Nat.le_of_ble_eq_true rfl) (gw_t1 125 rfl rfl) dX3_init_30 ?_
  refine BW.congr (g := WF ca x 3 [.int 0, .ref dv, .ref (x + 1), .ref (x + 3), .null, .null, .null, .long 0, .long 0, .long 0, .long 0] [(N, 0), (N, 0)]) (wf_step (es := [(N, 0)]) rfl) ?_
  refine b_aload_n (pc := 33) cx dX3_init_33 rfl 0 rfl ?_
  refine b_new (pc := 34) (ci := 8) (C := RX9) (T := TX9) (N := 3) rfl in_X9 tyX9 tyX9_ok (fs := [.null, .int 0, .int 0]) w9_fs cx (gw_t1 119 rfl rfl) (gw_t1 37 rfl rfl) (gw_t1 3 rfl rfl) rfl ⟨Nat.le_of_ble_eq_true rfl, Nat.le_of_ble_eq_true rfl⟩ dX3_init_34 ?_
  refine b_dup (pc := 37) cx dX3_init_37 rfl ?_
  refine b_iload_n (pc := 38) cx dX3_init_38 rfl 1 rfl ?_
  refine b_callC (pc := 39) (x := x + 5) (rest := [.ref (x + 5), .ref x]) [.int r] cx (c_X9_init (N := N) hr hN) cf_X9_init rfl (gw_t1 39 rfl rfl) (gw_t1 120 rfl rfl) rfl rfl (by decide) (if_pos rfl) ⟨rfl, rfl⟩ ⟨Nat.le_of_ble_eq_true rfl, Nat.le_of_ble_eq_true rfl⟩ ⟨Nat.le_of_ble_eq_true rfl, Nat.le_of_ble_eq_true rfl⟩ rfl rfl (Nat.le_of_ble_eq_true rfl) dX3_init_39 ?_
  refine b_put (pc := 42) (ci := 3) (k := 4) (C := RX3) (T := TX3) (N := 11) (vs := [.int 0, .ref dv, .ref (x + 1), .ref (x + 3), .null, .null, .null, .long 0, .long 0, .long 0, .long 0]) rfl in_X3 (by decide) tyX3 tyX3_ok nmX3 rfl (ty := .object "GcdMill$Whole") (by decide +kernel) rfl rfl cx ⟨Nat.le_refl x, by show x < x + 7; omega⟩ (wf_this (by omega)) (Nat.le_of_ble_eq_true rfl) (gw_t1 126 rfl rfl) dX3_init_42 ?_
  refine BW.congr (g := WF ca x 3 [.int 0, .ref dv, .ref (x + 1), .ref (x + 3), .ref (x + 5), .null, .null, .long 0, .long 0, .long 0, .long 0] [(N, 0), (N, 0), (N, 0)]) (wf_step (es := [(N, 0), (N, 0)]) rfl) ?_
  refine b_aload_n (pc := 45) cx dX3_init_45 rfl 0 rfl ?_
  refine b_new (pc := 46) (ci := 8) (C := RX9) (T := TX9) (N := 3) rfl in_X9 tyX9 tyX9_ok (fs := [.null, .int 0, .int 0]) w9_fs cx (gw_t1 119 rfl rfl) (gw_t1 37 rfl rfl) (gw_t1 3 rfl rfl) rfl ⟨Nat.le_of_ble_eq_true rfl, Nat.le_of_ble_eq_true rfl⟩ dX3_init_46 ?_
  refine b_dup (pc := 49) cx dX3_init_49 rfl ?_
  refine b_iload_n (pc := 50) cx dX3_init_50 rfl 1 rfl ?_
  refine b_callC (pc := 51) (x := x + 7) (rest := [.ref (x + 7), .ref x]) [.int r] cx (c_X9_init (N := N) hr hN) cf_X9_init rfl (gw_t1 39 rfl rfl) (gw_t1 120 rfl rfl) rfl rfl (by decide) (if_pos rfl) ⟨rfl, rfl⟩ ⟨Nat.le_of_ble_eq_true rfl, Nat.le_of_ble_eq_true rfl⟩ ⟨Nat.le_of_ble_eq_true rfl, Nat.le_of_ble_eq_true rfl⟩ rfl rfl (Nat.le_of_ble_eq_true rfl) dX3_init_51 ?_
  refine b_put (pc := 54) (ci := 3) (k := 5) (C := RX3) (T := TX3) (N := 11) (vs := [.int 0, .ref dv, .ref (x + 1), .ref (x + 3), .ref (x + 5), .null, .null, .long 0, .long 0, .long 0, .long 0]) rfl in_X3 (by decide) tyX3 tyX3_ok nmX3 rfl (ty := .object "GcdMill$Whole") (by decide +kernel) rfl rfl cx ⟨Nat.le_refl x, by show x < x + 9; omega⟩ (wf_this (by omega)) (Nat.le_of_ble_eq_true rfl) (gw_t1 127 rfl rfl) dX3_init_54 ?_
  refine BW.congr (g := WF ca x 3 [.int 0, .ref dv, .ref (x + 1), .ref (x + 3), .ref (x + 5), .ref (x + 7), .null, .long 0, .long 0, .long 0, .long 0] [(N, 0), (N, 0), (N, 0), (N, 0)]) (wf_step (es := [(N, 0), (N, 0), (N, 0)]) rfl) ?_
  refine b_aload_n (pc := 57) cx dX3_init_57 rfl 0 rfl ?_
  refine b_new (pc := 58) (ci := 8) (C := RX9) (T := TX9) (N := 3) rfl in_X9 tyX9 tyX9_ok (fs := [.null, .int 0, .int 0]) w9_fs cx (gw_t1 119 rfl rfl) (gw_t1 37 rfl rfl) (gw_t1 3 rfl rfl) rfl ⟨Nat.le_of_ble_eq_true rfl, Nat.le_of_ble_eq_true rfl⟩ dX3_init_58 ?_
  refine b_dup (pc := 61) cx dX3_init_61 rfl ?_
  refine b_iload_n (pc := 62) cx dX3_init_62 rfl 1 rfl ?_
  refine b_callC (pc := 63) (x := x + 9) (rest := [.ref (x + 9), .ref x]) [.int r] cx (c_X9_init (N := N) hr hN) cf_X9_init rfl (gw_t1 39 rfl rfl) (gw_t1 120 rfl rfl) rfl rfl (by decide) (if_pos rfl) ⟨rfl, rfl⟩ ⟨Nat.le_of_ble_eq_true rfl, Nat.le_of_ble_eq_true rfl⟩ ⟨Nat.le_of_ble_eq_true rfl, Nat.le_of_ble_eq_true rfl⟩ rfl rfl (Nat.le_of_ble_eq_true rfl) dX3_init_63 ?_
  refine b_put (pc := 66) (ci := 3) (k := 6) (C := RX3) (T := TX3) (N := 11) (vs := [.int 0, .ref dv, .ref (x + 1), .ref (x + 3), .ref (x + 5), .ref (x + 7), .null, .long 0, .long 0, .long 0, .long 0]) rfl in_X3 (by decide) tyX3 tyX3_ok nmX3 rfl (ty := .object "GcdMill$Whole") (by decide +kernel) rfl rfl cx ⟨Nat.le_refl x, by show x < x + 11; omega⟩ (wf_this (by omega)) (Nat.le_of_ble_eq_true rfl) (gw_t1 128 rfl rfl) dX3_init_66 ?_
  refine BW.congr (g := WF ca x 3 [.int 0, .ref dv, .ref (x + 1), .ref (x + 3), .ref (x + 5), .ref (x + 7), .ref (x + 9), .long 0, .long 0, .long 0, .long 0] [(N, 0), (N, 0), (N, 0), (N, 0), (N, 0)]) (wf_step (es := [(N, 0), (N, 0), (N, 0), (N, 0)]) rfl) ?_
  exact b_ret (pc := 69) cx rfl (Nat.le_refl _) rfl (fun d hd => rfl) dX3_init_69
abbrev rm_X2i : Room := { frames := 4, cells := 18, slots := 927, locals := 110 }
theorem cf_X2_init : CF yX2_init cX2_init 3 none 2 := ⟨(gw_t1 160 rfl rfl), (gw_t1 7 rfl rfl), by decide +kernel⟩
theorem c_X2_init {l : Launch} {D : va_G} {ca : Nat → ClassId} {x N dv : Nat} {r : Int32} (hr : (if 1 < r then r else 1) = nI N) (hN : 1 ≤ N ∧ N ≤ 100) : MeC l D ca yX2_init (Cond.code yX2_init cX2_init 3 none :: GW) rm_X2i x 2 [.null, .null, .null, .null, .null, .null, .null, .null, .null, .null] [.int r, .ref dv] 18 927 (fun d => WF ca x 2 [.ref (x + 5), .ref (x + 11), .ref (x + 15), .ref dv, .ref (x + 1), .ref (x + 3), .ref (x + 7), .ref (x + 9), .ref (x + 13), .ref (x + 17)] [(N, 0), (N, 0), (N, 0), (N, 0), (N, 0), (N, 0), (N, 0), (N, 0), (N, 0)] (x + d)) := by
  refine b_method (by decide) rfl rfl (Nat.le_of_ble_eq_true rfl) ?_
  intro p e s m args below meth c cx
  have cx : CBx p s m args meth c D ca cX2_init 3 RX2 x := cx
  refine b_aload_n (pc := 0) cx dX2_init_0 rfl 0 rfl ?_
  refine b_obj (pc := 1) cx (gw_t1 161 rfl rfl) ⟨Nat.le_of_ble_eq_true rfl, Nat.le_of_ble_eq_true rfl⟩ dX2_init_1 ?_
  refine BW.congr (g := WF ca x 2 [.null, .null, .null, .null, .null, .null, .null, .null, .null, .null] []) (fun q h1 h2 => by rw [show q = x by omega, WF_at]) ?_
  refine b_aload_n (pc := 4) cx dX2_init_4 rfl 0 rfl ?_
  refine b_aload_n (pc := 5) cx dX2_init_5 rfl 2 rfl ?_
  refine b_putF (pc := 6) (ci := 2) (k := 3) (C := RX2) (T := TX2) (N := 10) (vs := [.null, .null, .null, .null, .null, .null, .null, .null, .null, .null]) rfl in_X2 (by decide) tyX2 tyX2_ok nmX2 rfl rfl (ty := .object "GcdMill$Divider") (by decide +kernel) rfl rfl cx ⟨Nat.le_refl x, by show x < x + 1; omega⟩ WF_at (Nat.le_of_ble_eq_true rfl) (gw_t1 170 rfl rfl) dX2_init_6 ?_
  refine BW.congr (g := WF ca x 2 [.null, .null, .null, .ref dv, .null, .null, .null, .null, .null, .null] []) (fun q h1 h2 => by rw [show q = x by omega, WF_at]; exact if_pos rfl) ?_
  refine b_aload_n (pc := 9) cx dX2_init_9 rfl 0 rfl ?_
  refine b_new (pc := 10) (ci := 8) (C := RX9) (T := TX9) (N := 3) rfl in_X9 tyX9 tyX9_ok (fs := [.null, .int 0, .int 0]) w9_fs cx (gw_t1 162 rfl rfl) (gw_t1 37 rfl rfl) (gw_t1 3 rfl rfl) rfl ⟨Nat.le_of_ble_eq_true rfl, Nat.le_of_ble_eq_true rfl⟩ dX2_init_10 ?_
  refine b_dup (pc := 13) cx dX2_init_13 rfl ?_
  refine b_iload_n (pc := 14) cx dX2_init_14 rfl 1 rfl ?_
  refine b_callC (pc := 15) (x := x + 1) (rest := [.ref (x + 1), .ref x]) [.int r] cx (c_X9_init (N := N) hr hN) cf_X9_init rfl (gw_t1 39 rfl rfl) (gw_t1 163 rfl rfl) rfl rfl (by decide) (if_pos rfl) ⟨rfl, rfl⟩ ⟨Nat.le_of_ble_eq_true rfl, Nat.le_of_ble_eq_true rfl⟩ ⟨Nat.le_of_ble_eq_true rfl, Nat.le_of_ble_eq_true rfl⟩ rfl rfl (Nat.le_of_ble_eq_true rfl) dX2_init_15 ?_
  refine b_putF (pc := 18) (ci := 2) (k := 4) (C := RX2) (T := TX2) (N := 10) (vs := [.null, .null, .null, .ref dv, .null, .null, .null, .null, .null, .null]) rfl in_X2 (by decide) tyX2 tyX2_ok nmX2 rfl rfl (ty := .object "GcdMill$Whole") (by decide +kernel) rfl rfl cx ⟨Nat.le_refl x, by show x < x + 3; omega⟩ (wf_this (by omega)) (Nat.le_of_ble_eq_true rfl) (gw_t1 171 rfl rfl) dX2_init_18 ?_
  refine BW.congr (g := WF ca x 2 [.null, .null, .null, .ref dv, .ref (x + 1), .null, .null, .null, .null, .null] [(N, 0)]) (wf_step (es := []) rfl) ?_
  refine b_aload_n (pc := 21) cx dX2_init_21 rfl 0 rfl ?_
  refine b_new (pc := 22) (ci := 8) (C := RX9) (T := TX9) (N := 3) rfl in_X9 tyX9 tyX9_ok (fs := [.null, .int 0, .int 0]) w9_fs cx (gw_t1 162 rfl rfl) (gw_t1 37 rfl rfl) (gw_t1 3 rfl rfl) rfl ⟨Nat.le_of_ble_eq_true rfl, Nat.le_of_ble_eq_true rfl⟩ dX2_init_22 ?_
  refine b_dup (pc := 25) cx dX2_init_25 rfl ?_
  refine b_iload_n (pc := 26) cx dX2_init_26 rfl 1 rfl ?_
  refine b_callC (pc := 27) (x := x + 3) (rest := [.ref (x + 3), .ref x]) [.int r] cx (c_X9_init (N := N) hr hN) cf_X9_init rfl (gw_t1 39 rfl rfl) (gw_t1 163 rfl rfl) rfl rfl (by decide) (if_pos rfl) ⟨rfl, rfl⟩ ⟨Nat.le_of_ble_eq_true rfl, Nat.le_of_ble_eq_true rfl⟩ ⟨Nat.le_of_ble_eq_true rfl, Nat.le_of_ble_eq_true rfl⟩ rfl rfl (Nat.le_of_ble_eq_true rfl) dX2_init_27 ?_
  refine b_putF (pc := 30) (ci := 2) (k := 5) (C := RX2) (T := TX2) (N := 10) (vs := [.null, .null, .null, .ref dv, .ref (x + 1), .null, .null, .null, .null, .null]) rfl in_X2 (by decide) tyX2 tyX2_ok nmX2 rfl rfl (ty := .object "GcdMill$Whole") (by decide +kernel) rfl rfl cx ⟨Nat.le_refl x, by show x < x + 5; omega⟩ (wf_this (by omega)) (Nat.le_of_ble_eq_true rfl) (gw_t1 172 rfl rfl) dX2_init_30 ?_
  refine BW.congr (g := WF ca x 2 [.null, .null, .null, .ref dv, .ref (x + 1), .ref (x + 3), .null, .null, .null, .null] [(N, 0), (N, 0)]) (wf_step (es := [(N, 0)]) rfl) ?_
  refine b_aload_n (pc := 33) cx dX2_init_33 rfl 0 rfl ?_
  refine b_new (pc := 34) (ci := 8) (C := RX9) (T := TX9) (N := 3) rfl in_X9 tyX9 tyX9_ok (fs := [.null, .int 0, .int 0]) w9_fs cx (gw_t1 162 rfl rfl) (gw_t1 37 rfl rfl) (gw_t1 3 rfl rfl) rfl ⟨Nat.le_of_ble_eq_true rfl, Nat.le_of_ble_eq_true rfl⟩ dX2_init_34 ?_
  refine b_dup (pc := 37) cx dX2_init_37 rfl ?_
  refine b_iload_n (pc := 38) cx dX2_init_38 rfl 1 rfl ?_
  refine b_callC (pc := 39) (x := x + 5) (rest := [.ref (x + 5), .ref x]) [.int r] cx (c_X9_init (N := N) hr hN) cf_X9_init rfl (gw_t1 39 rfl rfl) (gw_t1 163 rfl rfl) rfl rfl (by decide) (if_pos rfl) ⟨rfl, rfl⟩ ⟨Nat.le_of_ble_eq_true rfl, Nat.le_of_ble_eq_true rfl⟩ ⟨Nat.le_of_ble_eq_true rfl, Nat.le_of_ble_eq_true rfl⟩ rfl rfl (Nat.le_of_ble_eq_true rfl) dX2_init_39 ?_
  refine b_put (pc := 42) (ci := 2) (k := 0) (C := RX2) (T := TX2) (N := 10) (vs := [.null, .null, .null, .ref dv, .ref (x + 1), .ref (x + 3), .null, .null, .null, .null]) rfl in_X2 (by decide) tyX2 tyX2_ok nmX2 rfl (ty := .object "GcdMill$Whole") (by decide +kernel) rfl rfl cx ⟨Nat.le_refl x, by show x < x + 7; omega⟩ (wf_this (by omega)) (Nat.le_of_ble_eq_true rfl) (gw_t1 164 rfl rfl) dX2_init_42 ?_
  refine BW.congr (g := WF ca x 2 [.ref (x + 5), .null, .null, .ref dv, .ref (x + 1), .ref (x + 3), .null, .null, .null, .null] [(N, 0), (N, 0), (N, 0)]) (wf_step (es := [(N, 0), (N, 0)]) rfl) ?_
  refine b_aload_n (pc := 45) cx dX2_init_45 rfl 0 rfl ?_
  refine b_new (pc := 46) (ci := 8) (C := RX9) (T := TX9) (N := 3) rfl in_X9 tyX9 tyX9_ok (fs := [.null, .int 0, .int 0]) w9_fs cx (gw_t1 162 rfl rfl) (gw_t1 37 rfl rfl) (gw_t1 3 rfl rfl) rfl ⟨Nat.le_of_ble_eq_true rfl, Nat.le_of_ble_eq_true rfl⟩ dX2_init_46 ?_
  refine b_dup (pc := 49) cx dX2_init_49 rfl ?_
  refine b_iload_n (pc := 50) cx dX2_init_50 rfl 1 rfl ?_
  refine b_callC (pc := 51) (x := x + 7) (rest := [.ref (x + 7), .ref x]) [.int r] cx (c_X9_init (N := N) hr hN) cf_X9_init rfl (gw_t1 39 rfl rfl) (gw_t1 163 rfl rfl) rfl rfl (by decide) (if_pos rfl) ⟨rfl, rfl⟩ ⟨Nat.le_of_ble_eq_true rfl, Nat.le_of_ble_eq_true rfl⟩ ⟨Nat.le_of_ble_eq_true rfl, Nat.le_of_ble_eq_true rfl⟩ rfl rfl (Nat.le_of_ble_eq_true rfl) dX2_init_51 ?_
  refine b_put (pc := 54) (ci := 2) (k := 6) (C := RX2) (T := TX2) (N := 10) (vs := [.ref (x + 5), .null, .null, .ref dv, .ref (x + 1), .ref (x + 3), .null, .null, .null, .null]) rfl in_X2 (by decide) tyX2 tyX2_ok nmX2 rfl (ty := .object "GcdMill$Whole") (by decide +kernel) rfl rfl cx ⟨Nat.le_refl x, by show x < x + 9; omega⟩ (wf_this (by omega)) (Nat.le_of_ble_eq_true rfl) (gw_t1 173 rfl rfl) dX2_init_54 ?_
  refine BW.congr (g := WF ca x 2 [.ref (x + 5), .null, .null, .ref dv, .ref (x + 1), .ref (x + 3), .ref (x + 7), .null, .null, .null] [(N, 0), (N, 0), (N, 0), (N, 0)]) (wf_step (es := [(N, 0), (N, 0), (N, 0)]) rfl) ?_
  refine b_aload_n (pc := 57) cx dX2_init_57 rfl 0 rfl ?_
  refine b_new (pc := 58) (ci := 8) (C := RX9) (T := TX9) (N := 3) rfl in_X9 tyX9 tyX9_ok (fs := [.null, .int 0, .int 0]) w9_fs cx (gw_t1 162 rfl rfl) (gw_t1 37 rfl rfl) (gw_t1 3 rfl rfl) rfl ⟨Nat.le_of_ble_eq_true rfl, Nat.le_of_ble_eq_true rfl⟩ dX2_init_58 ?_
  refine b_dup (pc := 61) cx dX2_init_61 rfl ?_
  refine b_iload_n (pc := 62) cx dX2_init_62 rfl 1 rfl ?_
  refine b_callC (pc := 63) (x := x + 9) (rest := [.ref (x + 9), .ref x]) [.int r] cx (c_X9_init (N := N) hr hN) cf_X9_init rfl (gw_t1 39 rfl rfl) (gw_t1 163 rfl rfl) rfl rfl (by decide) (if_pos rfl) ⟨rfl, rfl⟩ ⟨Nat.le_of_ble_eq_true rfl, Nat.le_of_ble_eq_true rfl⟩ ⟨Nat.le_of_ble_eq_true rfl, Nat.le_of_ble_eq_true rfl⟩ rfl rfl (Nat.le_of_ble_eq_true rfl) dX2_init_63 ?_
  refine b_put (pc := 66) (ci := 2) (k := 7) (C := RX2) (T := TX2) (N := 10) (vs := [.ref (x + 5), .null, .null, .ref dv, .ref (x + 1), .ref (x + 3), .ref (x + 7), .null, .null, .null]) rfl in_X2 (by decide) tyX2 tyX2_ok nmX2 rfl (ty := .object "GcdMill$Whole") (by decide +kernel) rfl rfl cx ⟨Nat.le_refl x, by show x < x + 11; omega⟩ (wf_this (by omega)) (Nat.le_of_ble_eq_true rfl) (gw_t1 174 rfl rfl) dX2_init_66 ?_
  refine BW.congr (g := WF ca x 2 [.ref (x + 5), .null, .null, .ref dv, .ref (x + 1), .ref (x + 3), .ref (x + 7), .ref (x + 9), .null, .null] [(N, 0), (N, 0), (N, 0), (N, 0), (N, 0)]) (wf_step (es := [(N, 0), (N, 0), (N, 0), (N, 0)]) rfl) ?_
  refine b_aload_n (pc := 69) cx dX2_init_69 rfl 0 rfl ?_
  refine b_new (pc := 70) (ci := 8) (C := RX9) (T := TX9) (N := 3) rfl in_X9 tyX9 tyX9_ok (fs := [.null, .int 0, .int 0]) w9_fs cx (gw_t1 162 rfl rfl) (gw_t1 37 rfl rfl) (gw_t1 3 rfl rfl) rfl ⟨Nat.le_of_ble_eq_true rfl, Nat.le_of_ble_eq_true rfl⟩ dX2_init_70 ?_
  refine b_dup (pc := 73) cx dX2_init_73 rfl ?_
  refine b_iload_n (pc := 74) cx dX2_init_74 rfl 1 rfl ?_
  refine b_callC (pc := 75) (x := x + 11) (rest := [.ref (x + 11), .ref x]) [.int r] cx (c_X9_init (N := N) hr hN) cf_X9_init rfl (gw_t1 39 rfl rfl) (gw_t1 163 rfl rfl) rfl rfl (by decide) (if_pos rfl) ⟨rfl, rfl⟩ ⟨Nat.le_of_ble_eq_true rfl, Nat.le_of_ble_eq_true rfl⟩ ⟨Nat.le_of_ble_eq_true rfl, Nat.le_of_ble_eq_true rfl⟩ rfl rfl (Nat.le_of_ble_eq_true rfl) dX2_init_75 ?_
  refine b_put (pc := 78) (ci := 2) (k := 1) (C := RX2) (T := TX2) (N := 10) (vs := [.ref (x + 5), .null, .null, .ref dv, .ref (x + 1), .ref (x + 3), .ref (x + 7), .ref (x + 9), .null, .null]) rfl in_X2 (by decide) tyX2 tyX2_ok nmX2 rfl (ty := .object "GcdMill$Whole") (by decide +kernel) rfl rfl cx ⟨Nat.le_refl x, by show x < x + 13; omega⟩ (wf_this (by omega)) (Nat.le_of_ble_eq_true rfl) (gw_t1 166 rfl rfl) dX2_init_78 ?_
  refine BW.congr (g := WF ca x 2 [.ref (x + 5), .ref (x + 11), .null, .ref dv, .ref (x + 1), .ref (x + 3), .ref (x + 7), .ref (x + 9), .null, .null] [(N, 0), (N, 0), (N, 0), (N, 0), (N, 0), (N, 0)]) (wf_step (es := [(N, 0), (N, 0), (N, 0), (N, 0), (N, 0)]) rfl) ?_
  refine b_aload_n (pc := 81) cx dX2_init_81 rfl 0 rfl ?_
  refine b_new (pc := 82) (ci := 8) (C := RX9) (T := TX9) (N := 3) rfl in_X9 tyX9 tyX9_ok (fs := [.null, .int 0, .int 0]) w9_fs cx (gw_t1 162 rfl rfl) (gw_t1 37 rfl rfl) (gw_t1 3 rfl rfl) rfl ⟨Nat.le_of_ble_eq_true rfl, Nat.le_of_ble_eq_true rfl⟩ dX2_init_82 ?_
  refine b_dup (pc := 85) cx dX2_init_85 rfl ?_
  refine b_iload_n (pc := 86) cx dX2_init_86 rfl 1 rfl ?_
  refine b_callC (pc := 87) (x := x + 13) (rest := [.ref (x + 13), .ref x]) [.int r] cx (c_X9_init (N := N) hr hN) cf_X9_init rfl (gw_t1 39 rfl rfl) (gw_t1 163 rfl rfl) rfl rfl (by decide) (if_pos rfl) ⟨rfl, rfl⟩ ⟨Nat.le_of_ble_eq_true rfl, Nat.le_of_ble_eq_true rfl⟩ ⟨Nat.le_of_ble_eq_true rfl, Nat.le_of_ble_eq_true rfl⟩ rfl rfl (Nat.le_of_ble_eq_true rfl) dX2_init_87 ?_
  refine b_put (pc := 90) (ci := 2) (k := 8) (C := RX2) (T := TX2) (N := 10) (vs := [.ref (x + 5), .ref (x + 11), .null, .ref dv, .ref (x + 1), .ref (x + 3), .ref (x + 7), .ref (x + 9), .null, .null]) rfl in_X2 (by decide) tyX2 tyX2_ok nmX2 rfl (ty := .object "GcdMill$Whole") (by decide +kernel) rfl rfl cx ⟨Nat.le_refl x, by show x < x + 15; omega⟩ (wf_this (by omega)) (Nat.le_of_ble_eq_true rfl) (gw_t1 175 rfl rfl) dX2_init_90 ?_
  refine BW.congr (g := WF ca x 2 [.ref (x + 5), .ref (x + 11), .null, .ref dv, .ref (x + 1), .ref (x + 3), .ref (x + 7), .ref (x + 9), .ref (x + 13), .null] [(N, 0), (N, 0), (N, 0), (N, 0), (N, 0), (N, 0), (N, 0)]) (wf_step (es := [(N, 0), (N, 0), (N, 0), (N, 0), (N, 0), (N, 0)]) rfl) ?_
  refine b_aload_n (pc := 93) cx dX2_init_93 rfl 0 rfl ?_
  refine b_new (pc := 94) (ci := 8) (C := RX9) (T := TX9) (N := 3) rfl in_X9 tyX9 tyX9_ok (fs := [.null, .int 0, .int 0]) w9_fs cx (gw_t1 162 rfl rfl) (gw_t1 37 rfl rfl) (gw_t1 3 rfl rfl) rfl ⟨Nat.le_of_ble_eq_true rfl, Nat.le_of_ble_eq_true rfl⟩ dX2_init_94 ?_
  refine b_dup (pc := 97) cx dX2_init_97 rfl ?_
  refine b_iload_n (pc := 98) cx dX2_init_98 rfl 1 rfl ?_
  refine b_callC (pc := 99) (x := x + 15) (rest := [.ref (x + 15), .ref x]) [.int r] cx (c_X9_init (N := N) hr hN) cf_X9_init rfl (gw_t1 39 rfl rfl) (gw_t1 163 rfl rfl) rfl rfl (by decide) (if_pos rfl) ⟨rfl, rfl⟩ ⟨Nat.le_of_ble_eq_true rfl, Nat.le_of_ble_eq_true rfl⟩ ⟨Nat.le_of_ble_eq_true rfl, Nat.le_of_ble_eq_true rfl⟩ rfl rfl (Nat.le_of_ble_eq_true rfl) dX2_init_99 ?_
  refine b_put (pc := 102) (ci := 2) (k := 2) (C := RX2) (T := TX2) (N := 10) (vs := [.ref (x + 5), .ref (x + 11), .null, .ref dv, .ref (x + 1), .ref (x + 3), .ref (x + 7), .ref (x + 9), .ref (x + 13), .null]) rfl in_X2 (by decide) tyX2 tyX2_ok nmX2 rfl (ty := .object "GcdMill$Whole") (by decide +kernel) rfl rfl cx ⟨Nat.le_refl x, by show x < x + 17; omega⟩ (wf_this (by omega)) (Nat.le_of_ble_eq_true rfl) (gw_t1 168 rfl rfl) dX2_init_102 ?_
  refine BW.congr (g := WF ca x 2 [.ref (x + 5), .ref (x + 11), .ref (x + 15), .ref dv, .ref (x + 1), .ref (x + 3), .ref (x + 7), .ref (x + 9), .ref (x + 13), .null] [(N, 0), (N, 0), (N, 0), (N, 0), (N, 0), (N, 0), (N, 0), (N, 0)]) (wf_step (es := [(N, 0), (N, 0), (N, 0), (N, 0), (N, 0), (N, 0), (N, 0)]) rfl) ?_
  refine b_aload_n (pc := 105) cx dX2_init_105 rfl 0 rfl ?_
  refine b_new (pc := 106) (ci := 8) (C := RX9) (T := TX9) (N := 3) rfl in_X9 tyX9 tyX9_ok (fs := [.null, .int 0, .int 0]) w9_fs cx (gw_t1 162 rfl rfl) (gw_t1 37 rfl rfl) (gw_t1 3 rfl rfl) rfl ⟨Nat.le_of_ble_eq_true rfl, Nat.le_of_ble_eq_true rfl⟩ dX2_init_106 ?_
  refine b_dup (pc := 109) cx dX2_init_109 rfl ?_
  refine b_iload_n (pc := 110) cx dX2_init_110 rfl 1 rfl ?_
  refine b_callC (pc := 111) (x := x + 17) (rest := [.ref (x + 17), .ref x]) [.int r] cx (c_X9_init (N := N) hr hN) cf_X9_init rfl (gw_t1 39 rfl rfl) (gw_t1 163 rfl rfl) rfl rfl (by decide) (if_pos rfl) ⟨rfl, rfl⟩ ⟨Nat.le_of_ble_eq_true rfl, Nat.le_of_ble_eq_true rfl⟩ ⟨Nat.le_of_ble_eq_true rfl, Nat.le_of_ble_eq_true rfl⟩ rfl rfl (Nat.le_of_ble_eq_true rfl) dX2_init_111 ?_
  refine b_put (pc := 114) (ci := 2) (k := 9) (C := RX2) (T := TX2) (N := 10) (vs := [.ref (x + 5), .ref (x + 11), .ref (x + 15), .ref dv, .ref (x + 1), .ref (x + 3), .ref (x + 7), .ref (x + 9), .ref (x + 13), .null]) rfl in_X2 (by decide) tyX2 tyX2_ok nmX2 rfl (ty := .object "GcdMill$Whole") (by decide +kernel) rfl rfl cx ⟨Nat.le_refl x, by show x < x + 19; omega⟩ (wf_this (by omega)) (Nat.le_of_ble_eq_true rfl) (gw_t1 176 rfl rfl) dX2_init_114 ?_
  refine BW.congr (g := WF ca x 2 [.ref (x + 5), .ref (x + 11), .ref (x + 15), .ref dv, .ref (x + 1), .ref (x + 3), .ref (x + 7), .ref (x + 9), .ref (x + 13), .ref (x + 17)] [(N, 0), (N, 0), (N, 0), (N, 0), (N, 0), (N, 0), (N, 0), (N, 0), (N, 0)]) (wf_step (es := [(N, 0), (N, 0), (N, 0), (N, 0), (N, 0), (N, 0), (N, 0), (N, 0)]) rfl) ?_
  exact b_ret (pc := 117) cx rfl (Nat.le_refl _) rfl (fun d hd => rfl) dX2_init_117
abbrev rm_X5i : Room := { frames := 4, cells := 14, slots := 721, locals := 110 }
theorem cf_X5_init : CF yX5_init cX5_init 3 none 2 := ⟨(gw_t1 202 rfl rfl), (gw_t1 8 rfl rfl), by decide +kernel⟩
theorem c_X5_init {l : Launch} {D : va_G} {ca : Nat → ClassId} {x N dv : Nat} {r : Int32} (hr : (if 1 < r then r else 1) = nI N) (hN : 1 ≤ N ∧ N ≤ 100) : MeC l D ca yX5_init (Cond.code yX5_init cX5_init 3 none :: GW) rm_X5i x 5 [.null, .null, .null, .null, .null, .null, .null, .null] [.int r, .ref dv] 14 721 (fun d => WF ca x 5 [.ref dv, .ref (x + 1), .ref (x + 3), .ref (x + 5), .ref (x + 7), .ref (x + 9), .ref (x + 11), .ref (x + 13)] [(N, 0), (N, 0), (N, 0), (N, 0), (N, 0), (N, 0), (N, 0)] (x + d)) := by
  refine b_method (by decide) rfl rfl (Nat.le_of_ble_eq_true rfl) ?_
  intro p e s m args below meth c cx
  have cx : CBx p s m args meth c D ca cX5_init 3 RX5 x := cx
  refine b_aload_n (pc := 0) cx dX5_init_0 rfl 0 rfl ?_
  refine b_obj (pc := 1) cx (gw_t1 203 rfl rfl) ⟨Nat.le_of_ble_eq_true rfl, Nat.le_of_ble_eq_true rfl⟩ dX5_init_1 ?_
  refine BW.congr (g := WF ca x 5 [.null, .null, .null, .null, .null, .null, .null, .null] []) (fun q h1 h2 => by rw [show q = x by omega, WF_at]) ?_
  refine b_aload_n (pc := 4) cx dX5_init_4 rfl 0 rfl ?_
  refine b_aload_n (pc := 5) cx dX5_init_5 rfl 2 rfl ?_
  refine b_putF (pc := 6) (ci := 5) (k := 0) (C := RX5) (T := TX5) (N := 8) (vs := [.null, .null, .null, .null, .null, .null, .null, .null]) rfl in_X5 (by decide) tyX5 tyX5_ok nmX5 rfl rfl (ty := .object "GcdMill$Divider") (by decide +kernel) rfl rfl cx ⟨Nat.le_refl x, by show x < x + 1; omega⟩ WF_at (Nat.le_of_ble_eq_true rfl) (gw_t1 206 rfl rfl) dX5_init_6 ?_
  refine BW.congr (g := WF ca x 5 [.ref dv, .null, .null, .null, .null, .null, .null, .null] []) (fun q h1 h2 => by rw [show q = x by omega, WF_at]; exact if_pos rfl) ?_
  refine b_aload_n (pc := 9) cx dX5_init_9 rfl 0 rfl ?_
  refine b_new (pc := 10) (ci := 8) (C := RX9) (T := TX9) (N := 3) rfl in_X9 tyX9 tyX9_ok (fs := [.null, .int 0, .int 0]) w9_fs cx (gw_t1 204 rfl rfl) (gw_t1 37 rfl rfl) (gw_t1 3 rfl rfl) rfl ⟨Nat.le_of_ble_eq_true rfl, Nat.le_of_ble_eq_true rfl⟩ dX5_init_10 ?_
  refine b_dup (pc := 13) cx dX5_init_13 rfl ?_
  refine b_iload_n (pc := 14) cx dX5_init_14 rfl 1 rfl ?_
  refine b_callC (pc := 15) (x := x + 1) (rest := [.ref (x + 1), .ref x]) [.int r] cx (c_X9_init (N := N) hr hN) cf_X9_init rfl (gw_t1 39 rfl rfl) (gw_t1 205 rfl rfl) rfl rfl (by decide) (if_pos rfl) ⟨rfl, rfl⟩ ⟨Nat.le_of_ble_eq_true rfl, Nat.le_of_ble_eq_true rfl⟩ ⟨Nat.le_of_ble_eq_true rfl, Nat.le_of_ble_eq_true rfl⟩ rfl rfl (Nat.le_of_ble_eq_true rfl) dX5_init_15 ?_
  refine b_putF (pc := 18) (ci := 5) (k := 1) (C := RX5) (T := TX5) (N := 8) (vs := [.ref dv, .null, .null, .null, .null, .null, .null, .null]) rfl in_X5 (by decide) tyX5 tyX5_ok nmX5 rfl rfl (ty := .object "GcdMill$Whole") (by decide +kernel) rfl rfl cx ⟨Nat.le_refl x, by show x < x + 3; omega⟩ (wf_this (by omega)) (Nat.le_of_ble_eq_true rfl) (gw_t1 207 rfl rfl) dX5_init_18 ?_
  refine BW.congr (g := WF ca x 5 [.ref dv, .ref (x + 1), .null, .null, .null, .null, .null, .null] [(N, 0)]) (wf_step (es := []) rfl) ?_
  refine b_aload_n (pc := 21) cx dX5_init_21 rfl 0 rfl ?_
  refine b_new (pc := 22) (ci := 8) (C := RX9) (T := TX9) (N := 3) rfl in_X9 tyX9 tyX9_ok (fs := [.null, .int 0, .int 0]) w9_fs cx (gw_t1 204 rfl rfl) (gw_t1 37 rfl rfl) (gw_t1 3 rfl rfl) rfl ⟨Nat.le_of_ble_eq_true rfl, Nat.le_of_ble_eq_true rfl⟩ dX5_init_22 ?_
  refine b_dup (pc := 25) cx dX5_init_25 rfl ?_
  refine b_iload_n (pc := 26) cx dX5_init_26 rfl 1 rfl ?_
  refine b_callC (pc := 27) (x := x + 3) (rest := [.ref (x + 3), .ref x]) [.int r] cx (c_X9_init (N := N) hr hN) cf_X9_init rfl (gw_t1 39 rfl rfl) (gw_t1 205 rfl rfl) rfl rfl (by decide) (if_pos rfl) ⟨rfl, rfl⟩ ⟨Nat.le_of_ble_eq_true rfl, Nat.le_of_ble_eq_true rfl⟩ ⟨Nat.le_of_ble_eq_true rfl, Nat.le_of_ble_eq_true rfl⟩ rfl rfl (Nat.le_of_ble_eq_true rfl) dX5_init_27 ?_
  refine b_putF (pc := 30) (ci := 5) (k := 2) (C := RX5) (T := TX5) (N := 8) (vs := [.ref dv, .ref (x + 1), .null, .null, .null, .null, .null, .null]) rfl in_X5 (by decide) tyX5 tyX5_ok nmX5 rfl rfl (ty := .object "GcdMill$Whole") (by decide +kernel) rfl rfl cx ⟨Nat.le_refl x, by show x < x + 5; omega⟩ (wf_this (by omega)) (Nat.le_of_ble_eq_true rfl) (gw_t1 208 rfl rfl) dX5_init_30 ?_
  refine BW.congr (g := WF ca x 5 [.ref dv, .ref (x + 1), .ref (x + 3), .null, .null, .null, .null, .null] [(N, 0), (N, 0)]) (wf_step (es := [(N, 0)]) rfl) ?_
  refine b_aload_n (pc := 33) cx dX5_init_33 rfl 0 rfl ?_
  refine b_new (pc := 34) (ci := 8) (C := RX9) (T := TX9) (N := 3) rfl in_X9 tyX9 tyX9_ok (fs := [.null, .int 0, .int 0]) w9_fs cx (gw_t1 204 rfl rfl) (gw_t1 37 rfl rfl) (gw_t1 3 rfl rfl) rfl ⟨Nat.le_of_ble_eq_true rfl, Nat.le_of_ble_eq_true rfl⟩ dX5_init_34 ?_
  refine b_dup (pc := 37) cx dX5_init_37 rfl ?_
  refine b_iload_n (pc := 38) cx dX5_init_38 rfl 1 rfl ?_
  refine b_callC (pc := 39) (x := x + 5) (rest := [.ref (x + 5), .ref x]) [.int r] cx (c_X9_init (N := N) hr hN) cf_X9_init rfl (gw_t1 39 rfl rfl) (gw_t1 205 rfl rfl) rfl rfl (by decide) (if_pos rfl) ⟨rfl, rfl⟩ ⟨Nat.le_of_ble_eq_true rfl, Nat.le_of_ble_eq_true rfl⟩ ⟨Nat.le_of_ble_eq_true rfl, Nat.le_of_ble_eq_true rfl⟩ rfl rfl (Nat.le_of_ble_eq_true rfl) dX5_init_39 ?_
  refine b_putF (pc := 42) (ci := 5) (k := 3) (C := RX5) (T := TX5) (N := 8) (vs := [.ref dv, .ref (x + 1), .ref (x + 3), .null, .null, .null, .null, .null]) rfl in_X5 (by decide) tyX5 tyX5_ok nmX5 rfl rfl (ty := .object "GcdMill$Whole") (by decide +kernel) rfl rfl cx ⟨Nat.le_refl x, by show x < x + 7; omega⟩ (wf_this (by omega)) (Nat.le_of_ble_eq_true rfl) (gw_t1 209 rfl rfl) dX5_init_42 ?_
  refine BW.congr (g := WF ca x 5 [.ref dv, .ref (x + 1), .ref (x + 3), .ref (x + 5), .null, .null, .null, .null] [(N, 0), (N, 0), (N, 0)]) (wf_step (es := [(N, 0), (N, 0)]) rfl) ?_
  refine b_aload_n (pc := 45) cx dX5_init_45 rfl 0 rfl ?_
  refine b_new (pc := 46) (ci := 8) (C := RX9) (T := TX9) (N := 3) rfl in_X9 tyX9 tyX9_ok (fs := [.null, .int 0, .int 0]) w9_fs cx (gw_t1 204 rfl rfl) (gw_t1 37 rfl rfl) (gw_t1 3 rfl rfl) rfl ⟨Nat.le_of_ble_eq_true rfl, Nat.le_of_ble_eq_true rfl⟩ dX5_init_46 ?_
  refine b_dup (pc := 49) cx dX5_init_49 rfl ?_
  refine b_iload_n (pc := 50) cx dX5_init_50 rfl 1 rfl ?_
  refine b_callC (pc := 51) (x := x + 7) (rest := [.ref (x + 7), .ref x]) [.int r] cx (c_X9_init (N := N) hr hN) cf_X9_init rfl (gw_t1 39 rfl rfl) (gw_t1 205 rfl rfl) rfl rfl (by decide) (if_pos rfl) ⟨rfl, rfl⟩ ⟨Nat.le_of_ble_eq_true rfl, Nat.le_of_ble_eq_true rfl⟩ ⟨Nat.le_of_ble_eq_true rfl, Nat.le_of_ble_eq_true rfl⟩ rfl rfl (Nat.le_of_ble_eq_true rfl) dX5_init_51 ?_
  refine b_putF (pc := 54) (ci := 5) (k := 4) (C := RX5) (T := TX5) (N := 8) (vs := [.ref dv, .ref (x + 1), .ref (x + 3), .ref (x + 5), .null, .null, .null, .null]) rfl in_X5 (by decide) tyX5 tyX5_ok nmX5 rfl rfl (ty := .object "GcdMill$Whole") (by decide +kernel) rfl rfl cx ⟨Nat.le_refl x, by show x < x + 9; omega⟩ (wf_this (by omega)) (Nat.le_of_ble_eq_true rfl) (gw_t1 210 rfl rfl) dX5_init_54 ?_
  refine BW.congr (g := WF ca x 5 [.ref dv, .ref (x + 1), .ref (x + 3), .ref (x + 5), .ref (x + 7), .null, .null, .null] [(N, 0), (N, 0), (N, 0), (N, 0)]) (wf_step (es := [(N, 0), (N, 0), (N, 0)]) rfl) ?_
  refine b_aload_n (pc := 57) cx dX5_init_57 rfl 0 rfl ?_
  refine b_new (pc := 58) (ci := 8) (C := RX9) (T := TX9) (N := 3) rfl in_X9 tyX9 tyX9_ok (fs := [.null, .int 0, .int 0]) w9_fs cx (gw_t1 204 rfl rfl) (gw_t1 37 rfl rfl) (gw_t1 3 rfl rfl) rfl ⟨Nat.le_of_ble_eq_true rfl, Nat.le_of_ble_eq_true rfl⟩ dX5_init_58 ?_
  refine b_dup (pc := 61) cx dX5_init_61 rfl ?_
  refine b_iload_n (pc := 62) cx dX5_init_62 rfl 1 rfl ?_
  refine b_callC (pc := 63) (x := x + 9) (rest := [.ref (x + 9), .ref x]) [.int r] cx (c_X9_init (N := N) hr hN) cf_X9_init rfl (gw_t1 39 rfl rfl) (gw_t1 205 rfl rfl) rfl rfl (by decide) (if_pos rfl) ⟨rfl, rfl⟩ ⟨Nat.le_of_ble_eq_true rfl, Nat.le_of_ble_eq_true rfl⟩ ⟨Nat.le_of_ble_eq_true rfl, Nat.le_of_ble_eq_true rfl⟩ rfl rfl (Nat.le_of_ble_eq_true rfl) dX5_init_63 ?_
  refine b_put (pc := 66) (ci := 5) (k := 5) (C := RX5) (T := TX5) (N := 8) (vs := [.ref dv, .ref (x + 1), .ref (x + 3), .ref (x + 5), .ref (x + 7), .null, .null, .null]) rfl in_X5 (by decide) tyX5 tyX5_ok nmX5 rfl (ty := .object "GcdMill$Whole") (by decide +kernel) rfl rfl cx ⟨Nat.le_refl x, by show x < x + 11; omega⟩ (wf_this (by omega)) (Nat.le_of_ble_eq_true rfl) (gw_t1 211 rfl rfl) dX5_init_66 ?_
  refine BW.congr (g := WF ca x 5 [.ref dv, .ref (x + 1), .ref (x + 3), .ref (x + 5), .ref (x + 7), .ref (x + 9), .null, .null] [(N, 0), (N, 0), (N, 0), (N, 0), (N, 0)]) (wf_step (es := [(N, 0), (N, 0), (N, 0), (N, 0)]) rfl) ?_
  refine b_aload_n (pc := 69) cx dX5_init_69 rfl 0 rfl ?_
  refine b_new (pc := 70) (ci := 8) (C := RX9) (T := TX9) (N := 3) rfl in_X9 tyX9 tyX9_ok (fs := [.null, .int 0, .int 0]) w9_fs cx (gw_t1 204 rfl rfl) (gw_t1 37 rfl rfl) (gw_t1 3 rfl rfl) rfl ⟨Nat.le_of_ble_eq_true rfl, Nat.le_of_ble_eq_true rfl⟩ dX5_init_70 ?_
  refine b_dup (pc := 73) cx dX5_init_73 rfl ?_
  refine b_iload_n (pc := 74) cx dX5_init_74 rfl 1 rfl ?_
  refine b_callC (pc := 75) (x := x + 11) (rest := [.ref (x + 11), .ref x]) [.int r] cx (c_X9_init (N := N) hr hN) cf_X9_init rfl (gw_t1 39 rfl rfl) (gw_t1 205 rfl rfl) rfl rfl (by decide) (if_pos rfl) ⟨rfl, rfl⟩ ⟨Nat.le_of_ble_eq_true rfl, Nat.le_of_ble_eq_true rfl⟩ ⟨Nat.le_of_ble_eq_true rfl, Nat.le_of_ble_eq_true rfl⟩ rfl rfl (Nat.le_of_ble_eq_true rfl) dX5_init_75 ?_
  refine b_put (pc := 78) (ci := 5) (k := 6) (C := RX5) (T := TX5) (N := 8) (vs := [.ref dv, .ref (x + 1), .ref (x + 3), .ref (x + 5), .ref (x + 7), .ref (x + 9), .null, .null]) rfl in_X5 (by decide) tyX5 tyX5_ok nmX5 rfl (ty := .object "GcdMill$Whole") (by decide +kernel) rfl rfl cx ⟨Nat.le_refl x, by show x < x + 13; omega⟩ (wf_this (by omega)) (Nat.le_of_ble_eq_true rfl) (gw_t1 212 rfl rfl) dX5_init_78 ?_
  refine BW.congr (g := WF ca x 5 [.ref dv, .ref (x + 1), .ref (x + 3), .ref (x + 5), .ref (x + 7), .ref (x + 9), .ref (x + 11), .null] [(N, 0), (N, 0), (N, 0), (N, 0), (N, 0), (N, 0)]) (wf_step (es := [(N, 0), (N, 0), (N, 0), (N, 0), (N, 0)]) rfl) ?_
  refine b_aload_n (pc := 81) cx dX5_init_81 rfl 0 rfl ?_
  refine b_new (pc := 82) (ci := 8) (C := RX9) (T := TX9) (N := 3) rfl in_X9 tyX9 tyX9_ok (fs := [.null, .int 0, .int 0]) w9_fs cx (gw_t1 204 rfl rfl) (gw_t1 37 rfl rfl) (gw_t1 3 rfl rfl) rfl ⟨Nat.le_of_ble_eq_true rfl, Nat.le_of_ble_eq_true rfl⟩ dX5_init_82 ?_
  refine b_dup (pc := 85) cx dX5_init_85 rfl ?_
  refine b_iload_n (pc := 86) cx dX5_init_86 rfl 1 rfl ?_
  refine b_callC (pc := 87) (x := x + 13) (rest := [.ref (x + 13), .ref x]) [.int r] cx (c_X9_init (N := N) hr hN) cf_X9_init rfl (gw_t1 39 rfl rfl) (gw_t1 205 rfl rfl) rfl rfl (by decide) (if_pos rfl) ⟨rfl, rfl⟩ ⟨Nat.le_of_ble_eq_true rfl, Nat.le_of_ble_eq_true rfl⟩ ⟨Nat.le_of_ble_eq_true rfl, Nat.le_of_ble_eq_true rfl⟩ rfl rfl (Nat.le_of_ble_eq_true rfl) dX5_init_87 ?_
  refine b_put (pc := 90) (ci := 5) (k := 7) (C := RX5) (T := TX5) (N := 8) (vs := [.ref dv, .ref (x + 1), .ref (x + 3), .ref (x + 5), .ref (x + 7), .ref (x + 9), .ref (x + 11), .null]) rfl in_X5 (by decide) tyX5 tyX5_ok nmX5 rfl (ty := .object "GcdMill$Whole") (by decide +kernel) rfl rfl cx ⟨Nat.le_refl x, by show x < x + 15; omega⟩ (wf_this (by omega)) (Nat.le_of_ble_eq_true rfl) (gw_t1 213 rfl rfl) dX5_init_90 ?_
  refine BW.congr (g := WF ca x 5 [.ref dv, .ref (x + 1), .ref (x + 3), .ref (x + 5), .ref (x + 7), .ref (x + 9), .ref (x + 11), .ref (x + 13)] [(N, 0), (N, 0), (N, 0), (N, 0), (N, 0), (N, 0), (N, 0)]) (wf_step (es := [(N, 0), (N, 0), (N, 0), (N, 0), (N, 0), (N, 0)]) rfl) ?_
  exact b_ret (pc := 93) cx rfl (Nat.le_refl _) rfl (fun d hd => rfl) dX5_init_93
abbrev rm_X6i : Room := { frames := 4, cells := 16, slots := 824, locals := 110 }
theorem cf_X6_init : CF yX6_init cX6_init 3 none 2 := ⟨(gw_t1 235 rfl rfl), (gw_t1 9 rfl rfl), by decide +kernel⟩
theorem c_X6_init {l : Launch} {D : va_G} {ca : Nat → ClassId} {x N dv : Nat} {r : Int32} (hr : (if 1 < r then r else 1) = nI N) (hN : 1 ≤ N ∧ N ≤ 100) : MeC l D ca yX6_init (Cond.code yX6_init cX6_init 3 none :: GW) rm_X6i x 6 [.null, .null, .null, .null, .null, .null, .null, .null, .null] [.int r, .ref dv] 16 824 (fun d => WF ca x 6 [.ref dv, .ref (x + 1), .ref (x + 3), .ref (x + 5), .ref (x + 7), .ref (x + 9), .ref (x + 11), .ref (x + 13), .ref (x + 15)] [(N, 0), (N, 0), (N, 0), (N, 0), (N, 0), (1, 1), (N, 0), (N, 0)] (x + d)) := by
  refine b_method (by decide) rfl rfl (Nat.le_of_ble_eq_true rfl) ?_
  intro p e s m args below meth c cx
  have cx : CBx p s m args meth c D ca cX6_init 3 RX6 x := cx
  refine b_aload_n (pc := 0) cx dX6_init_0 rfl 0 rfl ?_
  refine b_obj (pc := 1) cx (gw_t1 236 rfl rfl) ⟨Nat.le_of_ble_eq_true rfl, Nat.le_of_ble_eq_true rfl⟩ dX6_init_1 ?_
  refine BW.congr (g := WF ca x 6 [.null, .null, .null, .null, .null, .null, .null, .null, .null] []) (fun q h1 h2 => by rw [show q = x by omega, WF_at]) ?_
  refine b_aload_n (pc := 4) cx dX6_init_4 rfl 0 rfl ?_
  refine b_aload_n (pc := 5) cx dX6_init_5 rfl 2 rfl ?_
  refine b_putF (pc := 6) (ci := 6) (k := 0) (C := RX6) (T := TX6) (N := 9) (vs := [.null, .null, .null, .null, .null, .null, .null, .null, .null]) rfl in_X6 (by decide) tyX6 tyX6_ok nmX6 rfl rfl (ty := .object "GcdMill$Divider") (by decide +kernel) rfl rfl cx ⟨Nat.le_refl x, by show x < x + 1; omega⟩ WF_at (Nat.le_of_ble_eq_true rfl) (gw_t2 8 rfl rfl) dX6_init_6 ?_
  refine BW.congr (g := WF ca x 6 [.ref dv, .null, .null, .null, .null, .null, .null, .null, .null] []) (fun q h1 h2 => by rw [show q = x by omega, WF_at]; exact if_pos rfl) ?_
  refine b_aload_n (pc := 9) cx dX6_init_9 rfl 0 rfl ?_
  refine b_new (pc := 10) (ci := 8) (C := RX9) (T := TX9) (N := 3) rfl in_X9 tyX9 tyX9_ok (fs := [.null, .int 0, .int 0]) w9_fs cx (gw_t1 237 rfl rfl) (gw_t1 37 rfl rfl) (gw_t1 3 rfl rfl) rfl ⟨Nat.le_of_ble_eq_true rfl, Nat.le_of_ble_eq_true rfl⟩ dX6_init_10 ?_
  refine b_dup (pc := 13) cx dX6_init_13 rfl ?_
  refine b_iload_n (pc := 14) cx dX6_init_14 rfl 1 rfl ?_
  refine b_callC (pc := 15) (x := x + 1) (rest := [.ref (x + 1), .ref x]) [.int r] cx (c_X9_init (N := N) hr hN) cf_X9_init rfl (gw_t1 39 rfl rfl) (gw_t1 238 rfl rfl) rfl rfl (by decide) (if_pos rfl) ⟨rfl, rfl⟩ ⟨Nat.le_of_ble_eq_true rfl, Nat.le_of_ble_eq_true rfl⟩ ⟨Nat.le_of_ble_eq_true rfl, Nat.le_of_ble_eq_true rfl⟩ rfl rfl (Nat.le_of_ble_eq_true rfl) dX6_init_15 ?_
  refine b_putF (pc := 18) (ci := 6) (k := 1) (C := RX6) (T := TX6) (N := 9) (vs := [.ref dv, .null, .null, .null, .null, .null, .null, .null, .null]) rfl in_X6 (by decide) tyX6 tyX6_ok nmX6 rfl rfl (ty := .object "GcdMill$Whole") (by decide +kernel) rfl rfl cx ⟨Nat.le_refl x, by show x < x + 3; omega⟩ (wf_this (by omega)) (Nat.le_of_ble_eq_true rfl) (gw_t2 9 rfl rfl) dX6_init_18 ?_
  refine BW.congr (g := WF ca x 6 [.ref dv, .ref (x + 1), .null, .null, .null, .null, .null, .null, .null] [(N, 0)]) (wf_step (es := []) rfl) ?_
  refine b_aload_n (pc := 21) cx dX6_init_21 rfl 0 rfl ?_
  refine b_new (pc := 22) (ci := 8) (C := RX9) (T := TX9) (N := 3) rfl in_X9 tyX9 tyX9_ok (fs := [.null, .int 0, .int 0]) w9_fs cx (gw_t1 237 rfl rfl) (gw_t1 37 rfl rfl) (gw_t1 3 rfl rfl) rfl ⟨Nat.le_of_ble_eq_true rfl, Nat.le_of_ble_eq_true rfl⟩ dX6_init_22 ?_
  refine b_dup (pc := 25) cx dX6_init_25 rfl ?_
  refine b_iload_n (pc := 26) cx dX6_init_26 rfl 1 rfl ?_
  refine b_callC (pc := 27) (x := x + 3) (rest := [.ref (x + 3), .ref x]) [.int r] cx (c_X9_init (N := N) hr hN) cf_X9_init rfl (gw_t1 39 rfl rfl) (gw_t1 238 rfl rfl) rfl rfl (by decide) (if_pos rfl) ⟨rfl, rfl⟩ ⟨Nat.le_of_ble_eq_true rfl, Nat.le_of_ble_eq_true rfl⟩ ⟨Nat.le_of_ble_eq_true rfl, Nat.le_of_ble_eq_true rfl⟩ rfl rfl (Nat.le_of_ble_eq_true rfl) dX6_init_27 ?_
  refine b_putF (pc := 30) (ci := 6) (k := 2) (C := RX6) (T := TX6) (N := 9) (vs := [.ref dv, .ref (x + 1), .null, .null, .null, .null, .null, .null, .null]) rfl in_X6 (by decide) tyX6 tyX6_ok nmX6 rfl rfl (ty := .object "GcdMill$Whole") (by decide +kernel) rfl rfl cx ⟨Nat.le_refl x, by show x < x + 5; omega⟩ (wf_this (by omega)) (Nat.le_of_ble_eq_true rfl) (gw_t2 10 rfl rfl) dX6_init_30 ?_
  refine BW.congr (g := WF ca x 6 [.ref dv, .ref (x + 1), .ref (x + 3), .null, .null, .null, .null, .null, .null] [(N, 0), (N, 0)]) (wf_step (es := [(N, 0)]) rfl) ?_
  refine b_aload_n (pc := 33) cx dX6_init_33 rfl 0 rfl ?_
  refine b_new (pc := 34) (ci := 8) (C := RX9) (T := TX9) (N := 3) rfl in_X9 tyX9 tyX9_ok (fs := [.null, .int 0, .int 0]) w9_fs cx (gw_t1 237 rfl rfl) (gw_t1 37 rfl rfl) (gw_t1 3 rfl rfl) rfl ⟨Nat.le_of_ble_eq_true rfl, Nat.le_of_ble_eq_true rfl⟩ dX6_init_34 ?_
  refine b_dup (pc := 37) cx dX6_init_37 rfl ?_
  refine b_iload_n (pc := 38) cx dX6_init_38 rfl 1 rfl ?_
  refine b_callC (pc := 39) (x := x + 5) (rest := [.ref (x + 5), .ref x]) [.int r] cx (c_X9_init (N := N) hr hN) cf_X9_init rfl (gw_t1 39 rfl rfl) (gw_t1 238 rfl rfl) rfl rfl (by decide) (if_pos rfl) ⟨rfl, rfl⟩ ⟨Nat.le_of_ble_eq_true rfl, Nat.le_of_ble_eq_true rfl⟩ ⟨Nat.le_of_ble_eq_true rfl, Nat.le_of_ble_eq_true rfl⟩ rfl rfl (Nat.le_of_ble_eq_true rfl) dX6_init_39 ?_
  refine b_putF (pc := 42) (ci := 6) (k := 3) (C := RX6) (T := TX6) (N := 9) (vs := [.ref dv, .ref (x + 1), .ref (x + 3), .null, .null, .null, .null, .null, .null]) rfl in_X6 (by decide) tyX6 tyX6_ok nmX6 rfl rfl (ty := .object "GcdMill$Whole") (by decide +kernel) rfl rfl cx ⟨Nat.le_refl x, by show x < x + 7; omega⟩ (wf_this (by omega)) (Nat.le_of_ble_eq_true rfl) (gw_t2 11 rfl rfl) dX6_init_42 ?_
  refine BW.congr (g := WF ca x 6 [.ref dv, .ref (x + 1), .ref (x + 3), .ref (x + 5), .null, .null, .null, .null, .null] [(N, 0), (N, 0), (N, 0)]) (wf_step (es := [(N, 0), (N, 0)]) rfl) ?_
  refine b_aload_n (pc := 45) cx dX6_init_45 rfl 0 rfl ?_
  refine b_new (pc := 46) (ci := 8) (C := RX9) (T := TX9) (N := 3) rfl in_X9 tyX9 tyX9_ok (fs := [.null, .int 0, .int 0]) w9_fs cx (gw_t1 237 rfl rfl) (gw_t1 37 rfl rfl) (gw_t1 3 rfl rfl) rfl ⟨Nat.le_of_ble_eq_true rfl, Nat.le_of_ble_eq_true rfl⟩ dX6_init_46 ?_
  refine b_dup (pc := 49) cx dX6_init_49 rfl ?_
  refine b_iload_n (pc := 50) cx dX6_init_50 rfl 1 rfl ?_
  refine b_callC (pc := 51) (x := x + 7) (rest := [.ref (x + 7), .ref x]) [.int r] cx (c_X9_init (N := N) hr hN) cf_X9_init rfl (gw_t1 39 rfl rfl) (gw_t1 238 rfl rfl) rfl rfl (by decide) (if_pos rfl) ⟨rfl, rfl⟩ ⟨Nat.le_of_ble_eq_true rfl, Nat.le_of_ble_eq_true rfl⟩ ⟨Nat.le_of_ble_eq_true rfl, Nat.le_of_ble_eq_true rfl⟩ rfl rfl (Nat.le_of_ble_eq_true rfl) dX6_init_51 ?_
  refine b_putF (pc := 54) (ci := 6) (k := 4) (C := RX6) (T := TX6) (N := 9) (vs := [.ref dv, .ref (x + 1), .ref (x + 3), .ref (x + 5), .null, .null, .null, .null, .null]) rfl in_X6 (by decide) tyX6 tyX6_ok nmX6 rfl rfl (ty := .object "GcdMill$Whole") (by decide +kernel) rfl rfl cx ⟨Nat.le_refl x, by show x < x + 9; omega⟩ (wf_this (by omega)) (Nat.le_of_ble_eq_true rfl) (gw_t2 12 rfl rfl) dX6_init_54 ?_
  refine BW.congr (g := WF ca x 6 [.ref dv, .ref (x + 1), .ref (x + 3), .ref (x + 5), .ref (x + 7), .null, .null, .null, .null] [(N, 0), (N, 0), (N, 0), (N, 0)]) (wf_step (es := [(N, 0), (N, 0), (N, 0)]) rfl) ?_
  refine b_aload_n (pc := 57) cx dX6_init_57 rfl 0 rfl ?_
  refine b_new (pc := 58) (ci := 8) (C := RX9) (T := TX9) (N := 3) rfl in_X9 tyX9 tyX9_ok (fs := [.null, .int 0, .int 0]) w9_fs cx (gw_t1 237 rfl rfl) (gw_t1 37 rfl rfl) (gw_t1 3 rfl rfl) rfl ⟨Nat.le_of_ble_eq_true rfl, Nat.le_of_ble_eq_true rfl⟩ dX6_init_58 ?_
  refine b_dup (pc := 61) cx dX6_init_61 rfl ?_
  refine b_iload_n (pc := 62) cx dX6_init_62 rfl 1 rfl ?_
  refine b_callC (pc := 63) (x := x + 9) (rest := [.ref (x + 9), .ref x]) [.int r] cx (c_X9_init (N := N) hr hN) cf_X9_init rfl (gw_t1 39 rfl rfl) (gw_t1 238 rfl rfl) rfl rfl (by decide) (if_pos rfl) ⟨rfl, rfl⟩ ⟨Nat.le_of_ble_eq_true rfl, Nat.le_of_ble_eq_true rfl⟩ ⟨Nat.le_of_ble_eq_true rfl, Nat.le_of_ble_eq_true rfl⟩ rfl rfl (Nat.le_of_ble_eq_true rfl) dX6_init_63 ?_
  refine b_putF (pc := 66) (ci := 6) (k := 5) (C := RX6) (T := TX6) (N := 9) (vs := [.ref dv, .ref (x + 1), .ref (x + 3), .ref (x + 5), .ref (x + 7), .null, .null, .null, .null]) rfl in_X6 (by decide) tyX6 tyX6_ok nmX6 rfl rfl (ty := .object "GcdMill$Whole") (by decide +kernel) rfl rfl cx ⟨Nat.le_refl x, by show x < x + 11; omega⟩ (wf_this (by omega)) (Nat.le_of_ble_eq_true rfl) (gw_t2 13 rfl rfl) dX6_init_66 ?_
  refine BW.congr (g := WF ca x 6 [.ref dv, .ref (x + 1), .ref (x + 3), .ref (x + 5), .ref (x + 7), .ref (x + 9), .null, .null, .null] [(N, 0), (N, 0), (N, 0), (N, 0), (N, 0)]) (wf_step (es := [(N, 0), (N, 0), (N, 0), (N, 0)]) rfl) ?_
  refine b_aload_n (pc := 69) cx dX6_init_69 rfl 0 rfl ?_
  refine b_new (pc := 70) (ci := 8) (C := RX9) (T := TX9) (N := 3) rfl in_X9 tyX9 tyX9_ok (fs := [.null, .int 0, .int 0]) w9_fs cx (gw_t1 237 rfl rfl) (gw_t1 37 rfl rfl) (gw_t1 3 rfl rfl) rfl ⟨Nat.le_of_ble_eq_true rfl, Nat.le_of_ble_eq_true rfl⟩ dX6_init_70 ?_
  refine b_dup (pc := 73) cx dX6_init_73 rfl ?_
  refine b_iconst (pc := 74) (v := 1) cx dX6_init_74 (by decide) ?_
  refine b_callC (pc := 75) (x := x + 11) (rest := [.ref (x + 11), .ref x]) [.int 1] cx (c_X9_init (N := 1) rfl ⟨by decide, by decide⟩) cf_X9_init rfl (gw_t1 39 rfl rfl) (gw_t1 238 rfl rfl) rfl rfl (by decide) (if_pos rfl) ⟨rfl, rfl⟩ ⟨Nat.le_of_ble_eq_true rfl, Nat.le_of_ble_eq_true rfl⟩ ⟨Nat.le_of_ble_eq_true rfl, Nat.le_of_ble_eq_true rfl⟩ rfl rfl (Nat.le_of_ble_eq_true rfl) dX6_init_75 ?_
  refine b_putF (pc := 78) (ci := 6) (k := 6) (C := RX6) (T := TX6) (N := 9) (vs := [.ref dv, .ref (x + 1), .ref (x + 3), .ref (x + 5), .ref (x + 7), .ref (x + 9), .null, .null, .null]) rfl in_X6 (by decide) tyX6 tyX6_ok nmX6 rfl rfl (ty := .object "GcdMill$Whole") (by decide +kernel) rfl rfl cx ⟨Nat.le_refl x, by show x < x + 13; omega⟩ (wf_this (by omega)) (Nat.le_of_ble_eq_true rfl) (gw_t2 14 rfl rfl) dX6_init_78 ?_
  refine BW.congr (g := WF ca x 6 [.ref dv, .ref (x + 1), .ref (x + 3), .ref (x + 5), .ref (x + 7), .ref (x + 9), .ref (x + 11), .null, .null] [(N, 0), (N, 0), (N, 0), (N, 0), (N, 0), (1, 0)]) (wf_step (es := [(N, 0), (N, 0), (N, 0), (N, 0), (N, 0)]) rfl) ?_
  refine b_aload_n (pc := 81) cx dX6_init_81 rfl 0 rfl ?_
  refine b_get (pc := 82) (ci := 6) (k := 6) (C := RX6) (T := TX6) (N := 9) (vs := [.ref dv, .ref (x + 1), .ref (x + 3), .ref (x + 5), .ref (x + 7), .ref (x + 9), .ref (x + 11), .null, .null]) rfl in_X6 (by decide) cx ⟨Nat.le_refl x, by show x < x + 13; omega⟩ WF_at rfl (gw_t2 14 rfl rfl) dX6_init_82 ?_
  refine b_iconst (pc := 85) (v := 1) cx dX6_init_85 (by decide) ?_
  refine b_become (pc := 86) (x := x + 11) cx (gw_t1 239 rfl rfl) ⟨by omega, by show x + 11 + 1 < x + 13; omega⟩ (wf_obj (j := 5) rfl) (wf_arr (j := 5) rfl) ⟨Nat.le_of_ble_eq_true rfl, Nat.le_of_ble_eq_true rfl⟩ ⟨Nat.le_of_ble_eq_true rfl, Nat.le_of_ble_eq_true rfl⟩ dX6_init_86 (Nat.le_of_ble_eq_true rfl) ?_
  refine BW.congr (g := WF ca x 6 [.ref dv, .ref (x + 1), .ref (x + 3), .ref (x + 5), .ref (x + 7), .ref (x + 9), .ref (x + 11), .null, .null] [(N, 0), (N, 0), (N, 0), (N, 0), (N, 0), (1, 1)]) (wf_one (es := [(N, 0), (N, 0), (N, 0), (N, 0), (N, 0)]) rfl) ?_
  refine b_aload_n (pc := 89) cx dX6_init_89 rfl 0 rfl ?_
  refine b_new (pc := 90) (ci := 8) (C := RX9) (T := TX9) (N := 3) rfl in_X9 tyX9 tyX9_ok (fs := [.null, .int 0, .int 0]) w9_fs cx (gw_t1 237 rfl rfl) (gw_t1 37 rfl rfl) (gw_t1 3 rfl rfl) rfl ⟨Nat.le_of_ble_eq_true rfl, Nat.le_of_ble_eq_true rfl⟩ dX6_init_90 ?_
  refine b_dup (pc := 93) cx dX6_init_93 rfl ?_
  refine b_iload_n (pc := 94) cx dX6_init_94 rfl 1 rfl ?_
  refine b_callC (pc := 95) (x := x + 13) (rest := [.ref (x + 13), .ref x]) [.int r] cx (c_X9_init (N := N) hr hN) cf_X9_init rfl (gw_t1 39 rfl rfl) (gw_t1 238 rfl rfl) rfl rfl (by decide) (if_pos rfl) ⟨rfl, rfl⟩ ⟨Nat.le_of_ble_eq_true rfl, Nat.le_of_ble_eq_true rfl⟩ ⟨Nat.le_of_ble_eq_true rfl, Nat.le_of_ble_eq_true rfl⟩ rfl rfl (Nat.le_of_ble_eq_true rfl) dX6_init_95 ?_
  refine b_put (pc := 98) (ci := 6) (k := 7) (C := RX6) (T := TX6) (N := 9) (vs := [.ref dv, .ref (x + 1), .ref (x + 3), .ref (x + 5), .ref (x + 7), .ref (x + 9), .ref (x + 11), .null, .null]) rfl in_X6 (by decide) tyX6 tyX6_ok nmX6 rfl (ty := .object "GcdMill$Whole") (by decide +kernel) rfl rfl cx ⟨Nat.le_refl x, by show x < x + 15; omega⟩ (wf_this (by omega)) (Nat.le_of_ble_eq_true rfl) (gw_t2 15 rfl rfl) dX6_init_98 ?_
  refine BW.congr (g := WF ca x 6 [.ref dv, .ref (x + 1), .ref (x + 3), .ref (x + 5), .ref (x + 7), .ref (x + 9), .ref (x + 11), .ref (x + 13), .null] [(N, 0), (N, 0), (N, 0), (N, 0), (N, 0), (1, 1), (N, 0)]) (wf_step (es := [(N, 0), (N, 0), (N, 0), (N, 0), (N, 0), (1, 1)]) rfl) ?_
  refine b_aload_n (pc := 101) cx dX6_init_101 rfl 0 rfl ?_
  refine b_new (pc := 102) (ci := 8) (C := RX9) (T := TX9) (N := 3) rfl in_X9 tyX9 tyX9_ok (fs := [.null, .int 0, .int 0]) w9_fs cx (gw_t1 237 rfl rfl) (gw_t1 37 rfl rfl) (gw_t1 3 rfl rfl) rfl ⟨Nat.le_of_ble_eq_true rfl, Nat.le_of_ble_eq_true rfl⟩ dX6_init_102 ?_
  refine b_dup (pc := 105) cx dX6_init_105 rfl ?_
  refine b_iload_n (pc := 106) cx dX6_init_106 rfl 1 rfl ?_
  refine b_callC (pc := 107) (x := x + 15) (rest := [.ref (x + 15), .ref x]) [.int r] cx (c_X9_init (N := N) hr hN) cf_X9_init rfl (gw_t1 39 rfl rfl) (gw_t1 238 rfl rfl) rfl rfl (by decide) (if_pos rfl) ⟨rfl, rfl⟩ ⟨Nat.le_of_ble_eq_true rfl, Nat.le_of_ble_eq_true rfl⟩ ⟨Nat.le_of_ble_eq_true rfl, Nat.le_of_ble_eq_true rfl⟩ rfl rfl (Nat.le_of_ble_eq_true rfl) dX6_init_107 ?_
  refine b_put (pc := 110) (ci := 6) (k := 8) (C := RX6) (T := TX6) (N := 9) (vs := [.ref dv, .ref (x + 1), .ref (x + 3), .ref (x + 5), .ref (x + 7), .ref (x + 9), .ref (x + 11), .ref (x + 13), .null]) rfl in_X6 (by decide) tyX6 tyX6_ok nmX6 rfl (ty := .object "GcdMill$Whole") (by decide +kernel) rfl rfl cx ⟨Nat.le_refl x, by show x < x + 17; omega⟩ (wf_this (by omega)) (Nat.le_of_ble_eq_true rfl) (gw_t2 16 rfl rfl) dX6_init_110 ?_
  refine BW.congr (g := WF ca x 6 [.ref dv, .ref (x + 1), .ref (x + 3), .ref (x + 5), .ref (x + 7), .ref (x + 9), .ref (x + 11), .ref (x + 13), .ref (x + 15)] [(N, 0), (N, 0), (N, 0), (N, 0), (N, 0), (1, 1), (N, 0), (N, 0)]) (wf_step (es := [(N, 0), (N, 0), (N, 0), (N, 0), (N, 0), (1, 1), (N, 0)]) rfl) ?_
  exact b_ret (pc := 113) cx rfl (Nat.le_refl _) rfl (fun d hd => rfl) dX6_init_113
