/-! constructors of tape, out and the reference (made by wip/gen/works2.py) -/
/-- an object at x, all else by B -/
def TB (x ci : Nat) (vs : List Value) (B : Nat → va_E) : Nat → va_E := fun q => if q = x then .inr (ci, vs) else B q
theorem TB_at {x ci : Nat} {vs : List Value} {B : Nat → va_E} : TB x ci vs B x = .inr (ci, vs) := if_pos rfl
theorem TB_ne {x ci q : Nat} {vs : List Value} {B : Nat → va_E} (h : q ≠ x) : TB x ci vs B q = B q := if_neg h
theorem va_up_n {f : Nat → va_E} {k q : Nat} {v : va_E} (h : q ≠ k) : va_up f k v q = f q := if_neg h
theorem va_up_s {f : Nat → va_E} {k : Nat} {v : va_E} : va_up f k v k = v := if_pos rfl
theorem nI_mulx (a b : Nat) : nI a * nI b = nI (a * b) := (Int32.ofNat_mul a b).symm
theorem TB_arr {x ci z : Nat} {vs vs' : List Value} {B : Nat → va_E} {y : va_E} (q : Nat) : va_up (va_up (TB x ci vs B) z y) x (.inr (ci, vs')) q = TB x ci vs' (va_up B z y) q := by
  by_cases c : q = x
  · rw [c, va_up_s, TB_at]
  · rw [va_up_n c, TB_ne c]
    by_cases d : q = z
    · rw [d, va_up_s, va_up_s]
    · rw [va_up_n d, va_up_n d, TB_ne c]
theorem TB_put {x ci : Nat} {vs vs' : List Value} {B : Nat → va_E} (q : Nat) : va_up (TB x ci vs B) x (.inr (ci, vs')) q = TB x ci vs' B q := by
  by_cases c : q = x
  · rw [c, va_up_s, TB_at]
  · rw [va_up_n c, TB_ne c, TB_ne c]
theorem TB_obj {x ci z : Nat} {vs vs' : List Value} {B LY : Nat → va_E} {y : va_E} (hz : x < z) (q : Nat) : va_up (fun q => if q < z then va_up (TB x ci vs B) z y q else LY (q - z)) x (.inr (ci, vs')) q = TB x ci vs' (fun q => if q < z then B q else LY (q - z)) q := by
  by_cases c : q = x
  · rw [c, va_up_s, TB_at]
  · rw [va_up_n c, TB_ne c]
    show (if q < z then va_up (TB x ci vs B) z y q else LY (q - z)) = if q < z then B q else LY (q - z)
    by_cases d : q < z
    · rw [if_pos d, if_pos d, va_up_n (by omega), TB_ne c]
    · rw [if_neg d, if_neg d]
theorem TB_upx {x ci z : Nat} {vs : List Value} {B : Nat → va_E} {y : va_E} (hz : x < z) : va_up (TB x ci vs B) z y x = .inr (ci, vs) := by
  rw [va_up_n (by omega), TB_at]
theorem TB_ifx {x ci z : Nat} {vs : List Value} {B LY : Nat → va_E} {y : va_E} (hz : x < z) : (fun q => if q < z then va_up (TB x ci vs B) z y q else LY (q - z)) x = .inr (ci, vs) := by
  show (if x < z then va_up (TB x ci vs B) z y x else LY (x - z)) = _
  rw [if_pos hz, TB_upx hz]
abbrev zB : Nat → va_E := fun _ => .inr (0, [])
abbrev rm_X8i : Room := { frames := 4, cells := 1, slots := 1000, locals := 120 }
theorem cf_X8_init : CF yX8_init cX8_init 1 none 0 := ⟨(gw_t2 40 rfl rfl), (gw_t1 10 rfl rfl), by decide +kernel⟩
theorem c_X8_init {l : Launch} {D : va_G} {ca : Nat → ClassId} {x : Nat} : MeC l D ca yX8_init (Cond.code yX8_init cX8_init 1 none :: GW) rm_X8i x 7 [.int 0, .null] [] 1 1000 (fun d => TB x 7 [.int 0, .ref (x + 1)] (va_up (zB) (x + 1) (.inl (ca 0, 1000, .inl (fun _ => 0)))) (x + d)) := by
  refine b_method (by decide) rfl rfl (Nat.le_of_ble_eq_true rfl) ?_
  intro p e s m args below meth c cx
  have cx : CBx p s m args meth c D ca cX8_init 1 RX8 x := cx
  refine b_aload_n (pc := 0) cx dX8_init_0 rfl 0 rfl ?_
  refine b_obj (pc := 1) cx (gw_t2 41 rfl rfl) ⟨Nat.le_of_ble_eq_true rfl, Nat.le_of_ble_eq_true rfl⟩ dX8_init_1 ?_
  refine BW.congr (g := TB x 7 [.int 0, .null] zB) (fun q h1 h2 => by rw [show q = x by omega, TB_at]) ?_
  refine b_aload_n (pc := 4) cx dX8_init_4 rfl 0 rfl ?_
  refine b_sipush (pc := 5) (v := 1000) cx dX8_init_5 (by decide) ?_
  refine b_newB (pc := 8) (N := 1000) cx (by decide) rfl (by decide) rfl ⟨Nat.le_of_ble_eq_true rfl, by show 0 + 1000 ≤ 1000; omega⟩ dX8_init_8 ?_
  refine b_putF (pc := 10) (ci := 7) (k := 1) (C := RX8) (T := TX8) (N := 2) (vs := [.int 0, .null]) rfl in_X8 (by decide) tyX8 tyX8_ok nmX8 rfl rfl (ty := .array .byte) (by decide +kernel) rfl rfl cx ⟨Nat.le_refl x, by show x < x + (1 + 1); omega⟩ (TB_upx (by omega)) (Nat.le_of_ble_eq_true rfl) (gw_t2 44 rfl rfl) dX8_init_10 ?_
  refine BW.congr (g := TB x 7 [.int 0, .ref (x + 1)] (va_up (zB) (x + 1) (.inl (ca 0, 1000, .inl (fun _ => 0))))) (fun q _ _ => TB_arr q) ?_
  exact b_ret (pc := 13) cx rfl (by show _ ≤ 1000; omega) rfl (fun d hd => rfl) dX8_init_13
abbrev rm_X4i : Room := { frames := 4, cells := 3, slots := 600, locals := 120 }
theorem cf_X4_init : CF yX4_init cX4_init 3 none 2 := ⟨(gw_t2 55 rfl rfl), (gw_t1 11 rfl rfl), by decide +kernel⟩
theorem c_X4_init {l : Launch} {D : va_G} {ca : Nat → ClassId} {x : Nat} {W N : Nat} {v r : Int32} (hw : (if 1 < v then v else 1) = nI W) (hW : 1 ≤ W ∧ W ≤ 40) (hr : (if 1 < r then r else 1) = nI N) (hN : 1 ≤ N ∧ N ≤ 100) : MeC l D ca yX4_init (Cond.code yX4_init cX4_init 3 none :: GW) rm_X4i x 4 [.int 0, .null, .null] [.int v, .int r] 3 600 (fun d => TB x 4 [.int 0, .ref (x + 1), .ref (x + 2)] (fun q => if q < x + 2 then (va_up (zB) (x + 1) (.inl (ca 0, (10 * W + 2), .inl (fun _ => 0)))) q else LYW ca (x + 2) N (q - (x + 2))) (x + d)) := by
  refine b_method (by decide) rfl rfl (Nat.le_of_ble_eq_true rfl) ?_
  intro p e s m args below meth c cx
  have cx : CBx p s m args meth c D ca cX4_init 3 RX4 x := cx
  refine b_aload_n (pc := 0) cx dX4_init_0 rfl 0 rfl ?_
  refine b_obj (pc := 1) cx (gw_t2 56 rfl rfl) ⟨Nat.le_of_ble_eq_true rfl, Nat.le_of_ble_eq_true rfl⟩ dX4_init_1 ?_
  refine BW.congr (g := TB x 4 [.int 0, .null, .null] zB) (fun q h1 h2 => by rw [show q = x by omega, TB_at]) ?_
  refine b_aload_n (pc := 4) cx dX4_init_4 rfl 0 rfl ?_
  refine b_bipush (pc := 5) (v := 10) cx dX4_init_5 (by decide) ?_
  refine b_iconst (pc := 7) (v := 1) cx dX4_init_7 (by decide) ?_
  refine b_iload_n (pc := 8) cx dX4_init_8 rfl 1 rfl ?_
  refine b_max (pc := 9) cx (gw_t2 57 rfl rfl) ⟨Nat.le_of_ble_eq_true rfl, Nat.le_of_ble_eq_true rfl⟩ ⟨Nat.zero_le _, Nat.zero_le _⟩ dX4_init_9 ?_
  refine b_imul (pc := 12) cx dX4_init_12 ?_
  refine b_iconst (pc := 13) (v := 2) cx dX4_init_13 (by decide) ?_
  refine b_iadd (pc := 14) cx dX4_init_14 ?_
  rw [hw, show (10 : Int32) * nI W + 2 = nI (10 * W + 2) from by rw [show (10 : Int32) = nI 10 from rfl, show (2 : Int32) = nI 2 from rfl, nI_mulx, nI_add]]
  refine b_newB (pc := 15) (N := (10 * W + 2)) cx (nI_lt0 (by omega)) (cl (by omega)) (by omega) rfl ⟨Nat.le_of_ble_eq_true rfl, by show 0 + (10 * W + 2) ≤ 600; omega⟩ dX4_init_15 ?_
  refine b_putF (pc := 17) (ci := 4) (k := 1) (C := RX4) (T := TX4) (N := 3) (vs := [.int 0, .null, .null]) rfl in_X4 (by decide) tyX4 tyX4_ok nmX4 rfl rfl (ty := .array .byte) (by decide +kernel) rfl rfl cx ⟨Nat.le_refl x, by show x < x + (1 + 1); omega⟩ (TB_upx (by omega)) (Nat.le_of_ble_eq_true rfl) (gw_t2 62 rfl rfl) dX4_init_17 ?_
  refine BW.congr (g := TB x 4 [.int 0, .ref (x + 1), .null] (va_up (zB) (x + 1) (.inl (ca 0, (10 * W + 2), .inl (fun _ => 0))))) (fun q _ _ => TB_arr q) ?_
  refine b_aload_n (pc := 20) cx dX4_init_20 rfl 0 rfl ?_
  refine b_new (pc := 21) (ci := 8) (C := RX9) (T := TX9) (N := 3) rfl in_X9 tyX9 tyX9_ok (fs := [.null, .int 0, .int 0]) w9_fs cx (gw_t2 58 rfl rfl) (gw_t1 37 rfl rfl) (gw_t1 3 rfl rfl) rfl ⟨Nat.le_of_ble_eq_true rfl, by show (0 + (10 * W + 2)) + 3 ≤ 600; omega⟩ dX4_init_21 ?_
  refine b_dup (pc := 24) cx dX4_init_24 rfl ?_
  refine b_iload_n (pc := 25) cx dX4_init_25 rfl 2 rfl ?_
  refine b_callC (pc := 26) (x := x + 2) (rest := [.ref (x + 2), .ref x]) [.int r] cx (c_X9_init (N := N) hr hN) cf_X9_init rfl (gw_t1 39 rfl rfl) (gw_t2 59 rfl rfl) rfl rfl (by decide) (if_pos rfl) ⟨rfl, rfl⟩ ⟨Nat.le_of_ble_eq_true rfl, Nat.le_of_ble_eq_true rfl⟩ ⟨Nat.le_of_ble_eq_true rfl, by show (0 + (10 * W + 2)) + 3 + 100 ≤ 600; omega⟩ rfl rfl (Nat.le_of_ble_eq_true rfl) dX4_init_26 ?_
  refine b_putF (pc := 29) (ci := 4) (k := 2) (C := RX4) (T := TX4) (N := 3) (vs := [.int 0, .ref (x + 1), .null]) rfl in_X4 (by decide) tyX4 tyX4_ok nmX4 rfl rfl (ty := .object "GcdMill$Whole") (by decide +kernel) rfl rfl cx ⟨Nat.le_refl x, by show x < x + (2 + 1 + 1); omega⟩ (TB_ifx (by omega)) (Nat.le_of_ble_eq_true rfl) (gw_t2 64 rfl rfl) dX4_init_29 ?_
  refine BW.congr (g := TB x 4 [.int 0, .ref (x + 1), .ref (x + 2)] (fun q => if q < x + 2 then (va_up (zB) (x + 1) (.inl (ca 0, (10 * W + 2), .inl (fun _ => 0)))) q else LYW ca (x + 2) N (q - (x + 2)))) (fun q _ _ => TB_obj (by omega) q) ?_
  exact b_ret (pc := 32) cx rfl (by show _ ≤ 600; omega) rfl (fun d hd => rfl) dX4_init_32
