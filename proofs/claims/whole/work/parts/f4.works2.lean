/-! constructors of tape, out and the reference (made by wip/gen/works2.py) -/
/-- an object at x, all else by B -/
def TB (x ci : Nat) (vs : List Value) (B : Nat → va_E) : Nat → va_E := fun q => if q = x then .inr (ci, vs) else B q
theorem TB_at {x ci : Nat} {vs : List Value} {B : Nat → va_E} : TB x ci vs B x = .inr (ci, vs) := if_pos rfl
theorem TB_ne {x ci q : Nat} {vs : List Value} {B : Nat → va_E} (h : q ≠ x) : TB x ci vs B q = B q := if_neg h
theorem va_up_n {f : Nat → va_E} {k q : Nat} {v : va_E} (h : q ≠ k) : va_up f k v q = f q := if_neg h
theorem va_up_s {f : Nat → va_E} {k : Nat} {v : va_E} : va_up f k v k = v := if_pos rfl
theorem nI_mulx (a b : Nat) : nI a * nI b = nI (a * b) := (Int32.ofNat_mul a b).symm
theorem TB_arr {x ci z : Nat} {vs vs' : List Value} {B : Nat → va_E} {y : va_E} (q : Nat) : va_up (va_up (TB x ci vs B) z y) x (.inr (ci, vs')) q = TB x ci vs' (va_up B z y) q := by
  by_cases c : q = x
  · rw [c, va_up_s, TB_at]
  · rw [va_up_n c, TB_ne c]
    by_cases d : q = z
    · rw [d, va_up_s, va_up_s]
    · rw [va_up_n d, va_up_n d, TB_ne c]
theorem TB_put {x ci : Nat} {vs vs' : List Value} {B : Nat → va_E} (q : Nat) : va_up (TB x ci vs B) x (.inr (ci, vs')) q = TB x ci vs' B q := by
  by_cases c : q = x
  · rw [c, va_up_s, TB_at]
  · rw [va_up_n c, TB_ne c, TB_ne c]
theorem TB_obj {x ci z : Nat} {vs vs' : List Value} {B LY : Nat → va_E} {y : va_E} (hz : x < z) (q : Nat) : va_up (fun q => if q < z then va_up (TB x ci vs B) z y q else LY (q - z)) x (.inr (ci, vs')) q = TB x ci vs' (fun q => if q < z then B q else LY (q - z)) q := by
  by_cases c : q = x
  · rw [c, va_up_s, TB_at]
  · rw [va_up_n c, TB_ne c]
    show (if q < z then va_up (TB x ci vs B) z y q else LY (q - z)) = if q < z then B q else LY (q - z)
    by_cases d : q < z
    · rw [if_pos d, if_pos d, va_up_n (by omega), TB_ne c]
    · rw [if_neg d, if_neg d]
theorem TB_upx {x ci z : Nat} {vs : List Value} {B : Nat → va_E} {y : va_E} (hz : x < z) : va_up (TB x ci vs B) z y x = .inr (ci, vs) := by
  rw [va_up_n (by omega), TB_at]
theorem TB_ifx {x ci z : Nat} {vs : List Value} {B LY : Nat → va_E} {y : va_E} (hz : x < z) : (fun q => if q < z then va_up (TB x ci vs B) z y q else LY (q - z)) x = .inr (ci, vs) := by
  show (if x < z then va_up (TB x ci vs B) z y x else LY (x - z)) = _
  rw [if_pos hz, TB_upx hz]
abbrev zB : Nat → va_E := fun _ => .inr (0, [])
abbrev rm_X8i : Room := { frames := 4, cells := 1, slots := 1000, locals := 120 }
theorem cf_X8_init : CF yX8_init cX8_init 1 none 0 := ⟨(gw_t2 40 rfl rfl), (gw_t1 10 rfl rfl), by decide +kernel⟩
theorem c_X8_init {l : Launch} {D : va_G} {ca : Nat → ClassId} {x : Nat} : MeC l D ca yX8_init (Cond.code yX8_init cX8_init 1 none :: GW) rm_X8i x 7 [.int 0, .null] [] 1 1000 (fun d => TB x 7 [.int 0, .ref (x + 1)] (va_up (zB) (x + 1) (.inl (ca 0, 1000, .inl (fun _ => 0)))) (x + d)) := by
  refine b_method (by decide) rfl rfl (Nat.le_of_ble_eq_true rfl) ?_
  intro p e s m args below meth c cx
  have cx : CBx p s m args meth c D ca cX8_init 1 RX8 x := cx
  refine b_aload_n (pc := 0) cx dX8_init_0 rfl 0 rfl ?_
  refine b_obj (pc := 1) cx (gw_t2 41 rfl rfl) ⟨Nat.le_of_ble_eq_true rfl, Nat.le_of_ble_eq_true rfl⟩ dX8_init_1 ?_
  refine BW.congr (g := TB x 7 [.int 0, .null] zB) (fun q h1 h2 => by rw [show q = x by omega, TB_at]) ?_
  refine b_aload_n (pc := 4) cx dX8_init_4 rfl 0 rfl ?_
  refine b_sipush (pc := 5) (v := 1000) cx dX8_init_5 (by decide) ?_
  refine b_newB (pc := 8) (N := 1000) cx (by decide) rfl (by decide) rfl ⟨Nat.le_of_ble_eq_true rfl, by show 0 + 1000 ≤ 1000; omega⟩ dX8_init_8 ?_
  refine b_putF (pc := 10) (ci := 7) (k := 1) (C := RX8) (T := TX8) (N := 2) (vs := [.int 0, .null]) rfl in_X8 (by decide) tyX8 tyX8_ok nmX8 rfl rfl (ty := .array .byte) (by decide +kernel) rfl rfl cx ⟨Nat.le_refl x, by show x < x + (1 + 1); omega⟩ (TB_upx (by omega)) (Nat.le_of_ble_eq_true rfl) (gw_t2 44 rfl rfl) dX8_init_10 ?_
  refine BW.congr (g := TB x 7 [.int 0, .ref (x + 1)] (va_up (zB) (x + 1) (.inl (ca 0, 1000, .inl (fun _ => 0))))) (fun q _ _ => TB_arr q) ?_
  exact b_ret (pc := 13) cx rfl (by show _ ≤ 1000; omega) rfl (fun d hd => rfl) dX8_init_13
abbrev rm_X4i : Room := { frames := 4, cells := 3, slots := 600, locals := 120 }
theorem cf_X4_init : CF yX4_init cX4_init 3 none 2 := ⟨(gw_t2 55 rfl rfl), (gw_t1 11 rfl rfl), by decide +kernel⟩
theorem c_X4_init {l : Launch} {D : va_G} {ca : Nat → ClassId} {x : Nat} {W N : Nat} {v r : Int32} (hw : (if 1 < v then v else 1) = nI W) (hW : 1 ≤ W ∧ W ≤ 40) (hr : (if 1 < r then r else 1) = nI N) (hN : 1 ≤ N ∧ N ≤ 100) : MeC l D ca yX4_init (Cond.code yX4_init cX4_init 3 none :: GW) rm_X4i x 4 [.int 0, .null, .null] [.int v, .int r] 3 600 (fun d => TB x 4 [.int 0, .ref (x + 1), .ref (x + 2)] (fun q => if q < x + 2 then (va_up (zB) (x + 1) (.inl (ca 0, (10 * W + 2), .inl (fun _ => 0)))) q else LYW ca (x + 2) N (q - (x + 2))) (x + d)) := by
  refine b_method (by decide) rfl rfl (Nat.le_of_ble_eq_true rfl) ?_
  intro p e s m args below meth c cx
  have cx : CBx p s m args meth c D ca cX4_init 3 RX4 x := cx
  refine b_aload_n (pc := 0) cx dX4_init_0 rfl 0 rfl ?_
  refine b_obj (pc := 1) cx (gw_t2 56 rfl rfl) ⟨Nat.le_of_ble_eq_true rfl, Nat.le_of_ble_eq_true rfl⟩ dX4_init_1 ?_
  refine BW.congr (g := TB x 4 [.int 0, .null, .null] zB) (fun q h1 h2 => by rw [show q = x by omega, TB_at]) ?_
  refine b_aload_n (pc := 4) cx dX4_init_4 rfl 0 rfl ?_
  refine b_bipush (pc := 5) (v := 10) cx dX4_init_5 (by decide) ?_
  refine b_iconst (pc := 7) (v := 1) cx dX4_init_7 (by decide) ?_
  refine b_iload_n (pc := 8) cx dX4_init_8 rfl 1 rfl ?_
  refine b_max (pc := 9) cx (gw_t2 57 rfl rfl) ⟨Nat.le_of_ble_eq_true rfl, Nat.le_of_ble_eq_true rfl⟩ ⟨Nat.zero_le _, Nat.zero_le _⟩ dX4_init_9 ?_
  refine b_imul (pc := 12) cx dX4_init_12 ?_
  refine b_iconst (pc := 13) (v := 2) cx dX4_init_13 (by decide) ?_
  refine b_iadd (pc := 14) cx dX4_init_14 ?_
  rw [hw, show (10 : Int32) * nI W + 2 = nI (10 * W + 2) from by rw [show (10 : Int32) = nI 10 from rfl, show (2 : Int32) = nI 2 from rfl, nI_mulx, nI_add]]
  refine b_newB (pc := 15) (N := (10 * W + 2)) cx (nI_lt0 (by omega)) (cl (by omega)) (by omega) rfl ⟨Nat.le_of_ble_eq_true rfl, by show 0 + (10 * W + 2) ≤ 600; omega⟩ dX4_init_15 ?_
  refine b_putF (pc := 17) (ci := 4) (k := 1) (C := RX4) (T := TX4) (N := 3) (vs := [.int 0, .null, .null]) rfl in_X4 (by decide) tyX4 tyX4_ok nmX4 rfl rfl (ty := .array .byte) (by decide +kernel) rfl rfl cx ⟨Nat.le_refl x, by show x < x + (1 + 1); omega⟩ (TB_upx (by omega)) (Nat.le_of_ble_eq_true rfl) (gw_t2 62 rfl rfl) dX4_init_17 ?_
  refine BW.congr (g := TB x 4 [.int 0, .ref (x + 1), .null] (va_up (zB) (x + 1) (.inl (ca 0, (10 * W + 2), .inl (fun _ => 0))))) (fun q _ _ => TB_arr q) ?_
  refine b_aload_n (pc := 20) cx dX4_init_20 rfl 0 rfl ?_
  refine b_new (pc := 21) (ci := 8) (C := RX9) (T := TX9) (N := 3) rfl in_X9 tyX9 tyX9_ok (fs := [.null, .int 0, .int 0]) w9_fs cx (gw_t2 58 rfl rfl) (gw_t1 37 rfl rfl) (gw_t1 3 rfl rfl) rfl ⟨Nat.le_of_ble_eq_true rfl, by show (0 + (10 * W + 2)) + 3 ≤ 600; omega⟩ dX4_init_21 ?_
  refine b_dup (pc := 24) cx dX4_init_24 rfl ?_
  refine b_iload_n (pc := 25) cx dX4_init_25 rfl 2 rfl ?_
  refine b_callC (pc := 26) (x := x + 2) (rest := [.ref (x + 2), .ref x]) [.int r] cx (c_X9_init (N := N) hr hN) cf_X9_init rfl (gw_t1 39 rfl rfl) (gw_t2 59 rfl rfl) rfl rfl (by decide) (if_pos rfl) ⟨rfl, rfl⟩ ⟨Nat.le_of_ble_eq_true rfl, Nat.le_of_ble_eq_true rfl⟩ ⟨Nat.le_of_ble_eq_true rfl, by show (0 + (10 * W + 2)) + 3 + 100 ≤ 600; omega⟩ rfl rfl (Nat.le_of_ble_eq_true rfl) dX4_init_26 ?_
  refine b_putF (pc := 29) (ci := 4) (k := 2) (C := RX4) (T := TX4) (N := 3) (vs := [.int 0, .ref (x + 1), .null]) rfl in_X4 (by decide) tyX4 tyX4_ok nmX4 rfl rfl (ty := .object "GcdMill$Whole") (by decide +kernel) rfl rfl cx ⟨Nat.le_refl x, by show x < x + (2 + 1 + 1); omega⟩ (TB_ifx (by omega)) (Nat.le_of_ble_eq_true rfl) (gw_t2 64 rfl rfl) dX4_init_29 ?_
  refine BW.congr (g := TB x 4 [.int 0, .ref (x + 1), .ref (x + 2)] (fun q => if q < x + 2 then (va_up (zB) (x + 1) (.inl (ca 0, (10 * W + 2), .inl (fun _ => 0)))) q else LYW ca (x + 2) N (q - (x + 2)))) (fun q _ _ => TB_obj (by omega) q) ?_
  exact b_ret (pc := 32) cx rfl (by show _ ≤ 600; omega) rfl (fun d hd => rfl) dX4_init_32
section Clamp
variable {p : Program} {l : Launch} {e : Env} {R : Room} {s : State} {m : MethodId} {args : Array Value} {below : List Frame} {meth : Method} {c : Code} {D : va_G} {ca : Nat → ClassId} {nL a : Nat} {cells slots : Nat} {Q : State → Prop} {cc : ByteArray} {own : String} {pc : Nat} {lv : List (Nat × Value)} {st : List Value} {M : BM}
theorem b_clamp {r T v : Int32} {k : Int} {q : Fin 4} {i n : Nat} (cx : CBx p s m args meth c D ca cc nL own a) (hk : lv[n]? = some (i, .int r)) (hi : (q : Nat) = i) (hT : (Int8.ofInt k).toInt32 = T) (d0 : decode cc pc = .ok (.iload_n q, 1)) (d1 : decode cc (pc + 1) = .ok (.iconst 1, 1)) (d2 : decode cc (pc + 2) = .ok (.if_icmp .ge 7, 3)) (d5 : decode cc (pc + 5) = .ok (.iconst 1, 1)) (d6 : decode cc (pc + 6) = .ok (.goto 15, 3)) (d9 : decode cc (pc + 9) = .ok (.iload_n q, 1)) (d10 : decode cc (pc + 10) = .ok (.bipush k, 2)) (d12 : decode cc (pc + 12) = .ok (.if_icmp .le 8, 3)) (d15 : decode cc (pc + 15) = .ok (.bipush k, 2)) (d17 : decode cc (pc + 17) = .ok (.goto 4, 3)) (d20 : decode cc (pc + 20) = .ok (.iload_n q, 1)) (hv : (if 1 ≤ r then (if r ≤ T then r else T) else 1) = v) (kk : BW p l e R s m args below meth c D nL a cells slots Q (pc + 21) lv (.int v :: st) M) : BW p l e R s m args below meth c D nL a cells slots Q pc lv st M := by
  refine b_iload_n (pc := pc) cx d0 hi n hk ?_
  refine b_iconst (pc := pc + 1) (v := 1) cx d1 (by decide) ?_
  refine b_icmp_ge (pc := pc + 2) (tgt := pc + 9) cx d2 (by omega) (fun h1 => ?_) (fun h1 => ?_)
  · refine b_iload_n (pc := pc + 9) cx d9 hi n hk ?_
    refine b_bipush (pc := pc + 10) (v := T) cx d10 hT ?_
    refine b_icmp_le (pc := pc + 12) (tgt := pc + 20) cx d12 (by omega) (fun h2 => ?_) (fun h2 => ?_)
    · refine b_iload_n (pc := pc + 20) cx d20 hi n hk ?_
      rw [if_pos h1, if_pos h2] at hv
      rw [hv]
      exact kk
    · refine b_bipush (pc := pc + 15) (v := T) cx d15 hT ?_
      refine b_goto (pc := pc + 17) (tgt := pc + 21) cx d17 (by omega) ?_
      rw [if_pos h1, if_neg h2] at hv
      rw [hv]
      exact kk
  · refine b_iconst (pc := pc + 5) (v := 1) cx d5 (by decide) ?_
    refine b_goto (pc := pc + 6) (tgt := pc + 21) cx d6 (by omega) ?_
    rw [if_neg h1] at hv
    rw [hv]
    exact kk
end Clamp
abbrev rm_X11i : Room := { frames := 4, cells := 5, slots := 11980, locals := 120 }
theorem cf_X11_init : CF yX11_init cX11_init 3 none 2 := ⟨(gw_t4 159 rfl rfl), (gw_t1 12 rfl rfl), by decide +kernel⟩
theorem c_X11_init {l : Launch} {D : va_G} {ca : Nat → ClassId} {x : Nat} {n w : Nat} {r v : Int32} (hn : (if 1 ≤ r then (if r ≤ 16 then r else 16) else 1) = nI n) (hw : (if 1 ≤ v then (if v ≤ 40 then v else 40) else 1) = nI w) : MeC l D ca yX11_init (Cond.code yX11_init cX11_init 3 none :: GW) rm_X11i x 10 [.null, .null, .null, .int 0, .int 0, .int 0, .int 0, .null, .null, .int 0, .int 0] [.int r, .int v] 5 11980 (fun d => TB x 10 [.ref (x + 1), .ref (x + 2), .ref (x + 3), .int (nI n), .int (nI w), .int 0, .int 0, .ref (x + 4), .ref (x + 5), .int 0, .int 0] (va_up (va_up (va_up (va_up (va_up (zB) (x + 1) (.inl (ca 1, 10400, .inl (fun _ => 0)))) (x + 2) (.inl (ca 1, 40, .inl (fun _ => 0)))) (x + 3) (.inl (ca 1, 40, .inl (fun _ => 0)))) (x + 4) (.inl (ca 0, 1000, .inl (fun _ => 0)))) (x + 5) (.inl (ca 0, 500, .inl (fun _ => 0)))) (x + d)) := by
  refine b_method (by decide) rfl rfl (Nat.le_of_ble_eq_true rfl) ?_
  intro p e s m args below meth c cx
  have cx : CBx p s m args meth c D ca cX11_init 3 RX11 x := cx
  refine b_aload_n (pc := 0) cx dX11_init_0 rfl 0 rfl ?_
  refine b_obj (pc := 1) cx (gw_t4 160 rfl rfl) ⟨Nat.le_of_ble_eq_true rfl, Nat.le_of_ble_eq_true rfl⟩ dX11_init_1 ?_
  refine BW.congr (g := TB x 10 [.null, .null, .null, .int 0, .int 0, .int 0, .int 0, .null, .null, .int 0, .int 0] zB) (fun q h1 h2 => by rw [show q = x by omega, TB_at]) ?_
  refine b_aload_n (pc := 4) cx dX11_init_4 rfl 0 rfl ?_
  refine b_sipush (pc := 5) (v := 10400) cx dX11_init_5 (by decide) ?_
  refine b_newI (pc := 8) (N := 10400) cx (by decide) rfl (by decide) rfl ⟨Nat.le_of_ble_eq_true rfl, by show 0 + 10400 ≤ 11980; omega⟩ dX11_init_8 ?_
  refine b_putF (pc := 10) (ci := 10) (k := 0) (C := RX11) (T := TX11) (N := 11) (vs := [.null, .null, .null, .int 0, .int 0, .int 0, .int 0, .null, .null, .int 0, .int 0]) rfl in_X11 (by decide) tyX11 tyX11_ok nmX11 rfl rfl (ty := .array .int) (by decide +kernel) rfl rfl cx ⟨Nat.le_refl x, by show x < x + (1 + 1); omega⟩ (TB_upx (by omega)) (Nat.le_of_ble_eq_true rfl) (gw_t4 161 rfl rfl) dX11_init_10 ?_
  refine BW.congr (g := TB x 10 [.ref (x + 1), .null, .null, .int 0, .int 0, .int 0, .int 0, .null, .null, .int 0, .int 0] (va_up (zB) (x + 1) (.inl (ca 1, 10400, .inl (fun _ => 0))))) (fun q _ _ => TB_arr q) ?_
  refine b_aload_n (pc := 13) cx dX11_init_13 rfl 0 rfl ?_
  refine b_bipush (pc := 14) (v := 40) cx dX11_init_14 (by decide) ?_
  refine b_newI (pc := 16) (N := 40) cx (by decide) rfl (by decide) rfl ⟨Nat.le_of_ble_eq_true rfl, by show 10400 + 40 ≤ 11980; omega⟩ dX11_init_16 ?_
  refine b_putF (pc := 18) (ci := 10) (k := 1) (C := RX11) (T := TX11) (N := 11) (vs := [.ref (x + 1), .null, .null, .int 0, .int 0, .int 0, .int 0, .null, .null, .int 0, .int 0]) rfl in_X11 (by decide) tyX11 tyX11_ok nmX11 rfl rfl (ty := .array .int) (by decide +kernel) rfl rfl cx ⟨Nat.le_refl x, by show x < x + (2 + 1); omega⟩ (TB_upx (by omega)) (Nat.le_of_ble_eq_true rfl) (gw_t4 162 rfl rfl) dX11_init_18 ?_
  refine BW.congr (g := TB x 10 [.ref (x + 1), .ref (x + 2), .null, .int 0, .int 0, .int 0, .int 0, .null, .null, .int 0, .int 0] (va_up (va_up (zB) (x + 1) (.inl (ca 1, 10400, .inl (fun _ => 0)))) (x + 2) (.inl (ca 1, 40, .inl (fun _ => 0))))) (fun q _ _ => TB_arr q) ?_
  refine b_aload_n (pc := 21) cx dX11_init_21 rfl 0 rfl ?_
  refine b_bipush (pc := 22) (v := 40) cx dX11_init_22 (by decide) ?_
  refine b_newI (pc := 24) (N := 40) cx (by decide) rfl (by decide) rfl ⟨Nat.le_of_ble_eq_true rfl, by show 10440 + 40 ≤ 11980; omega⟩ dX11_init_24 ?_
  refine b_putF (pc := 26) (ci := 10) (k := 2) (C := RX11) (T := TX11) (N := 11) (vs := [.ref (x + 1), .ref (x + 2), .null, .int 0, .int 0, .int 0, .int 0, .null, .null, .int 0, .int 0]) rfl in_X11 (by decide) tyX11 tyX11_ok nmX11 rfl rfl (ty := .array .int) (by decide +kernel) rfl rfl cx ⟨Nat.le_refl x, by show x < x + (3 + 1); omega⟩ (TB_upx (by omega)) (Nat.le_of_ble_eq_true rfl) (gw_t4 163 rfl rfl) dX11_init_26 ?_
  refine BW.congr (g := TB x 10 [.ref (x + 1), .ref (x + 2), .ref (x + 3), .int 0, .int 0, .int 0, .int 0, .null, .null, .int 0, .int 0] (va_up (va_up (va_up (zB) (x + 1) (.inl (ca 1, 10400, .inl (fun _ => 0)))) (x + 2) (.inl (ca 1, 40, .inl (fun _ => 0)))) (x + 3) (.inl (ca 1, 40, .inl (fun _ => 0))))) (fun q _ _ => TB_arr q) ?_
  refine b_aload_n (pc := 29) cx dX11_init_29 rfl 0 rfl ?_
  refine b_sipush (pc := 30) (v := 1000) cx dX11_init_30 (by decide) ?_
  refine b_newB (pc := 33) (N := 1000) cx (by decide) rfl (by decide) rfl ⟨Nat.le_of_ble_eq_true rfl, by show 10480 + 1000 ≤ 11980; omega⟩ dX11_init_33 ?_
  refine b_putF (pc := 35) (ci := 10) (k := 7) (C := RX11) (T := TX11) (N := 11) (vs := [.ref (x + 1), .ref (x + 2), .ref (x + 3), .int 0, .int 0, .int 0, .int 0, .null, .null, .int 0, .int 0]) rfl in_X11 (by decide) tyX11 tyX11_ok nmX11 rfl rfl (ty := .array .byte) (by decide +kernel) rfl rfl cx ⟨Nat.le_refl x, by show x < x + (4 + 1); omega⟩ (TB_upx (by omega)) (Nat.le_of_ble_eq_true rfl) (gw_t4 168 rfl rfl) dX11_init_35 ?_
  refine BW.congr (g := TB x 10 [.ref (x + 1), .ref (x + 2), .ref (x + 3), .int 0, .int 0, .int 0, .int 0, .ref (x + 4), .null, .int 0, .int 0] (va_up (va_up (va_up (va_up (zB) (x + 1) (.inl (ca 1, 10400, .inl (fun _ => 0)))) (x + 2) (.inl (ca 1, 40, .inl (fun _ => 0)))) (x + 3) (.inl (ca 1, 40, .inl (fun _ => 0)))) (x + 4) (.inl (ca 0, 1000, .inl (fun _ => 0))))) (fun q _ _ => TB_arr q) ?_
  refine b_aload_n (pc := 38) cx dX11_init_38 rfl 0 rfl ?_
  refine b_sipush (pc := 39) (v := 500) cx dX11_init_39 (by decide) ?_
  refine b_newB (pc := 42) (N := 500) cx (by decide) rfl (by decide) rfl ⟨Nat.le_of_ble_eq_true rfl, by show 11480 + 500 ≤ 11980; omega⟩ dX11_init_42 ?_
  refine b_putF (pc := 44) (ci := 10) (k := 8) (C := RX11) (T := TX11) (N := 11) (vs := [.ref (x + 1), .ref (x + 2), .ref (x + 3), .int 0, .int 0, .int 0, .int 0, .ref (x + 4), .null, .int 0, .int 0]) rfl in_X11 (by decide) tyX11 tyX11_ok nmX11 rfl rfl (ty := .array .byte) (by decide +kernel) rfl rfl cx ⟨Nat.le_refl x, by show x < x + (5 + 1); omega⟩ (TB_upx (by omega)) (Nat.le_of_ble_eq_true rfl) (gw_t4 169 rfl rfl) dX11_init_44 ?_
  refine BW.congr (g := TB x 10 [.ref (x + 1), .ref (x + 2), .ref (x + 3), .int 0, .int 0, .int 0, .int 0, .ref (x + 4), .ref (x + 5), .int 0, .int 0] (va_up (va_up (va_up (va_up (va_up (zB) (x + 1) (.inl (ca 1, 10400, .inl (fun _ => 0)))) (x + 2) (.inl (ca 1, 40, .inl (fun _ => 0)))) (x + 3) (.inl (ca 1, 40, .inl (fun _ => 0)))) (x + 4) (.inl (ca 0, 1000, .inl (fun _ => 0)))) (x + 5) (.inl (ca 0, 500, .inl (fun _ => 0))))) (fun q _ _ => TB_arr q) ?_
  refine b_aload_n (pc := 47) cx dX11_init_47 rfl 0 rfl ?_
  refine b_clamp (pc := 48) (T := 16) (n := 1) cx rfl rfl (by decide) dX11_init_48 dX11_init_49 dX11_init_50 dX11_init_53 dX11_init_54 dX11_init_57 dX11_init_58 dX11_init_60 dX11_init_63 dX11_init_65 dX11_init_68 hn ?_
  refine b_putF (pc := 69) (ci := 10) (k := 3) (C := RX11) (T := TX11) (N := 11) (vs := [.ref (x + 1), .ref (x + 2), .ref (x + 3), .int 0, .int 0, .int 0, .int 0, .ref (x + 4), .ref (x + 5), .int 0, .int 0]) rfl in_X11 (by decide) tyX11 tyX11_ok nmX11 rfl rfl (ty := .int) (by decide +kernel) rfl rfl cx ⟨Nat.le_refl x, by show x < x + 6; omega⟩ TB_at (Nat.le_of_ble_eq_true rfl) (gw_t4 164 rfl rfl) dX11_init_69 ?_
  refine BW.congr (g := TB x 10 [.ref (x + 1), .ref (x + 2), .ref (x + 3), .int (nI n), .int 0, .int 0, .int 0, .ref (x + 4), .ref (x + 5), .int 0, .int 0] (va_up (va_up (va_up (va_up (va_up (zB) (x + 1) (.inl (ca 1, 10400, .inl (fun _ => 0)))) (x + 2) (.inl (ca 1, 40, .inl (fun _ => 0)))) (x + 3) (.inl (ca 1, 40, .inl (fun _ => 0)))) (x + 4) (.inl (ca 0, 1000, .inl (fun _ => 0)))) (x + 5) (.inl (ca 0, 500, .inl (fun _ => 0))))) (fun q _ _ => TB_put q) ?_
  refine b_aload_n (pc := 72) cx dX11_init_72 rfl 0 rfl ?_
  refine b_clamp (pc := 73) (T := 40) (n := 2) cx rfl rfl (by decide) dX11_init_73 dX11_init_74 dX11_init_75 dX11_init_78 dX11_init_79 dX11_init_82 dX11_init_83 dX11_init_85 dX11_init_88 dX11_init_90 dX11_init_93 hw ?_
  refine b_putF (pc := 94) (ci := 10) (k := 4) (C := RX11) (T := TX11) (N := 11) (vs := [.ref (x + 1), .ref (x + 2), .ref (x + 3), .int (nI n), .int 0, .int 0, .int 0, .ref (x + 4), .ref (x + 5), .int 0, .int 0]) rfl in_X11 (by decide) tyX11 tyX11_ok nmX11 rfl rfl (ty := .int) (by decide +kernel) rfl rfl cx ⟨Nat.le_refl x, by show x < x + 6; omega⟩ TB_at (Nat.le_of_ble_eq_true rfl) (gw_t4 165 rfl rfl) dX11_init_94 ?_
  refine BW.congr (g := TB x 10 [.ref (x + 1), .ref (x + 2), .ref (x + 3), .int (nI n), .int (nI w), .int 0, .int 0, .ref (x + 4), .ref (x + 5), .int 0, .int 0] (va_up (va_up (va_up (va_up (va_up (zB) (x + 1) (.inl (ca 1, 10400, .inl (fun _ => 0)))) (x + 2) (.inl (ca 1, 40, .inl (fun _ => 0)))) (x + 3) (.inl (ca 1, 40, .inl (fun _ => 0)))) (x + 4) (.inl (ca 0, 1000, .inl (fun _ => 0)))) (x + 5) (.inl (ca 0, 500, .inl (fun _ => 0))))) (fun q _ _ => TB_put q) ?_
  exact b_ret (pc := 97) cx rfl (by show _ ≤ 11980; omega) rfl (fun d hd => rfl) dX11_init_97
