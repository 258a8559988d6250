set_option maxHeartbeats 4000000 in
set_option maxRecDepth 100000 in
theorem x_X7_order_35 {p : Program} {l : Launch} {e : Env} {s : State} {m : MethodId} {args : Array Value} {below : List Frame} {meth : Method} {c : Code} {D : va_G} {G : SH} {Qp : Int32 → MS → Prop}  (cx : CX p s m args c D G cX7_order 3 RX7) (hr : meth.sig.returnType = (some .int)) (hlk : meth.locks = false)  : ∀ (n : Nat) (v0 : Nat) (v1 : Nat) (v2 : Int32) (M : MS), TYR G M.2.2.1 → Is G 8 v0 → Is G 8 v1 → w_X7_order_35 G Qp n v0 v1 v2 M → PW p l e rm_X7_order s m args below meth c D G 3 (MQ below (va_Qi Qp (POST D G) (AG G)) args s 0 0 (AG G)) 35 [(0, .ref v0), (1, .ref v1), (2, .int v2)] [] M := by
  intro n
  induction n with
  | zero =>
    intro v0 v1 v2 M hT hv0 hv1 hw
    exact hw.elim
  | succ n ih =>
    intro v0 v1 v2 M hT hv0 hv1 hw
    rw [w_X7_order_35] at hw
    refine p_iload_n (pc := 35) cx dX7_order_35 rfl 2 rfl ?_
    refine p_if_lt (pc := 36) (tgt := 80) cx dX7_order_36 (by decide) (fun hc => ?_) (fun hc => ?_)
    · have hw := hw.1 hc
      refine p_iconst (pc := 80) (v := 0) cx dX7_order_80 (by decide) ?_
      exact p_iret (pc := 81) cx hr hlk dX7_order_81 hT hw
    · have hw := hw.2 hc
      refine p_aload_n (pc := 39) cx dX7_order_39 rfl 0 rfl ?_
      refine gf_8_0 (pc := 40) cx hv0 t1_45 dX7_order_40 ?_
      have hr_2 : Is G 12 (mR M v0 0) := TYR.at hT hv0 0 12 rfl (by decide)
      refine p_iload_n (pc := 43) cx dX7_order_43 rfl 2 rfl ?_
      refine p_iald (pc := 44) cx hr_2 hw.1 dX7_order_44 ?_
      have hw := hw.2
      refine p_aload_n (pc := 45) cx dX7_order_45 rfl 1 rfl ?_
      refine gf_8_0 (pc := 46) cx hv1 t1_45 dX7_order_46 ?_
      have hr_3 : Is G 12 (mR M v1 0) := TYR.at hT hv1 0 12 rfl (by decide)
      refine p_iload_n (pc := 49) cx dX7_order_49 rfl 2 rfl ?_
      refine p_iald (pc := 50) cx hr_3 hw.1 dX7_order_50 ?_
      have hw := hw.2
      refine p_icmp_eq (pc := 51) (tgt := 74) cx dX7_order_51 (by decide) (fun hc => ?_) (fun hc => ?_)
      · have hw := hw.1 hc
        obtain ⟨x2_4, ex2_4⟩ : ∃ y : Int32, y = v2 + (-1) := ⟨_, rfl⟩
        have hw := hw x2_4 ex2_4
        refine p_iinc (pc := 74) (v := x2_4) (lv' := [(0, .ref v0), (1, .ref v1), (2, .int x2_4)]) cx dX7_order_74 2 rfl (by rw [ex2_4]; rfl) (by decide) [1, 2, 0] rfl ?_
        refine p_goto (pc := 77) (tgt := 35) cx dX7_order_77 (by decide) ?_
        exact ih v0 v1 x2_4 M hT hv0 hv1 hw
      · have hw := hw.2 hc
        refine p_aload_n (pc := 54) cx dX7_order_54 rfl 0 rfl ?_
        refine p_iload_n (pc := 55) cx dX7_order_55 rfl 2 rfl ?_
        refine p_callVl (pc := 56) [.int v2] cx (c_X9_limb cx.2.2.2.2.2.2 hT hv0 hw) cf_X9_limb cv_X9_limb t2_128 hv0 ⟨by decide, rfl, rfl⟩ ⟨rfl, rfl⟩ ⟨Nat.le_of_ble_eq_true rfl, Nat.le_of_ble_eq_true rfl⟩ rfl rfl (Nat.le_of_ble_eq_true rfl) dX7_order_56 (fun r5 M5 hw hM5 => ?_)
        refine p_aload_n (pc := 59) cx dX7_order_59 rfl 1 rfl ?_
        refine p_iload_n (pc := 60) cx dX7_order_60 rfl 2 rfl ?_
        refine p_callVl (pc := 61) [.int v2] cx (c_X9_limb cx.2.2.2.2.2.2 hM5 hv1 hw) cf_X9_limb cv_X9_limb t2_128 hv1 ⟨by decide, rfl, rfl⟩ ⟨rfl, rfl⟩ ⟨Nat.le_of_ble_eq_true rfl, Nat.le_of_ble_eq_true rfl⟩ rfl rfl (Nat.le_of_ble_eq_true rfl) dX7_order_61 (fun r6 M6 hw hM6 => ?_)
        refine p_lcmp (pc := 64) cx dX7_order_64 ?_
        refine p_if_le (pc := 65) (tgt := 72) cx dX7_order_65 (by decide) (fun hc => ?_) (fun hc => ?_)
        · have hw := hw.1 ((lg_cmp_le _ _).mp hc)
          refine p_iconst (pc := 72) (v := (-1)) cx dX7_order_72 (by decide) ?_
          exact p_iret (pc := 73) cx hr hlk dX7_order_73 hM6 hw
        · have hw := hw.2 (fun q => hc ((lg_cmp_le _ _).mpr q))
          refine p_iconst (pc := 68) (v := 1) cx dX7_order_68 (by decide) ?_
          refine p_goto (pc := 69) (tgt := 73) cx dX7_order_69 (by decide) ?_
          exact p_iret (pc := 73) cx hr hlk dX7_order_73 hM6 hw
set_option maxHeartbeats 4000000 in
set_option maxRecDepth 100000 in
theorem c_X7_order {l : Launch} {D : va_G} {G : SH} (hND : ND G) {a0 : Nat} {a1 : Nat} {M : MS} {Qp : Int32 → MS → Prop} (hT : TYR G M.2.2.1) (ha0 : Is G 8 a0) (ha1 : Is G 8 a1) (hw : w_X7_order G a0 a1 M Qp) : MeI l D G yX7_order (Cond.code yX7_order cX7_order 3 (some .int) :: GW) rm_X7_order [.ref a0, .ref a1] M Qp := by
  unfold MeI
  refine p_method (by decide) rfl (Nat.le_of_ble_eq_true rfl) hND ?_
  intro p e s m args below meth c cx hr hlk
  have cx : CX p s m args c D G cX7_order 3 RX7 := cx
  unfold w_X7_order at hw
  refine p_aload_n (pc := 0) cx dX7_order_0 rfl 0 rfl ?_
  refine gf_8_1 (pc := 1) cx ha0 t1_49 dX7_order_1 ?_
  refine p_aload_n (pc := 4) cx dX7_order_4 rfl 1 rfl ?_
  refine gf_8_1 (pc := 5) cx ha1 t1_49 dX7_order_5 ?_
  refine p_icmp_eq (pc := 8) (tgt := 28) cx dX7_order_8 (by decide) (fun hc => ?_) (fun hc => ?_)
  · have hw := hw.1 hc
    refine p_aload_n (pc := 28) cx dX7_order_28 rfl 0 rfl ?_
    refine gf_8_1 (pc := 29) cx ha0 t1_49 dX7_order_29 ?_
    refine p_iconst (pc := 32) (v := 1) cx dX7_order_32 (by decide) ?_
    refine p_isub (pc := 33) cx dX7_order_33 ?_
    refine p_topi (fun x2_1 ex2_1 => ?_)
    have hw := hw x2_1 ex2_1
    refine p_istore_n (pc := 34) (lv' := [(0, .ref a0), (1, .ref a1), (2, .int x2_1)]) cx dX7_order_34 rfl (by decide) [1, 2, 0] rfl ?_
    obtain ⟨n1, hw⟩ := hw
    exact x_X7_order_35 cx hr hlk n1 a0 a1 x2_1 M hT ha0 ha1 hw
  · have hw := hw.2 hc
    refine p_aload_n (pc := 11) cx dX7_order_11 rfl 0 rfl ?_
    refine gf_8_1 (pc := 12) cx ha0 t1_49 dX7_order_12 ?_
    refine p_aload_n (pc := 15) cx dX7_order_15 rfl 1 rfl ?_
    refine gf_8_1 (pc := 16) cx ha1 t1_49 dX7_order_16 ?_
    refine p_icmp_le (pc := 19) (tgt := 26) cx dX7_order_19 (by decide) (fun hc => ?_) (fun hc => ?_)
    · have hw := hw.1 hc
      refine p_iconst (pc := 26) (v := (-1)) cx dX7_order_26 (by decide) ?_
      exact p_iret (pc := 27) cx hr hlk dX7_order_27 hT hw
    · have hw := hw.2 hc
      refine p_iconst (pc := 22) (v := 1) cx dX7_order_22 (by decide) ?_
      refine p_goto (pc := 23) (tgt := 27) cx dX7_order_23 (by decide) ?_
      exact p_iret (pc := 27) cx hr hlk dX7_order_27 hT hw
set_option maxHeartbeats 4000000 in
set_option maxRecDepth 100000 in
theorem x_X7_shiftUp_94 {p : Program} {l : Launch} {e : Env} {s : State} {m : MethodId} {args : Array Value} {below : List Frame} {meth : Method} {c : Code} {D : va_G} {G : SH} {Qp : MS → Prop}  (cx : CX p s m args c D G cX7_shiftUp 9 RX7) (hr : meth.sig.returnType = none) (hlk : meth.locks = false)  : ∀ (n : Nat) (v0 : Nat) (v3 : Int32) (v5 : Int32) (v6 : Int32) (M : MS), TYR G M.2.2.1 → Is G 8 v0 → w_X7_shiftUp_94 G Qp n v0 v3 v5 v6 M → PW p l e rm_X7_shiftUp s m args below meth c D G 9 (MQ below (va_Qv Qp (POST D G) (AG G)) args s 0 0 (AG G)) 94 [(0, .ref v0), (3, .int v3), (5, .int v5), (6, .int v6)] [] M := by
  intro n
  induction n with
  | zero =>
    intro v0 v3 v5 v6 M hT hv0 hw
    exact hw.elim
  | succ n ih =>
    intro v0 v3 v5 v6 M hT hv0 hw
    rw [w_X7_shiftUp_94] at hw
    refine p_iload (pc := 94) cx dX7_shiftUp_94 3 rfl ?_
    refine p_iload_n (pc := 96) cx dX7_shiftUp_96 rfl 1 rfl ?_
    refine p_icmp_ge (pc := 97) (tgt := 114) cx dX7_shiftUp_97 (by decide) (fun hc => ?_) (fun hc => ?_)
    · have hw := hw.1 hc
      refine p_aload_n (pc := 114) cx dX7_shiftUp_114 rfl 0 rfl ?_
      refine p_iload (pc := 115) cx dX7_shiftUp_115 2 rfl ?_
      refine p_iload_n (pc := 117) cx dX7_shiftUp_117 rfl 1 rfl ?_
      refine p_iadd (pc := 118) cx dX7_shiftUp_118 ?_
      refine p_iconst (pc := 119) (v := 1) cx dX7_shiftUp_119 (by decide) ?_
      refine p_iadd (pc := 120) cx dX7_shiftUp_120 ?_
      refine p_callVv (pc := 121) [.int ((v5 + v3) + 1)] cx (c_X9_keep cx.2.2.2.2.2.2 hT hv0 hw) cf_X9_keep cv_X9_keep t2_127 hv0 ⟨by decide, rfl, rfl⟩ ⟨rfl, rfl⟩ ⟨Nat.le_of_ble_eq_true rfl, Nat.le_of_ble_eq_true rfl⟩ rfl rfl (Nat.le_of_ble_eq_true rfl) dX7_shiftUp_121 (fun M6 hw hM6 => ?_)
      exact p_vret (pc := 124) cx hr hlk dX7_shiftUp_124 hM6 hw
    · have hw := hw.2 hc
      refine p_aload_n (pc := 100) cx dX7_shiftUp_100 rfl 0 rfl ?_
      refine gf_8_0 (pc := 101) cx hv0 t1_45 dX7_shiftUp_101 ?_
      have hr_7 : Is G 12 (mR M v0 0) := TYR.at hT hv0 0 12 rfl (by decide)
      refine p_iload (pc := 104) cx dX7_shiftUp_104 3 rfl ?_
      refine p_iconst (pc := 106) (v := 0) cx dX7_shiftUp_106 (by decide) ?_
      refine p_iast (pc := 107) cx hr_7 hw.1 dX7_shiftUp_107 ?_
      have hw := hw.2
      refine p_mem (fun M8 eM8 => ?_)
      have hw := hw M8 eM8
      have hM8 : TYR G M8.2.2.1 := by rw [eM8]; exact hT
      obtain ⟨x6_9, ex6_9⟩ : ∃ y : Int32, y = v6 + 1 := ⟨_, rfl⟩
      have hw := hw x6_9 ex6_9
      refine p_iinc (pc := 108) (v := x6_9) (lv' := [(0, .ref v0), (3, .int v3), (5, .int v5), (6, .int x6_9)]) cx dX7_shiftUp_108 3 rfl (by rw [ex6_9]; rfl) (by decide) [1, 2, 3, 0] rfl ?_
      refine p_goto (pc := 111) (tgt := 94) cx dX7_shiftUp_111 (by decide) ?_
      exact ih v0 v3 v5 x6_9 M8 hM8 hv0 hw
set_option maxHeartbeats 4000000 in
set_option maxRecDepth 100000 in
theorem x_X7_shiftUp_42 {p : Program} {l : Launch} {e : Env} {s : State} {m : MethodId} {args : Array Value} {below : List Frame} {meth : Method} {c : Code} {D : va_G} {G : SH} {Qp : MS → Prop}  (cx : CX p s m args c D G cX7_shiftUp 9 RX7) (hr : meth.sig.returnType = none) (hlk : meth.locks = false)  : ∀ (n : Nat) (v0 : Nat) (v1 : Nat) (v3 : Int32) (v4 : Int32) (v5 : Int32) (v6 : Int32) (M : MS), TYR G M.2.2.1 → Is G 8 v0 → Is G 8 v1 → w_X7_shiftUp_42 G Qp n v0 v1 v3 v4 v5 v6 M → PW p l e rm_X7_shiftUp s m args below meth c D G 9 (MQ below (va_Qv Qp (POST D G) (AG G)) args s 0 0 (AG G)) 42 [(0, .ref v0), (1, .ref v1), (3, .int v3), (4, .int v4), (5, .int v5), (6, .int v6)] [] M := by
  intro n
  induction n with
  | zero =>
    intro v0 v1 v3 v4 v5 v6 M hT hv0 hv1 hw
    exact hw.elim
  | succ n ih =>
    intro v0 v1 v3 v4 v5 v6 M hT hv0 hv1 hw
    rw [w_X7_shiftUp_42] at hw
    refine p_iload (pc := 42) cx dX7_shiftUp_42 5 rfl ?_
    refine p_if_lt (pc := 44) (tgt := 91) cx dX7_shiftUp_44 (by decide) (fun hc => ?_) (fun hc => ?_)
    · have hw := hw.1 hc
      refine p_iconst (pc := 91) (v := 0) cx dX7_shiftUp_91 (by decide) ?_
      refine p_istore (pc := 92) (lv' := [(0, .ref v0), (3, .int v3), (5, .int v5), (6, .int (0 : Int32))]) cx dX7_shiftUp_92 (by decide) [1, 3, 5, 0] rfl ?_
      obtain ⟨n1, hw⟩ := hw
      exact x_X7_shiftUp_94 cx hr hlk n1 v0 v3 v5 0 M hT hv0 hw
    · have hw := hw.2 hc
      refine p_aload_n (pc := 47) cx dX7_shiftUp_47 rfl 1 rfl ?_
      refine p_iload (pc := 48) cx dX7_shiftUp_48 5 rfl ?_
      refine p_callVl (pc := 50) [.int v6] cx (c_X9_limb cx.2.2.2.2.2.2 hT hv1 hw) cf_X9_limb cv_X9_limb t2_128 hv1 ⟨by decide, rfl, rfl⟩ ⟨rfl, rfl⟩ ⟨Nat.le_of_ble_eq_true rfl, Nat.le_of_ble_eq_true rfl⟩ rfl rfl (Nat.le_of_ble_eq_true rfl) dX7_shiftUp_50 (fun r10 M10 hw hM10 => ?_)
      refine p_bipush (pc := 53) (v := 32) cx dX7_shiftUp_53 (by decide) ?_
      refine p_lshl (pc := 55) cx dX7_shiftUp_55 ?_
      refine p_aload_n (pc := 56) cx dX7_shiftUp_56 rfl 1 rfl ?_
      refine p_iload (pc := 57) cx dX7_shiftUp_57 5 rfl ?_
      refine p_iconst (pc := 59) (v := 1) cx dX7_shiftUp_59 (by decide) ?_
      refine p_isub (pc := 60) cx dX7_shiftUp_60 ?_
      refine p_callVl (pc := 61) [.int (v6 - 1)] cx (c_X9_limb cx.2.2.2.2.2.2 hM10 hv1 hw) cf_X9_limb cv_X9_limb t2_128 hv1 ⟨by decide, rfl, rfl⟩ ⟨rfl, rfl⟩ ⟨Nat.le_of_ble_eq_true rfl, Nat.le_of_ble_eq_true rfl⟩ rfl rfl (Nat.le_of_ble_eq_true rfl) dX7_shiftUp_61 (fun r11 M11 hw hM11 => ?_)
      refine p_lor (pc := 64) cx dX7_shiftUp_64 ?_
      refine p_topl (fun x7_12 ex7_12 => ?_)
      have hw := hw x7_12 ex7_12
      refine p_lstore (pc := 65) (lv' := [(0, .ref v0), (1, .ref v1), (3, .int v3), (4, .int v4), (5, .int v5), (6, .int v6), (7, .long x7_12)]) cx dX7_shiftUp_65 (by decide) [1, 2, 3, 4, 5, 6, 0] rfl ?_
      refine p_aload_n (pc := 67) cx dX7_shiftUp_67 rfl 0 rfl ?_
      refine gf_8_0 (pc := 68) cx hv0 t1_45 dX7_shiftUp_68 ?_
      have hr_13 : Is G 12 (mR M11 v0 0) := TYR.at hM11 hv0 0 12 rfl (by decide)
      refine p_iload (pc := 71) cx dX7_shiftUp_71 5 rfl ?_
      refine p_iload_n (pc := 73) cx dX7_shiftUp_73 rfl 2 rfl ?_
      refine p_iadd (pc := 74) cx dX7_shiftUp_74 ?_
      refine p_lload (pc := 75) cx dX7_shiftUp_75 6 rfl ?_
      refine p_iload (pc := 77) cx dX7_shiftUp_77 3 rfl ?_
      refine p_lshl (pc := 79) cx dX7_shiftUp_79 ?_
      refine p_bipush (pc := 80) (v := 32) cx dX7_shiftUp_80 (by decide) ?_
      refine p_lushr (pc := 82) cx dX7_shiftUp_82 ?_
      refine p_l2i (pc := 83) cx dX7_shiftUp_83 ?_
      refine p_iast (pc := 84) cx hr_13 hw.1 dX7_shiftUp_84 ?_
      have hw := hw.2
      refine p_mem (fun M14 eM14 => ?_)
      have hw := hw M14 eM14
      have hM14 : TYR G M14.2.2.1 := by rw [eM14]; exact hM11
      obtain ⟨x6_15, ex6_15⟩ : ∃ y : Int32, y = v6 + (-1) := ⟨_, rfl⟩
      have hw := hw x6_15 ex6_15
      refine p_iinc (pc := 85) (v := x6_15) (lv' := [(0, .ref v0), (1, .ref v1), (3, .int v3), (4, .int v4), (5, .int v5), (6, .int x6_15)]) cx dX7_shiftUp_85 5 rfl (by rw [ex6_15]; rfl) (by decide) [1, 2, 3, 4, 5, 0] rfl ?_
      refine p_goto (pc := 88) (tgt := 42) cx dX7_shiftUp_88 (by decide) ?_
      exact ih v0 v1 v3 v4 v5 x6_15 M14 hM14 hv0 hv1 hw
set_option maxHeartbeats 4000000 in
set_option maxRecDepth 100000 in
theorem c_X7_shiftUp {l : Launch} {D : va_G} {G : SH} (hND : ND G) {a0 : Nat} {a1 : Nat} {a2 : Int32} {M : MS} {Qp : MS → Prop} (hT : TYR G M.2.2.1) (ha0 : Is G 8 a0) (ha1 : Is G 8 a1) (hw : w_X7_shiftUp G a0 a1 a2 M Qp) : MeV l D G yX7_shiftUp (Cond.code yX7_shiftUp cX7_shiftUp 9 none :: GW) rm_X7_shiftUp [.ref a0, .ref a1, .int a2] M Qp := by
  unfold MeV
  refine p_method (by decide) rfl (Nat.le_of_ble_eq_true rfl) hND ?_
  intro p e s m args below meth c cx hr hlk
  have cx : CX p s m args c D G cX7_shiftUp 9 RX7 := cx
  unfold w_X7_shiftUp at hw
  refine p_iload_n (pc := 0) cx dX7_shiftUp_0 rfl 2 rfl ?_
  refine p_iconst (pc := 1) (v := 5) cx dX7_shiftUp_1 (by decide) ?_
  refine p_ishr (pc := 2) cx dX7_shiftUp_2 ?_
  refine p_topi (fun x3_1 ex3_1 => ?_)
  have hw := hw x3_1 ex3_1
  refine p_istore_n (pc := 3) (lv' := [(0, .ref a0), (1, .ref a1), (2, .int a2), (3, .int x3_1)]) cx dX7_shiftUp_3 rfl (by decide) [1, 2, 3, 0] rfl ?_
  refine p_iload_n (pc := 4) cx dX7_shiftUp_4 rfl 2 rfl ?_
  refine p_bipush (pc := 5) (v := 31) cx dX7_shiftUp_5 (by decide) ?_
  refine p_iand (pc := 7) cx dX7_shiftUp_7 ?_
  refine p_topi (fun x4_2 ex4_2 => ?_)
  have hw := hw x4_2 ex4_2
  refine p_istore (pc := 8) (lv' := [(0, .ref a0), (1, .ref a1), (2, .int a2), (3, .int x3_1), (4, .int x4_2)]) cx dX7_shiftUp_8 (by decide) [1, 2, 3, 4, 0] rfl ?_
  refine p_aload_n (pc := 10) cx dX7_shiftUp_10 rfl 1 rfl ?_
  refine gf_8_1 (pc := 11) cx ha1 t1_49 dX7_shiftUp_11 ?_
  refine p_topi (fun x5_3 ex5_3 => ?_)
  have hw := hw x5_3 ex5_3
  refine p_istore (pc := 14) (lv' := [(0, .ref a0), (1, .ref a1), (2, .int a2), (3, .int x3_1), (4, .int x4_2), (5, .int x5_3)]) cx dX7_shiftUp_14 (by decide) [1, 2, 3, 4, 5, 0] rfl ?_
  refine p_iload_n (pc := 16) cx dX7_shiftUp_16 rfl 2 rfl ?_
  refine p_if_lt (pc := 17) (tgt := 32) cx dX7_shiftUp_17 (by decide) (fun hc => ?_) (fun hc => ?_)
  · have hw := hw.1 hc
    refine p_aload_n (pc := 32) cx dX7_shiftUp_32 rfl 0 rfl ?_
    refine p_iconst (pc := 33) (v := 0) cx dX7_shiftUp_33 (by decide) ?_
    refine p_callVv (pc := 34) [.int (0 : Int32)] cx (c_X9_keep cx.2.2.2.2.2.2 hT ha0 hw) cf_X9_keep cv_X9_keep t2_127 ha0 ⟨by decide, rfl, rfl⟩ ⟨rfl, rfl⟩ ⟨Nat.le_of_ble_eq_true rfl, Nat.le_of_ble_eq_true rfl⟩ rfl rfl (Nat.le_of_ble_eq_true rfl) dX7_shiftUp_34 (fun M4 hw hM4 => ?_)
    exact p_vret (pc := 37) cx hr hlk dX7_shiftUp_37 hM4 hw
  · have hw := hw.2 hc
    refine p_iload (pc := 20) cx dX7_shiftUp_20 5 rfl ?_
    refine p_iload_n (pc := 22) cx dX7_shiftUp_22 rfl 3 rfl ?_
    refine p_iadd (pc := 23) cx dX7_shiftUp_23 ?_
    refine p_aload_n (pc := 24) cx dX7_shiftUp_24 rfl 0 rfl ?_
    refine gf_8_0 (pc := 25) cx ha0 t1_45 dX7_shiftUp_25 ?_
    have hr_5 : Is G 12 (mR M a0 0) := TYR.at hT ha0 0 12 rfl (by decide)
    refine p_alenI (pc := 28) cx hr_5 dX7_shiftUp_28 ?_
    refine p_icmp_lt (pc := 29) (tgt := 38) cx dX7_shiftUp_29 (by decide) (fun hc => ?_) (fun hc => ?_)
    · have hw := hw.1 hc
      refine p_iload (pc := 38) cx dX7_shiftUp_38 5 rfl ?_
      refine p_istore (pc := 40) (lv' := [(0, .ref a0), (1, .ref a1), (3, .int x3_1), (4, .int x4_2), (5, .int x5_3), (6, .int x5_3)]) cx dX7_shiftUp_40 (by decide) [1, 2, 4, 5, 6, 0] rfl ?_
      obtain ⟨n1, hw⟩ := hw
      exact x_X7_shiftUp_42 cx hr hlk n1 a0 a1 x3_1 x4_2 x5_3 x5_3 M hT ha0 ha1 hw
    · have hw := hw.2 hc
      refine p_aload_n (pc := 32) cx dX7_shiftUp_32 rfl 0 rfl ?_
      refine p_iconst (pc := 33) (v := 0) cx dX7_shiftUp_33 (by decide) ?_
      refine p_callVv (pc := 34) [.int (0 : Int32)] cx (c_X9_keep cx.2.2.2.2.2.2 hT ha0 hw) cf_X9_keep cv_X9_keep t2_127 ha0 ⟨by decide, rfl, rfl⟩ ⟨rfl, rfl⟩ ⟨Nat.le_of_ble_eq_true rfl, Nat.le_of_ble_eq_true rfl⟩ rfl rfl (Nat.le_of_ble_eq_true rfl) dX7_shiftUp_34 (fun M16 hw hM16 => ?_)
      exact p_vret (pc := 37) cx hr hlk dX7_shiftUp_37 hM16 hw
set_option maxHeartbeats 4000000 in
set_option maxRecDepth 100000 in
theorem x_X7_shiftDown_40 {p : Program} {l : Launch} {e : Env} {s : State} {m : MethodId} {args : Array Value} {below : List Frame} {meth : Method} {c : Code} {D : va_G} {G : SH} {Qp : MS → Prop}  (cx : CX p s m args c D G cX7_shiftDown 6 RX7) (hr : meth.sig.returnType = none) (hlk : meth.locks = false)  : ∀ (n : Nat) (v0 : Nat) (v1 : Nat) (v2 : Int32) (v4 : Int32) (v5 : Int32) (M : MS), TYR G M.2.2.1 → Is G 8 v0 → Is G 8 v1 → w_X7_shiftDown_40 G Qp n v0 v1 v2 v4 v5 M → PW p l e rm_X7_shiftDown s m args below meth c D G 6 (MQ below (va_Qv Qp (POST D G) (AG G)) args s 0 0 (AG G)) 40 [(0, .ref v0), (1, .ref v1), (2, .int v2), (4, .int v4), (5, .int v5)] [] M := by
  intro n
  induction n with
  | zero =>
    intro v0 v1 v2 v4 v5 M hT hv0 hv1 hw
    exact hw.elim
  | succ n ih =>
    intro v0 v1 v2 v4 v5 M hT hv0 hv1 hw
    rw [w_X7_shiftDown_40] at hw
    refine p_iload (pc := 40) cx dX7_shiftDown_40 4 rfl ?_
    refine p_iload (pc := 42) cx dX7_shiftDown_42 3 rfl ?_
    refine p_icmp_ge (pc := 44) (tgt := 72) cx dX7_shiftDown_44 (by decide) (fun hc => ?_) (fun hc => ?_)
    · have hw := hw.1 hc
      refine p_aload_n (pc := 72) cx dX7_shiftDown_72 rfl 0 rfl ?_
      refine p_iload (pc := 73) cx dX7_shiftDown_73 3 rfl ?_
      refine p_callVv (pc := 75) [.int v4] cx (c_X9_keep cx.2.2.2.2.2.2 hT hv0 hw) cf_X9_keep cv_X9_keep t2_127 hv0 ⟨by decide, rfl, rfl⟩ ⟨rfl, rfl⟩ ⟨Nat.le_of_ble_eq_true rfl, Nat.le_of_ble_eq_true rfl⟩ rfl rfl (Nat.le_of_ble_eq_true rfl) dX7_shiftDown_75 (fun M6 hw hM6 => ?_)
      exact p_vret (pc := 78) cx hr hlk dX7_shiftDown_78 hM6 hw
    · have hw := hw.2 hc
      refine p_aload_n (pc := 47) cx dX7_shiftDown_47 rfl 0 rfl ?_
      refine gf_8_0 (pc := 48) cx hv0 t1_45 dX7_shiftDown_48 ?_
      have hr_7 : Is G 12 (mR M v0 0) := TYR.at hT hv0 0 12 rfl (by decide)
      refine p_iload (pc := 51) cx dX7_shiftDown_51 4 rfl ?_
      refine p_aload_n (pc := 53) cx dX7_shiftDown_53 rfl 1 rfl ?_
      refine p_bipush (pc := 54) (v := 32) cx dX7_shiftDown_54 (by decide) ?_
      refine p_iload (pc := 56) cx dX7_shiftDown_56 4 rfl ?_
      refine p_imul (pc := 58) cx dX7_shiftDown_58 ?_
      refine p_iload_n (pc := 59) cx dX7_shiftDown_59 rfl 2 rfl ?_
      refine p_iadd (pc := 60) cx dX7_shiftDown_60 ?_
      refine p_callVl (pc := 61) [.int (((32 : Int32) * v5) + v2)] cx (c_X9_window cx.2.2.2.2.2.2 hT hv1 hw) cf_X9_window cv_X9_window t3_3 hv1 ⟨by decide, rfl, rfl⟩ ⟨rfl, rfl⟩ ⟨Nat.le_of_ble_eq_true rfl, Nat.le_of_ble_eq_true rfl⟩ rfl rfl (Nat.le_of_ble_eq_true rfl) dX7_shiftDown_61 (fun r8 M8 hw hM8 => ?_)
      refine p_l2i (pc := 64) cx dX7_shiftDown_64 ?_
      refine p_iast (pc := 65) cx hr_7 hw.1 dX7_shiftDown_65 ?_
      have hw := hw.2
      refine p_mem (fun M9 eM9 => ?_)
      have hw := hw M9 eM9
      have hM9 : TYR G M9.2.2.1 := by rw [eM9]; exact hM8
      obtain ⟨x5_10, ex5_10⟩ : ∃ y : Int32, y = v5 + 1 := ⟨_, rfl⟩
      have hw := hw x5_10 ex5_10
      refine p_iinc (pc := 66) (v := x5_10) (lv' := [(0, .ref v0), (1, .ref v1), (2, .int v2), (4, .int v4), (5, .int x5_10)]) cx dX7_shiftDown_66 4 rfl (by rw [ex5_10]; rfl) (by decide) [1, 2, 3, 4, 0] rfl ?_
      refine p_goto (pc := 69) (tgt := 40) cx dX7_shiftDown_69 (by decide) ?_
      exact ih v0 v1 v2 v4 x5_10 M9 hM9 hv0 hv1 hw
set_option maxHeartbeats 4000000 in
set_option maxRecDepth 100000 in
theorem c_X7_shiftDown {l : Launch} {D : va_G} {G : SH} (hND : ND G) {a0 : Nat} {a1 : Nat} {a2 : Int32} {M : MS} {Qp : MS → Prop} (hT : TYR G M.2.2.1) (ha0 : Is G 8 a0) (ha1 : Is G 8 a1) (hw : w_X7_shiftDown G a0 a1 a2 M Qp) : MeV l D G yX7_shiftDown (Cond.code yX7_shiftDown cX7_shiftDown 6 none :: GW) rm_X7_shiftDown [.ref a0, .ref a1, .int a2] M Qp := by
  unfold MeV
  refine p_method (by decide) rfl (Nat.le_of_ble_eq_true rfl) hND ?_
  intro p e s m args below meth c cx hr hlk
  have cx : CX p s m args c D G cX7_shiftDown 6 RX7 := cx
  unfold w_X7_shiftDown at hw
  refine p_iload_n (pc := 0) cx dX7_shiftDown_0 rfl 2 rfl ?_
  refine p_iconst (pc := 1) (v := 5) cx dX7_shiftDown_1 (by decide) ?_
  refine p_ishr (pc := 2) cx dX7_shiftDown_2 ?_
  refine p_topi (fun x3_1 ex3_1 => ?_)
  have hw := hw x3_1 ex3_1
  refine p_istore_n (pc := 3) (lv' := [(0, .ref a0), (1, .ref a1), (2, .int a2), (3, .int x3_1)]) cx dX7_shiftDown_3 rfl (by decide) [1, 2, 3, 0] rfl ?_
  refine p_aload_n (pc := 4) cx dX7_shiftDown_4 rfl 1 rfl ?_
  refine gf_8_1 (pc := 5) cx ha1 t1_49 dX7_shiftDown_5 ?_
  refine p_iload_n (pc := 8) cx dX7_shiftDown_8 rfl 3 rfl ?_
  refine p_isub (pc := 9) cx dX7_shiftDown_9 ?_
  refine p_topi (fun x4_2 ex4_2 => ?_)
  have hw := hw x4_2 ex4_2
  refine p_istore (pc := 10) (lv' := [(0, .ref a0), (1, .ref a1), (2, .int a2), (4, .int x4_2)]) cx dX7_shiftDown_10 (by decide) [1, 2, 3, 0] rfl ?_
  refine p_iload_n (pc := 12) cx dX7_shiftDown_12 rfl 2 rfl ?_
  refine p_if_lt (pc := 13) (tgt := 31) cx dX7_shiftDown_13 (by decide) (fun hc => ?_) (fun hc => ?_)
  · have hw := hw.1 hc
    refine p_aload_n (pc := 31) cx dX7_shiftDown_31 rfl 0 rfl ?_
    refine p_iconst (pc := 32) (v := 0) cx dX7_shiftDown_32 (by decide) ?_
    refine p_callVv (pc := 33) [.int (0 : Int32)] cx (c_X9_keep cx.2.2.2.2.2.2 hT ha0 hw) cf_X9_keep cv_X9_keep t2_127 ha0 ⟨by decide, rfl, rfl⟩ ⟨rfl, rfl⟩ ⟨Nat.le_of_ble_eq_true rfl, Nat.le_of_ble_eq_true rfl⟩ rfl rfl (Nat.le_of_ble_eq_true rfl) dX7_shiftDown_33 (fun M3 hw hM3 => ?_)
    exact p_vret (pc := 36) cx hr hlk dX7_shiftDown_36 hM3 hw
  · have hw := hw.2 hc
    refine p_iload (pc := 16) cx dX7_shiftDown_16 3 rfl ?_
    refine p_if_le (pc := 18) (tgt := 31) cx dX7_shiftDown_18 (by decide) (fun hc => ?_) (fun hc => ?_)
    · have hw := hw.1 hc
      refine p_aload_n (pc := 31) cx dX7_shiftDown_31 rfl 0 rfl ?_
      refine p_iconst (pc := 32) (v := 0) cx dX7_shiftDown_32 (by decide) ?_
      refine p_callVv (pc := 33) [.int (0 : Int32)] cx (c_X9_keep cx.2.2.2.2.2.2 hT ha0 hw) cf_X9_keep cv_X9_keep t2_127 ha0 ⟨by decide, rfl, rfl⟩ ⟨rfl, rfl⟩ ⟨Nat.le_of_ble_eq_true rfl, Nat.le_of_ble_eq_true rfl⟩ rfl rfl (Nat.le_of_ble_eq_true rfl) dX7_shiftDown_33 (fun M4 hw hM4 => ?_)
      exact p_vret (pc := 36) cx hr hlk dX7_shiftDown_36 hM4 hw
    · have hw := hw.2 hc
      refine p_iload (pc := 21) cx dX7_shiftDown_21 3 rfl ?_
      refine p_aload_n (pc := 23) cx dX7_shiftDown_23 rfl 0 rfl ?_
      refine gf_8_0 (pc := 24) cx ha0 t1_45 dX7_shiftDown_24 ?_
      have hr_5 : Is G 12 (mR M a0 0) := TYR.at hT ha0 0 12 rfl (by decide)
      refine p_alenI (pc := 27) cx hr_5 dX7_shiftDown_27 ?_
      refine p_icmp_le (pc := 28) (tgt := 37) cx dX7_shiftDown_28 (by decide) (fun hc => ?_) (fun hc => ?_)
      · have hw := hw.1 hc
        refine p_iconst (pc := 37) (v := 0) cx dX7_shiftDown_37 (by decide) ?_
        refine p_istore (pc := 38) (lv' := [(0, .ref a0), (1, .ref a1), (2, .int a2), (4, .int x4_2), (5, .int (0 : Int32))]) cx dX7_shiftDown_38 (by decide) [1, 2, 3, 4, 0] rfl ?_
        obtain ⟨n1, hw⟩ := hw
        exact x_X7_shiftDown_40 cx hr hlk n1 a0 a1 a2 x4_2 0 M hT ha0 ha1 hw
      · have hw := hw.2 hc
        refine p_aload_n (pc := 31) cx dX7_shiftDown_31 rfl 0 rfl ?_
        refine p_iconst (pc := 32) (v := 0) cx dX7_shiftDown_32 (by decide) ?_
        refine p_callVv (pc := 33) [.int (0 : Int32)] cx (c_X9_keep cx.2.2.2.2.2.2 hT ha0 hw) cf_X9_keep cv_X9_keep t2_127 ha0 ⟨by decide, rfl, rfl⟩ ⟨rfl, rfl⟩ ⟨Nat.le_of_ble_eq_true rfl, Nat.le_of_ble_eq_true rfl⟩ rfl rfl (Nat.le_of_ble_eq_true rfl) dX7_shiftDown_33 (fun M11 hw hM11 => ?_)
        exact p_vret (pc := 36) cx hr hlk dX7_shiftDown_36 hM11 hw
set_option maxHeartbeats 4000000 in
set_option maxRecDepth 100000 in
theorem x_X7_difference_26 {p : Program} {l : Launch} {e : Env} {s : State} {m : MethodId} {args : Array Value} {below : List Frame} {meth : Method} {c : Code} {D : va_G} {G : SH} {Qp : MS → Prop}  (cx : CX p s m args c D G cX7_difference 7 RX7) (hr : meth.sig.returnType = none) (hlk : meth.locks = false)  : ∀ (n : Nat) (v0 : Nat) (v1 : Nat) (v2 : Nat) (v3 : Int32) (v4 : Int64) (v6 : Int32) (M : MS), TYR G M.2.2.1 → Is G 8 v0 → Is G 8 v1 → Is G 8 v2 → w_X7_difference_26 G Qp n v0 v1 v2 v3 v4 v6 M → PW p l e rm_X7_difference s m args below meth c D G 7 (MQ below (va_Qv Qp (POST D G) (AG G)) args s 0 0 (AG G)) 26 [(0, .ref v0), (1, .ref v1), (2, .ref v2), (3, .int v3), (4, .long v4), (6, .int v6)] [] M := by
  intro n
  induction n with
  | zero =>
    intro v0 v1 v2 v3 v4 v6 M hT hv0 hv1 hv2 hw
    exact hw.elim
  | succ n ih =>
    intro v0 v1 v2 v3 v4 v6 M hT hv0 hv1 hv2 hw
    rw [w_X7_difference_26] at hw
    refine p_iload (pc := 26) cx dX7_difference_26 5 rfl ?_
    refine p_iload_n (pc := 28) cx dX7_difference_28 rfl 3 rfl ?_
    refine p_icmp_ge (pc := 29) (tgt := 73) cx dX7_difference_29 (by decide) (fun hc => ?_) (fun hc => ?_)
    · have hw := hw.1 hc
      refine p_aload_n (pc := 73) cx dX7_difference_73 rfl 0 rfl ?_
      refine p_iload_n (pc := 74) cx dX7_difference_74 rfl 3 rfl ?_
      refine p_callVv (pc := 75) [.int v3] cx (c_X9_keep cx.2.2.2.2.2.2 hT hv0 hw) cf_X9_keep cv_X9_keep t2_127 hv0 ⟨by decide, rfl, rfl⟩ ⟨rfl, rfl⟩ ⟨Nat.le_of_ble_eq_true rfl, Nat.le_of_ble_eq_true rfl⟩ rfl rfl (Nat.le_of_ble_eq_true rfl) dX7_difference_75 (fun M3 hw hM3 => ?_)
      exact p_vret (pc := 78) cx hr hlk dX7_difference_78 hM3 hw
    · have hw := hw.2 hc
      refine p_lload (pc := 32) cx dX7_difference_32 4 rfl ?_
      refine p_aload_n (pc := 34) cx dX7_difference_34 rfl 1 rfl ?_
      refine p_iload (pc := 35) cx dX7_difference_35 5 rfl ?_
      refine p_callVl (pc := 37) [.int v6] cx (c_X9_limb cx.2.2.2.2.2.2 hT hv1 hw) cf_X9_limb cv_X9_limb t2_128 hv1 ⟨by decide, rfl, rfl⟩ ⟨rfl, rfl⟩ ⟨Nat.le_of_ble_eq_true rfl, Nat.le_of_ble_eq_true rfl⟩ rfl rfl (Nat.le_of_ble_eq_true rfl) dX7_difference_37 (fun r4 M4 hw hM4 => ?_)
      refine p_aload_n (pc := 40) cx dX7_difference_40 rfl 2 rfl ?_
      refine p_iload (pc := 41) cx dX7_difference_41 5 rfl ?_
      refine p_callVl (pc := 43) [.int v6] cx (c_X9_limb cx.2.2.2.2.2.2 hM4 hv2 hw) cf_X9_limb cv_X9_limb t2_128 hv2 ⟨by decide, rfl, rfl⟩ ⟨rfl, rfl⟩ ⟨Nat.le_of_ble_eq_true rfl, Nat.le_of_ble_eq_true rfl⟩ rfl rfl (Nat.le_of_ble_eq_true rfl) dX7_difference_43 (fun r5 M5 hw hM5 => ?_)
      refine p_lsub (pc := 46) cx dX7_difference_46 ?_
      refine p_ladd (pc := 47) cx dX7_difference_47 ?_
      refine p_topl (fun x4_6 ex4_6 => ?_)
      have hw := hw x4_6 ex4_6
      refine p_lstore (pc := 48) (lv' := [(0, .ref v0), (1, .ref v1), (2, .ref v2), (3, .int v3), (4, .long x4_6), (6, .int v6)]) cx dX7_difference_48 (by decide) [1, 2, 3, 4, 0, 5] rfl ?_
      refine p_aload_n (pc := 50) cx dX7_difference_50 rfl 0 rfl ?_
      refine gf_8_0 (pc := 51) cx hv0 t1_45 dX7_difference_51 ?_
      have hr_7 : Is G 12 (mR M5 v0 0) := TYR.at hM5 hv0 0 12 rfl (by decide)
      refine p_iload (pc := 54) cx dX7_difference_54 5 rfl ?_
      refine p_lload (pc := 56) cx dX7_difference_56 4 rfl ?_
      refine p_l2i (pc := 58) cx dX7_difference_58 ?_
      refine p_iast (pc := 59) cx hr_7 hw.1 dX7_difference_59 ?_
      have hw := hw.2
      refine p_mem (fun M8 eM8 => ?_)
      have hw := hw M8 eM8
      have hM8 : TYR G M8.2.2.1 := by rw [eM8]; exact hM5
      refine p_lload (pc := 60) cx dX7_difference_60 4 rfl ?_
      refine p_bipush (pc := 62) (v := 32) cx dX7_difference_62 (by decide) ?_
      refine p_lshr (pc := 64) cx dX7_difference_64 ?_
      refine p_topl (fun x4_9 ex4_9 => ?_)
      have hw := hw x4_9 ex4_9
      refine p_lstore (pc := 65) (lv' := [(0, .ref v0), (1, .ref v1), (2, .ref v2), (3, .int v3), (4, .long x4_9), (6, .int v6)]) cx dX7_difference_65 (by decide) [1, 2, 3, 4, 0, 5] rfl ?_
      obtain ⟨x6_10, ex6_10⟩ : ∃ y : Int32, y = v6 + 1 := ⟨_, rfl⟩
      have hw := hw x6_10 ex6_10
      refine p_iinc (pc := 67) (v := x6_10) (lv' := [(0, .ref v0), (1, .ref v1), (2, .ref v2), (3, .int v3), (4, .long x4_9), (6, .int x6_10)]) cx dX7_difference_67 5 rfl (by rw [ex6_10]; rfl) (by decide) [1, 2, 3, 4, 5, 0] rfl ?_
      refine p_goto (pc := 70) (tgt := 26) cx dX7_difference_70 (by decide) ?_
      exact ih v0 v1 v2 v3 x4_9 x6_10 M8 hM8 hv0 hv1 hv2 hw
set_option maxHeartbeats 4000000 in
set_option maxRecDepth 100000 in
theorem c_X7_difference {l : Launch} {D : va_G} {G : SH} (hND : ND G) {a0 : Nat} {a1 : Nat} {a2 : Nat} {M : MS} {Qp : MS → Prop} (hT : TYR G M.2.2.1) (ha0 : Is G 8 a0) (ha1 : Is G 8 a1) (ha2 : Is G 8 a2) (hw : w_X7_difference G a0 a1 a2 M Qp) : MeV l D G yX7_difference (Cond.code yX7_difference cX7_difference 7 none :: GW) rm_X7_difference [.ref a0, .ref a1, .ref a2] M Qp := by
  unfold MeV
  refine p_method (by decide) rfl (Nat.le_of_ble_eq_true rfl) hND ?_
  intro p e s m args below meth c cx hr hlk
  have cx : CX p s m args c D G cX7_difference 7 RX7 := cx
  unfold w_X7_difference at hw
  refine p_aload_n (pc := 0) cx dX7_difference_0 rfl 1 rfl ?_
  refine gf_8_1 (pc := 1) cx ha1 t1_49 dX7_difference_1 ?_
  refine p_topi (fun x3_1 ex3_1 => ?_)
  have hw := hw x3_1 ex3_1
  refine p_istore_n (pc := 4) (lv' := [(0, .ref a0), (1, .ref a1), (2, .ref a2), (3, .int x3_1)]) cx dX7_difference_4 rfl (by decide) [1, 2, 3, 0] rfl ?_
  refine p_iload_n (pc := 5) cx dX7_difference_5 rfl 3 rfl ?_
  refine p_aload_n (pc := 6) cx dX7_difference_6 rfl 0 rfl ?_
  refine gf_8_0 (pc := 7) cx ha0 t1_45 dX7_difference_7 ?_
  have hr_2 : Is G 12 (mR M a0 0) := TYR.at hT ha0 0 12 rfl (by decide)
  refine p_alenI (pc := 10) cx hr_2 dX7_difference_10 ?_
  refine p_icmp_le (pc := 11) (tgt := 20) cx dX7_difference_11 (by decide) (fun hc => ?_) (fun hc => ?_)
  · have hw := hw.1 hc
    refine p_lconst (pc := 20) (v := 0) cx dX7_difference_20 (by decide) ?_
    refine p_lstore (pc := 21) (lv' := [(0, .ref a0), (1, .ref a1), (2, .ref a2), (3, .int x3_1), (4, .long (0 : Int64))]) cx dX7_difference_21 (by decide) [1, 2, 3, 4, 0] rfl ?_
    refine p_iconst (pc := 23) (v := 0) cx dX7_difference_23 (by decide) ?_
    refine p_istore (pc := 24) (lv' := [(0, .ref a0), (1, .ref a1), (2, .ref a2), (3, .int x3_1), (4, .long (0 : Int64)), (6, .int (0 : Int32))]) cx dX7_difference_24 (by decide) [1, 2, 3, 4, 5, 0] rfl ?_
    obtain ⟨n1, hw⟩ := hw
    exact x_X7_difference_26 cx hr hlk n1 a0 a1 a2 x3_1 0 0 M hT ha0 ha1 ha2 hw
  · have hw := hw.2 hc
    refine p_aload_n (pc := 14) cx dX7_difference_14 rfl 0 rfl ?_
    refine p_iconst (pc := 15) (v := 0) cx dX7_difference_15 (by decide) ?_
    refine p_callVv (pc := 16) [.int (0 : Int32)] cx (c_X9_keep cx.2.2.2.2.2.2 hT ha0 hw) cf_X9_keep cv_X9_keep t2_127 ha0 ⟨by decide, rfl, rfl⟩ ⟨rfl, rfl⟩ ⟨Nat.le_of_ble_eq_true rfl, Nat.le_of_ble_eq_true rfl⟩ rfl rfl (Nat.le_of_ble_eq_true rfl) dX7_difference_16 (fun M11 hw hM11 => ?_)
    exact p_vret (pc := 19) cx hr hlk dX7_difference_19 hM11 hw
set_option maxHeartbeats 4000000 in
set_option maxRecDepth 100000 in
theorem x_X7_product_82 {p : Program} {l : Launch} {e : Env} {s : State} {m : MethodId} {args : Array Value} {below : List Frame} {meth : Method} {c : Code} {D : va_G} {G : SH} {Qp : MS → Prop} {K53 : Nat → Nat → Nat → Nat → Int32 → Int32 → MS → Prop} (cx : CX p s m args c D G cX7_product 11 RX7) (hr : meth.sig.returnType = none) (hlk : meth.locks = false) (hK53 : ∀ (v0 : Nat) (v1 : Nat) (v2 : Nat) (v3 : Nat) (v4 : Int32) (v5 : Int32) (M : MS), TYR G M.2.2.1 → Is G 8 v0 → Is G 8 v1 → Is G 8 v2 → Is G 12 v3 → K53 v0 v1 v2 v3 v4 v5 M → PW p l e rm_X7_product s m args below meth c D G 11 (MQ below (va_Qv Qp (POST D G) (AG G)) args s 0 0 (AG G)) 53 [(0, .ref v0), (1, .ref v1), (2, .ref v2), (3, .ref v3), (4, .int v4), (5, .int v5)] [] M) : ∀ (n : Nat) (v0 : Nat) (v1 : Nat) (v2 : Nat) (v3 : Nat) (v4 : Int32) (v5 : Int32) (v6 : Int64) (v8 : Int64) (v10 : Int32) (M : MS), TYR G M.2.2.1 → Is G 8 v0 → Is G 8 v1 → Is G 8 v2 → Is G 12 v3 → w_X7_product_82 G K53 Qp n v0 v1 v2 v3 v4 v5 v6 v8 v10 M → PW p l e rm_X7_product s m args below meth c D G 11 (MQ below (va_Qv Qp (POST D G) (AG G)) args s 0 0 (AG G)) 82 [(0, .ref v0), (1, .ref v1), (2, .ref v2), (3, .ref v3), (4, .int v4), (5, .int v5), (6, .long v6), (8, .long v8), (10, .int v10)] [] M := by
  intro n
  induction n with
  | zero =>
    intro v0 v1 v2 v3 v4 v5 v6 v8 v10 M hT hv0 hv1 hv2 hv3 hw
    exact hw.elim
  | succ n ih =>
    intro v0 v1 v2 v3 v4 v5 v6 v8 v10 M hT hv0 hv1 hv2 hv3 hw
    rw [w_X7_product_82] at hw
    refine p_iload (pc := 82) cx dX7_product_82 8 rfl ?_
    refine p_iload (pc := 84) cx dX7_product_84 4 rfl ?_
    refine p_icmp_ge (pc := 86) (tgt := 145) cx dX7_product_86 (by decide) (fun hc => ?_) (fun hc => ?_)
    · have hw := hw.1 hc
      refine p_aload_n (pc := 145) cx dX7_product_145 rfl 3 rfl ?_
      refine p_iload (pc := 146) cx dX7_product_146 5 rfl ?_
      refine p_iload (pc := 148) cx dX7_product_148 4 rfl ?_
      refine p_iadd (pc := 150) cx dX7_product_150 ?_
      refine p_lload (pc := 151) cx dX7_product_151 7 rfl ?_
      refine p_l2i (pc := 153) cx dX7_product_153 ?_
      refine p_iast (pc := 154) cx hv3 hw.1 dX7_product_154 ?_
      have hw := hw.2
      refine p_mem (fun M6 eM6 => ?_)
      have hw := hw M6 eM6
      have hM6 : TYR G M6.2.2.1 := by rw [eM6]; exact hT
      obtain ⟨x5_7, ex5_7⟩ : ∃ y : Int32, y = v5 + 1 := ⟨_, rfl⟩
      have hw := hw x5_7 ex5_7
      refine p_iinc (pc := 155) (v := x5_7) (lv' := [(0, .ref v0), (1, .ref v1), (2, .ref v2), (3, .ref v3), (4, .int v4), (5, .int x5_7)]) cx dX7_product_155 5 rfl (by rw [ex5_7]; rfl) (by decide) [1, 2, 3, 4, 5, 0] rfl ?_
      refine p_goto (pc := 158) (tgt := 53) cx dX7_product_158 (by decide) ?_
      exact hK53 v0 v1 v2 v3 v4 x5_7 M6 hM6 hv0 hv1 hv2 hv3 hw
    · have hw := hw.2 hc
      refine p_lload (pc := 89) cx dX7_product_89 7 rfl ?_
      refine p_lload (pc := 91) cx dX7_product_91 6 rfl ?_
      refine p_aload_n (pc := 93) cx dX7_product_93 rfl 2 rfl ?_
      refine gf_8_0 (pc := 94) cx hv2 t1_45 dX7_product_94 ?_
      have hr_8 : Is G 12 (mR M v2 0) := TYR.at hT hv2 0 12 rfl (by decide)
      refine p_iload (pc := 97) cx dX7_product_97 8 rfl ?_
      refine p_iald (pc := 99) cx hr_8 hw.1 dX7_product_99 ?_
      have hw := hw.2
      refine p_i2l (pc := 100) cx dX7_product_100 ?_
      refine p_ldc2 (pc := 101) cx dX7_product_101 t2_194 ?_
      refine p_land (pc := 104) cx dX7_product_104 ?_
      refine p_lmul (pc := 105) cx dX7_product_105 ?_
      refine p_aload_n (pc := 106) cx dX7_product_106 rfl 3 rfl ?_
      refine p_iload (pc := 107) cx dX7_product_107 5 rfl ?_
      refine p_iload (pc := 109) cx dX7_product_109 8 rfl ?_
      refine p_iadd (pc := 111) cx dX7_product_111 ?_
      refine p_iald (pc := 112) cx hv3 hw.1 dX7_product_112 ?_
      have hw := hw.2
      refine p_i2l (pc := 113) cx dX7_product_113 ?_
      refine p_ldc2 (pc := 114) cx dX7_product_114 t2_194 ?_
      refine p_land (pc := 117) cx dX7_product_117 ?_
      refine p_ladd (pc := 118) cx dX7_product_118 ?_
      refine p_ladd (pc := 119) cx dX7_product_119 ?_
      refine p_topl (fun x8_9 ex8_9 => ?_)
      have hw := hw x8_9 ex8_9
      refine p_lstore (pc := 120) (lv' := [(0, .ref v0), (1, .ref v1), (2, .ref v2), (3, .ref v3), (4, .int v4), (5, .int v5), (6, .long v6), (8, .long x8_9), (10, .int v10)]) cx dX7_product_120 (by decide) [1, 2, 3, 4, 5, 6, 7, 0, 8] rfl ?_
      refine p_aload_n (pc := 122) cx dX7_product_122 rfl 3 rfl ?_
      refine p_iload (pc := 123) cx dX7_product_123 5 rfl ?_
      refine p_iload (pc := 125) cx dX7_product_125 8 rfl ?_
      refine p_iadd (pc := 127) cx dX7_product_127 ?_
      refine p_lload (pc := 128) cx dX7_product_128 7 rfl ?_
      refine p_l2i (pc := 130) cx dX7_product_130 ?_
      refine p_iast (pc := 131) cx hv3 hw.1 dX7_product_131 ?_
      have hw := hw.2
      refine p_mem (fun M10 eM10 => ?_)
      have hw := hw M10 eM10
      have hM10 : TYR G M10.2.2.1 := by rw [eM10]; exact hT
      refine p_lload (pc := 132) cx dX7_product_132 7 rfl ?_
      refine p_bipush (pc := 134) (v := 32) cx dX7_product_134 (by decide) ?_
      refine p_lushr (pc := 136) cx dX7_product_136 ?_
      refine p_topl (fun x8_11 ex8_11 => ?_)
      have hw := hw x8_11 ex8_11
      refine p_lstore (pc := 137) (lv' := [(0, .ref v0), (1, .ref v1), (2, .ref v2), (3, .ref v3), (4, .int v4), (5, .int v5), (6, .long v6), (8, .long x8_11), (10, .int v10)]) cx dX7_product_137 (by decide) [1, 2, 3, 4, 5, 6, 7, 0, 8] rfl ?_
      obtain ⟨x10_12, ex10_12⟩ : ∃ y : Int32, y = v10 + 1 := ⟨_, rfl⟩
      have hw := hw x10_12 ex10_12
      refine p_iinc (pc := 139) (v := x10_12) (lv' := [(0, .ref v0), (1, .ref v1), (2, .ref v2), (3, .ref v3), (4, .int v4), (5, .int v5), (6, .long v6), (8, .long x8_11), (10, .int x10_12)]) cx dX7_product_139 8 rfl (by rw [ex10_12]; rfl) (by decide) [1, 2, 3, 4, 5, 6, 7, 8, 0] rfl ?_
      refine p_goto (pc := 142) (tgt := 82) cx dX7_product_142 (by decide) ?_
      exact ih v0 v1 v2 v3 v4 v5 v6 x8_11 x10_12 M10 hM10 hv0 hv1 hv2 hv3 hw
set_option maxHeartbeats 4000000 in
set_option maxRecDepth 100000 in
theorem x_X7_product_53 {p : Program} {l : Launch} {e : Env} {s : State} {m : MethodId} {args : Array Value} {below : List Frame} {meth : Method} {c : Code} {D : va_G} {G : SH} {Qp : MS → Prop}  (cx : CX p s m args c D G cX7_product 11 RX7) (hr : meth.sig.returnType = none) (hlk : meth.locks = false)  : ∀ (n : Nat) (v0 : Nat) (v1 : Nat) (v2 : Nat) (v3 : Nat) (v4 : Int32) (v5 : Int32) (M : MS), TYR G M.2.2.1 → Is G 8 v0 → Is G 8 v1 → Is G 8 v2 → Is G 12 v3 → w_X7_product_53 G Qp n v0 v1 v2 v3 v4 v5 M → PW p l e rm_X7_product s m args below meth c D G 11 (MQ below (va_Qv Qp (POST D G) (AG G)) args s 0 0 (AG G)) 53 [(0, .ref v0), (1, .ref v1), (2, .ref v2), (3, .ref v3), (4, .int v4), (5, .int v5)] [] M := by
  intro n
  induction n with
  | zero =>
    intro v0 v1 v2 v3 v4 v5 M hT hv0 hv1 hv2 hv3 hw
    exact hw.elim
  | succ n ih =>
    intro v0 v1 v2 v3 v4 v5 M hT hv0 hv1 hv2 hv3 hw
    rw [w_X7_product_53] at hw
    refine p_iload (pc := 53) cx dX7_product_53 5 rfl ?_
    refine p_aload_n (pc := 55) cx dX7_product_55 rfl 1 rfl ?_
    refine gf_8_1 (pc := 56) cx hv1 t1_49 dX7_product_56 ?_
    refine p_icmp_ge (pc := 59) (tgt := 161) cx dX7_product_59 (by decide) (fun hc => ?_) (fun hc => ?_)
    · have hw := hw.1 hc
      refine p_aload_n (pc := 161) cx dX7_product_161 rfl 0 rfl ?_
      refine p_aload_n (pc := 162) cx dX7_product_162 rfl 1 rfl ?_
      refine gf_8_1 (pc := 163) cx hv1 t1_49 dX7_product_163 ?_
      refine p_iload (pc := 166) cx dX7_product_166 4 rfl ?_
      refine p_iadd (pc := 168) cx dX7_product_168 ?_
      refine p_callVv (pc := 169) [.int ((mI M v1 1) + v4)] cx (c_X9_keep cx.2.2.2.2.2.2 hT hv0 hw) cf_X9_keep cv_X9_keep t2_127 hv0 ⟨by decide, rfl, rfl⟩ ⟨rfl, rfl⟩ ⟨Nat.le_of_ble_eq_true rfl, Nat.le_of_ble_eq_true rfl⟩ rfl rfl (Nat.le_of_ble_eq_true rfl) dX7_product_169 (fun M3 hw hM3 => ?_)
      exact p_vret (pc := 172) cx hr hlk dX7_product_172 hM3 hw
    · have hw := hw.2 hc
      refine p_aload_n (pc := 62) cx dX7_product_62 rfl 1 rfl ?_
      refine gf_8_0 (pc := 63) cx hv1 t1_45 dX7_product_63 ?_
      have hr_4 : Is G 12 (mR M v1 0) := TYR.at hT hv1 0 12 rfl (by decide)
      refine p_iload (pc := 66) cx dX7_product_66 5 rfl ?_
      refine p_iald (pc := 68) cx hr_4 hw.1 dX7_product_68 ?_
      have hw := hw.2
      refine p_i2l (pc := 69) cx dX7_product_69 ?_
      refine p_ldc2 (pc := 70) cx dX7_product_70 t2_194 ?_
      refine p_land (pc := 73) cx dX7_product_73 ?_
      refine p_topl (fun x6_5 ex6_5 => ?_)
      have hw := hw x6_5 ex6_5
      refine p_lstore (pc := 74) (lv' := [(0, .ref v0), (1, .ref v1), (2, .ref v2), (3, .ref v3), (4, .int v4), (5, .int v5), (6, .long x6_5)]) cx dX7_product_74 (by decide) [1, 2, 3, 4, 5, 6, 0] rfl ?_
      refine p_lconst (pc := 76) (v := 0) cx dX7_product_76 (by decide) ?_
      refine p_lstore (pc := 77) (lv' := [(0, .ref v0), (1, .ref v1), (2, .ref v2), (3, .ref v3), (4, .int v4), (5, .int v5), (6, .long x6_5), (8, .long (0 : Int64))]) cx dX7_product_77 (by decide) [1, 2, 3, 4, 5, 6, 7, 0] rfl ?_
      refine p_iconst (pc := 79) (v := 0) cx dX7_product_79 (by decide) ?_
      refine p_istore (pc := 80) (lv' := [(0, .ref v0), (1, .ref v1), (2, .ref v2), (3, .ref v3), (4, .int v4), (5, .int v5), (6, .long x6_5), (8, .long (0 : Int64)), (10, .int (0 : Int32))]) cx dX7_product_80 (by decide) [1, 2, 3, 4, 5, 6, 7, 8, 0] rfl ?_
      obtain ⟨n1, hw⟩ := hw
      exact x_X7_product_82 cx hr hlk ih n1 v0 v1 v2 v3 v4 v5 x6_5 0 0 M hT hv0 hv1 hv2 hv3 hw
set_option maxHeartbeats 4000000 in
set_option maxRecDepth 100000 in
theorem x_X7_product_32 {p : Program} {l : Launch} {e : Env} {s : State} {m : MethodId} {args : Array Value} {below : List Frame} {meth : Method} {c : Code} {D : va_G} {G : SH} {Qp : MS → Prop}  (cx : CX p s m args c D G cX7_product 11 RX7) (hr : meth.sig.returnType = none) (hlk : meth.locks = false)  : ∀ (n : Nat) (v0 : Nat) (v1 : Nat) (v2 : Nat) (v3 : Nat) (v4 : Int32) (v5 : Int32) (M : MS), TYR G M.2.2.1 → Is G 8 v0 → Is G 8 v1 → Is G 8 v2 → Is G 12 v3 → w_X7_product_32 G Qp n v0 v1 v2 v3 v4 v5 M → PW p l e rm_X7_product s m args below meth c D G 11 (MQ below (va_Qv Qp (POST D G) (AG G)) args s 0 0 (AG G)) 32 [(0, .ref v0), (1, .ref v1), (2, .ref v2), (3, .ref v3), (4, .int v4), (5, .int v5)] [] M := by
  intro n
  induction n with
  | zero =>
    intro v0 v1 v2 v3 v4 v5 M hT hv0 hv1 hv2 hv3 hw
    exact hw.elim
  | succ n ih =>
    intro v0 v1 v2 v3 v4 v5 M hT hv0 hv1 hv2 hv3 hw
    rw [w_X7_product_32] at hw
    refine p_iload (pc := 32) cx dX7_product_32 5 rfl ?_
    refine p_iload (pc := 34) cx dX7_product_34 4 rfl ?_
    refine p_icmp_ge (pc := 36) (tgt := 50) cx dX7_product_36 (by decide) (fun hc => ?_) (fun hc => ?_)
    · have hw := hw.1 hc
      refine p_iconst (pc := 50) (v := 0) cx dX7_product_50 (by decide) ?_
      refine p_istore (pc := 51) (lv' := [(0, .ref v0), (1, .ref v1), (2, .ref v2), (3, .ref v3), (4, .int v4), (5, .int (0 : Int32))]) cx dX7_product_51 (by decide) [1, 2, 3, 4, 5, 0] rfl ?_
      obtain ⟨n1, hw⟩ := hw
      exact x_X7_product_53 cx hr hlk n1 v0 v1 v2 v3 v4 0 M hT hv0 hv1 hv2 hv3 hw
    · have hw := hw.2 hc
      refine p_aload_n (pc := 39) cx dX7_product_39 rfl 3 rfl ?_
      refine p_iload (pc := 40) cx dX7_product_40 5 rfl ?_
      refine p_iconst (pc := 42) (v := 0) cx dX7_product_42 (by decide) ?_
      refine p_iast (pc := 43) cx hv3 hw.1 dX7_product_43 ?_
      have hw := hw.2
      refine p_mem (fun M13 eM13 => ?_)
      have hw := hw M13 eM13
      have hM13 : TYR G M13.2.2.1 := by rw [eM13]; exact hT
      obtain ⟨x5_14, ex5_14⟩ : ∃ y : Int32, y = v5 + 1 := ⟨_, rfl⟩
      have hw := hw x5_14 ex5_14
      refine p_iinc (pc := 44) (v := x5_14) (lv' := [(0, .ref v0), (1, .ref v1), (2, .ref v2), (3, .ref v3), (4, .int v4), (5, .int x5_14)]) cx dX7_product_44 5 rfl (by rw [ex5_14]; rfl) (by decide) [1, 2, 3, 4, 5, 0] rfl ?_
      refine p_goto (pc := 47) (tgt := 32) cx dX7_product_47 (by decide) ?_
      exact ih v0 v1 v2 v3 v4 x5_14 M13 hM13 hv0 hv1 hv2 hv3 hw
set_option maxHeartbeats 4000000 in
set_option maxRecDepth 100000 in
theorem c_X7_product {l : Launch} {D : va_G} {G : SH} (hND : ND G) {a0 : Nat} {a1 : Nat} {a2 : Nat} {M : MS} {Qp : MS → Prop} (hT : TYR G M.2.2.1) (ha0 : Is G 8 a0) (ha1 : Is G 8 a1) (ha2 : Is G 8 a2) (hw : w_X7_product G a0 a1 a2 M Qp) : MeV l D G yX7_product (Cond.code yX7_product cX7_product 11 none :: GW) rm_X7_product [.ref a0, .ref a1, .ref a2] M Qp := by
  unfold MeV
  refine p_method (by decide) rfl (Nat.le_of_ble_eq_true rfl) hND ?_
  intro p e s m args below meth c cx hr hlk
  have cx : CX p s m args c D G cX7_product 11 RX7 := cx
  unfold w_X7_product at hw
  refine p_aload_n (pc := 0) cx dX7_product_0 rfl 0 rfl ?_
  refine gf_8_0 (pc := 1) cx ha0 t1_45 dX7_product_1 ?_
  have hr_1 : Is G 12 (mR M a0 0) := TYR.at hT ha0 0 12 rfl (by decide)
  refine p_astore_n (pc := 4) (lv' := [(0, .ref a0), (1, .ref a1), (2, .ref a2), (3, .ref (mR M a0 0))]) cx dX7_product_4 rfl (by decide) [1, 2, 3, 0] rfl ?_
  refine p_aload_n (pc := 5) cx dX7_product_5 rfl 2 rfl ?_
  refine gf_8_1 (pc := 6) cx ha2 t1_49 dX7_product_6 ?_
  refine p_topi (fun x4_2 ex4_2 => ?_)
  have hw := hw x4_2 ex4_2
  refine p_istore (pc := 9) (lv' := [(0, .ref a0), (1, .ref a1), (2, .ref a2), (3, .ref (mR M a0 0)), (4, .int x4_2)]) cx dX7_product_9 (by decide) [1, 2, 3, 4, 0] rfl ?_
  refine p_aload_n (pc := 11) cx dX7_product_11 rfl 1 rfl ?_
  refine gf_8_1 (pc := 12) cx ha1 t1_49 dX7_product_12 ?_
  refine p_iload (pc := 15) cx dX7_product_15 4 rfl ?_
  refine p_iadd (pc := 17) cx dX7_product_17 ?_
  refine p_aload_n (pc := 18) cx dX7_product_18 rfl 3 rfl ?_
  refine p_alenI (pc := 19) cx hr_1 dX7_product_19 ?_
  refine p_icmp_le (pc := 20) (tgt := 29) cx dX7_product_20 (by decide) (fun hc => ?_) (fun hc => ?_)
  · have hw := hw.1 hc
    refine p_iconst (pc := 29) (v := 0) cx dX7_product_29 (by decide) ?_
    refine p_istore (pc := 30) (lv' := [(0, .ref a0), (1, .ref a1), (2, .ref a2), (3, .ref (mR M a0 0)), (4, .int x4_2), (5, .int (0 : Int32))]) cx dX7_product_30 (by decide) [1, 2, 3, 4, 5, 0] rfl ?_
    obtain ⟨n1, hw⟩ := hw
    exact x_X7_product_32 cx hr hlk n1 a0 a1 a2 (mR M a0 0) x4_2 0 M hT ha0 ha1 ha2 hr_1 hw
  · have hw := hw.2 hc
    refine p_aload_n (pc := 23) cx dX7_product_23 rfl 0 rfl ?_
    refine p_iconst (pc := 24) (v := 0) cx dX7_product_24 (by decide) ?_
    refine p_callVv (pc := 25) [.int (0 : Int32)] cx (c_X9_keep cx.2.2.2.2.2.2 hT ha0 hw) cf_X9_keep cv_X9_keep t2_127 ha0 ⟨by decide, rfl, rfl⟩ ⟨rfl, rfl⟩ ⟨Nat.le_of_ble_eq_true rfl, Nat.le_of_ble_eq_true rfl⟩ rfl rfl (Nat.le_of_ble_eq_true rfl) dX7_product_25 (fun M15 hw hM15 => ?_)
    exact p_vret (pc := 28) cx hr hlk dX7_product_28 hM15 hw
set_option maxHeartbeats 4000000 in
set_option maxRecDepth 100000 in
theorem x_X7_sum_33 {p : Program} {l : Launch} {e : Env} {s : State} {m : MethodId} {args : Array Value} {below : List Frame} {meth : Method} {c : Code} {D : va_G} {G : SH} {Qp : MS → Prop}  (cx : CX p s m args c D G cX7_sum 7 RX7) (hr : meth.sig.returnType = none) (hlk : meth.locks = false)  : ∀ (n : Nat) (v0 : Nat) (v1 : Nat) (v2 : Nat) (v3 : Int32) (v4 : Int64) (v6 : Int32) (M : MS), TYR G M.2.2.1 → Is G 8 v0 → Is G 8 v1 → Is G 8 v2 → w_X7_sum_33 G Qp n v0 v1 v2 v3 v4 v6 M → PW p l e rm_X7_sum s m args below meth c D G 7 (MQ below (va_Qv Qp (POST D G) (AG G)) args s 0 0 (AG G)) 33 [(0, .ref v0), (1, .ref v1), (2, .ref v2), (3, .int v3), (4, .long v4), (6, .int v6)] [] M := by
  intro n
  induction n with
  | zero =>
    intro v0 v1 v2 v3 v4 v6 M hT hv0 hv1 hv2 hw
    exact hw.elim
  | succ n ih =>
    intro v0 v1 v2 v3 v4 v6 M hT hv0 hv1 hv2 hw
    rw [w_X7_sum_33] at hw
    refine p_iload (pc := 33) cx dX7_sum_33 5 rfl ?_
    refine p_iload_n (pc := 35) cx dX7_sum_35 rfl 3 rfl ?_
    refine p_icmp_ge (pc := 36) (tgt := 80) cx dX7_sum_36 (by decide) (fun hc => ?_) (fun hc => ?_)
    · have hw := hw.1 hc
      refine p_aload_n (pc := 80) cx dX7_sum_80 rfl 0 rfl ?_
      refine gf_8_0 (pc := 81) cx hv0 t1_45 dX7_sum_81 ?_
      have hr_3 : Is G 12 (mR M v0 0) := TYR.at hT hv0 0 12 rfl (by decide)
      refine p_iload_n (pc := 84) cx dX7_sum_84 rfl 3 rfl ?_
      refine p_lload (pc := 85) cx dX7_sum_85 4 rfl ?_
      refine p_l2i (pc := 87) cx dX7_sum_87 ?_
      refine p_iast (pc := 88) cx hr_3 hw.1 dX7_sum_88 ?_
      have hw := hw.2
      refine p_mem (fun M4 eM4 => ?_)
      have hw := hw M4 eM4
      have hM4 : TYR G M4.2.2.1 := by rw [eM4]; exact hT
      refine p_aload_n (pc := 89) cx dX7_sum_89 rfl 0 rfl ?_
      refine p_iload_n (pc := 90) cx dX7_sum_90 rfl 3 rfl ?_
      refine p_iconst (pc := 91) (v := 1) cx dX7_sum_91 (by decide) ?_
      refine p_iadd (pc := 92) cx dX7_sum_92 ?_
      refine p_callVv (pc := 93) [.int (v3 + 1)] cx (c_X9_keep cx.2.2.2.2.2.2 hM4 hv0 hw) cf_X9_keep cv_X9_keep t2_127 hv0 ⟨by decide, rfl, rfl⟩ ⟨rfl, rfl⟩ ⟨Nat.le_of_ble_eq_true rfl, Nat.le_of_ble_eq_true rfl⟩ rfl rfl (Nat.le_of_ble_eq_true rfl) dX7_sum_93 (fun M5 hw hM5 => ?_)
      exact p_vret (pc := 96) cx hr hlk dX7_sum_96 hM5 hw
    · have hw := hw.2 hc
      refine p_lload (pc := 39) cx dX7_sum_39 4 rfl ?_
      refine p_aload_n (pc := 41) cx dX7_sum_41 rfl 1 rfl ?_
      refine p_iload (pc := 42) cx dX7_sum_42 5 rfl ?_
      refine p_callVl (pc := 44) [.int v6] cx (c_X9_limb cx.2.2.2.2.2.2 hT hv1 hw) cf_X9_limb cv_X9_limb t2_128 hv1 ⟨by decide, rfl, rfl⟩ ⟨rfl, rfl⟩ ⟨Nat.le_of_ble_eq_true rfl, Nat.le_of_ble_eq_true rfl⟩ rfl rfl (Nat.le_of_ble_eq_true rfl) dX7_sum_44 (fun r6 M6 hw hM6 => ?_)
      refine p_aload_n (pc := 47) cx dX7_sum_47 rfl 2 rfl ?_
      refine p_iload (pc := 48) cx dX7_sum_48 5 rfl ?_
      refine p_callVl (pc := 50) [.int v6] cx (c_X9_limb cx.2.2.2.2.2.2 hM6 hv2 hw) cf_X9_limb cv_X9_limb t2_128 hv2 ⟨by decide, rfl, rfl⟩ ⟨rfl, rfl⟩ ⟨Nat.le_of_ble_eq_true rfl, Nat.le_of_ble_eq_true rfl⟩ rfl rfl (Nat.le_of_ble_eq_true rfl) dX7_sum_50 (fun r7 M7 hw hM7 => ?_)
      refine p_ladd (pc := 53) cx dX7_sum_53 ?_
      refine p_ladd (pc := 54) cx dX7_sum_54 ?_
      refine p_topl (fun x4_8 ex4_8 => ?_)
      have hw := hw x4_8 ex4_8
      refine p_lstore (pc := 55) (lv' := [(0, .ref v0), (1, .ref v1), (2, .ref v2), (3, .int v3), (4, .long x4_8), (6, .int v6)]) cx dX7_sum_55 (by decide) [1, 2, 3, 4, 0, 5] rfl ?_
      refine p_aload_n (pc := 57) cx dX7_sum_57 rfl 0 rfl ?_
      refine gf_8_0 (pc := 58) cx hv0 t1_45 dX7_sum_58 ?_
      have hr_9 : Is G 12 (mR M7 v0 0) := TYR.at hM7 hv0 0 12 rfl (by decide)
      refine p_iload (pc := 61) cx dX7_sum_61 5 rfl ?_
      refine p_lload (pc := 63) cx dX7_sum_63 4 rfl ?_
      refine p_l2i (pc := 65) cx dX7_sum_65 ?_
      refine p_iast (pc := 66) cx hr_9 hw.1 dX7_sum_66 ?_
      have hw := hw.2
      refine p_mem (fun M10 eM10 => ?_)
      have hw := hw M10 eM10
      have hM10 : TYR G M10.2.2.1 := by rw [eM10]; exact hM7
      refine p_lload (pc := 67) cx dX7_sum_67 4 rfl ?_
      refine p_bipush (pc := 69) (v := 32) cx dX7_sum_69 (by decide) ?_
      refine p_lushr (pc := 71) cx dX7_sum_71 ?_
      refine p_topl (fun x4_11 ex4_11 => ?_)
      have hw := hw x4_11 ex4_11
      refine p_lstore (pc := 72) (lv' := [(0, .ref v0), (1, .ref v1), (2, .ref v2), (3, .int v3), (4, .long x4_11), (6, .int v6)]) cx dX7_sum_72 (by decide) [1, 2, 3, 4, 0, 5] rfl ?_
      obtain ⟨x6_12, ex6_12⟩ : ∃ y : Int32, y = v6 + 1 := ⟨_, rfl⟩
      have hw := hw x6_12 ex6_12
      refine p_iinc (pc := 74) (v := x6_12) (lv' := [(0, .ref v0), (1, .ref v1), (2, .ref v2), (3, .int v3), (4, .long x4_11), (6, .int x6_12)]) cx dX7_sum_74 5 rfl (by rw [ex6_12]; rfl) (by decide) [1, 2, 3, 4, 5, 0] rfl ?_
      refine p_goto (pc := 77) (tgt := 33) cx dX7_sum_77 (by decide) ?_
      exact ih v0 v1 v2 v3 x4_11 x6_12 M10 hM10 hv0 hv1 hv2 hw
set_option maxHeartbeats 4000000 in
set_option maxRecDepth 100000 in
theorem c_X7_sum {l : Launch} {D : va_G} {G : SH} (hND : ND G) {a0 : Nat} {a1 : Nat} {a2 : Nat} {M : MS} {Qp : MS → Prop} (hT : TYR G M.2.2.1) (ha0 : Is G 8 a0) (ha1 : Is G 8 a1) (ha2 : Is G 8 a2) (hw : w_X7_sum G a0 a1 a2 M Qp) : MeV l D G yX7_sum (Cond.code yX7_sum cX7_sum 7 none :: GW) rm_X7_sum [.ref a0, .ref a1, .ref a2] M Qp := by
  unfold MeV
  refine p_method (by decide) rfl (Nat.le_of_ble_eq_true rfl) hND ?_
  intro p e s m args below meth c cx hr hlk
  have cx : CX p s m args c D G cX7_sum 7 RX7 := cx
  unfold w_X7_sum at hw
  refine p_aload_n (pc := 0) cx dX7_sum_0 rfl 1 rfl ?_
  refine gf_8_1 (pc := 1) cx ha1 t1_49 dX7_sum_1 ?_
  refine p_aload_n (pc := 4) cx dX7_sum_4 rfl 2 rfl ?_
  refine gf_8_1 (pc := 5) cx ha2 t1_49 dX7_sum_5 ?_
  refine p_max (pc := 8) cx t2_136 t1_33 t1_2 t1_34 ⟨Nat.le_of_ble_eq_true rfl, Nat.le_of_ble_eq_true rfl⟩ dX7_sum_8 ?_
  refine p_topi (fun y_1 ey_1 => ?_)
  have hw := hw y_1 ey_1
  refine p_istore_n (pc := 11) (lv' := [(0, .ref a0), (1, .ref a1), (2, .ref a2), (3, .int y_1)]) cx dX7_sum_11 rfl (by decide) [1, 2, 3, 0] rfl ?_
  refine p_iload_n (pc := 12) cx dX7_sum_12 rfl 3 rfl ?_
  refine p_aload_n (pc := 13) cx dX7_sum_13 rfl 0 rfl ?_
  refine gf_8_0 (pc := 14) cx ha0 t1_45 dX7_sum_14 ?_
  have hr_2 : Is G 12 (mR M a0 0) := TYR.at hT ha0 0 12 rfl (by decide)
  refine p_alenI (pc := 17) cx hr_2 dX7_sum_17 ?_
  refine p_icmp_lt (pc := 18) (tgt := 27) cx dX7_sum_18 (by decide) (fun hc => ?_) (fun hc => ?_)
  · have hw := hw.1 hc
    refine p_lconst (pc := 27) (v := 0) cx dX7_sum_27 (by decide) ?_
    refine p_lstore (pc := 28) (lv' := [(0, .ref a0), (1, .ref a1), (2, .ref a2), (3, .int y_1), (4, .long (0 : Int64))]) cx dX7_sum_28 (by decide) [1, 2, 3, 4, 0] rfl ?_
    refine p_iconst (pc := 30) (v := 0) cx dX7_sum_30 (by decide) ?_
    refine p_istore (pc := 31) (lv' := [(0, .ref a0), (1, .ref a1), (2, .ref a2), (3, .int y_1), (4, .long (0 : Int64)), (6, .int (0 : Int32))]) cx dX7_sum_31 (by decide) [1, 2, 3, 4, 5, 0] rfl ?_
    obtain ⟨n1, hw⟩ := hw
    exact x_X7_sum_33 cx hr hlk n1 a0 a1 a2 y_1 0 0 M hT ha0 ha1 ha2 hw
  · have hw := hw.2 hc
    refine p_aload_n (pc := 21) cx dX7_sum_21 rfl 0 rfl ?_
    refine p_iconst (pc := 22) (v := 0) cx dX7_sum_22 (by decide) ?_
    refine p_callVv (pc := 23) [.int (0 : Int32)] cx (c_X9_keep cx.2.2.2.2.2.2 hT ha0 hw) cf_X9_keep cv_X9_keep t2_127 ha0 ⟨by decide, rfl, rfl⟩ ⟨rfl, rfl⟩ ⟨Nat.le_of_ble_eq_true rfl, Nat.le_of_ble_eq_true rfl⟩ rfl rfl (Nat.le_of_ble_eq_true rfl) dX7_sum_23 (fun M13 hw hM13 => ?_)
    exact p_vret (pc := 26) cx hr hlk dX7_sum_26 hM13 hw
set_option maxHeartbeats 4000000 in
set_option maxRecDepth 100000 in
theorem c_X7_signedSum {l : Launch} {D : va_G} {G : SH} (hND : ND G) {a0 : Nat} {a1 : Nat} {a2 : Nat} {a3 : Int32} {M : MS} {Qp : MS → Prop} (hT : TYR G M.2.2.1) (ha0 : Is G 8 a0) (ha1 : Is G 8 a1) (ha2 : Is G 8 a2) (hw : w_X7_signedSum G a0 a1 a2 a3 M Qp) : MeV l D G yX7_signedSum (Cond.code yX7_signedSum cX7_signedSum 5 none :: GW) rm_X7_signedSum [.ref a0, .ref a1, .ref a2, .int a3] M Qp := by
  unfold MeV
  refine p_method (by decide) rfl (Nat.le_of_ble_eq_true rfl) hND ?_
  intro p e s m args below meth c cx hr hlk
  have cx : CX p s m args c D G cX7_signedSum 5 RX7 := cx
  unfold w_X7_signedSum at hw
  refine p_aload_n (pc := 0) cx dX7_signedSum_0 rfl 1 rfl ?_
  refine gf_8_2 (pc := 1) cx ha1 t1_68 dX7_signedSum_1 ?_
  refine p_topi (fun x4_1 ex4_1 => ?_)
  have hw := hw x4_1 ex4_1
  refine p_istore (pc := 4) (lv' := [(0, .ref a0), (1, .ref a1), (2, .ref a2), (3, .int a3), (4, .int x4_1)]) cx dX7_signedSum_4 (by decide) [1, 2, 3, 4, 0] rfl ?_
  refine p_iload (pc := 6) cx dX7_signedSum_6 4 rfl ?_
  refine p_iload_n (pc := 8) cx dX7_signedSum_8 rfl 3 rfl ?_
  refine p_icmp_ne (pc := 9) (tgt := 27) cx dX7_signedSum_9 (by decide) (fun hc => ?_) (fun hc => ?_)
  · have hw := hw.1 hc
    refine p_aload_n (pc := 27) cx dX7_signedSum_27 rfl 1 rfl ?_
    refine p_aload_n (pc := 28) cx dX7_signedSum_28 rfl 2 rfl ?_
    refine p_callSi (pc := 29) [.ref a1, .ref a2] cx (c_X7_order cx.2.2.2.2.2.2 hT ha1 ha2 hw) cf_X7_order cv_X7_order t2_177 ⟨rfl, rfl⟩ ⟨Nat.le_of_ble_eq_true rfl, Nat.le_of_ble_eq_true rfl⟩ rfl rfl (Nat.le_of_ble_eq_true rfl) dX7_signedSum_29 (fun r2 M2 hw hM2 => ?_)
    refine p_if_lt (pc := 32) (tgt := 50) cx dX7_signedSum_32 (by decide) (fun hc => ?_) (fun hc => ?_)
    · have hw := hw.1 hc
      refine p_aload_n (pc := 50) cx dX7_signedSum_50 rfl 0 rfl ?_
      refine p_aload_n (pc := 51) cx dX7_signedSum_51 rfl 2 rfl ?_
      refine p_aload_n (pc := 52) cx dX7_signedSum_52 rfl 1 rfl ?_
      refine p_callSv (pc := 53) [.ref a0, .ref a2, .ref a1] cx (c_X7_difference cx.2.2.2.2.2.2 hM2 ha0 ha2 ha1 hw) cf_X7_difference cv_X7_difference t2_180 ⟨rfl, rfl⟩ ⟨Nat.le_of_ble_eq_true rfl, Nat.le_of_ble_eq_true rfl⟩ rfl rfl (Nat.le_of_ble_eq_true rfl) dX7_signedSum_53 (fun M3 hw hM3 => ?_)
      refine p_aload_n (pc := 56) cx dX7_signedSum_56 rfl 0 rfl ?_
      refine p_iload_n (pc := 57) cx dX7_signedSum_57 rfl 3 rfl ?_
      refine p_callVv (pc := 58) [.int a3] cx (c_X9_takeSign cx.2.2.2.2.2.2 hM3 ha0 hw) cf_X9_takeSign cv_X9_takeSign t2_176 ha0 ⟨by decide, rfl, rfl⟩ ⟨rfl, rfl⟩ ⟨Nat.le_of_ble_eq_true rfl, Nat.le_of_ble_eq_true rfl⟩ rfl rfl (Nat.le_of_ble_eq_true rfl) dX7_signedSum_58 (fun M4 hw hM4 => ?_)
      exact p_vret (pc := 61) cx hr hlk dX7_signedSum_61 hM4 hw
    · have hw := hw.2 hc
      refine p_aload_n (pc := 35) cx dX7_signedSum_35 rfl 0 rfl ?_
      refine p_aload_n (pc := 36) cx dX7_signedSum_36 rfl 1 rfl ?_
      refine p_aload_n (pc := 37) cx dX7_signedSum_37 rfl 2 rfl ?_
      refine p_callSv (pc := 38) [.ref a0, .ref a1, .ref a2] cx (c_X7_difference cx.2.2.2.2.2.2 hM2 ha0 ha1 ha2 hw) cf_X7_difference cv_X7_difference t2_180 ⟨rfl, rfl⟩ ⟨Nat.le_of_ble_eq_true rfl, Nat.le_of_ble_eq_true rfl⟩ rfl rfl (Nat.le_of_ble_eq_true rfl) dX7_signedSum_38 (fun M5 hw hM5 => ?_)
      refine p_aload_n (pc := 41) cx dX7_signedSum_41 rfl 0 rfl ?_
      refine p_iload (pc := 42) cx dX7_signedSum_42 4 rfl ?_
      refine p_callVv (pc := 44) [.int x4_1] cx (c_X9_takeSign cx.2.2.2.2.2.2 hM5 ha0 hw) cf_X9_takeSign cv_X9_takeSign t2_176 ha0 ⟨by decide, rfl, rfl⟩ ⟨rfl, rfl⟩ ⟨Nat.le_of_ble_eq_true rfl, Nat.le_of_ble_eq_true rfl⟩ rfl rfl (Nat.le_of_ble_eq_true rfl) dX7_signedSum_44 (fun M6 hw hM6 => ?_)
      refine p_goto (pc := 47) (tgt := 61) cx dX7_signedSum_47 (by decide) ?_
      exact p_vret (pc := 61) cx hr hlk dX7_signedSum_61 hM6 hw
  · have hw := hw.2 hc
    refine p_aload_n (pc := 12) cx dX7_signedSum_12 rfl 0 rfl ?_
    refine p_aload_n (pc := 13) cx dX7_signedSum_13 rfl 1 rfl ?_
    refine p_aload_n (pc := 14) cx dX7_signedSum_14 rfl 2 rfl ?_
    refine p_callSv (pc := 15) [.ref a0, .ref a1, .ref a2] cx (c_X7_sum cx.2.2.2.2.2.2 hT ha0 ha1 ha2 hw) cf_X7_sum cv_X7_sum t2_175 ⟨rfl, rfl⟩ ⟨Nat.le_of_ble_eq_true rfl, Nat.le_of_ble_eq_true rfl⟩ rfl rfl (Nat.le_of_ble_eq_true rfl) dX7_signedSum_15 (fun M7 hw hM7 => ?_)
    refine p_aload_n (pc := 18) cx dX7_signedSum_18 rfl 0 rfl ?_
    refine p_iload (pc := 19) cx dX7_signedSum_19 4 rfl ?_
    refine p_callVv (pc := 21) [.int x4_1] cx (c_X9_takeSign cx.2.2.2.2.2.2 hM7 ha0 hw) cf_X9_takeSign cv_X9_takeSign t2_176 ha0 ⟨by decide, rfl, rfl⟩ ⟨rfl, rfl⟩ ⟨Nat.le_of_ble_eq_true rfl, Nat.le_of_ble_eq_true rfl⟩ rfl rfl (Nat.le_of_ble_eq_true rfl) dX7_signedSum_21 (fun M8 hw hM8 => ?_)
    refine p_goto (pc := 24) (tgt := 61) cx dX7_signedSum_24 (by decide) ?_
    exact p_vret (pc := 61) cx hr hlk dX7_signedSum_61 hM8 hw
