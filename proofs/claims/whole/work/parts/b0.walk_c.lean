set_option maxHeartbeats 4000000 in
set_option maxRecDepth 100000 in
theorem c_X0_quotientOfPair {l : Launch} {D : va_G} {G : SH} (hND : ND G) {a0 : Int64} {a1 : Int64} {M : MS} {Qp : Int64 → MS → Prop} (hT : TYR G M.2.2.1)  (hw : w_X0_quotientOfPair G a0 a1 M Qp) : MeL l D G yX0_quotientOfPair (Cond.code yX0_quotientOfPair cX0_quotientOfPair 6 (some .long) :: GW) rm_X0_quotientOfPair [.long a0, .long a1] M Qp := by
  unfold MeL
  refine p_method (by decide) rfl (Nat.le_of_ble_eq_true rfl) hND ?_
  intro p e s m args below meth c cx hr hlk
  have cx : CX p s m args c D G cX0_quotientOfPair 6 RX0 := cx
  unfold w_X0_quotientOfPair at hw
  refine p_lload_n (pc := 0) cx dX0_quotientOfPair_0 rfl 1 rfl ?_
  refine p_lconst (pc := 1) (v := 0) cx dX0_quotientOfPair_1 (by decide) ?_
  refine p_lcmp (pc := 2) cx dX0_quotientOfPair_2 ?_
  refine p_if_gt (pc := 3) (tgt := 8) cx dX0_quotientOfPair_3 (by decide) (fun hc => ?_) (fun hc => ?_)
  · have hw := hw.1 ((lg_cmp_gt _ _).mp hc)
    refine p_lload_n (pc := 8) cx dX0_quotientOfPair_8 rfl 0 rfl ?_
    refine p_lconst (pc := 9) (v := 0) cx dX0_quotientOfPair_9 (by decide) ?_
    refine p_lcmp (pc := 10) cx dX0_quotientOfPair_10 ?_
    refine p_if_lt (pc := 11) (tgt := 18) cx dX0_quotientOfPair_11 (by decide) (fun hc => ?_) (fun hc => ?_)
    · have hw := hw.1 ((lg_cmp_lt _ _).mp hc)
      refine p_lload_n (pc := 18) cx dX0_quotientOfPair_18 rfl 0 rfl ?_
      refine p_iconst (pc := 19) (v := 1) cx dX0_quotientOfPair_19 (by decide) ?_
      refine p_lushr (pc := 20) cx dX0_quotientOfPair_20 ?_
      refine p_lload_n (pc := 21) cx dX0_quotientOfPair_21 rfl 1 rfl ?_
      refine p_ldiv (pc := 22) cx dX0_quotientOfPair_22 hw.1 ?_
      have hw := hw.2
      refine p_iconst (pc := 23) (v := 1) cx dX0_quotientOfPair_23 (by decide) ?_
      refine p_lshl (pc := 24) cx dX0_quotientOfPair_24 ?_
      refine p_topl (fun x4_1 ex4_1 => ?_)
      have hw := hw x4_1 ex4_1
      refine p_lstore (pc := 25) (lv' := [(0, .long a0), (2, .long a1), (4, .long x4_1)]) cx dX0_quotientOfPair_25 (by decide) [1, 2, 0] rfl ?_
      refine p_lload_n (pc := 27) cx dX0_quotientOfPair_27 rfl 0 rfl ?_
      refine p_lload (pc := 28) cx dX0_quotientOfPair_28 2 rfl ?_
      refine p_lload_n (pc := 30) cx dX0_quotientOfPair_30 rfl 1 rfl ?_
      refine p_lmul (pc := 31) cx dX0_quotientOfPair_31 ?_
      refine p_lsub (pc := 32) cx dX0_quotientOfPair_32 ?_
      refine p_lload_n (pc := 33) cx dX0_quotientOfPair_33 rfl 1 rfl ?_
      refine p_lcmp (pc := 34) cx dX0_quotientOfPair_34 ?_
      refine p_if_lt (pc := 35) (tgt := 45) cx dX0_quotientOfPair_35 (by decide) (fun hc => ?_) (fun hc => ?_)
      · have hw := hw.1 ((lg_cmp_lt _ _).mp hc)
        refine p_lload (pc := 45) cx dX0_quotientOfPair_45 2 rfl ?_
        exact p_lret (pc := 47) cx hr hlk dX0_quotientOfPair_47 hT hw
      · have hw := hw.2 (fun q => hc ((lg_cmp_lt _ _).mpr q))
        refine p_lload (pc := 38) cx dX0_quotientOfPair_38 2 rfl ?_
        refine p_lconst (pc := 40) (v := 1) cx dX0_quotientOfPair_40 (by decide) ?_
        refine p_ladd (pc := 41) cx dX0_quotientOfPair_41 ?_
        refine p_goto (pc := 42) (tgt := 47) cx dX0_quotientOfPair_42 (by decide) ?_
        exact p_lret (pc := 47) cx hr hlk dX0_quotientOfPair_47 hT hw
    · have hw := hw.2 (fun q => hc ((lg_cmp_lt _ _).mpr q))
      refine p_lload_n (pc := 14) cx dX0_quotientOfPair_14 rfl 0 rfl ?_
      refine p_lload_n (pc := 15) cx dX0_quotientOfPair_15 rfl 1 rfl ?_
      refine p_ldiv (pc := 16) cx dX0_quotientOfPair_16 hw.1 ?_
      have hw := hw.2
      exact p_lret (pc := 17) cx hr hlk dX0_quotientOfPair_17 hT hw
  · have hw := hw.2 (fun q => hc ((lg_cmp_gt _ _).mpr q))
    refine p_lconst (pc := 6) (v := 0) cx dX0_quotientOfPair_6 (by decide) ?_
    exact p_lret (pc := 7) cx hr hlk dX0_quotientOfPair_7 hT hw
set_option maxHeartbeats 4000000 in
set_option maxRecDepth 100000 in
theorem x_X0_splitByLimb_19 {p : Program} {l : Launch} {e : Env} {s : State} {m : MethodId} {args : Array Value} {below : List Frame} {meth : Method} {c : Code} {D : va_G} {G : SH} {Qp : Int32 → MS → Prop}  (cx : CX p s m args c D G cX0_splitByLimb 13 RX0) (hr : meth.sig.returnType = (some .int)) (hlk : meth.locks = false)  : ∀ (n : Nat) (v1 : Nat) (v2 : Nat) (v4 : Int64) (v6 : Int64) (v8 : Int32) (M : MS), TYR G M.2.2.1 → Is G 8 v1 → Is G 8 v2 → w_X0_splitByLimb_19 G Qp n v1 v2 v4 v6 v8 M → PW p l e rm_X0_splitByLimb s m args below meth c D G 13 (MQ below (va_Qi Qp (POST D G) (AG G)) args s 0 0 (AG G)) 19 [(1, .ref v1), (2, .ref v2), (4, .long v4), (6, .long v6), (8, .int v8)] [] M := by
  intro n
  induction n with
  | zero =>
    intro v1 v2 v4 v6 v8 M hT hv1 hv2 hw
    exact hw.elim
  | succ n ih =>
    intro v1 v2 v4 v6 v8 M hT hv1 hv2 hw
    rw [w_X0_splitByLimb_19] at hw
    refine p_iload (pc := 19) cx dX0_splitByLimb_19 4 rfl ?_
    refine p_if_lt (pc := 21) (tgt := 73) cx dX0_splitByLimb_21 (by decide) (fun hc => ?_) (fun hc => ?_)
    · have hw := hw.1 hc
      refine p_aload_n (pc := 73) cx dX0_splitByLimb_73 rfl 0 rfl ?_
      refine p_aload_n (pc := 74) cx dX0_splitByLimb_74 rfl 1 rfl ?_
      refine gf_8_1 (pc := 75) cx hv2 t1_50 dX0_splitByLimb_75 ?_
      refine p_callVv (pc := 78) [.int (mI M v2 1)] cx (c_X9_keep cx.2.2.2.2.2.2 hT hv1 hw) cf_X9_keep cv_X9_keep t2_203 hv1 ⟨by decide, rfl, rfl⟩ ⟨rfl, rfl⟩ ⟨Nat.le_of_ble_eq_true rfl, Nat.le_of_ble_eq_true rfl⟩ rfl rfl (Nat.le_of_ble_eq_true rfl) dX0_splitByLimb_78 (fun M3 hw hM3 => ?_)
      refine p_lload (pc := 81) cx dX0_splitByLimb_81 3 rfl ?_
      refine p_l2i (pc := 83) cx dX0_splitByLimb_83 ?_
      exact p_iret (pc := 84) cx hr hlk dX0_splitByLimb_84 hM3 hw
    · have hw := hw.2 hc
      refine p_lload (pc := 24) cx dX0_splitByLimb_24 3 rfl ?_
      refine p_bipush (pc := 26) (v := 32) cx dX0_splitByLimb_26 (by decide) ?_
      refine p_lshl (pc := 28) cx dX0_splitByLimb_28 ?_
      refine p_aload_n (pc := 29) cx dX0_splitByLimb_29 rfl 1 rfl ?_
      refine p_iload (pc := 30) cx dX0_splitByLimb_30 4 rfl ?_
      refine p_callVl (pc := 32) [.int v8] cx (c_X9_limb cx.2.2.2.2.2.2 hT hv2 hw) cf_X9_limb cv_X9_limb t2_211 hv2 ⟨by decide, rfl, rfl⟩ ⟨rfl, rfl⟩ ⟨Nat.le_of_ble_eq_true rfl, Nat.le_of_ble_eq_true rfl⟩ rfl rfl (Nat.le_of_ble_eq_true rfl) dX0_splitByLimb_32 (fun r4 M4 hw hM4 => ?_)
      refine p_lor (pc := 35) cx dX0_splitByLimb_35 ?_
      refine p_topl (fun x9_5 ex9_5 => ?_)
      have hw := hw x9_5 ex9_5
      refine p_lstore (pc := 36) (lv' := [(1, .ref v1), (2, .ref v2), (4, .long v4), (8, .int v8), (9, .long x9_5)]) cx dX0_splitByLimb_36 (by decide) [1, 2, 3, 5, 0] rfl ?_
      refine p_lload (pc := 38) cx dX0_splitByLimb_38 4 rfl ?_
      refine p_lload (pc := 40) cx dX0_splitByLimb_40 2 rfl ?_
      refine p_callSl (pc := 42) [.long x9_5, .long v4] cx (c_X0_quotientOfPair cx.2.2.2.2.2.2 hM4 hw) cf_X0_quotientOfPair cv_X0_quotientOfPair t2_212 ⟨rfl, rfl⟩ ⟨Nat.le_of_ble_eq_true rfl, Nat.le_of_ble_eq_true rfl⟩ rfl rfl (Nat.le_of_ble_eq_true rfl) dX0_splitByLimb_42 (fun r6 M6 hw hM6 => ?_)
      refine p_lstore (pc := 45) (lv' := [(1, .ref v1), (2, .ref v2), (4, .long v4), (8, .int v8), (9, .long x9_5), (11, .long r6)]) cx dX0_splitByLimb_45 (by decide) [1, 2, 3, 4, 5, 0] rfl ?_
      refine p_aload_n (pc := 47) cx dX0_splitByLimb_47 rfl 0 rfl ?_
      refine gf_8_0 (pc := 48) cx hv1 t1_44 dX0_splitByLimb_48 ?_
      have hr_7 : Is G 12 (mR M6 v1 0) := TYR.at hM6 hv1 0 12 rfl (by decide)
      refine p_iload (pc := 51) cx dX0_splitByLimb_51 3 rfl ?_
      refine p_lload (pc := 53) cx dX0_splitByLimb_53 5 rfl ?_
      refine p_l2i (pc := 55) cx dX0_splitByLimb_55 ?_
      refine p_iast (pc := 56) cx hr_7 hw.1 dX0_splitByLimb_56 ?_
      have hw := hw.2
      refine p_mem (fun M8 eM8 => ?_)
      have hw := hw M8 eM8
      have hM8 : TYR G M8.2.2.1 := by rw [eM8]; exact hM6
      refine p_lload (pc := 57) cx dX0_splitByLimb_57 4 rfl ?_
      refine p_lload (pc := 59) cx dX0_splitByLimb_59 5 rfl ?_
      refine p_lload (pc := 61) cx dX0_splitByLimb_61 2 rfl ?_
      refine p_lmul (pc := 63) cx dX0_splitByLimb_63 ?_
      refine p_lsub (pc := 64) cx dX0_splitByLimb_64 ?_
      refine p_topl (fun x6_9 ex6_9 => ?_)
      have hw := hw x6_9 ex6_9
      refine p_lstore (pc := 65) (lv' := [(1, .ref v1), (2, .ref v2), (4, .long v4), (6, .long x6_9), (8, .int v8)]) cx dX0_splitByLimb_65 (by decide) [1, 2, 3, 0, 4] rfl ?_
      obtain ⟨x8_10, ex8_10⟩ : ∃ y : Int32, y = v8 + (-1) := ⟨_, rfl⟩
      have hw := hw x8_10 ex8_10
      refine p_iinc (pc := 67) (v := x8_10) (lv' := [(1, .ref v1), (2, .ref v2), (4, .long v4), (6, .long x6_9), (8, .int x8_10)]) cx dX0_splitByLimb_67 4 rfl (by rw [ex8_10]; rfl) (by decide) [1, 2, 3, 4, 0] rfl ?_
      refine p_goto (pc := 70) (tgt := 19) cx dX0_splitByLimb_70 (by decide) ?_
      exact ih v1 v2 v4 x6_9 x8_10 M8 hM8 hv1 hv2 hw
set_option maxHeartbeats 4000000 in
set_option maxRecDepth 100000 in
theorem c_X0_splitByLimb {l : Launch} {D : va_G} {G : SH} (hND : ND G) {a0 : Nat} {a1 : Nat} {a2 : Nat} {a3 : Int32} {M : MS} {Qp : Int32 → MS → Prop} (hT : TYR G M.2.2.1) (ha0 : Is G 0 a0) (ha1 : Is G 8 a1) (ha2 : Is G 8 a2) (hw : w_X0_splitByLimb G a0 a1 a2 a3 M Qp) : MeI l D G yX0_splitByLimb (Cond.code yX0_splitByLimb cX0_splitByLimb 13 (some .int) :: GW) rm_X0_splitByLimb [.ref a0, .ref a1, .ref a2, .int a3] M Qp := by
  unfold MeI
  refine p_method (by decide) rfl (Nat.le_of_ble_eq_true rfl) hND ?_
  intro p e s m args below meth c cx hr hlk
  have cx : CX p s m args c D G cX0_splitByLimb 13 RX0 := cx
  unfold w_X0_splitByLimb at hw
  refine p_iload_n (pc := 0) cx dX0_splitByLimb_0 rfl 3 rfl ?_
  refine p_i2l (pc := 1) cx dX0_splitByLimb_1 ?_
  refine p_ldc2 (pc := 2) cx dX0_splitByLimb_2 t2_210 ?_
  refine p_land (pc := 5) cx dX0_splitByLimb_5 ?_
  refine p_topl (fun x4_1 ex4_1 => ?_)
  have hw := hw x4_1 ex4_1
  refine p_lstore (pc := 6) (lv' := [(1, .ref a1), (2, .ref a2), (4, .long x4_1)]) cx dX0_splitByLimb_6 (by decide) [2, 3, 0] rfl ?_
  refine p_lconst (pc := 8) (v := 0) cx dX0_splitByLimb_8 (by decide) ?_
  refine p_lstore (pc := 9) (lv' := [(1, .ref a1), (2, .ref a2), (4, .long x4_1), (6, .long (0 : Int64))]) cx dX0_splitByLimb_9 (by decide) [1, 2, 3, 0] rfl ?_
  refine p_aload_n (pc := 11) cx dX0_splitByLimb_11 rfl 1 rfl ?_
  refine gf_8_1 (pc := 12) cx ha2 t1_50 dX0_splitByLimb_12 ?_
  refine p_iconst (pc := 15) (v := 1) cx dX0_splitByLimb_15 (by decide) ?_
  refine p_isub (pc := 16) cx dX0_splitByLimb_16 ?_
  refine p_topi (fun x8_2 ex8_2 => ?_)
  have hw := hw x8_2 ex8_2
  refine p_istore (pc := 17) (lv' := [(1, .ref a1), (2, .ref a2), (4, .long x4_1), (6, .long (0 : Int64)), (8, .int x8_2)]) cx dX0_splitByLimb_17 (by decide) [1, 2, 3, 4, 0] rfl ?_
  obtain ⟨n1, hw⟩ := hw
  exact x_X0_splitByLimb_19 cx hr hlk n1 a1 a2 x4_1 0 x8_2 M hT ha1 ha2 hw
set_option maxHeartbeats 4000000 in
set_option maxRecDepth 100000 in
theorem x_X0_takeAway_18 {p : Program} {l : Launch} {e : Env} {s : State} {m : MethodId} {args : Array Value} {below : List Frame} {meth : Method} {c : Code} {D : va_G} {G : SH} {Qp : Int32 → MS → Prop}  (cx : CX p s m args c D G cX0_takeAway 12 RX0) (hr : meth.sig.returnType = (some .boolean)) (hlk : meth.locks = false)  : ∀ (n : Nat) (v1 : Nat) (v2 : Int32) (v3 : Int32) (v4 : Int64) (v6 : Nat) (v7 : Int64) (v9 : Int64) (v11 : Int32) (M : MS), TYR G M.2.2.1 → Is G 12 v1 → Is G 12 v6 → w_X0_takeAway_18 G Qp n v1 v2 v3 v4 v6 v7 v9 v11 M → PW p l e rm_X0_takeAway s m args below meth c D G 12 (MQ below (va_Qi Qp (POST D G) (AG G)) args s 0 0 (AG G)) 18 [(1, .ref v1), (2, .int v2), (3, .int v3), (4, .long v4), (6, .ref v6), (7, .long v7), (9, .long v9), (11, .int v11)] [] M := by
  intro n
  induction n with
  | zero =>
    intro v1 v2 v3 v4 v6 v7 v9 v11 M hT hv1 hv6 hw
    exact hw.elim
  | succ n ih =>
    intro v1 v2 v3 v4 v6 v7 v9 v11 M hT hv1 hv6 hw
    rw [w_X0_takeAway_18] at hw
    refine p_iload (pc := 18) cx dX0_takeAway_18 7 rfl ?_
    refine p_iload_n (pc := 20) cx dX0_takeAway_20 rfl 2 rfl ?_
    refine p_icmp_ge (pc := 21) (tgt := 94) cx dX0_takeAway_21 (by decide) (fun hc => ?_) (fun hc => ?_)
    · have hw := hw.1 hc
      refine p_lload (pc := 94) cx dX0_takeAway_94 6 rfl ?_
      refine p_aload_n (pc := 96) cx dX0_takeAway_96 rfl 0 rfl ?_
      refine p_iload_n (pc := 97) cx dX0_takeAway_97 rfl 1 rfl ?_
      refine p_iload_n (pc := 98) cx dX0_takeAway_98 rfl 2 rfl ?_
      refine p_iadd (pc := 99) cx dX0_takeAway_99 ?_
      refine p_iald (pc := 100) cx hv1 hw.1 dX0_takeAway_100 ?_
      have hw := hw.2
      refine p_i2l (pc := 101) cx dX0_takeAway_101 ?_
      refine p_ldc2 (pc := 102) cx dX0_takeAway_102 t2_210 ?_
      refine p_land (pc := 105) cx dX0_takeAway_105 ?_
      refine p_lload (pc := 106) cx dX0_takeAway_106 5 rfl ?_
      refine p_lsub (pc := 108) cx dX0_takeAway_108 ?_
      refine p_ladd (pc := 109) cx dX0_takeAway_109 ?_
      refine p_topl (fun x9_3 ex9_3 => ?_)
      have hw := hw x9_3 ex9_3
      refine p_lstore (pc := 110) (lv' := [(1, .ref v1), (2, .int v2), (3, .int v3), (9, .long x9_3)]) cx dX0_takeAway_110 (by decide) [1, 2, 3, 0] rfl ?_
      refine p_aload_n (pc := 112) cx dX0_takeAway_112 rfl 0 rfl ?_
      refine p_iload_n (pc := 113) cx dX0_takeAway_113 rfl 1 rfl ?_
      refine p_iload_n (pc := 114) cx dX0_takeAway_114 rfl 2 rfl ?_
      refine p_iadd (pc := 115) cx dX0_takeAway_115 ?_
      refine p_lload (pc := 116) cx dX0_takeAway_116 3 rfl ?_
      refine p_l2i (pc := 118) cx dX0_takeAway_118 ?_
      refine p_iast (pc := 119) cx hv1 hw.1 dX0_takeAway_119 ?_
      have hw := hw.2
      refine p_mem (fun M4 eM4 => ?_)
      have hw := hw M4 eM4
      have hM4 : TYR G M4.2.2.1 := by rw [eM4]; exact hT
      refine p_lload (pc := 120) cx dX0_takeAway_120 3 rfl ?_
      refine p_lconst (pc := 122) (v := 0) cx dX0_takeAway_122 (by decide) ?_
      refine p_lcmp (pc := 123) cx dX0_takeAway_123 ?_
      refine p_if_ge (pc := 124) (tgt := 131) cx dX0_takeAway_124 (by decide) (fun hc => ?_) (fun hc => ?_)
      · have hw := hw.1 ((lg_cmp_ge _ _).mp hc)
        refine p_iconst (pc := 131) (v := 0) cx dX0_takeAway_131 (by decide) ?_
        exact p_zret (pc := 132) cx hr hlk dX0_takeAway_132 (by decide) hM4 hw
      · have hw := hw.2 (fun q => hc ((lg_cmp_ge _ _).mpr q))
        refine p_iconst (pc := 127) (v := 1) cx dX0_takeAway_127 (by decide) ?_
        refine p_goto (pc := 128) (tgt := 132) cx dX0_takeAway_128 (by decide) ?_
        exact p_zret (pc := 132) cx hr hlk dX0_takeAway_132 (by decide) hM4 hw
    · have hw := hw.2 hc
      refine p_lload (pc := 24) cx dX0_takeAway_24 5 rfl ?_
      refine p_lload (pc := 26) cx dX0_takeAway_26 3 rfl ?_
      refine p_aload (pc := 28) cx dX0_takeAway_28 4 rfl ?_
      refine p_iload (pc := 30) cx dX0_takeAway_30 7 rfl ?_
      refine p_iald (pc := 32) cx hv6 hw.1 dX0_takeAway_32 ?_
      have hw := hw.2
      refine p_i2l (pc := 33) cx dX0_takeAway_33 ?_
      refine p_ldc2 (pc := 34) cx dX0_takeAway_34 t2_210 ?_
      refine p_land (pc := 37) cx dX0_takeAway_37 ?_
      refine p_lmul (pc := 38) cx dX0_takeAway_38 ?_
      refine p_ladd (pc := 39) cx dX0_takeAway_39 ?_
      refine p_topl (fun x7_5 ex7_5 => ?_)
      have hw := hw x7_5 ex7_5
      refine p_lstore (pc := 40) (lv' := [(1, .ref v1), (2, .int v2), (3, .int v3), (4, .long v4), (6, .ref v6), (7, .long x7_5), (9, .long v9), (11, .int v11)]) cx dX0_takeAway_40 (by decide) [1, 2, 3, 4, 5, 0, 6, 7] rfl ?_
      refine p_lload (pc := 42) cx dX0_takeAway_42 6 rfl ?_
      refine p_aload_n (pc := 44) cx dX0_takeAway_44 rfl 0 rfl ?_
      refine p_iload (pc := 45) cx dX0_takeAway_45 7 rfl ?_
      refine p_iload_n (pc := 47) cx dX0_takeAway_47 rfl 1 rfl ?_
      refine p_iadd (pc := 48) cx dX0_takeAway_48 ?_
      refine p_iald (pc := 49) cx hv1 hw.1 dX0_takeAway_49 ?_
      have hw := hw.2
      refine p_i2l (pc := 50) cx dX0_takeAway_50 ?_
      refine p_ldc2 (pc := 51) cx dX0_takeAway_51 t2_210 ?_
      refine p_land (pc := 54) cx dX0_takeAway_54 ?_
      refine p_lload (pc := 55) cx dX0_takeAway_55 5 rfl ?_
      refine p_ldc2 (pc := 57) cx dX0_takeAway_57 t2_210 ?_
      refine p_land (pc := 60) cx dX0_takeAway_60 ?_
      refine p_lsub (pc := 61) cx dX0_takeAway_61 ?_
      refine p_ladd (pc := 62) cx dX0_takeAway_62 ?_
      refine p_topl (fun x9_6 ex9_6 => ?_)
      have hw := hw x9_6 ex9_6
      refine p_lstore (pc := 63) (lv' := [(1, .ref v1), (2, .int v2), (3, .int v3), (4, .long v4), (6, .ref v6), (7, .long x7_5), (9, .long x9_6), (11, .int v11)]) cx dX0_takeAway_63 (by decide) [1, 2, 3, 4, 5, 6, 0, 7] rfl ?_
      refine p_aload_n (pc := 65) cx dX0_takeAway_65 rfl 0 rfl ?_
      refine p_iload (pc := 66) cx dX0_takeAway_66 7 rfl ?_
      refine p_iload_n (pc := 68) cx dX0_takeAway_68 rfl 1 rfl ?_
      refine p_iadd (pc := 69) cx dX0_takeAway_69 ?_
      refine p_lload (pc := 70) cx dX0_takeAway_70 6 rfl ?_
      refine p_l2i (pc := 72) cx dX0_takeAway_72 ?_
      refine p_iast (pc := 73) cx hv1 hw.1 dX0_takeAway_73 ?_
      have hw := hw.2
      refine p_mem (fun M7 eM7 => ?_)
      have hw := hw M7 eM7
      have hM7 : TYR G M7.2.2.1 := by rw [eM7]; exact hT
      refine p_lload (pc := 74) cx dX0_takeAway_74 5 rfl ?_
      refine p_bipush (pc := 76) (v := 32) cx dX0_takeAway_76 (by decide) ?_
      refine p_lushr (pc := 78) cx dX0_takeAway_78 ?_
      refine p_topl (fun x7_8 ex7_8 => ?_)
      have hw := hw x7_8 ex7_8
      refine p_lstore (pc := 79) (lv' := [(1, .ref v1), (2, .int v2), (3, .int v3), (4, .long v4), (6, .ref v6), (7, .long x7_8), (9, .long x9_6), (11, .int v11)]) cx dX0_takeAway_79 (by decide) [1, 2, 3, 4, 5, 0, 6, 7] rfl ?_
      refine p_lload (pc := 81) cx dX0_takeAway_81 6 rfl ?_
      refine p_bipush (pc := 83) (v := 32) cx dX0_takeAway_83 (by decide) ?_
      refine p_lshr (pc := 85) cx dX0_takeAway_85 ?_
      refine p_topl (fun x9_9 ex9_9 => ?_)
      have hw := hw x9_9 ex9_9
      refine p_lstore (pc := 86) (lv' := [(1, .ref v1), (2, .int v2), (3, .int v3), (4, .long v4), (6, .ref v6), (7, .long x7_8), (9, .long x9_9), (11, .int v11)]) cx dX0_takeAway_86 (by decide) [1, 2, 3, 4, 5, 6, 0, 7] rfl ?_
      obtain ⟨x11_10, ex11_10⟩ : ∃ y : Int32, y = v11 + 1 := ⟨_, rfl⟩
      have hw := hw x11_10 ex11_10
      refine p_iinc (pc := 88) (v := x11_10) (lv' := [(1, .ref v1), (2, .int v2), (3, .int v3), (4, .long v4), (6, .ref v6), (7, .long x7_8), (9, .long x9_9), (11, .int x11_10)]) cx dX0_takeAway_88 7 rfl (by rw [ex11_10]; rfl) (by decide) [1, 2, 3, 4, 5, 6, 7, 0] rfl ?_
      refine p_goto (pc := 91) (tgt := 18) cx dX0_takeAway_91 (by decide) ?_
      exact ih v1 v2 v3 v4 v6 x7_8 x9_9 x11_10 M7 hM7 hv1 hv6 hw
set_option maxHeartbeats 4000000 in
set_option maxRecDepth 100000 in
theorem c_X0_takeAway {l : Launch} {D : va_G} {G : SH} (hND : ND G) {a0 : Nat} {a1 : Nat} {a2 : Int32} {a3 : Int32} {a4 : Int64} {M : MS} {Qp : Int32 → MS → Prop} (hT : TYR G M.2.2.1) (ha0 : Is G 0 a0) (ha1 : Is G 12 a1) (hw : w_X0_takeAway G a0 a1 a2 a3 a4 M Qp) : MeI l D G yX0_takeAway (Cond.code yX0_takeAway cX0_takeAway 12 (some .boolean) :: GW) rm_X0_takeAway [.ref a0, .ref a1, .int a2, .int a3, .long a4] M Qp := by
  unfold MeI
  refine p_method (by decide) rfl (Nat.le_of_ble_eq_true rfl) hND ?_
  intro p e s m args below meth c cx hr hlk
  have cx : CX p s m args c D G cX0_takeAway 12 RX0 := cx
  unfold w_X0_takeAway at hw
  refine p_aload_n (pc := 0) cx dX0_takeAway_0 rfl 0 rfl ?_
  refine gf_0_0 (pc := 1) cx ha0 t1_85 dX0_takeAway_1 ?_
  have hr_1 : Is G 8 (mR M a0 0) := TYR.at hT ha0 0 8 rfl (by decide)
  refine gf_8_0 (pc := 4) cx hr_1 t1_44 dX0_takeAway_4 ?_
  have hr_2 : Is G 12 (mR M (mR M a0 0) 0) := TYR.at hT hr_1 0 12 rfl (by decide)
  refine p_astore (pc := 7) (lv' := [(1, .ref a1), (2, .int a2), (3, .int a3), (4, .long a4), (6, .ref (mR M (mR M a0 0) 0))]) cx dX0_takeAway_7 (by decide) [2, 3, 4, 5, 0] rfl ?_
  refine p_lconst (pc := 9) (v := 0) cx dX0_takeAway_9 (by decide) ?_
  refine p_lstore (pc := 10) (lv' := [(1, .ref a1), (2, .int a2), (3, .int a3), (4, .long a4), (6, .ref (mR M (mR M a0 0) 0)), (7, .long (0 : Int64))]) cx dX0_takeAway_10 (by decide) [1, 2, 3, 4, 5, 0] rfl ?_
  refine p_lconst (pc := 12) (v := 0) cx dX0_takeAway_12 (by decide) ?_
  refine p_lstore (pc := 13) (lv' := [(1, .ref a1), (2, .int a2), (3, .int a3), (4, .long a4), (6, .ref (mR M (mR M a0 0) 0)), (7, .long (0 : Int64)), (9, .long (0 : Int64))]) cx dX0_takeAway_13 (by decide) [1, 2, 3, 4, 5, 6, 0] rfl ?_
  refine p_iconst (pc := 15) (v := 0) cx dX0_takeAway_15 (by decide) ?_
  refine p_istore (pc := 16) (lv' := [(1, .ref a1), (2, .int a2), (3, .int a3), (4, .long a4), (6, .ref (mR M (mR M a0 0) 0)), (7, .long (0 : Int64)), (9, .long (0 : Int64)), (11, .int (0 : Int32))]) cx dX0_takeAway_16 (by decide) [1, 2, 3, 4, 5, 6, 7, 0] rfl ?_
  obtain ⟨n1, hw⟩ := hw
  exact x_X0_takeAway_18 cx hr hlk n1 a1 a2 a3 a4 (mR M (mR M a0 0) 0) 0 0 0 M hT ha1 hr_2 hw
set_option maxHeartbeats 4000000 in
set_option maxRecDepth 100000 in
theorem x_X0_giveBack_6 {p : Program} {l : Launch} {e : Env} {s : State} {m : MethodId} {args : Array Value} {below : List Frame} {meth : Method} {c : Code} {D : va_G} {G : SH} {Qp : MS → Prop}  (cx : CX p s m args c D G cX0_giveBack 7 RX0) (hr : meth.sig.returnType = none) (hlk : meth.locks = false)  : ∀ (n : Nat) (v0 : Nat) (v1 : Nat) (v2 : Int32) (v3 : Int32) (v4 : Int64) (v6 : Int32) (M : MS), TYR G M.2.2.1 → Is G 0 v0 → Is G 12 v1 → w_X0_giveBack_6 G Qp n v0 v1 v2 v3 v4 v6 M → PW p l e rm_X0_giveBack s m args below meth c D G 7 (MQ below (va_Qv Qp (POST D G) (AG G)) args s 0 0 (AG G)) 6 [(0, .ref v0), (1, .ref v1), (2, .int v2), (3, .int v3), (4, .long v4), (6, .int v6)] [] M := by
  intro n
  induction n with
  | zero =>
    intro v0 v1 v2 v3 v4 v6 M hT hv0 hv1 hw
    exact hw.elim
  | succ n ih =>
    intro v0 v1 v2 v3 v4 v6 M hT hv0 hv1 hw
    rw [w_X0_giveBack_6] at hw
    refine p_iload (pc := 6) cx dX0_giveBack_6 5 rfl ?_
    refine p_iload_n (pc := 8) cx dX0_giveBack_8 rfl 3 rfl ?_
    refine p_icmp_ge (pc := 9) (tgt := 60) cx dX0_giveBack_9 (by decide) (fun hc => ?_) (fun hc => ?_)
    · have hw := hw.1 hc
      refine p_aload_n (pc := 60) cx dX0_giveBack_60 rfl 1 rfl ?_
      refine p_iload_n (pc := 61) cx dX0_giveBack_61 rfl 2 rfl ?_
      refine p_iload_n (pc := 62) cx dX0_giveBack_62 rfl 3 rfl ?_
      refine p_iadd (pc := 63) cx dX0_giveBack_63 ?_
      refine p_dup2_11 (pc := 64) cx dX0_giveBack_64 rfl rfl ?_
      refine p_iald (pc := 65) cx hv1 hw.1 dX0_giveBack_65 ?_
      have hw := hw.2
      refine p_lload (pc := 66) cx dX0_giveBack_66 4 rfl ?_
      refine p_l2i (pc := 68) cx dX0_giveBack_68 ?_
      refine p_iadd (pc := 69) cx dX0_giveBack_69 ?_
      refine p_iast (pc := 70) cx hv1 hw.1 dX0_giveBack_70 ?_
      have hw := hw.2
      refine p_mem (fun M1 eM1 => ?_)
      have hw := hw M1 eM1
      have hM1 : TYR G M1.2.2.1 := by rw [eM1]; exact hT
      exact p_vret (pc := 71) cx hr hlk dX0_giveBack_71 hM1 hw
    · have hw := hw.2 hc
      refine p_lload (pc := 12) cx dX0_giveBack_12 4 rfl ?_
      refine p_aload_n (pc := 14) cx dX0_giveBack_14 rfl 1 rfl ?_
      refine p_iload (pc := 15) cx dX0_giveBack_15 5 rfl ?_
      refine p_iload_n (pc := 17) cx dX0_giveBack_17 rfl 2 rfl ?_
      refine p_iadd (pc := 18) cx dX0_giveBack_18 ?_
      refine p_iald (pc := 19) cx hv1 hw.1 dX0_giveBack_19 ?_
      have hw := hw.2
      refine p_i2l (pc := 20) cx dX0_giveBack_20 ?_
      refine p_ldc2 (pc := 21) cx dX0_giveBack_21 t2_210 ?_
      refine p_land (pc := 24) cx dX0_giveBack_24 ?_
      refine p_aload_n (pc := 25) cx dX0_giveBack_25 rfl 0 rfl ?_
      refine gf_0_0 (pc := 26) cx hv0 t1_85 dX0_giveBack_26 ?_
      have hr_2 : Is G 8 (mR M v0 0) := TYR.at hT hv0 0 8 rfl (by decide)
      refine p_iload (pc := 29) cx dX0_giveBack_29 5 rfl ?_
      refine p_callVl (pc := 31) [.int v6] cx (c_X9_limb cx.2.2.2.2.2.2 hT hr_2 hw) cf_X9_limb cv_X9_limb t2_211 hr_2 ⟨by decide, rfl, rfl⟩ ⟨rfl, rfl⟩ ⟨Nat.le_of_ble_eq_true rfl, Nat.le_of_ble_eq_true rfl⟩ rfl rfl (Nat.le_of_ble_eq_true rfl) dX0_giveBack_31 (fun r3 M3 hw hM3 => ?_)
      refine p_ladd (pc := 34) cx dX0_giveBack_34 ?_
      refine p_ladd (pc := 35) cx dX0_giveBack_35 ?_
      refine p_topl (fun x4_4 ex4_4 => ?_)
      have hw := hw x4_4 ex4_4
      refine p_lstore (pc := 36) (lv' := [(0, .ref v0), (1, .ref v1), (2, .int v2), (3, .int v3), (4, .long x4_4), (6, .int v6)]) cx dX0_giveBack_36 (by decide) [1, 2, 3, 4, 0, 5] rfl ?_
      refine p_aload_n (pc := 38) cx dX0_giveBack_38 rfl 1 rfl ?_
      refine p_iload (pc := 39) cx dX0_giveBack_39 5 rfl ?_
      refine p_iload_n (pc := 41) cx dX0_giveBack_41 rfl 2 rfl ?_
      refine p_iadd (pc := 42) cx dX0_giveBack_42 ?_
      refine p_lload (pc := 43) cx dX0_giveBack_43 4 rfl ?_
      refine p_l2i (pc := 45) cx dX0_giveBack_45 ?_
      refine p_iast (pc := 46) cx hv1 hw.1 dX0_giveBack_46 ?_
      have hw := hw.2
      refine p_mem (fun M5 eM5 => ?_)
      have hw := hw M5 eM5
      have hM5 : TYR G M5.2.2.1 := by rw [eM5]; exact hM3
      refine p_lload (pc := 47) cx dX0_giveBack_47 4 rfl ?_
      refine p_bipush (pc := 49) (v := 32) cx dX0_giveBack_49 (by decide) ?_
      refine p_lushr (pc := 51) cx dX0_giveBack_51 ?_
      refine p_topl (fun x4_6 ex4_6 => ?_)
      have hw := hw x4_6 ex4_6
      refine p_lstore (pc := 52) (lv' := [(0, .ref v0), (1, .ref v1), (2, .int v2), (3, .int v3), (4, .long x4_6), (6, .int v6)]) cx dX0_giveBack_52 (by decide) [1, 2, 3, 4, 0, 5] rfl ?_
      obtain ⟨x6_7, ex6_7⟩ : ∃ y : Int32, y = v6 + 1 := ⟨_, rfl⟩
      have hw := hw x6_7 ex6_7
      refine p_iinc (pc := 54) (v := x6_7) (lv' := [(0, .ref v0), (1, .ref v1), (2, .int v2), (3, .int v3), (4, .long x4_6), (6, .int x6_7)]) cx dX0_giveBack_54 5 rfl (by rw [ex6_7]; rfl) (by decide) [1, 2, 3, 4, 5, 0] rfl ?_
      refine p_goto (pc := 57) (tgt := 6) cx dX0_giveBack_57 (by decide) ?_
      exact ih v0 v1 v2 v3 x4_6 x6_7 M5 hM5 hv0 hv1 hw
set_option maxHeartbeats 4000000 in
set_option maxRecDepth 100000 in
theorem c_X0_giveBack {l : Launch} {D : va_G} {G : SH} (hND : ND G) {a0 : Nat} {a1 : Nat} {a2 : Int32} {a3 : Int32} {M : MS} {Qp : MS → Prop} (hT : TYR G M.2.2.1) (ha0 : Is G 0 a0) (ha1 : Is G 12 a1) (hw : w_X0_giveBack G a0 a1 a2 a3 M Qp) : MeV l D G yX0_giveBack (Cond.code yX0_giveBack cX0_giveBack 7 none :: GW) rm_X0_giveBack [.ref a0, .ref a1, .int a2, .int a3] M Qp := by
  unfold MeV
  refine p_method (by decide) rfl (Nat.le_of_ble_eq_true rfl) hND ?_
  intro p e s m args below meth c cx hr hlk
  have cx : CX p s m args c D G cX0_giveBack 7 RX0 := cx
  unfold w_X0_giveBack at hw
  refine p_lconst (pc := 0) (v := 0) cx dX0_giveBack_0 (by decide) ?_
  refine p_lstore (pc := 1) (lv' := [(0, .ref a0), (1, .ref a1), (2, .int a2), (3, .int a3), (4, .long (0 : Int64))]) cx dX0_giveBack_1 (by decide) [1, 2, 3, 4, 0] rfl ?_
  refine p_iconst (pc := 3) (v := 0) cx dX0_giveBack_3 (by decide) ?_
  refine p_istore (pc := 4) (lv' := [(0, .ref a0), (1, .ref a1), (2, .int a2), (3, .int a3), (4, .long (0 : Int64)), (6, .int (0 : Int32))]) cx dX0_giveBack_4 (by decide) [1, 2, 3, 4, 5, 0] rfl ?_
  obtain ⟨n1, hw⟩ := hw
  exact x_X0_giveBack_6 cx hr hlk n1 a0 a1 a2 a3 0 0 M hT ha0 ha1 hw
set_option maxHeartbeats 4000000 in
set_option maxRecDepth 100000 in
theorem x_X0_quotientLimb_166 {p : Program} {l : Launch} {e : Env} {s : State} {m : MethodId} {args : Array Value} {below : List Frame} {meth : Method} {c : Code} {D : va_G} {G : SH} {Qp : Int32 → MS → Prop}  (cx : CX p s m args c D G cX0_quotientLimb 21 RX0) (hr : meth.sig.returnType = (some .int)) (hlk : meth.locks = false)  (v0 : Nat) (v1 : Nat) (v2 : Int32) (v3 : Int32) (v16 : Int64) (M : MS) (hT : TYR G M.2.2.1) (hv0 : Is G 0 v0) (hv1 : Is G 12 v1) (hw : w_X0_quotientLimb_166 G Qp v0 v1 v2 v3 v16 M) : PW p l e rm_X0_quotientLimb s m args below meth c D G 21 (MQ below (va_Qi Qp (POST D G) (AG G)) args s 0 0 (AG G)) 166 [(0, .ref v0), (1, .ref v1), (2, .int v2), (3, .int v3), (16, .long v16)] [] M := by
  unfold w_X0_quotientLimb_166 at hw
  refine p_aload_n (pc := 166) cx dX0_quotientLimb_166 rfl 0 rfl ?_
  refine p_aload_n (pc := 167) cx dX0_quotientLimb_167 rfl 1 rfl ?_
  refine p_iload_n (pc := 168) cx dX0_quotientLimb_168 rfl 2 rfl ?_
  refine p_iload_n (pc := 169) cx dX0_quotientLimb_169 rfl 3 rfl ?_
  refine p_lload (pc := 170) cx dX0_quotientLimb_170 4 rfl ?_
  refine p_callVi (pc := 172) [.ref v1, .int v2, .int v3, .long v16] cx (c_X0_takeAway cx.2.2.2.2.2.2 hT hv0 hv1 hw) cf_X0_takeAway cv_X0_takeAway t2_232 hv0 ⟨by decide, rfl, rfl⟩ ⟨rfl, rfl⟩ ⟨Nat.le_of_ble_eq_true rfl, Nat.le_of_ble_eq_true rfl⟩ rfl rfl (Nat.le_of_ble_eq_true rfl) dX0_quotientLimb_172 (fun r11 M11 hw hM11 => ?_)
  refine p_if_eq (pc := 175) (tgt := 191) cx dX0_quotientLimb_175 (by decide) (fun hc => ?_) (fun hc => ?_)
  · have hw := hw.1 hc
    refine p_lload (pc := 191) cx dX0_quotientLimb_191 4 rfl ?_
    refine p_l2i (pc := 193) cx dX0_quotientLimb_193 ?_
    exact p_iret (pc := 194) cx hr hlk dX0_quotientLimb_194 hM11 hw
  · have hw := hw.2 hc
    refine p_aload_n (pc := 178) cx dX0_quotientLimb_178 rfl 0 rfl ?_
    refine p_aload_n (pc := 179) cx dX0_quotientLimb_179 rfl 1 rfl ?_
    refine p_iload_n (pc := 180) cx dX0_quotientLimb_180 rfl 2 rfl ?_
    refine p_iload_n (pc := 181) cx dX0_quotientLimb_181 rfl 3 rfl ?_
    refine p_callVv (pc := 182) [.ref v1, .int v2, .int v3] cx (c_X0_giveBack cx.2.2.2.2.2.2 hM11 hv0 hv1 hw) cf_X0_giveBack cv_X0_giveBack t2_236 hv0 ⟨by decide, rfl, rfl⟩ ⟨rfl, rfl⟩ ⟨Nat.le_of_ble_eq_true rfl, Nat.le_of_ble_eq_true rfl⟩ rfl rfl (Nat.le_of_ble_eq_true rfl) dX0_quotientLimb_182 (fun M12 hw hM12 => ?_)
    refine p_lload (pc := 185) cx dX0_quotientLimb_185 4 rfl ?_
    refine p_lconst (pc := 187) (v := 1) cx dX0_quotientLimb_187 (by decide) ?_
    refine p_lsub (pc := 188) cx dX0_quotientLimb_188 ?_
    refine p_topl (fun x16_13 ex16_13 => ?_)
    have hw := hw x16_13 ex16_13
    refine p_lstore (pc := 189) (lv' := [(16, .long x16_13)]) cx dX0_quotientLimb_189 (by decide) [0] rfl ?_
    refine p_lload (pc := 191) cx dX0_quotientLimb_191 0 rfl ?_
    refine p_l2i (pc := 193) cx dX0_quotientLimb_193 ?_
    exact p_iret (pc := 194) cx hr hlk dX0_quotientLimb_194 hM12 hw
set_option maxHeartbeats 4000000 in
set_option maxRecDepth 100000 in
theorem x_X0_quotientLimb_110 {p : Program} {l : Launch} {e : Env} {s : State} {m : MethodId} {args : Array Value} {below : List Frame} {meth : Method} {c : Code} {D : va_G} {G : SH} {Qp : Int32 → MS → Prop}  (cx : CX p s m args c D G cX0_quotientLimb 21 RX0) (hr : meth.sig.returnType = (some .int)) (hlk : meth.locks = false)  : ∀ (n : Nat) (v0 : Nat) (v1 : Nat) (v2 : Int32) (v3 : Int32) (v8 : Int64) (v10 : Int64) (v12 : Int64) (v16 : Int64) (v18 : Int64) (v20 : Int32) (M : MS), TYR G M.2.2.1 → Is G 0 v0 → Is G 12 v1 → w_X0_quotientLimb_110 G Qp n v0 v1 v2 v3 v8 v10 v12 v16 v18 v20 M → PW p l e rm_X0_quotientLimb s m args below meth c D G 21 (MQ below (va_Qi Qp (POST D G) (AG G)) args s 0 0 (AG G)) 110 [(0, .ref v0), (1, .ref v1), (2, .int v2), (3, .int v3), (8, .long v8), (10, .long v10), (12, .long v12), (16, .long v16), (18, .long v18), (20, .int v20)] [] M := by
  intro n
  induction n with
  | zero =>
    intro v0 v1 v2 v3 v8 v10 v12 v16 v18 v20 M hT hv0 hv1 hw
    exact hw.elim
  | succ n ih =>
    intro v0 v1 v2 v3 v8 v10 v12 v16 v18 v20 M hT hv0 hv1 hw
    rw [w_X0_quotientLimb_110] at hw
    refine p_iload (pc := 110) cx dX0_quotientLimb_110 9 rfl ?_
    refine p_iconst (pc := 112) (v := 2) cx dX0_quotientLimb_112 (by decide) ?_
    refine p_icmp_ge (pc := 113) (tgt := 166) cx dX0_quotientLimb_113 (by decide) (fun hc => ?_) (fun hc => ?_)
    · have hw := hw.1 hc
      refine p_perm (lv' := [(0, .ref v0), (1, .ref v1), (2, .int v2), (3, .int v3), (16, .long v16)]) [0, 1, 2, 3, 7] rfl ?_
      exact x_X0_quotientLimb_166 cx hr hlk v0 v1 v2 v3 v16 M hT hv0 hv1 hw
    · have hw := hw.2 hc
      refine p_lload (pc := 116) cx dX0_quotientLimb_116 8 rfl ?_
      refine p_ldc2 (pc := 118) cx dX0_quotientLimb_118 t2_210 ?_
      refine p_lcmp (pc := 121) cx dX0_quotientLimb_121 ?_
      refine p_if_gt (pc := 122) (tgt := 166) cx dX0_quotientLimb_122 (by decide) (fun hc => ?_) (fun hc => ?_)
      · have hw := hw.1 ((lg_cmp_gt _ _).mp hc)
        refine p_perm (lv' := [(0, .ref v0), (1, .ref v1), (2, .int v2), (3, .int v3), (16, .long v16)]) [0, 1, 2, 3, 7] rfl ?_
        exact x_X0_quotientLimb_166 cx hr hlk v0 v1 v2 v3 v16 M hT hv0 hv1 hw
      · have hw := hw.2 (fun q => hc ((lg_cmp_gt _ _).mpr q))
        refine p_lload (pc := 125) cx dX0_quotientLimb_125 7 rfl ?_
        refine p_lload (pc := 127) cx dX0_quotientLimb_127 6 rfl ?_
        refine p_lmul (pc := 129) cx dX0_quotientLimb_129 ?_
        refine p_lload (pc := 130) cx dX0_quotientLimb_130 8 rfl ?_
        refine p_bipush (pc := 132) (v := 32) cx dX0_quotientLimb_132 (by decide) ?_
        refine p_lshl (pc := 134) cx dX0_quotientLimb_134 ?_
        refine p_lload (pc := 135) cx dX0_quotientLimb_135 4 rfl ?_
        refine p_lor (pc := 137) cx dX0_quotientLimb_137 ?_
        refine p_callSi (pc := 138) [.long (v16 * v12), .long ((v18 <<< ((32 : Int32).toInt64 &&& 63)) ||| v8)] cx (c_J13_compareUnsigned_74951 cx.2.2.2.2.2.2 hT hw) cf_J13_compareUnsigned_74951 cv_J13_compareUnsigned_74951 t2_225 ⟨rfl, rfl⟩ ⟨Nat.le_of_ble_eq_true rfl, Nat.le_of_ble_eq_true rfl⟩ rfl rfl (Nat.le_of_ble_eq_true rfl) dX0_quotientLimb_138 (fun r14 M14 hw hM14 => ?_)
        refine p_if_gt (pc := 141) (tgt := 147) cx dX0_quotientLimb_141 (by decide) (fun hc => ?_) (fun hc => ?_)
        · have hw := hw.1 hc
          refine p_lload (pc := 147) cx dX0_quotientLimb_147 7 rfl ?_
          refine p_lconst (pc := 149) (v := 1) cx dX0_quotientLimb_149 (by decide) ?_
          refine p_lsub (pc := 150) cx dX0_quotientLimb_150 ?_
          refine p_topl (fun x16_15 ex16_15 => ?_)
          have hw := hw x16_15 ex16_15
          refine p_lstore (pc := 151) (lv' := [(0, .ref v0), (1, .ref v1), (2, .int v2), (3, .int v3), (8, .long v8), (10, .long v10), (12, .long v12), (16, .long x16_15), (18, .long v18), (20, .int v20)]) cx dX0_quotientLimb_151 (by decide) [1, 2, 3, 4, 5, 6, 7, 0, 8, 9] rfl ?_
          refine p_lload (pc := 153) cx dX0_quotientLimb_153 8 rfl ?_
          refine p_lload (pc := 155) cx dX0_quotientLimb_155 5 rfl ?_
          refine p_ladd (pc := 157) cx dX0_quotientLimb_157 ?_
          refine p_topl (fun x18_16 ex18_16 => ?_)
          have hw := hw x18_16 ex18_16
          refine p_lstore (pc := 158) (lv' := [(0, .ref v0), (1, .ref v1), (2, .int v2), (3, .int v3), (8, .long v8), (10, .long v10), (12, .long v12), (16, .long x16_15), (18, .long x18_16), (20, .int v20)]) cx dX0_quotientLimb_158 (by decide) [1, 2, 3, 4, 5, 6, 7, 8, 0, 9] rfl ?_
          obtain ⟨x20_17, ex20_17⟩ : ∃ y : Int32, y = v20 + 1 := ⟨_, rfl⟩
          have hw := hw x20_17 ex20_17
          refine p_iinc (pc := 160) (v := x20_17) (lv' := [(0, .ref v0), (1, .ref v1), (2, .int v2), (3, .int v3), (8, .long v8), (10, .long v10), (12, .long v12), (16, .long x16_15), (18, .long x18_16), (20, .int x20_17)]) cx dX0_quotientLimb_160 9 rfl (by rw [ex20_17]; rfl) (by decide) [1, 2, 3, 4, 5, 6, 7, 8, 9, 0] rfl ?_
          refine p_goto (pc := 163) (tgt := 110) cx dX0_quotientLimb_163 (by decide) ?_
          exact ih v0 v1 v2 v3 v8 v10 v12 x16_15 x18_16 x20_17 M14 hM14 hv0 hv1 hw
        · have hw := hw.2 hc
          refine p_goto (pc := 144) (tgt := 166) cx dX0_quotientLimb_144 (by decide) ?_
          refine p_perm (lv' := [(0, .ref v0), (1, .ref v1), (2, .int v2), (3, .int v3), (16, .long v16)]) [0, 1, 2, 3, 7] rfl ?_
          exact x_X0_quotientLimb_166 cx hr hlk v0 v1 v2 v3 v16 M14 hM14 hv0 hv1 hw
set_option maxHeartbeats 4000000 in
set_option maxRecDepth 100000 in
theorem x_X0_quotientLimb_95 {p : Program} {l : Launch} {e : Env} {s : State} {m : MethodId} {args : Array Value} {below : List Frame} {meth : Method} {c : Code} {D : va_G} {G : SH} {Qp : Int32 → MS → Prop}  (cx : CX p s m args c D G cX0_quotientLimb 21 RX0) (hr : meth.sig.returnType = (some .int)) (hlk : meth.locks = false)  (v0 : Nat) (v1 : Nat) (v2 : Int32) (v3 : Int32) (v8 : Int64) (v10 : Int64) (v12 : Int64) (v14 : Int64) (s0 : Int64) (M : MS) (hT : TYR G M.2.2.1) (hv0 : Is G 0 v0) (hv1 : Is G 12 v1) (hw : w_X0_quotientLimb_95 G Qp v0 v1 v2 v3 v8 v10 v12 v14 s0 M) : PW p l e rm_X0_quotientLimb s m args below meth c D G 21 (MQ below (va_Qi Qp (POST D G) (AG G)) args s 0 0 (AG G)) 95 [(0, .ref v0), (1, .ref v1), (2, .int v2), (3, .int v3), (8, .long v8), (10, .long v10), (12, .long v12), (14, .long v14)] [.long s0] M := by
  unfold w_X0_quotientLimb_95 at hw
  refine p_lstore (pc := 95) (lv' := [(0, .ref v0), (1, .ref v1), (2, .int v2), (3, .int v3), (8, .long v8), (10, .long v10), (12, .long v12), (14, .long v14), (16, .long s0)]) cx dX0_quotientLimb_95 (by decide) [1, 2, 3, 4, 5, 6, 7, 8, 0] rfl ?_
  refine p_lload (pc := 97) cx dX0_quotientLimb_97 7 rfl ?_
  refine p_lload (pc := 99) cx dX0_quotientLimb_99 8 rfl ?_
  refine p_lload (pc := 101) cx dX0_quotientLimb_101 5 rfl ?_
  refine p_lmul (pc := 103) cx dX0_quotientLimb_103 ?_
  refine p_lsub (pc := 104) cx dX0_quotientLimb_104 ?_
  refine p_topl (fun x18_10 ex18_10 => ?_)
  have hw := hw x18_10 ex18_10
  refine p_lstore (pc := 105) (lv' := [(0, .ref v0), (1, .ref v1), (2, .int v2), (3, .int v3), (8, .long v8), (10, .long v10), (12, .long v12), (16, .long s0), (18, .long x18_10)]) cx dX0_quotientLimb_105 (by decide) [1, 2, 3, 4, 5, 6, 7, 9, 0] rfl ?_
  refine p_iconst (pc := 107) (v := 0) cx dX0_quotientLimb_107 (by decide) ?_
  refine p_istore (pc := 108) (lv' := [(0, .ref v0), (1, .ref v1), (2, .int v2), (3, .int v3), (8, .long v8), (10, .long v10), (12, .long v12), (16, .long s0), (18, .long x18_10), (20, .int (0 : Int32))]) cx dX0_quotientLimb_108 (by decide) [1, 2, 3, 4, 5, 6, 7, 8, 9, 0] rfl ?_
  obtain ⟨n1, hw⟩ := hw
  exact x_X0_quotientLimb_110 cx hr hlk n1 v0 v1 v2 v3 v8 v10 v12 s0 x18_10 0 M hT hv0 hv1 hw
set_option maxHeartbeats 4000000 in
set_option maxRecDepth 100000 in
theorem c_X0_quotientLimb {l : Launch} {D : va_G} {G : SH} (hND : ND G) {a0 : Nat} {a1 : Nat} {a2 : Int32} {a3 : Int32} {M : MS} {Qp : Int32 → MS → Prop} (hT : TYR G M.2.2.1) (ha0 : Is G 0 a0) (ha1 : Is G 12 a1) (hw : w_X0_quotientLimb G a0 a1 a2 a3 M Qp) : MeI l D G yX0_quotientLimb (Cond.code yX0_quotientLimb cX0_quotientLimb 21 (some .int) :: GW) rm_X0_quotientLimb [.ref a0, .ref a1, .int a2, .int a3] M Qp := by
  unfold MeI
  refine p_method (by decide) rfl (Nat.le_of_ble_eq_true rfl) hND ?_
  intro p e s m args below meth c cx hr hlk
  have cx : CX p s m args c D G cX0_quotientLimb 21 RX0 := cx
  unfold w_X0_quotientLimb at hw
  refine p_aload_n (pc := 0) cx dX0_quotientLimb_0 rfl 1 rfl ?_
  refine p_iload_n (pc := 1) cx dX0_quotientLimb_1 rfl 2 rfl ?_
  refine p_iload_n (pc := 2) cx dX0_quotientLimb_2 rfl 3 rfl ?_
  refine p_iadd (pc := 3) cx dX0_quotientLimb_3 ?_
  refine p_iald (pc := 4) cx ha1 hw.1 dX0_quotientLimb_4 ?_
  have hw := hw.2
  refine p_i2l (pc := 5) cx dX0_quotientLimb_5 ?_
  refine p_ldc2 (pc := 6) cx dX0_quotientLimb_6 t2_210 ?_
  refine p_land (pc := 9) cx dX0_quotientLimb_9 ?_
  refine p_topl (fun x4_1 ex4_1 => ?_)
  have hw := hw x4_1 ex4_1
  refine p_lstore (pc := 10) (lv' := [(0, .ref a0), (1, .ref a1), (2, .int a2), (3, .int a3), (4, .long x4_1)]) cx dX0_quotientLimb_10 (by decide) [1, 2, 3, 4, 0] rfl ?_
  refine p_aload_n (pc := 12) cx dX0_quotientLimb_12 rfl 1 rfl ?_
  refine p_iload_n (pc := 13) cx dX0_quotientLimb_13 rfl 2 rfl ?_
  refine p_iload_n (pc := 14) cx dX0_quotientLimb_14 rfl 3 rfl ?_
  refine p_iadd (pc := 15) cx dX0_quotientLimb_15 ?_
  refine p_iconst (pc := 16) (v := 1) cx dX0_quotientLimb_16 (by decide) ?_
  refine p_isub (pc := 17) cx dX0_quotientLimb_17 ?_
  refine p_iald (pc := 18) cx ha1 hw.1 dX0_quotientLimb_18 ?_
  have hw := hw.2
  refine p_i2l (pc := 19) cx dX0_quotientLimb_19 ?_
  refine p_ldc2 (pc := 20) cx dX0_quotientLimb_20 t2_210 ?_
  refine p_land (pc := 23) cx dX0_quotientLimb_23 ?_
  refine p_topl (fun x6_2 ex6_2 => ?_)
  have hw := hw x6_2 ex6_2
  refine p_lstore (pc := 24) (lv' := [(0, .ref a0), (1, .ref a1), (2, .int a2), (3, .int a3), (4, .long x4_1), (6, .long x6_2)]) cx dX0_quotientLimb_24 (by decide) [1, 2, 3, 4, 5, 0] rfl ?_
  refine p_aload_n (pc := 26) cx dX0_quotientLimb_26 rfl 1 rfl ?_
  refine p_iload_n (pc := 27) cx dX0_quotientLimb_27 rfl 2 rfl ?_
  refine p_iload_n (pc := 28) cx dX0_quotientLimb_28 rfl 3 rfl ?_
  refine p_iadd (pc := 29) cx dX0_quotientLimb_29 ?_
  refine p_iconst (pc := 30) (v := 2) cx dX0_quotientLimb_30 (by decide) ?_
  refine p_isub (pc := 31) cx dX0_quotientLimb_31 ?_
  refine p_iald (pc := 32) cx ha1 hw.1 dX0_quotientLimb_32 ?_
  have hw := hw.2
  refine p_i2l (pc := 33) cx dX0_quotientLimb_33 ?_
  refine p_ldc2 (pc := 34) cx dX0_quotientLimb_34 t2_210 ?_
  refine p_land (pc := 37) cx dX0_quotientLimb_37 ?_
  refine p_topl (fun x8_3 ex8_3 => ?_)
  have hw := hw x8_3 ex8_3
  refine p_lstore (pc := 38) (lv' := [(0, .ref a0), (1, .ref a1), (2, .int a2), (3, .int a3), (4, .long x4_1), (6, .long x6_2), (8, .long x8_3)]) cx dX0_quotientLimb_38 (by decide) [1, 2, 3, 4, 5, 6, 0] rfl ?_
  refine p_aload_n (pc := 40) cx dX0_quotientLimb_40 rfl 0 rfl ?_
  refine gf_0_0 (pc := 41) cx ha0 t1_85 dX0_quotientLimb_41 ?_
  have hr_4 : Is G 8 (mR M a0 0) := TYR.at hT ha0 0 8 rfl (by decide)
  refine p_iload_n (pc := 44) cx dX0_quotientLimb_44 rfl 3 rfl ?_
  refine p_iconst (pc := 45) (v := 1) cx dX0_quotientLimb_45 (by decide) ?_
  refine p_isub (pc := 46) cx dX0_quotientLimb_46 ?_
  refine p_callVl (pc := 47) [.int (a3 - 1)] cx (c_X9_limb cx.2.2.2.2.2.2 hT hr_4 hw) cf_X9_limb cv_X9_limb t2_211 hr_4 ⟨by decide, rfl, rfl⟩ ⟨rfl, rfl⟩ ⟨Nat.le_of_ble_eq_true rfl, Nat.le_of_ble_eq_true rfl⟩ rfl rfl (Nat.le_of_ble_eq_true rfl) dX0_quotientLimb_47 (fun r5 M5 hw hM5 => ?_)
  refine p_lstore (pc := 50) (lv' := [(0, .ref a0), (1, .ref a1), (2, .int a2), (3, .int a3), (4, .long x4_1), (6, .long x6_2), (8, .long x8_3), (10, .long r5)]) cx dX0_quotientLimb_50 (by decide) [1, 2, 3, 4, 5, 6, 7, 0] rfl ?_
  refine p_aload_n (pc := 52) cx dX0_quotientLimb_52 rfl 0 rfl ?_
  refine gf_0_0 (pc := 53) cx ha0 t1_85 dX0_quotientLimb_53 ?_
  have hr_6 : Is G 8 (mR M5 a0 0) := TYR.at hM5 ha0 0 8 rfl (by decide)
  refine p_iload_n (pc := 56) cx dX0_quotientLimb_56 rfl 3 rfl ?_
  refine p_iconst (pc := 57) (v := 2) cx dX0_quotientLimb_57 (by decide) ?_
  refine p_isub (pc := 58) cx dX0_quotientLimb_58 ?_
  refine p_callVl (pc := 59) [.int (a3 - 2)] cx (c_X9_limb cx.2.2.2.2.2.2 hM5 hr_6 hw) cf_X9_limb cv_X9_limb t2_211 hr_6 ⟨by decide, rfl, rfl⟩ ⟨rfl, rfl⟩ ⟨Nat.le_of_ble_eq_true rfl, Nat.le_of_ble_eq_true rfl⟩ rfl rfl (Nat.le_of_ble_eq_true rfl) dX0_quotientLimb_59 (fun r7 M7 hw hM7 => ?_)
  refine p_lstore (pc := 62) (lv' := [(0, .ref a0), (1, .ref a1), (2, .int a2), (3, .int a3), (4, .long x4_1), (6, .long x6_2), (8, .long x8_3), (10, .long r5), (12, .long r7)]) cx dX0_quotientLimb_62 (by decide) [1, 2, 3, 4, 5, 6, 7, 8, 0] rfl ?_
  refine p_lload (pc := 64) cx dX0_quotientLimb_64 4 rfl ?_
  refine p_bipush (pc := 66) (v := 32) cx dX0_quotientLimb_66 (by decide) ?_
  refine p_lshl (pc := 68) cx dX0_quotientLimb_68 ?_
  refine p_lload (pc := 69) cx dX0_quotientLimb_69 5 rfl ?_
  refine p_lor (pc := 71) cx dX0_quotientLimb_71 ?_
  refine p_topl (fun x14_8 ex14_8 => ?_)
  have hw := hw x14_8 ex14_8
  refine p_lstore (pc := 72) (lv' := [(0, .ref a0), (1, .ref a1), (2, .int a2), (3, .int a3), (4, .long x4_1), (8, .long x8_3), (10, .long r5), (12, .long r7), (14, .long x14_8)]) cx dX0_quotientLimb_72 (by decide) [1, 2, 3, 4, 5, 7, 8, 9, 0] rfl ?_
  refine p_lload (pc := 74) cx dX0_quotientLimb_74 4 rfl ?_
  refine p_lload (pc := 76) cx dX0_quotientLimb_76 6 rfl ?_
  refine p_lcmp (pc := 78) cx dX0_quotientLimb_78 ?_
  refine p_if_lt (pc := 79) (tgt := 88) cx dX0_quotientLimb_79 (by decide) (fun hc => ?_) (fun hc => ?_)
  · have hw := hw.1 ((lg_cmp_lt _ _).mp hc)
    refine p_lload (pc := 88) cx dX0_quotientLimb_88 8 rfl ?_
    refine p_lload (pc := 90) cx dX0_quotientLimb_90 6 rfl ?_
    refine p_callSl (pc := 92) [.long x14_8, .long r5] cx (c_X0_quotientOfPair cx.2.2.2.2.2.2 hM7 hw) cf_X0_quotientOfPair cv_X0_quotientOfPair t2_212 ⟨rfl, rfl⟩ ⟨Nat.le_of_ble_eq_true rfl, Nat.le_of_ble_eq_true rfl⟩ rfl rfl (Nat.le_of_ble_eq_true rfl) dX0_quotientLimb_92 (fun r9 M9 hw hM9 => ?_)
    refine p_perm (lv' := [(0, .ref a0), (1, .ref a1), (2, .int a2), (3, .int a3), (8, .long x8_3), (10, .long r5), (12, .long r7), (14, .long x14_8)]) [0, 1, 2, 3, 5, 6, 7, 8] rfl ?_
    exact x_X0_quotientLimb_95 cx hr hlk a0 a1 a2 a3 x8_3 r5 r7 x14_8 r9 M9 hM9 ha0 ha1 hw
  · have hw := hw.2 (fun q => hc ((lg_cmp_lt _ _).mpr q))
    refine p_ldc2 (pc := 82) cx dX0_quotientLimb_82 t2_210 ?_
    refine p_goto (pc := 85) (tgt := 95) cx dX0_quotientLimb_85 (by decide) ?_
    refine p_perm (lv' := [(0, .ref a0), (1, .ref a1), (2, .int a2), (3, .int a3), (8, .long x8_3), (10, .long r5), (12, .long r7), (14, .long x14_8)]) [0, 1, 2, 3, 5, 6, 7, 8] rfl ?_
    exact x_X0_quotientLimb_95 cx hr hlk a0 a1 a2 a3 x8_3 r5 r7 x14_8 4294967295 M7 hM7 ha0 ha1 hw
set_option maxHeartbeats 4000000 in
set_option maxRecDepth 100000 in
theorem x_X0_split_156 {p : Program} {l : Launch} {e : Env} {s : State} {m : MethodId} {args : Array Value} {below : List Frame} {meth : Method} {c : Code} {D : va_G} {G : SH} {Qp : MS → Prop}  (cx : CX p s m args c D G cX0_split 8 RX0) (hr : meth.sig.returnType = none) (hlk : meth.locks = false)  : ∀ (n : Nat) (v0 : Nat) (v1 : Nat) (v2 : Nat) (v4 : Nat) (v5 : Int32) (v6 : Int32) (v7 : Int32) (M : MS), TYR G M.2.2.1 → Is G 0 v0 → Is G 8 v1 → Is G 8 v2 → Is G 8 v4 → w_X0_split_156 G Qp n v0 v1 v2 v4 v5 v6 v7 M → PW p l e rm_X0_split s m args below meth c D G 8 (MQ below (va_Qv Qp (POST D G) (AG G)) args s 0 0 (AG G)) 156 [(0, .ref v0), (1, .ref v1), (2, .ref v2), (4, .ref v4), (5, .int v5), (6, .int v6), (7, .int v7)] [] M := by
  intro n
  induction n with
  | zero =>
    intro v0 v1 v2 v4 v5 v6 v7 M hT hv0 hv1 hv2 hv4 hw
    exact hw.elim
  | succ n ih =>
    intro v0 v1 v2 v4 v5 v6 v7 M hT hv0 hv1 hv2 hv4 hw
    rw [w_X0_split_156] at hw
    refine p_iload (pc := 156) cx dX0_split_156 6 rfl ?_
    refine p_if_lt (pc := 158) (tgt := 189) cx dX0_split_158 (by decide) (fun hc => ?_) (fun hc => ?_)
    · have hw := hw.1 hc
      refine p_aload_n (pc := 189) cx dX0_split_189 rfl 1 rfl ?_
      refine p_iload (pc := 190) cx dX0_split_190 4 rfl ?_
      refine p_iconst (pc := 192) (v := 1) cx dX0_split_192 (by decide) ?_
      refine p_iadd (pc := 193) cx dX0_split_193 ?_
      refine p_callVv (pc := 194) [.int (v5 + 1)] cx (c_X9_keep cx.2.2.2.2.2.2 hT hv1 hw) cf_X9_keep cv_X9_keep t2_203 hv1 ⟨by decide, rfl, rfl⟩ ⟨rfl, rfl⟩ ⟨Nat.le_of_ble_eq_true rfl, Nat.le_of_ble_eq_true rfl⟩ rfl rfl (Nat.le_of_ble_eq_true rfl) dX0_split_194 (fun M14 hw hM14 => ?_)
      refine p_aload_n (pc := 197) cx dX0_split_197 rfl 2 rfl ?_
      refine p_aload (pc := 198) cx dX0_split_198 3 rfl ?_
      refine gf_8_1 (pc := 200) cx hv4 t1_50 dX0_split_200 ?_
      refine p_callVv (pc := 203) [.int (mI M14 v4 1)] cx (c_X9_keep cx.2.2.2.2.2.2 hM14 hv2 hw) cf_X9_keep cv_X9_keep t2_203 hv2 ⟨by decide, rfl, rfl⟩ ⟨rfl, rfl⟩ ⟨Nat.le_of_ble_eq_true rfl, Nat.le_of_ble_eq_true rfl⟩ rfl rfl (Nat.le_of_ble_eq_true rfl) dX0_split_203 (fun M15 hw hM15 => ?_)
      refine p_aload_n (pc := 206) cx dX0_split_206 rfl 2 rfl ?_
      refine p_aload_n (pc := 207) cx dX0_split_207 rfl 2 rfl ?_
      refine p_iload (pc := 208) cx dX0_split_208 5 rfl ?_
      refine p_callSv (pc := 210) [.ref v2, .ref v2, .int v6] cx (c_X7_shiftDown cx.2.2.2.2.2.2 hM15 hv2 hv2 hw) cf_X7_shiftDown cv_X7_shiftDown t3_0 ⟨rfl, rfl⟩ ⟨Nat.le_of_ble_eq_true rfl, Nat.le_of_ble_eq_true rfl⟩ rfl rfl (Nat.le_of_ble_eq_true rfl) dX0_split_210 (fun M16 hw hM16 => ?_)
      exact p_vret (pc := 213) cx hr hlk dX0_split_213 hM16 hw
    · have hw := hw.2 hc
      refine p_aload_n (pc := 161) cx dX0_split_161 rfl 1 rfl ?_
      refine gf_8_0 (pc := 162) cx hv1 t1_44 dX0_split_162 ?_
      have hr_17 : Is G 12 (mR M v1 0) := TYR.at hT hv1 0 12 rfl (by decide)
      refine p_iload (pc := 165) cx dX0_split_165 6 rfl ?_
      refine p_aload_n (pc := 167) cx dX0_split_167 rfl 0 rfl ?_
      refine p_aload_n (pc := 168) cx dX0_split_168 rfl 2 rfl ?_
      refine gf_8_0 (pc := 169) cx hv2 t1_44 dX0_split_169 ?_
      have hr_18 : Is G 12 (mR M v2 0) := TYR.at hT hv2 0 12 rfl (by decide)
      refine p_iload (pc := 172) cx dX0_split_172 6 rfl ?_
      refine p_aload (pc := 174) cx dX0_split_174 3 rfl ?_
      refine gf_8_1 (pc := 176) cx hv4 t1_50 dX0_split_176 ?_
      refine p_callVi (pc := 179) [.ref (mR M v2 0), .int v7, .int (mI M v4 1)] cx (c_X0_quotientLimb cx.2.2.2.2.2.2 hT hv0 hr_18 hw) cf_X0_quotientLimb cv_X0_quotientLimb t2_221 hv0 ⟨by decide, rfl, rfl⟩ ⟨rfl, rfl⟩ ⟨Nat.le_of_ble_eq_true rfl, Nat.le_of_ble_eq_true rfl⟩ rfl rfl (Nat.le_of_ble_eq_true rfl) dX0_split_179 (fun r19 M19 hw hM19 => ?_)
      refine p_iast (pc := 182) cx hr_17 hw.1 dX0_split_182 ?_
      have hw := hw.2
      refine p_mem (fun M20 eM20 => ?_)
      have hw := hw M20 eM20
      have hM20 : TYR G M20.2.2.1 := by rw [eM20]; exact hM19
      obtain ⟨x7_21, ex7_21⟩ : ∃ y : Int32, y = v7 + (-1) := ⟨_, rfl⟩
      have hw := hw x7_21 ex7_21
      refine p_iinc (pc := 183) (v := x7_21) (lv' := [(0, .ref v0), (1, .ref v1), (2, .ref v2), (4, .ref v4), (5, .int v5), (6, .int v6), (7, .int x7_21)]) cx dX0_split_183 6 rfl (by rw [ex7_21]; rfl) (by decide) [1, 2, 3, 4, 5, 6, 0] rfl ?_
      refine p_goto (pc := 186) (tgt := 156) cx dX0_split_186 (by decide) ?_
      exact ih v0 v1 v2 v4 v5 v6 x7_21 M20 hM20 hv0 hv1 hv2 hv4 hw
set_option maxHeartbeats 4000000 in
set_option maxRecDepth 100000 in
theorem c_X0_split {l : Launch} {D : va_G} {G : SH} (hND : ND G) {a0 : Nat} {a1 : Nat} {a2 : Nat} {a3 : Nat} {a4 : Nat} {M : MS} {Qp : MS → Prop} (hT : TYR G M.2.2.1) (ha0 : Is G 0 a0) (ha1 : Is G 8 a1) (ha2 : Is G 8 a2) (ha3 : Is G 8 a3) (ha4 : Is G 8 a4) (hw : w_X0_split G a0 a1 a2 a3 a4 M Qp) : MeV l D G yX0_split (Cond.code yX0_split cX0_split 8 none :: GW) rm_X0_split [.ref a0, .ref a1, .ref a2, .ref a3, .ref a4] M Qp := by
  unfold MeV
  refine p_method (by decide) rfl (Nat.le_of_ble_eq_true rfl) hND ?_
  intro p e s m args below meth c cx hr hlk
  have cx : CX p s m args c D G cX0_split 8 RX0 := cx
  unfold w_X0_split at hw
  refine p_aload_n (pc := 0) cx dX0_split_0 rfl 3 rfl ?_
  refine gf_8_1 (pc := 1) cx ha3 t1_50 dX0_split_1 ?_
  refine p_aload (pc := 4) cx dX0_split_4 4 rfl ?_
  refine gf_8_1 (pc := 6) cx ha4 t1_50 dX0_split_6 ?_
  refine p_isub (pc := 9) cx dX0_split_9 ?_
  refine p_topi (fun x5_1 ex5_1 => ?_)
  have hw := hw x5_1 ex5_1
  refine p_istore (pc := 10) (lv' := [(0, .ref a0), (1, .ref a1), (2, .ref a2), (3, .ref a3), (4, .ref a4), (5, .int x5_1)]) cx dX0_split_10 (by decide) [1, 2, 3, 4, 5, 0] rfl ?_
  refine p_aload_n (pc := 12) cx dX0_split_12 rfl 1 rfl ?_
  refine p_iconst (pc := 13) (v := 0) cx dX0_split_13 (by decide) ?_
  refine p_callVv (pc := 14) [.int (0 : Int32)] cx (c_X9_keep cx.2.2.2.2.2.2 hT ha1 hw) cf_X9_keep cv_X9_keep t2_203 ha1 ⟨by decide, rfl, rfl⟩ ⟨rfl, rfl⟩ ⟨Nat.le_of_ble_eq_true rfl, Nat.le_of_ble_eq_true rfl⟩ rfl rfl (Nat.le_of_ble_eq_true rfl) dX0_split_14 (fun M2 hw hM2 => ?_)
  refine p_aload_n (pc := 17) cx dX0_split_17 rfl 2 rfl ?_
  refine p_iconst (pc := 18) (v := 0) cx dX0_split_18 (by decide) ?_
  refine p_callVv (pc := 19) [.int (0 : Int32)] cx (c_X9_keep cx.2.2.2.2.2.2 hM2 ha2 hw) cf_X9_keep cv_X9_keep t2_203 ha2 ⟨by decide, rfl, rfl⟩ ⟨rfl, rfl⟩ ⟨Nat.le_of_ble_eq_true rfl, Nat.le_of_ble_eq_true rfl⟩ rfl rfl (Nat.le_of_ble_eq_true rfl) dX0_split_19 (fun M3 hw hM3 => ?_)
  refine p_aload (pc := 22) cx dX0_split_22 4 rfl ?_
  refine gf_8_1 (pc := 24) cx ha4 t1_50 dX0_split_24 ?_
  refine p_if_eq (pc := 27) (tgt := 68) cx dX0_split_27 (by decide) (fun hc => ?_) (fun hc => ?_)
  · have hw := hw.1 hc
    exact p_vret (pc := 68) cx hr hlk dX0_split_68 hM3 hw
  · have hw := hw.2 hc
    refine p_iload (pc := 30) cx dX0_split_30 5 rfl ?_
    refine p_aload_n (pc := 32) cx dX0_split_32 rfl 1 rfl ?_
    refine gf_8_0 (pc := 33) cx ha1 t1_44 dX0_split_33 ?_
    have hr_4 : Is G 12 (mR M3 a1 0) := TYR.at hM3 ha1 0 12 rfl (by decide)
    refine p_alenI (pc := 36) cx hr_4 dX0_split_36 ?_
    refine p_icmp_ge (pc := 37) (tgt := 68) cx dX0_split_37 (by decide) (fun hc => ?_) (fun hc => ?_)
    · have hw := hw.1 hc
      exact p_vret (pc := 68) cx hr hlk dX0_split_68 hM3 hw
    · have hw := hw.2 hc
      refine p_aload_n (pc := 40) cx dX0_split_40 rfl 3 rfl ?_
      refine gf_8_1 (pc := 41) cx ha3 t1_50 dX0_split_41 ?_
      refine p_aload_n (pc := 44) cx dX0_split_44 rfl 2 rfl ?_
      refine gf_8_0 (pc := 45) cx ha2 t1_44 dX0_split_45 ?_
      have hr_5 : Is G 12 (mR M3 a2 0) := TYR.at hM3 ha2 0 12 rfl (by decide)
      refine p_alenI (pc := 48) cx hr_5 dX0_split_48 ?_
      refine p_icmp_ge (pc := 49) (tgt := 68) cx dX0_split_49 (by decide) (fun hc => ?_) (fun hc => ?_)
      · have hw := hw.1 hc
        exact p_vret (pc := 68) cx hr hlk dX0_split_68 hM3 hw
      · have hw := hw.2 hc
        refine p_aload (pc := 52) cx dX0_split_52 4 rfl ?_
        refine gf_8_1 (pc := 54) cx ha4 t1_50 dX0_split_54 ?_
        refine p_aload_n (pc := 57) cx dX0_split_57 rfl 0 rfl ?_
        refine gf_0_0 (pc := 58) cx ha0 t1_85 dX0_split_58 ?_
        have hr_6 : Is G 8 (mR M3 a0 0) := TYR.at hM3 ha0 0 8 rfl (by decide)
        refine gf_8_0 (pc := 61) cx hr_6 t1_44 dX0_split_61 ?_
        have hr_7 : Is G 12 (mR M3 (mR M3 a0 0) 0) := TYR.at hM3 hr_6 0 12 rfl (by decide)
        refine p_alenI (pc := 64) cx hr_7 dX0_split_64 ?_
        refine p_icmp_lt (pc := 65) (tgt := 69) cx dX0_split_65 (by decide) (fun hc => ?_) (fun hc => ?_)
        · have hw := hw.1 hc
          refine p_aload_n (pc := 69) cx dX0_split_69 rfl 3 rfl ?_
          refine p_aload (pc := 70) cx dX0_split_70 4 rfl ?_
          refine p_callSi (pc := 72) [.ref a3, .ref a4] cx (c_X7_order cx.2.2.2.2.2.2 hM3 ha3 ha4 hw) cf_X7_order cv_X7_order t2_204 ⟨rfl, rfl⟩ ⟨Nat.le_of_ble_eq_true rfl, Nat.le_of_ble_eq_true rfl⟩ rfl rfl (Nat.le_of_ble_eq_true rfl) dX0_split_72 (fun r8 M8 hw hM8 => ?_)
          refine p_if_ge (pc := 75) (tgt := 89) cx dX0_split_75 (by decide) (fun hc => ?_) (fun hc => ?_)
          · have hw := hw.1 hc
            refine p_aload (pc := 89) cx dX0_split_89 4 rfl ?_
            refine gf_8_1 (pc := 91) cx ha4 t1_50 dX0_split_91 ?_
            refine p_iconst (pc := 94) (v := 1) cx dX0_split_94 (by decide) ?_
            refine p_icmp_ne (pc := 95) (tgt := 116) cx dX0_split_95 (by decide) (fun hc => ?_) (fun hc => ?_)
            · have hw := hw.1 hc
              refine p_aload (pc := 116) cx dX0_split_116 4 rfl ?_
              refine gf_8_0 (pc := 118) cx ha4 t1_44 dX0_split_118 ?_
              have hr_9 : Is G 12 (mR M8 a4 0) := TYR.at hM8 ha4 0 12 rfl (by decide)
              refine p_aload (pc := 121) cx dX0_split_121 4 rfl ?_
              refine gf_8_1 (pc := 123) cx ha4 t1_50 dX0_split_123 ?_
              refine p_iconst (pc := 126) (v := 1) cx dX0_split_126 (by decide) ?_
              refine p_isub (pc := 127) cx dX0_split_127 ?_
              refine p_iald (pc := 128) cx hr_9 hw.1 dX0_split_128 ?_
              have hw := hw.2
              refine p_callSi (pc := 129) [.int (mA M8 (mR M8 a4 0) ((mI M8 a4 1) - 1).toNatClampNeg)] cx (c_J6_numberOfLeadingZeros_0f7a4 cx.2.2.2.2.2.2 hM8 hw) cf_J6_numberOfLeadingZeros_0f7a4 cv_J6_numberOfLeadingZeros_0f7a4 t2_216 ⟨rfl, rfl⟩ ⟨Nat.le_of_ble_eq_true rfl, Nat.le_of_ble_eq_true rfl⟩ rfl rfl (Nat.le_of_ble_eq_true rfl) dX0_split_129 (fun r10 M10 hw hM10 => ?_)
              refine p_istore (pc := 132) (lv' := [(0, .ref a0), (1, .ref a1), (2, .ref a2), (3, .ref a3), (4, .ref a4), (5, .int x5_1), (6, .int r10)]) cx dX0_split_132 (by decide) [1, 2, 3, 4, 5, 6, 0] rfl ?_
              refine p_aload_n (pc := 134) cx dX0_split_134 rfl 0 rfl ?_
              refine gf_0_0 (pc := 135) cx ha0 t1_85 dX0_split_135 ?_
              have hr_11 : Is G 8 (mR M10 a0 0) := TYR.at hM10 ha0 0 8 rfl (by decide)
              refine p_aload (pc := 138) cx dX0_split_138 4 rfl ?_
              refine p_iload (pc := 140) cx dX0_split_140 6 rfl ?_
              refine p_callSv (pc := 142) [.ref (mR M10 a0 0), .ref a4, .int r10] cx (c_X7_shiftUp cx.2.2.2.2.2.2 hM10 hr_11 ha4 hw) cf_X7_shiftUp cv_X7_shiftUp t2_220 ⟨rfl, rfl⟩ ⟨Nat.le_of_ble_eq_true rfl, Nat.le_of_ble_eq_true rfl⟩ rfl rfl (Nat.le_of_ble_eq_true rfl) dX0_split_142 (fun M12 hw hM12 => ?_)
              refine p_aload_n (pc := 145) cx dX0_split_145 rfl 2 rfl ?_
              refine p_aload_n (pc := 146) cx dX0_split_146 rfl 3 rfl ?_
              refine p_iload (pc := 147) cx dX0_split_147 6 rfl ?_
              refine p_callSv (pc := 149) [.ref a2, .ref a3, .int r10] cx (c_X7_shiftUp cx.2.2.2.2.2.2 hM12 ha2 ha3 hw) cf_X7_shiftUp cv_X7_shiftUp t2_220 ⟨rfl, rfl⟩ ⟨Nat.le_of_ble_eq_true rfl, Nat.le_of_ble_eq_true rfl⟩ rfl rfl (Nat.le_of_ble_eq_true rfl) dX0_split_149 (fun M13 hw hM13 => ?_)
              refine p_iload (pc := 152) cx dX0_split_152 5 rfl ?_
              refine p_istore (pc := 154) (lv' := [(0, .ref a0), (1, .ref a1), (2, .ref a2), (4, .ref a4), (5, .int x5_1), (6, .int r10), (7, .int x5_1)]) cx dX0_split_154 (by decide) [1, 2, 3, 5, 6, 7, 0] rfl ?_
              obtain ⟨n1, hw⟩ := hw
              exact x_X0_split_156 cx hr hlk n1 a0 a1 a2 a4 x5_1 r10 x5_1 M13 hM13 ha0 ha1 ha2 ha4 hw
            · have hw := hw.2 hc
              refine p_aload_n (pc := 98) cx dX0_split_98 rfl 2 rfl ?_
              refine p_aload_n (pc := 99) cx dX0_split_99 rfl 0 rfl ?_
              refine p_aload_n (pc := 100) cx dX0_split_100 rfl 1 rfl ?_
              refine p_aload_n (pc := 101) cx dX0_split_101 rfl 3 rfl ?_
              refine p_aload (pc := 102) cx dX0_split_102 4 rfl ?_
              refine gf_8_0 (pc := 104) cx ha4 t1_44 dX0_split_104 ?_
              have hr_22 : Is G 12 (mR M8 a4 0) := TYR.at hM8 ha4 0 12 rfl (by decide)
              refine p_iconst (pc := 107) (v := 0) cx dX0_split_107 (by decide) ?_
              refine p_iald (pc := 108) cx hr_22 hw.1 dX0_split_108 ?_
              have hw := hw.2
              refine p_callVi (pc := 109) [.ref a1, .ref a3, .int (mA M8 (mR M8 a4 0) (0 : Int32).toNatClampNeg)] cx (c_X0_splitByLimb cx.2.2.2.2.2.2 hM8 ha0 ha1 ha3 hw) cf_X0_splitByLimb cv_X0_splitByLimb t2_206 ha0 ⟨by decide, rfl, rfl⟩ ⟨rfl, rfl⟩ ⟨Nat.le_of_ble_eq_true rfl, Nat.le_of_ble_eq_true rfl⟩ rfl rfl (Nat.le_of_ble_eq_true rfl) dX0_split_109 (fun r23 M23 hw hM23 => ?_)
              refine p_callVv (pc := 112) [.int r23] cx (c_X9_become cx.2.2.2.2.2.2 hM23 ha2 hw) cf_X9_become cv_X9_become t2_215 ha2 ⟨by decide, rfl, rfl⟩ ⟨rfl, rfl⟩ ⟨Nat.le_of_ble_eq_true rfl, Nat.le_of_ble_eq_true rfl⟩ rfl rfl (Nat.le_of_ble_eq_true rfl) dX0_split_112 (fun M24 hw hM24 => ?_)
              exact p_vret (pc := 115) cx hr hlk dX0_split_115 hM24 hw
          · have hw := hw.2 hc
            refine p_aload_n (pc := 78) cx dX0_split_78 rfl 2 rfl ?_
            refine p_aload_n (pc := 79) cx dX0_split_79 rfl 3 rfl ?_
            refine p_callVv (pc := 80) [.ref a3] cx (c_X9_copy cx.2.2.2.2.2.2 hM8 ha2 ha3 hw) cf_X9_copy cv_X9_copy t2_205 ha2 ⟨by decide, rfl, rfl⟩ ⟨rfl, rfl⟩ ⟨Nat.le_of_ble_eq_true rfl, Nat.le_of_ble_eq_true rfl⟩ rfl rfl (Nat.le_of_ble_eq_true rfl) dX0_split_80 (fun M25 hw hM25 => ?_)
            refine p_aload_n (pc := 83) cx dX0_split_83 rfl 2 rfl ?_
            refine p_iconst (pc := 84) (v := 0) cx dX0_split_84 (by decide) ?_
            refine pf_8_2 (pc := 85) (by decide) cx ha2 t1_65 dX0_split_85 ?_
            refine p_mem (fun M26 eM26 => ?_)
            have hw := hw M26 eM26
            have hM26 : TYR G M26.2.2.1 := by rw [eM26]; exact hM25
            exact p_vret (pc := 88) cx hr hlk dX0_split_88 hM26 hw
        · have hw := hw.2 hc
          exact p_vret (pc := 68) cx hr hlk dX0_split_68 hM3 hw
