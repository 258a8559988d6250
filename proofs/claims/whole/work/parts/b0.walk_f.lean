set_option maxHeartbeats 4000000 in
set_option maxRecDepth 100000 in
theorem c_X10_isRegister {l : Launch} {D : va_G} {G : SH} (hND : ND G) {a0 : Nat} {a1 : Int32} {M : MS} {Qp : Int32 → MS → Prop} (hT : TYR G M.2.2.1) (ha0 : Is G 9 a0) (hw : w_X10_isRegister G a0 a1 M Qp) : MeI l D G yX10_isRegister (Cond.code yX10_isRegister cX10_isRegister 2 (some .boolean) :: GW) rm_X10_isRegister [.ref a0, .int a1] M Qp := by
  unfold MeI
  refine p_method (by decide) rfl (Nat.le_of_ble_eq_true rfl) hND ?_
  intro p e s m args below meth c cx hr hlk
  have cx : CX p s m args c D G cX10_isRegister 2 RX10 := cx
  unfold w_X10_isRegister at hw
  refine p_iload_n (pc := 0) cx dX10_isRegister_0 rfl 1 rfl ?_
  refine p_if_lt (pc := 1) (tgt := 17) cx dX10_isRegister_1 (by decide) (fun hc => ?_) (fun hc => ?_)
  · have hw := hw.1 hc
    refine p_iconst (pc := 17) (v := 0) cx dX10_isRegister_17 (by decide) ?_
    exact p_zret (pc := 18) cx hr hlk dX10_isRegister_18 (by decide) hT hw
  · have hw := hw.2 hc
    refine p_iload_n (pc := 4) cx dX10_isRegister_4 rfl 1 rfl ?_
    refine p_aload_n (pc := 5) cx dX10_isRegister_5 rfl 0 rfl ?_
    refine gf_9_1 (pc := 6) cx ha0 t2_74 dX10_isRegister_6 ?_
    have hr_1 : Is G 13 (mR M a0 1) := TYR.at hT ha0 1 13 rfl (by decide)
    refine p_alenW (pc := 9) cx hr_1 dX10_isRegister_9 ?_
    refine p_icmp_ge (pc := 10) (tgt := 17) cx dX10_isRegister_10 (by decide) (fun hc => ?_) (fun hc => ?_)
    · have hw := hw.1 hc
      refine p_iconst (pc := 17) (v := 0) cx dX10_isRegister_17 (by decide) ?_
      exact p_zret (pc := 18) cx hr hlk dX10_isRegister_18 (by decide) hT hw
    · have hw := hw.2 hc
      refine p_iconst (pc := 13) (v := 1) cx dX10_isRegister_13 (by decide) ?_
      refine p_goto (pc := 14) (tgt := 18) cx dX10_isRegister_14 (by decide) ?_
      exact p_zret (pc := 18) cx hr hlk dX10_isRegister_18 (by decide) hT hw
set_option maxHeartbeats 4000000 in
set_option maxRecDepth 100000 in
theorem c_X10_put {l : Launch} {D : va_G} {G : SH} (hND : ND G) {a0 : Nat} {a1 : Int32} {a2 : Nat} {M : MS} {Qp : Int32 → MS → Prop} (hT : TYR G M.2.2.1) (ha0 : Is G 9 a0) (ha2 : Is G 8 a2) (hw : w_X10_put G a0 a1 a2 M Qp) : MeI l D G yX10_put (Cond.code yX10_put cX10_put 3 (some .int) :: GW) rm_X10_put [.ref a0, .int a1, .ref a2] M Qp := by
  unfold MeI
  refine p_method (by decide) rfl (Nat.le_of_ble_eq_true rfl) hND ?_
  intro p e s m args below meth c cx hr hlk
  have cx : CX p s m args c D G cX10_put 3 RX10 := cx
  unfold w_X10_put at hw
  refine p_aload_n (pc := 0) cx dX10_put_0 rfl 2 rfl ?_
  refine gf_8_1 (pc := 1) cx ha2 t1_59 dX10_put_1 ?_
  refine p_aload_n (pc := 4) cx dX10_put_4 rfl 0 rfl ?_
  refine gf_9_0 (pc := 5) cx ha0 t2_73 dX10_put_5 ?_
  refine p_icmp_le (pc := 8) (tgt := 13) cx dX10_put_8 (by decide) (fun hc => ?_) (fun hc => ?_)
  · have hw := hw.1 hc
    refine p_aload_n (pc := 13) cx dX10_put_13 rfl 0 rfl ?_
    refine gf_9_1 (pc := 14) cx ha0 t2_74 dX10_put_14 ?_
    have hr_1 : Is G 13 (mR M a0 1) := TYR.at hT ha0 1 13 rfl (by decide)
    refine p_iload_n (pc := 17) cx dX10_put_17 rfl 1 rfl ?_
    have hr_2 : Is G 8 (mR M (mR M a0 1) a1.toNatClampNeg) := TYR.el hT hr_1 hw.1
    refine p_aald (pc := 18) cx hr_1 hw.1 dX10_put_18 ?_
    have hw := hw.2
    refine p_aload_n (pc := 19) cx dX10_put_19 rfl 2 rfl ?_
    refine p_callVv (pc := 20) [.ref a2] cx (c_X9_copy cx.2.2.2.2.2.2 hT hr_2 ha2 hw) cf_X9_copy cv_X9_copy t2_145 hr_2 ⟨by decide, rfl, rfl⟩ ⟨rfl, rfl⟩ ⟨Nat.le_of_ble_eq_true rfl, Nat.le_of_ble_eq_true rfl⟩ rfl rfl (Nat.le_of_ble_eq_true rfl) dX10_put_20 (fun M3 hw hM3 => ?_)
    refine p_iconst (pc := 23) (v := 0) cx dX10_put_23 (by decide) ?_
    exact p_iret (pc := 24) cx hr hlk dX10_put_24 hM3 hw
  · have hw := hw.2 hc
    refine p_iconst (pc := 11) (v := 1) cx dX10_put_11 (by decide) ?_
    exact p_iret (pc := 12) cx hr hlk dX10_put_12 hT hw
set_option maxHeartbeats 4000000 in
set_option maxRecDepth 100000 in
theorem c_X10_pushLimb {l : Launch} {D : va_G} {G : SH} (hND : ND G) {a0 : Nat} {a1 : Int32} {a2 : Int32} {M : MS} {Qp : Int32 → MS → Prop} (hT : TYR G M.2.2.1) (ha0 : Is G 9 a0) (hw : w_X10_pushLimb G a0 a1 a2 M Qp) : MeI l D G yX10_pushLimb (Cond.code yX10_pushLimb cX10_pushLimb 4 (some .int) :: GW) rm_X10_pushLimb [.ref a0, .int a1, .int a2] M Qp := by
  unfold MeI
  refine p_method (by decide) rfl (Nat.le_of_ble_eq_true rfl) hND ?_
  intro p e s m args below meth c cx hr hlk
  have cx : CX p s m args c D G cX10_pushLimb 4 RX10 := cx
  unfold w_X10_pushLimb at hw
  refine p_aload_n (pc := 0) cx dX10_pushLimb_0 rfl 0 rfl ?_
  refine p_iload_n (pc := 1) cx dX10_pushLimb_1 rfl 1 rfl ?_
  refine p_callVi (pc := 2) [.int a1] cx (c_X10_isRegister cx.2.2.2.2.2.2 hT ha0 hw) cf_X10_isRegister cv_X10_isRegister t2_120 ha0 ⟨by decide, rfl, rfl⟩ ⟨rfl, rfl⟩ ⟨Nat.le_of_ble_eq_true rfl, Nat.le_of_ble_eq_true rfl⟩ rfl rfl (Nat.le_of_ble_eq_true rfl) dX10_pushLimb_2 (fun r1 M1 hw hM1 => ?_)
  refine p_if_ne (pc := 5) (tgt := 10) cx dX10_pushLimb_5 (by decide) (fun hc => ?_) (fun hc => ?_)
  · have hw := hw.1 hc
    refine p_aload_n (pc := 10) cx dX10_pushLimb_10 rfl 0 rfl ?_
    refine gf_9_1 (pc := 11) cx ha0 t2_74 dX10_pushLimb_11 ?_
    have hr_2 : Is G 13 (mR M1 a0 1) := TYR.at hM1 ha0 1 13 rfl (by decide)
    refine p_iload_n (pc := 14) cx dX10_pushLimb_14 rfl 1 rfl ?_
    have hr_3 : Is G 8 (mR M1 (mR M1 a0 1) a1.toNatClampNeg) := TYR.el hM1 hr_2 hw.1
    refine p_aald (pc := 15) cx hr_2 hw.1 dX10_pushLimb_15 ?_
    have hw := hw.2
    refine p_astore_n (pc := 16) (lv' := [(0, .ref a0), (1, .int a1), (2, .int a2), (3, .ref (mR M1 (mR M1 a0 1) a1.toNatClampNeg))]) cx dX10_pushLimb_16 rfl (by decide) [1, 2, 3, 0] rfl ?_
    refine p_aload_n (pc := 17) cx dX10_pushLimb_17 rfl 0 rfl ?_
    refine gf_9_10 (pc := 18) cx ha0 t2_83 dX10_pushLimb_18 ?_
    have hr_4 : Is G 8 (mR M1 a0 10) := TYR.at hM1 ha0 10 8 rfl (by decide)
    refine p_aload_n (pc := 21) cx dX10_pushLimb_21 rfl 3 rfl ?_
    refine p_bipush (pc := 22) (v := 32) cx dX10_pushLimb_22 (by decide) ?_
    refine p_callSv (pc := 24) [.ref (mR M1 a0 10), .ref (mR M1 (mR M1 a0 1) a1.toNatClampNeg), .int (32 : Int32)] cx (c_X7_shiftUp cx.2.2.2.2.2.2 hM1 hr_4 hr_3 hw) cf_X7_shiftUp cv_X7_shiftUp t2_124 ⟨rfl, rfl⟩ ⟨Nat.le_of_ble_eq_true rfl, Nat.le_of_ble_eq_true rfl⟩ rfl rfl (Nat.le_of_ble_eq_true rfl) dX10_pushLimb_24 (fun M5 hw hM5 => ?_)
    refine p_aload_n (pc := 27) cx dX10_pushLimb_27 rfl 0 rfl ?_
    refine gf_9_11 (pc := 28) cx ha0 t2_84 dX10_pushLimb_28 ?_
    have hr_6 : Is G 8 (mR M5 a0 11) := TYR.at hM5 ha0 11 8 rfl (by decide)
    refine p_iload_n (pc := 31) cx dX10_pushLimb_31 rfl 2 rfl ?_
    refine p_callVv (pc := 32) [.int a2] cx (c_X9_become cx.2.2.2.2.2.2 hM5 hr_6 hw) cf_X9_become cv_X9_become t2_72 hr_6 ⟨by decide, rfl, rfl⟩ ⟨rfl, rfl⟩ ⟨Nat.le_of_ble_eq_true rfl, Nat.le_of_ble_eq_true rfl⟩ rfl rfl (Nat.le_of_ble_eq_true rfl) dX10_pushLimb_32 (fun M7 hw hM7 => ?_)
    refine p_aload_n (pc := 35) cx dX10_pushLimb_35 rfl 0 rfl ?_
    refine gf_9_10 (pc := 36) cx ha0 t2_83 dX10_pushLimb_36 ?_
    have hr_8 : Is G 8 (mR M7 a0 10) := TYR.at hM7 ha0 10 8 rfl (by decide)
    refine p_aload_n (pc := 39) cx dX10_pushLimb_39 rfl 0 rfl ?_
    refine gf_9_10 (pc := 40) cx ha0 t2_83 dX10_pushLimb_40 ?_
    have hr_9 : Is G 8 (mR M7 a0 10) := TYR.at hM7 ha0 10 8 rfl (by decide)
    refine p_aload_n (pc := 43) cx dX10_pushLimb_43 rfl 0 rfl ?_
    refine gf_9_11 (pc := 44) cx ha0 t2_84 dX10_pushLimb_44 ?_
    have hr_10 : Is G 8 (mR M7 a0 11) := TYR.at hM7 ha0 11 8 rfl (by decide)
    refine p_callSv (pc := 47) [.ref (mR M7 a0 10), .ref (mR M7 a0 10), .ref (mR M7 a0 11)] cx (c_X7_sum cx.2.2.2.2.2.2 hM7 hr_8 hr_9 hr_10 hw) cf_X7_sum cv_X7_sum t2_133 ⟨rfl, rfl⟩ ⟨Nat.le_of_ble_eq_true rfl, Nat.le_of_ble_eq_true rfl⟩ rfl rfl (Nat.le_of_ble_eq_true rfl) dX10_pushLimb_47 (fun M11 hw hM11 => ?_)
    refine p_aload_n (pc := 50) cx dX10_pushLimb_50 rfl 0 rfl ?_
    refine gf_9_10 (pc := 51) cx ha0 t2_83 dX10_pushLimb_51 ?_
    have hr_12 : Is G 8 (mR M11 a0 10) := TYR.at hM11 ha0 10 8 rfl (by decide)
    refine p_aload_n (pc := 54) cx dX10_pushLimb_54 rfl 3 rfl ?_
    refine gf_8_2 (pc := 55) cx hr_3 t1_63 dX10_pushLimb_55 ?_
    refine p_callVv (pc := 58) [.int (mI M11 (mR M1 (mR M1 a0 1) a1.toNatClampNeg) 2)] cx (c_X9_takeSign cx.2.2.2.2.2.2 hM11 hr_12 hw) cf_X9_takeSign cv_X9_takeSign t2_137 hr_12 ⟨by decide, rfl, rfl⟩ ⟨rfl, rfl⟩ ⟨Nat.le_of_ble_eq_true rfl, Nat.le_of_ble_eq_true rfl⟩ rfl rfl (Nat.le_of_ble_eq_true rfl) dX10_pushLimb_58 (fun M13 hw hM13 => ?_)
    refine p_aload_n (pc := 61) cx dX10_pushLimb_61 rfl 0 rfl ?_
    refine p_iload_n (pc := 62) cx dX10_pushLimb_62 rfl 1 rfl ?_
    refine p_aload_n (pc := 63) cx dX10_pushLimb_63 rfl 0 rfl ?_
    refine gf_9_10 (pc := 64) cx ha0 t2_83 dX10_pushLimb_64 ?_
    have hr_14 : Is G 8 (mR M13 a0 10) := TYR.at hM13 ha0 10 8 rfl (by decide)
    refine p_callVi (pc := 67) [.int a1, .ref (mR M13 a0 10)] cx (c_X10_put cx.2.2.2.2.2.2 hM13 ha0 hr_14 hw) cf_X10_put cv_X10_put t2_141 ha0 ⟨by decide, rfl, rfl⟩ ⟨rfl, rfl⟩ ⟨Nat.le_of_ble_eq_true rfl, Nat.le_of_ble_eq_true rfl⟩ rfl rfl (Nat.le_of_ble_eq_true rfl) dX10_pushLimb_67 (fun r15 M15 hw hM15 => ?_)
    exact p_iret (pc := 70) cx hr hlk dX10_pushLimb_70 hM15 hw
  · have hw := hw.2 hc
    refine p_iconst (pc := 8) (v := 3) cx dX10_pushLimb_8 (by decide) ?_
    exact p_iret (pc := 9) cx hr hlk dX10_pushLimb_9 hM1 hw
set_option maxHeartbeats 4000000 in
set_option maxRecDepth 100000 in
theorem c_X10_clear {l : Launch} {D : va_G} {G : SH} (hND : ND G) {a0 : Nat} {a1 : Int32} {M : MS} {Qp : Int32 → MS → Prop} (hT : TYR G M.2.2.1) (ha0 : Is G 9 a0) (hw : w_X10_clear G a0 a1 M Qp) : MeI l D G yX10_clear (Cond.code yX10_clear cX10_clear 2 (some .boolean) :: GW) rm_X10_clear [.ref a0, .int a1] M Qp := by
  unfold MeI
  refine p_method (by decide) rfl (Nat.le_of_ble_eq_true rfl) hND ?_
  intro p e s m args below meth c cx hr hlk
  have cx : CX p s m args c D G cX10_clear 2 RX10 := cx
  unfold w_X10_clear at hw
  refine p_aload_n (pc := 0) cx dX10_clear_0 rfl 0 rfl ?_
  refine p_iload_n (pc := 1) cx dX10_clear_1 rfl 1 rfl ?_
  refine p_callVi (pc := 2) [.int a1] cx (c_X10_isRegister cx.2.2.2.2.2.2 hT ha0 hw) cf_X10_isRegister cv_X10_isRegister t2_120 ha0 ⟨by decide, rfl, rfl⟩ ⟨rfl, rfl⟩ ⟨Nat.le_of_ble_eq_true rfl, Nat.le_of_ble_eq_true rfl⟩ rfl rfl (Nat.le_of_ble_eq_true rfl) dX10_clear_2 (fun r1 M1 hw hM1 => ?_)
  refine p_if_ne (pc := 5) (tgt := 10) cx dX10_clear_5 (by decide) (fun hc => ?_) (fun hc => ?_)
  · have hw := hw.1 hc
    refine p_aload_n (pc := 10) cx dX10_clear_10 rfl 0 rfl ?_
    refine gf_9_1 (pc := 11) cx ha0 t2_74 dX10_clear_11 ?_
    have hr_2 : Is G 13 (mR M1 a0 1) := TYR.at hM1 ha0 1 13 rfl (by decide)
    refine p_iload_n (pc := 14) cx dX10_clear_14 rfl 1 rfl ?_
    have hr_3 : Is G 8 (mR M1 (mR M1 a0 1) a1.toNatClampNeg) := TYR.el hM1 hr_2 hw.1
    refine p_aald (pc := 15) cx hr_2 hw.1 dX10_clear_15 ?_
    have hw := hw.2
    refine p_iconst (pc := 16) (v := 0) cx dX10_clear_16 (by decide) ?_
    refine p_callVv (pc := 17) [.int (0 : Int32)] cx (c_X9_become cx.2.2.2.2.2.2 hM1 hr_3 hw) cf_X9_become cv_X9_become t2_72 hr_3 ⟨by decide, rfl, rfl⟩ ⟨rfl, rfl⟩ ⟨Nat.le_of_ble_eq_true rfl, Nat.le_of_ble_eq_true rfl⟩ rfl rfl (Nat.le_of_ble_eq_true rfl) dX10_clear_17 (fun M4 hw hM4 => ?_)
    refine p_iconst (pc := 20) (v := 1) cx dX10_clear_20 (by decide) ?_
    exact p_zret (pc := 21) cx hr hlk dX10_clear_21 (by decide) hM4 hw
  · have hw := hw.2 hc
    refine p_iconst (pc := 8) (v := 0) cx dX10_clear_8 (by decide) ?_
    exact p_zret (pc := 9) cx hr hlk dX10_clear_9 (by decide) hM1 hw
set_option maxHeartbeats 4000000 in
set_option maxRecDepth 100000 in
theorem c_X10_areRegisters {l : Launch} {D : va_G} {G : SH} (hND : ND G) {a0 : Nat} {a1 : Int32} {a2 : Int32} {M : MS} {Qp : Int32 → MS → Prop} (hT : TYR G M.2.2.1) (ha0 : Is G 9 a0) (hw : w_X10_areRegisters G a0 a1 a2 M Qp) : MeI l D G yX10_areRegisters (Cond.code yX10_areRegisters cX10_areRegisters 3 (some .boolean) :: GW) rm_X10_areRegisters [.ref a0, .int a1, .int a2] M Qp := by
  unfold MeI
  refine p_method (by decide) rfl (Nat.le_of_ble_eq_true rfl) hND ?_
  intro p e s m args below meth c cx hr hlk
  have cx : CX p s m args c D G cX10_areRegisters 3 RX10 := cx
  unfold w_X10_areRegisters at hw
  refine p_aload_n (pc := 0) cx dX10_areRegisters_0 rfl 0 rfl ?_
  refine p_iload_n (pc := 1) cx dX10_areRegisters_1 rfl 1 rfl ?_
  refine p_callVi (pc := 2) [.int a1] cx (c_X10_isRegister cx.2.2.2.2.2.2 hT ha0 hw) cf_X10_isRegister cv_X10_isRegister t2_120 ha0 ⟨by decide, rfl, rfl⟩ ⟨rfl, rfl⟩ ⟨Nat.le_of_ble_eq_true rfl, Nat.le_of_ble_eq_true rfl⟩ rfl rfl (Nat.le_of_ble_eq_true rfl) dX10_areRegisters_2 (fun r1 M1 hw hM1 => ?_)
  refine p_if_eq (pc := 5) (tgt := 20) cx dX10_areRegisters_5 (by decide) (fun hc => ?_) (fun hc => ?_)
  · have hw := hw.1 hc
    refine p_iconst (pc := 20) (v := 0) cx dX10_areRegisters_20 (by decide) ?_
    exact p_zret (pc := 21) cx hr hlk dX10_areRegisters_21 (by decide) hM1 hw
  · have hw := hw.2 hc
    refine p_aload_n (pc := 8) cx dX10_areRegisters_8 rfl 0 rfl ?_
    refine p_iload_n (pc := 9) cx dX10_areRegisters_9 rfl 2 rfl ?_
    refine p_callVi (pc := 10) [.int a2] cx (c_X10_isRegister cx.2.2.2.2.2.2 hM1 ha0 hw) cf_X10_isRegister cv_X10_isRegister t2_120 ha0 ⟨by decide, rfl, rfl⟩ ⟨rfl, rfl⟩ ⟨Nat.le_of_ble_eq_true rfl, Nat.le_of_ble_eq_true rfl⟩ rfl rfl (Nat.le_of_ble_eq_true rfl) dX10_areRegisters_10 (fun r2 M2 hw hM2 => ?_)
    refine p_if_eq (pc := 13) (tgt := 20) cx dX10_areRegisters_13 (by decide) (fun hc => ?_) (fun hc => ?_)
    · have hw := hw.1 hc
      refine p_iconst (pc := 20) (v := 0) cx dX10_areRegisters_20 (by decide) ?_
      exact p_zret (pc := 21) cx hr hlk dX10_areRegisters_21 (by decide) hM2 hw
    · have hw := hw.2 hc
      refine p_iconst (pc := 16) (v := 1) cx dX10_areRegisters_16 (by decide) ?_
      refine p_goto (pc := 17) (tgt := 21) cx dX10_areRegisters_17 (by decide) ?_
      exact p_zret (pc := 21) cx hr hlk dX10_areRegisters_21 (by decide) hM2 hw
set_option maxHeartbeats 4000000 in
set_option maxRecDepth 100000 in
theorem c_X10_negate {l : Launch} {D : va_G} {G : SH} (hND : ND G) {a0 : Nat} {a1 : Int32} {a2 : Int32} {M : MS} {Qp : Int32 → MS → Prop} (hT : TYR G M.2.2.1) (ha0 : Is G 9 a0) (hw : w_X10_negate G a0 a1 a2 M Qp) : MeI l D G yX10_negate (Cond.code yX10_negate cX10_negate 3 (some .int) :: GW) rm_X10_negate [.ref a0, .int a1, .int a2] M Qp := by
  unfold MeI
  refine p_method (by decide) rfl (Nat.le_of_ble_eq_true rfl) hND ?_
  intro p e s m args below meth c cx hr hlk
  have cx : CX p s m args c D G cX10_negate 3 RX10 := cx
  unfold w_X10_negate at hw
  refine p_aload_n (pc := 0) cx dX10_negate_0 rfl 0 rfl ?_
  refine p_iload_n (pc := 1) cx dX10_negate_1 rfl 1 rfl ?_
  refine p_iload_n (pc := 2) cx dX10_negate_2 rfl 2 rfl ?_
  refine p_callVi (pc := 3) [.int a1, .int a2] cx (c_X10_areRegisters cx.2.2.2.2.2.2 hT ha0 hw) cf_X10_areRegisters cv_X10_areRegisters t2_160 ha0 ⟨by decide, rfl, rfl⟩ ⟨rfl, rfl⟩ ⟨Nat.le_of_ble_eq_true rfl, Nat.le_of_ble_eq_true rfl⟩ rfl rfl (Nat.le_of_ble_eq_true rfl) dX10_negate_3 (fun r1 M1 hw hM1 => ?_)
  refine p_if_ne (pc := 6) (tgt := 11) cx dX10_negate_6 (by decide) (fun hc => ?_) (fun hc => ?_)
  · have hw := hw.1 hc
    refine p_aload_n (pc := 11) cx dX10_negate_11 rfl 0 rfl ?_
    refine gf_9_10 (pc := 12) cx ha0 t2_83 dX10_negate_12 ?_
    have hr_2 : Is G 8 (mR M1 a0 10) := TYR.at hM1 ha0 10 8 rfl (by decide)
    refine p_aload_n (pc := 15) cx dX10_negate_15 rfl 0 rfl ?_
    refine gf_9_1 (pc := 16) cx ha0 t2_74 dX10_negate_16 ?_
    have hr_3 : Is G 13 (mR M1 a0 1) := TYR.at hM1 ha0 1 13 rfl (by decide)
    refine p_iload_n (pc := 19) cx dX10_negate_19 rfl 2 rfl ?_
    have hr_4 : Is G 8 (mR M1 (mR M1 a0 1) a2.toNatClampNeg) := TYR.el hM1 hr_3 hw.1
    refine p_aald (pc := 20) cx hr_3 hw.1 dX10_negate_20 ?_
    have hw := hw.2
    refine p_callVv (pc := 21) [.ref (mR M1 (mR M1 a0 1) a2.toNatClampNeg)] cx (c_X9_copy cx.2.2.2.2.2.2 hM1 hr_2 hr_4 hw) cf_X9_copy cv_X9_copy t2_145 hr_2 ⟨by decide, rfl, rfl⟩ ⟨rfl, rfl⟩ ⟨Nat.le_of_ble_eq_true rfl, Nat.le_of_ble_eq_true rfl⟩ rfl rfl (Nat.le_of_ble_eq_true rfl) dX10_negate_21 (fun M5 hw hM5 => ?_)
    refine p_aload_n (pc := 24) cx dX10_negate_24 rfl 0 rfl ?_
    refine gf_9_10 (pc := 25) cx ha0 t2_83 dX10_negate_25 ?_
    have hr_6 : Is G 8 (mR M5 a0 10) := TYR.at hM5 ha0 10 8 rfl (by decide)
    refine p_aload_n (pc := 28) cx dX10_negate_28 rfl 0 rfl ?_
    refine gf_9_1 (pc := 29) cx ha0 t2_74 dX10_negate_29 ?_
    have hr_7 : Is G 13 (mR M5 a0 1) := TYR.at hM5 ha0 1 13 rfl (by decide)
    refine p_iload_n (pc := 32) cx dX10_negate_32 rfl 2 rfl ?_
    have hr_8 : Is G 8 (mR M5 (mR M5 a0 1) a2.toNatClampNeg) := TYR.el hM5 hr_7 hw.1
    refine p_aald (pc := 33) cx hr_7 hw.1 dX10_negate_33 ?_
    have hw := hw.2
    refine gf_8_2 (pc := 34) cx hr_8 t1_63 dX10_negate_34 ?_
    refine p_if_ne (pc := 37) (tgt := 44) cx dX10_negate_37 (by decide) (fun hc => ?_) (fun hc => ?_)
    · have hw := hw.1 hc
      refine p_iconst (pc := 44) (v := 0) cx dX10_negate_44 (by decide) ?_
      refine p_callVv (pc := 45) [.int (0 : Int32)] cx (c_X9_takeSign cx.2.2.2.2.2.2 hM5 hr_6 hw) cf_X9_takeSign cv_X9_takeSign t2_137 hr_6 ⟨by decide, rfl, rfl⟩ ⟨rfl, rfl⟩ ⟨Nat.le_of_ble_eq_true rfl, Nat.le_of_ble_eq_true rfl⟩ rfl rfl (Nat.le_of_ble_eq_true rfl) dX10_negate_45 (fun M9 hw hM9 => ?_)
      refine p_aload_n (pc := 48) cx dX10_negate_48 rfl 0 rfl ?_
      refine p_iload_n (pc := 49) cx dX10_negate_49 rfl 1 rfl ?_
      refine p_aload_n (pc := 50) cx dX10_negate_50 rfl 0 rfl ?_
      refine gf_9_10 (pc := 51) cx ha0 t2_83 dX10_negate_51 ?_
      have hr_10 : Is G 8 (mR M9 a0 10) := TYR.at hM9 ha0 10 8 rfl (by decide)
      refine p_callVi (pc := 54) [.int a1, .ref (mR M9 a0 10)] cx (c_X10_put cx.2.2.2.2.2.2 hM9 ha0 hr_10 hw) cf_X10_put cv_X10_put t2_141 ha0 ⟨by decide, rfl, rfl⟩ ⟨rfl, rfl⟩ ⟨Nat.le_of_ble_eq_true rfl, Nat.le_of_ble_eq_true rfl⟩ rfl rfl (Nat.le_of_ble_eq_true rfl) dX10_negate_54 (fun r11 M11 hw hM11 => ?_)
      exact p_iret (pc := 57) cx hr hlk dX10_negate_57 hM11 hw
    · have hw := hw.2 hc
      refine p_iconst (pc := 40) (v := 1) cx dX10_negate_40 (by decide) ?_
      refine p_goto (pc := 41) (tgt := 45) cx dX10_negate_41 (by decide) ?_
      refine p_callVv (pc := 45) [.int (1 : Int32)] cx (c_X9_takeSign cx.2.2.2.2.2.2 hM5 hr_6 hw) cf_X9_takeSign cv_X9_takeSign t2_137 hr_6 ⟨by decide, rfl, rfl⟩ ⟨rfl, rfl⟩ ⟨Nat.le_of_ble_eq_true rfl, Nat.le_of_ble_eq_true rfl⟩ rfl rfl (Nat.le_of_ble_eq_true rfl) dX10_negate_45 (fun M12 hw hM12 => ?_)
      refine p_aload_n (pc := 48) cx dX10_negate_48 rfl 0 rfl ?_
      refine p_iload_n (pc := 49) cx dX10_negate_49 rfl 1 rfl ?_
      refine p_aload_n (pc := 50) cx dX10_negate_50 rfl 0 rfl ?_
      refine gf_9_10 (pc := 51) cx ha0 t2_83 dX10_negate_51 ?_
      have hr_13 : Is G 8 (mR M12 a0 10) := TYR.at hM12 ha0 10 8 rfl (by decide)
      refine p_callVi (pc := 54) [.int a1, .ref (mR M12 a0 10)] cx (c_X10_put cx.2.2.2.2.2.2 hM12 ha0 hr_13 hw) cf_X10_put cv_X10_put t2_141 ha0 ⟨by decide, rfl, rfl⟩ ⟨rfl, rfl⟩ ⟨Nat.le_of_ble_eq_true rfl, Nat.le_of_ble_eq_true rfl⟩ rfl rfl (Nat.le_of_ble_eq_true rfl) dX10_negate_54 (fun r14 M14 hw hM14 => ?_)
      exact p_iret (pc := 57) cx hr hlk dX10_negate_57 hM14 hw
  · have hw := hw.2 hc
    refine p_iconst (pc := 9) (v := 3) cx dX10_negate_9 (by decide) ?_
    exact p_iret (pc := 10) cx hr hlk dX10_negate_10 hM1 hw
set_option maxHeartbeats 4000000 in
set_option maxRecDepth 100000 in
theorem c_X10_areRegisters_ {l : Launch} {D : va_G} {G : SH} (hND : ND G) {a0 : Nat} {a1 : Int32} {a2 : Int32} {a3 : Int32} {M : MS} {Qp : Int32 → MS → Prop} (hT : TYR G M.2.2.1) (ha0 : Is G 9 a0) (hw : w_X10_areRegisters_ G a0 a1 a2 a3 M Qp) : MeI l D G yX10_areRegisters_ (Cond.code yX10_areRegisters_ cX10_areRegisters_ 4 (some .boolean) :: GW) rm_X10_areRegisters_ [.ref a0, .int a1, .int a2, .int a3] M Qp := by
  unfold MeI
  refine p_method (by decide) rfl (Nat.le_of_ble_eq_true rfl) hND ?_
  intro p e s m args below meth c cx hr hlk
  have cx : CX p s m args c D G cX10_areRegisters_ 4 RX10 := cx
  unfold w_X10_areRegisters_ at hw
  refine p_aload_n (pc := 0) cx dX10_areRegisters__0 rfl 0 rfl ?_
  refine p_iload_n (pc := 1) cx dX10_areRegisters__1 rfl 1 rfl ?_
  refine p_callVi (pc := 2) [.int a1] cx (c_X10_isRegister cx.2.2.2.2.2.2 hT ha0 hw) cf_X10_isRegister cv_X10_isRegister t2_120 ha0 ⟨by decide, rfl, rfl⟩ ⟨rfl, rfl⟩ ⟨Nat.le_of_ble_eq_true rfl, Nat.le_of_ble_eq_true rfl⟩ rfl rfl (Nat.le_of_ble_eq_true rfl) dX10_areRegisters__2 (fun r1 M1 hw hM1 => ?_)
  refine p_if_eq (pc := 5) (tgt := 28) cx dX10_areRegisters__5 (by decide) (fun hc => ?_) (fun hc => ?_)
  · have hw := hw.1 hc
    refine p_iconst (pc := 28) (v := 0) cx dX10_areRegisters__28 (by decide) ?_
    exact p_zret (pc := 29) cx hr hlk dX10_areRegisters__29 (by decide) hM1 hw
  · have hw := hw.2 hc
    refine p_aload_n (pc := 8) cx dX10_areRegisters__8 rfl 0 rfl ?_
    refine p_iload_n (pc := 9) cx dX10_areRegisters__9 rfl 2 rfl ?_
    refine p_callVi (pc := 10) [.int a2] cx (c_X10_isRegister cx.2.2.2.2.2.2 hM1 ha0 hw) cf_X10_isRegister cv_X10_isRegister t2_120 ha0 ⟨by decide, rfl, rfl⟩ ⟨rfl, rfl⟩ ⟨Nat.le_of_ble_eq_true rfl, Nat.le_of_ble_eq_true rfl⟩ rfl rfl (Nat.le_of_ble_eq_true rfl) dX10_areRegisters__10 (fun r2 M2 hw hM2 => ?_)
    refine p_if_eq (pc := 13) (tgt := 28) cx dX10_areRegisters__13 (by decide) (fun hc => ?_) (fun hc => ?_)
    · have hw := hw.1 hc
      refine p_iconst (pc := 28) (v := 0) cx dX10_areRegisters__28 (by decide) ?_
      exact p_zret (pc := 29) cx hr hlk dX10_areRegisters__29 (by decide) hM2 hw
    · have hw := hw.2 hc
      refine p_aload_n (pc := 16) cx dX10_areRegisters__16 rfl 0 rfl ?_
      refine p_iload_n (pc := 17) cx dX10_areRegisters__17 rfl 3 rfl ?_
      refine p_callVi (pc := 18) [.int a3] cx (c_X10_isRegister cx.2.2.2.2.2.2 hM2 ha0 hw) cf_X10_isRegister cv_X10_isRegister t2_120 ha0 ⟨by decide, rfl, rfl⟩ ⟨rfl, rfl⟩ ⟨Nat.le_of_ble_eq_true rfl, Nat.le_of_ble_eq_true rfl⟩ rfl rfl (Nat.le_of_ble_eq_true rfl) dX10_areRegisters__18 (fun r3 M3 hw hM3 => ?_)
      refine p_if_eq (pc := 21) (tgt := 28) cx dX10_areRegisters__21 (by decide) (fun hc => ?_) (fun hc => ?_)
      · have hw := hw.1 hc
        refine p_iconst (pc := 28) (v := 0) cx dX10_areRegisters__28 (by decide) ?_
        exact p_zret (pc := 29) cx hr hlk dX10_areRegisters__29 (by decide) hM3 hw
      · have hw := hw.2 hc
        refine p_iconst (pc := 24) (v := 1) cx dX10_areRegisters__24 (by decide) ?_
        refine p_goto (pc := 25) (tgt := 29) cx dX10_areRegisters__25 (by decide) ?_
        exact p_zret (pc := 29) cx hr hlk dX10_areRegisters__29 (by decide) hM3 hw
set_option maxHeartbeats 4000000 in
set_option maxRecDepth 100000 in
theorem c_X10_add {l : Launch} {D : va_G} {G : SH} (hND : ND G) {a0 : Nat} {a1 : Int32} {a2 : Int32} {a3 : Int32} {M : MS} {Qp : Int32 → MS → Prop} (hT : TYR G M.2.2.1) (ha0 : Is G 9 a0) (hw : w_X10_add G a0 a1 a2 a3 M Qp) : MeI l D G yX10_add (Cond.code yX10_add cX10_add 4 (some .int) :: GW) rm_X10_add [.ref a0, .int a1, .int a2, .int a3] M Qp := by
  unfold MeI
  refine p_method (by decide) rfl (Nat.le_of_ble_eq_true rfl) hND ?_
  intro p e s m args below meth c cx hr hlk
  have cx : CX p s m args c D G cX10_add 4 RX10 := cx
  unfold w_X10_add at hw
  refine p_aload_n (pc := 0) cx dX10_add_0 rfl 0 rfl ?_
  refine p_iload_n (pc := 1) cx dX10_add_1 rfl 1 rfl ?_
  refine p_iload_n (pc := 2) cx dX10_add_2 rfl 2 rfl ?_
  refine p_iload_n (pc := 3) cx dX10_add_3 rfl 3 rfl ?_
  refine p_callVi (pc := 4) [.int a1, .int a2, .int a3] cx (c_X10_areRegisters_ cx.2.2.2.2.2.2 hT ha0 hw) cf_X10_areRegisters_ cv_X10_areRegisters_ t2_168 ha0 ⟨by decide, rfl, rfl⟩ ⟨rfl, rfl⟩ ⟨Nat.le_of_ble_eq_true rfl, Nat.le_of_ble_eq_true rfl⟩ rfl rfl (Nat.le_of_ble_eq_true rfl) dX10_add_4 (fun r1 M1 hw hM1 => ?_)
  refine p_if_ne (pc := 7) (tgt := 12) cx dX10_add_7 (by decide) (fun hc => ?_) (fun hc => ?_)
  · have hw := hw.1 hc
    refine p_aload_n (pc := 12) cx dX10_add_12 rfl 0 rfl ?_
    refine gf_9_10 (pc := 13) cx ha0 t2_83 dX10_add_13 ?_
    have hr_2 : Is G 8 (mR M1 a0 10) := TYR.at hM1 ha0 10 8 rfl (by decide)
    refine p_aload_n (pc := 16) cx dX10_add_16 rfl 0 rfl ?_
    refine gf_9_1 (pc := 17) cx ha0 t2_74 dX10_add_17 ?_
    have hr_3 : Is G 13 (mR M1 a0 1) := TYR.at hM1 ha0 1 13 rfl (by decide)
    refine p_iload_n (pc := 20) cx dX10_add_20 rfl 2 rfl ?_
    have hr_4 : Is G 8 (mR M1 (mR M1 a0 1) a2.toNatClampNeg) := TYR.el hM1 hr_3 hw.1
    refine p_aald (pc := 21) cx hr_3 hw.1 dX10_add_21 ?_
    have hw := hw.2
    refine p_aload_n (pc := 22) cx dX10_add_22 rfl 0 rfl ?_
    refine gf_9_1 (pc := 23) cx ha0 t2_74 dX10_add_23 ?_
    have hr_5 : Is G 13 (mR M1 a0 1) := TYR.at hM1 ha0 1 13 rfl (by decide)
    refine p_iload_n (pc := 26) cx dX10_add_26 rfl 3 rfl ?_
    have hr_6 : Is G 8 (mR M1 (mR M1 a0 1) a3.toNatClampNeg) := TYR.el hM1 hr_5 hw.1
    refine p_aald (pc := 27) cx hr_5 hw.1 dX10_add_27 ?_
    have hw := hw.2
    refine p_aload_n (pc := 28) cx dX10_add_28 rfl 0 rfl ?_
    refine gf_9_1 (pc := 29) cx ha0 t2_74 dX10_add_29 ?_
    have hr_7 : Is G 13 (mR M1 a0 1) := TYR.at hM1 ha0 1 13 rfl (by decide)
    refine p_iload_n (pc := 32) cx dX10_add_32 rfl 3 rfl ?_
    have hr_8 : Is G 8 (mR M1 (mR M1 a0 1) a3.toNatClampNeg) := TYR.el hM1 hr_7 hw.1
    refine p_aald (pc := 33) cx hr_7 hw.1 dX10_add_33 ?_
    have hw := hw.2
    refine gf_8_2 (pc := 34) cx hr_8 t1_63 dX10_add_34 ?_
    refine p_callSv (pc := 37) [.ref (mR M1 a0 10), .ref (mR M1 (mR M1 a0 1) a2.toNatClampNeg), .ref (mR M1 (mR M1 a0 1) a3.toNatClampNeg), .int (mI M1 (mR M1 (mR M1 a0 1) a3.toNatClampNeg) 2)] cx (c_X7_signedSum cx.2.2.2.2.2.2 hM1 hr_2 hr_4 hr_6 hw) cf_X7_signedSum cv_X7_signedSum t2_172 ⟨rfl, rfl⟩ ⟨Nat.le_of_ble_eq_true rfl, Nat.le_of_ble_eq_true rfl⟩ rfl rfl (Nat.le_of_ble_eq_true rfl) dX10_add_37 (fun M9 hw hM9 => ?_)
    refine p_aload_n (pc := 40) cx dX10_add_40 rfl 0 rfl ?_
    refine p_iload_n (pc := 41) cx dX10_add_41 rfl 1 rfl ?_
    refine p_aload_n (pc := 42) cx dX10_add_42 rfl 0 rfl ?_
    refine gf_9_10 (pc := 43) cx ha0 t2_83 dX10_add_43 ?_
    have hr_10 : Is G 8 (mR M9 a0 10) := TYR.at hM9 ha0 10 8 rfl (by decide)
    refine p_callVi (pc := 46) [.int a1, .ref (mR M9 a0 10)] cx (c_X10_put cx.2.2.2.2.2.2 hM9 ha0 hr_10 hw) cf_X10_put cv_X10_put t2_141 ha0 ⟨by decide, rfl, rfl⟩ ⟨rfl, rfl⟩ ⟨Nat.le_of_ble_eq_true rfl, Nat.le_of_ble_eq_true rfl⟩ rfl rfl (Nat.le_of_ble_eq_true rfl) dX10_add_46 (fun r11 M11 hw hM11 => ?_)
    exact p_iret (pc := 49) cx hr hlk dX10_add_49 hM11 hw
  · have hw := hw.2 hc
    refine p_iconst (pc := 10) (v := 3) cx dX10_add_10 (by decide) ?_
    exact p_iret (pc := 11) cx hr hlk dX10_add_11 hM1 hw
set_option maxHeartbeats 4000000 in
set_option maxRecDepth 100000 in
theorem c_X10_subtract {l : Launch} {D : va_G} {G : SH} (hND : ND G) {a0 : Nat} {a1 : Int32} {a2 : Int32} {a3 : Int32} {M : MS} {Qp : Int32 → MS → Prop} (hT : TYR G M.2.2.1) (ha0 : Is G 9 a0) (hw : w_X10_subtract G a0 a1 a2 a3 M Qp) : MeI l D G yX10_subtract (Cond.code yX10_subtract cX10_subtract 4 (some .int) :: GW) rm_X10_subtract [.ref a0, .int a1, .int a2, .int a3] M Qp := by
  unfold MeI
  refine p_method (by decide) rfl (Nat.le_of_ble_eq_true rfl) hND ?_
  intro p e s m args below meth c cx hr hlk
  have cx : CX p s m args c D G cX10_subtract 4 RX10 := cx
  unfold w_X10_subtract at hw
  refine p_aload_n (pc := 0) cx dX10_subtract_0 rfl 0 rfl ?_
  refine p_iload_n (pc := 1) cx dX10_subtract_1 rfl 1 rfl ?_
  refine p_iload_n (pc := 2) cx dX10_subtract_2 rfl 2 rfl ?_
  refine p_iload_n (pc := 3) cx dX10_subtract_3 rfl 3 rfl ?_
  refine p_callVi (pc := 4) [.int a1, .int a2, .int a3] cx (c_X10_areRegisters_ cx.2.2.2.2.2.2 hT ha0 hw) cf_X10_areRegisters_ cv_X10_areRegisters_ t2_168 ha0 ⟨by decide, rfl, rfl⟩ ⟨rfl, rfl⟩ ⟨Nat.le_of_ble_eq_true rfl, Nat.le_of_ble_eq_true rfl⟩ rfl rfl (Nat.le_of_ble_eq_true rfl) dX10_subtract_4 (fun r1 M1 hw hM1 => ?_)
  refine p_if_ne (pc := 7) (tgt := 12) cx dX10_subtract_7 (by decide) (fun hc => ?_) (fun hc => ?_)
  · have hw := hw.1 hc
    refine p_aload_n (pc := 12) cx dX10_subtract_12 rfl 0 rfl ?_
    refine gf_9_10 (pc := 13) cx ha0 t2_83 dX10_subtract_13 ?_
    have hr_2 : Is G 8 (mR M1 a0 10) := TYR.at hM1 ha0 10 8 rfl (by decide)
    refine p_aload_n (pc := 16) cx dX10_subtract_16 rfl 0 rfl ?_
    refine gf_9_1 (pc := 17) cx ha0 t2_74 dX10_subtract_17 ?_
    have hr_3 : Is G 13 (mR M1 a0 1) := TYR.at hM1 ha0 1 13 rfl (by decide)
    refine p_iload_n (pc := 20) cx dX10_subtract_20 rfl 2 rfl ?_
    have hr_4 : Is G 8 (mR M1 (mR M1 a0 1) a2.toNatClampNeg) := TYR.el hM1 hr_3 hw.1
    refine p_aald (pc := 21) cx hr_3 hw.1 dX10_subtract_21 ?_
    have hw := hw.2
    refine p_aload_n (pc := 22) cx dX10_subtract_22 rfl 0 rfl ?_
    refine gf_9_1 (pc := 23) cx ha0 t2_74 dX10_subtract_23 ?_
    have hr_5 : Is G 13 (mR M1 a0 1) := TYR.at hM1 ha0 1 13 rfl (by decide)
    refine p_iload_n (pc := 26) cx dX10_subtract_26 rfl 3 rfl ?_
    have hr_6 : Is G 8 (mR M1 (mR M1 a0 1) a3.toNatClampNeg) := TYR.el hM1 hr_5 hw.1
    refine p_aald (pc := 27) cx hr_5 hw.1 dX10_subtract_27 ?_
    have hw := hw.2
    refine p_aload_n (pc := 28) cx dX10_subtract_28 rfl 0 rfl ?_
    refine gf_9_1 (pc := 29) cx ha0 t2_74 dX10_subtract_29 ?_
    have hr_7 : Is G 13 (mR M1 a0 1) := TYR.at hM1 ha0 1 13 rfl (by decide)
    refine p_iload_n (pc := 32) cx dX10_subtract_32 rfl 3 rfl ?_
    have hr_8 : Is G 8 (mR M1 (mR M1 a0 1) a3.toNatClampNeg) := TYR.el hM1 hr_7 hw.1
    refine p_aald (pc := 33) cx hr_7 hw.1 dX10_subtract_33 ?_
    have hw := hw.2
    refine gf_8_2 (pc := 34) cx hr_8 t1_63 dX10_subtract_34 ?_
    refine p_if_ne (pc := 37) (tgt := 44) cx dX10_subtract_37 (by decide) (fun hc => ?_) (fun hc => ?_)
    · have hw := hw.1 hc
      refine p_iconst (pc := 44) (v := 0) cx dX10_subtract_44 (by decide) ?_
      refine p_callSv (pc := 45) [.ref (mR M1 a0 10), .ref (mR M1 (mR M1 a0 1) a2.toNatClampNeg), .ref (mR M1 (mR M1 a0 1) a3.toNatClampNeg), .int (0 : Int32)] cx (c_X7_signedSum cx.2.2.2.2.2.2 hM1 hr_2 hr_4 hr_6 hw) cf_X7_signedSum cv_X7_signedSum t2_172 ⟨rfl, rfl⟩ ⟨Nat.le_of_ble_eq_true rfl, Nat.le_of_ble_eq_true rfl⟩ rfl rfl (Nat.le_of_ble_eq_true rfl) dX10_subtract_45 (fun M9 hw hM9 => ?_)
      refine p_aload_n (pc := 48) cx dX10_subtract_48 rfl 0 rfl ?_
      refine p_iload_n (pc := 49) cx dX10_subtract_49 rfl 1 rfl ?_
      refine p_aload_n (pc := 50) cx dX10_subtract_50 rfl 0 rfl ?_
      refine gf_9_10 (pc := 51) cx ha0 t2_83 dX10_subtract_51 ?_
      have hr_10 : Is G 8 (mR M9 a0 10) := TYR.at hM9 ha0 10 8 rfl (by decide)
      refine p_callVi (pc := 54) [.int a1, .ref (mR M9 a0 10)] cx (c_X10_put cx.2.2.2.2.2.2 hM9 ha0 hr_10 hw) cf_X10_put cv_X10_put t2_141 ha0 ⟨by decide, rfl, rfl⟩ ⟨rfl, rfl⟩ ⟨Nat.le_of_ble_eq_true rfl, Nat.le_of_ble_eq_true rfl⟩ rfl rfl (Nat.le_of_ble_eq_true rfl) dX10_subtract_54 (fun r11 M11 hw hM11 => ?_)
      exact p_iret (pc := 57) cx hr hlk dX10_subtract_57 hM11 hw
    · have hw := hw.2 hc
      refine p_iconst (pc := 40) (v := 1) cx dX10_subtract_40 (by decide) ?_
      refine p_goto (pc := 41) (tgt := 45) cx dX10_subtract_41 (by decide) ?_
      refine p_callSv (pc := 45) [.ref (mR M1 a0 10), .ref (mR M1 (mR M1 a0 1) a2.toNatClampNeg), .ref (mR M1 (mR M1 a0 1) a3.toNatClampNeg), .int (1 : Int32)] cx (c_X7_signedSum cx.2.2.2.2.2.2 hM1 hr_2 hr_4 hr_6 hw) cf_X7_signedSum cv_X7_signedSum t2_172 ⟨rfl, rfl⟩ ⟨Nat.le_of_ble_eq_true rfl, Nat.le_of_ble_eq_true rfl⟩ rfl rfl (Nat.le_of_ble_eq_true rfl) dX10_subtract_45 (fun M12 hw hM12 => ?_)
      refine p_aload_n (pc := 48) cx dX10_subtract_48 rfl 0 rfl ?_
      refine p_iload_n (pc := 49) cx dX10_subtract_49 rfl 1 rfl ?_
      refine p_aload_n (pc := 50) cx dX10_subtract_50 rfl 0 rfl ?_
      refine gf_9_10 (pc := 51) cx ha0 t2_83 dX10_subtract_51 ?_
      have hr_13 : Is G 8 (mR M12 a0 10) := TYR.at hM12 ha0 10 8 rfl (by decide)
      refine p_callVi (pc := 54) [.int a1, .ref (mR M12 a0 10)] cx (c_X10_put cx.2.2.2.2.2.2 hM12 ha0 hr_13 hw) cf_X10_put cv_X10_put t2_141 ha0 ⟨by decide, rfl, rfl⟩ ⟨rfl, rfl⟩ ⟨Nat.le_of_ble_eq_true rfl, Nat.le_of_ble_eq_true rfl⟩ rfl rfl (Nat.le_of_ble_eq_true rfl) dX10_subtract_54 (fun r14 M14 hw hM14 => ?_)
      exact p_iret (pc := 57) cx hr hlk dX10_subtract_57 hM14 hw
  · have hw := hw.2 hc
    refine p_iconst (pc := 10) (v := 3) cx dX10_subtract_10 (by decide) ?_
    exact p_iret (pc := 11) cx hr hlk dX10_subtract_11 hM1 hw
set_option maxHeartbeats 4000000 in
set_option maxRecDepth 100000 in
theorem c_X10_multiply {l : Launch} {D : va_G} {G : SH} (hND : ND G) {a0 : Nat} {a1 : Int32} {a2 : Int32} {a3 : Int32} {M : MS} {Qp : Int32 → MS → Prop} (hT : TYR G M.2.2.1) (ha0 : Is G 9 a0) (hw : w_X10_multiply G a0 a1 a2 a3 M Qp) : MeI l D G yX10_multiply (Cond.code yX10_multiply cX10_multiply 4 (some .int) :: GW) rm_X10_multiply [.ref a0, .int a1, .int a2, .int a3] M Qp := by
  unfold MeI
  refine p_method (by decide) rfl (Nat.le_of_ble_eq_true rfl) hND ?_
  intro p e s m args below meth c cx hr hlk
  have cx : CX p s m args c D G cX10_multiply 4 RX10 := cx
  unfold w_X10_multiply at hw
  refine p_aload_n (pc := 0) cx dX10_multiply_0 rfl 0 rfl ?_
  refine p_iload_n (pc := 1) cx dX10_multiply_1 rfl 1 rfl ?_
  refine p_iload_n (pc := 2) cx dX10_multiply_2 rfl 2 rfl ?_
  refine p_iload_n (pc := 3) cx dX10_multiply_3 rfl 3 rfl ?_
  refine p_callVi (pc := 4) [.int a1, .int a2, .int a3] cx (c_X10_areRegisters_ cx.2.2.2.2.2.2 hT ha0 hw) cf_X10_areRegisters_ cv_X10_areRegisters_ t2_168 ha0 ⟨by decide, rfl, rfl⟩ ⟨rfl, rfl⟩ ⟨Nat.le_of_ble_eq_true rfl, Nat.le_of_ble_eq_true rfl⟩ rfl rfl (Nat.le_of_ble_eq_true rfl) dX10_multiply_4 (fun r1 M1 hw hM1 => ?_)
  refine p_if_ne (pc := 7) (tgt := 12) cx dX10_multiply_7 (by decide) (fun hc => ?_) (fun hc => ?_)
  · have hw := hw.1 hc
    refine p_aload_n (pc := 12) cx dX10_multiply_12 rfl 0 rfl ?_
    refine gf_9_10 (pc := 13) cx ha0 t2_83 dX10_multiply_13 ?_
    have hr_2 : Is G 8 (mR M1 a0 10) := TYR.at hM1 ha0 10 8 rfl (by decide)
    refine p_aload_n (pc := 16) cx dX10_multiply_16 rfl 0 rfl ?_
    refine gf_9_1 (pc := 17) cx ha0 t2_74 dX10_multiply_17 ?_
    have hr_3 : Is G 13 (mR M1 a0 1) := TYR.at hM1 ha0 1 13 rfl (by decide)
    refine p_iload_n (pc := 20) cx dX10_multiply_20 rfl 2 rfl ?_
    have hr_4 : Is G 8 (mR M1 (mR M1 a0 1) a2.toNatClampNeg) := TYR.el hM1 hr_3 hw.1
    refine p_aald (pc := 21) cx hr_3 hw.1 dX10_multiply_21 ?_
    have hw := hw.2
    refine p_aload_n (pc := 22) cx dX10_multiply_22 rfl 0 rfl ?_
    refine gf_9_1 (pc := 23) cx ha0 t2_74 dX10_multiply_23 ?_
    have hr_5 : Is G 13 (mR M1 a0 1) := TYR.at hM1 ha0 1 13 rfl (by decide)
    refine p_iload_n (pc := 26) cx dX10_multiply_26 rfl 3 rfl ?_
    have hr_6 : Is G 8 (mR M1 (mR M1 a0 1) a3.toNatClampNeg) := TYR.el hM1 hr_5 hw.1
    refine p_aald (pc := 27) cx hr_5 hw.1 dX10_multiply_27 ?_
    have hw := hw.2
    refine p_callSv (pc := 28) [.ref (mR M1 a0 10), .ref (mR M1 (mR M1 a0 1) a2.toNatClampNeg), .ref (mR M1 (mR M1 a0 1) a3.toNatClampNeg)] cx (c_X7_product cx.2.2.2.2.2.2 hM1 hr_2 hr_4 hr_6 hw) cf_X7_product cv_X7_product t2_191 ⟨rfl, rfl⟩ ⟨Nat.le_of_ble_eq_true rfl, Nat.le_of_ble_eq_true rfl⟩ rfl rfl (Nat.le_of_ble_eq_true rfl) dX10_multiply_28 (fun M7 hw hM7 => ?_)
    refine p_aload_n (pc := 31) cx dX10_multiply_31 rfl 0 rfl ?_
    refine gf_9_10 (pc := 32) cx ha0 t2_83 dX10_multiply_32 ?_
    have hr_8 : Is G 8 (mR M7 a0 10) := TYR.at hM7 ha0 10 8 rfl (by decide)
    refine p_aload_n (pc := 35) cx dX10_multiply_35 rfl 0 rfl ?_
    refine gf_9_1 (pc := 36) cx ha0 t2_74 dX10_multiply_36 ?_
    have hr_9 : Is G 13 (mR M7 a0 1) := TYR.at hM7 ha0 1 13 rfl (by decide)
    refine p_iload_n (pc := 39) cx dX10_multiply_39 rfl 2 rfl ?_
    have hr_10 : Is G 8 (mR M7 (mR M7 a0 1) a2.toNatClampNeg) := TYR.el hM7 hr_9 hw.1
    refine p_aald (pc := 40) cx hr_9 hw.1 dX10_multiply_40 ?_
    have hw := hw.2
    refine gf_8_2 (pc := 41) cx hr_10 t1_63 dX10_multiply_41 ?_
    refine p_aload_n (pc := 44) cx dX10_multiply_44 rfl 0 rfl ?_
    refine gf_9_1 (pc := 45) cx ha0 t2_74 dX10_multiply_45 ?_
    have hr_11 : Is G 13 (mR M7 a0 1) := TYR.at hM7 ha0 1 13 rfl (by decide)
    refine p_iload_n (pc := 48) cx dX10_multiply_48 rfl 3 rfl ?_
    have hr_12 : Is G 8 (mR M7 (mR M7 a0 1) a3.toNatClampNeg) := TYR.el hM7 hr_11 hw.1
    refine p_aald (pc := 49) cx hr_11 hw.1 dX10_multiply_49 ?_
    have hw := hw.2
    refine gf_8_2 (pc := 50) cx hr_12 t1_63 dX10_multiply_50 ?_
    refine p_icmp_eq (pc := 53) (tgt := 60) cx dX10_multiply_53 (by decide) (fun hc => ?_) (fun hc => ?_)
    · have hw := hw.1 hc
      refine p_iconst (pc := 60) (v := 0) cx dX10_multiply_60 (by decide) ?_
      refine p_callVv (pc := 61) [.int (0 : Int32)] cx (c_X9_takeSign cx.2.2.2.2.2.2 hM7 hr_8 hw) cf_X9_takeSign cv_X9_takeSign t2_137 hr_8 ⟨by decide, rfl, rfl⟩ ⟨rfl, rfl⟩ ⟨Nat.le_of_ble_eq_true rfl, Nat.le_of_ble_eq_true rfl⟩ rfl rfl (Nat.le_of_ble_eq_true rfl) dX10_multiply_61 (fun M13 hw hM13 => ?_)
      refine p_aload_n (pc := 64) cx dX10_multiply_64 rfl 0 rfl ?_
      refine p_iload_n (pc := 65) cx dX10_multiply_65 rfl 1 rfl ?_
      refine p_aload_n (pc := 66) cx dX10_multiply_66 rfl 0 rfl ?_
      refine gf_9_10 (pc := 67) cx ha0 t2_83 dX10_multiply_67 ?_
      have hr_14 : Is G 8 (mR M13 a0 10) := TYR.at hM13 ha0 10 8 rfl (by decide)
      refine p_callVi (pc := 70) [.int a1, .ref (mR M13 a0 10)] cx (c_X10_put cx.2.2.2.2.2.2 hM13 ha0 hr_14 hw) cf_X10_put cv_X10_put t2_141 ha0 ⟨by decide, rfl, rfl⟩ ⟨rfl, rfl⟩ ⟨Nat.le_of_ble_eq_true rfl, Nat.le_of_ble_eq_true rfl⟩ rfl rfl (Nat.le_of_ble_eq_true rfl) dX10_multiply_70 (fun r15 M15 hw hM15 => ?_)
      exact p_iret (pc := 73) cx hr hlk dX10_multiply_73 hM15 hw
    · have hw := hw.2 hc
      refine p_iconst (pc := 56) (v := 1) cx dX10_multiply_56 (by decide) ?_
      refine p_goto (pc := 57) (tgt := 61) cx dX10_multiply_57 (by decide) ?_
      refine p_callVv (pc := 61) [.int (1 : Int32)] cx (c_X9_takeSign cx.2.2.2.2.2.2 hM7 hr_8 hw) cf_X9_takeSign cv_X9_takeSign t2_137 hr_8 ⟨by decide, rfl, rfl⟩ ⟨rfl, rfl⟩ ⟨Nat.le_of_ble_eq_true rfl, Nat.le_of_ble_eq_true rfl⟩ rfl rfl (Nat.le_of_ble_eq_true rfl) dX10_multiply_61 (fun M16 hw hM16 => ?_)
      refine p_aload_n (pc := 64) cx dX10_multiply_64 rfl 0 rfl ?_
      refine p_iload_n (pc := 65) cx dX10_multiply_65 rfl 1 rfl ?_
      refine p_aload_n (pc := 66) cx dX10_multiply_66 rfl 0 rfl ?_
      refine gf_9_10 (pc := 67) cx ha0 t2_83 dX10_multiply_67 ?_
      have hr_17 : Is G 8 (mR M16 a0 10) := TYR.at hM16 ha0 10 8 rfl (by decide)
      refine p_callVi (pc := 70) [.int a1, .ref (mR M16 a0 10)] cx (c_X10_put cx.2.2.2.2.2.2 hM16 ha0 hr_17 hw) cf_X10_put cv_X10_put t2_141 ha0 ⟨by decide, rfl, rfl⟩ ⟨rfl, rfl⟩ ⟨Nat.le_of_ble_eq_true rfl, Nat.le_of_ble_eq_true rfl⟩ rfl rfl (Nat.le_of_ble_eq_true rfl) dX10_multiply_70 (fun r18 M18 hw hM18 => ?_)
      exact p_iret (pc := 73) cx hr hlk dX10_multiply_73 hM18 hw
  · have hw := hw.2 hc
    refine p_iconst (pc := 10) (v := 3) cx dX10_multiply_10 (by decide) ?_
    exact p_iret (pc := 11) cx hr hlk dX10_multiply_11 hM1 hw
set_option maxHeartbeats 4000000 in
set_option maxRecDepth 100000 in
theorem x_X10_divide_140 {p : Program} {l : Launch} {e : Env} {s : State} {m : MethodId} {args : Array Value} {below : List Frame} {meth : Method} {c : Code} {D : va_G} {G : SH} {Qp : Int32 → MS → Prop}  (cx : CX p s m args c D G cX10_divide 7 RX10) (hr : meth.sig.returnType = (some .int)) (hlk : meth.locks = false)  (v0 : Nat) (v1 : Int32) (v2 : Int32) (s0 : Int32) (s1 : Nat) (M : MS) (hT : TYR G M.2.2.1) (hv0 : Is G 9 v0) (hs1 : Is G 8 s1) (hw : w_X10_divide_140 G Qp v0 v1 v2 s0 s1 M) : PW p l e rm_X10_divide s m args below meth c D G 7 (MQ below (va_Qi Qp (POST D G) (AG G)) args s 0 0 (AG G)) 140 [(0, .ref v0), (1, .int v1), (2, .int v2)] [.int s0, .ref s1] M := by
  unfold w_X10_divide_140 at hw
  refine p_callVv (pc := 140) [.int s0] cx (c_X9_takeSign cx.2.2.2.2.2.2 hT hs1 hw) cf_X9_takeSign cv_X9_takeSign t2_137 hs1 ⟨by decide, rfl, rfl⟩ ⟨rfl, rfl⟩ ⟨Nat.le_of_ble_eq_true rfl, Nat.le_of_ble_eq_true rfl⟩ rfl rfl (Nat.le_of_ble_eq_true rfl) dX10_divide_140 (fun M12 hw hM12 => ?_)
  refine p_aload_n (pc := 143) cx dX10_divide_143 rfl 0 rfl ?_
  refine gf_9_10 (pc := 144) cx hv0 t2_83 dX10_divide_144 ?_
  have hr_13 : Is G 8 (mR M12 v0 10) := TYR.at hM12 hv0 10 8 rfl (by decide)
  refine gf_8_1 (pc := 147) cx hr_13 t1_59 dX10_divide_147 ?_
  refine p_aload_n (pc := 150) cx dX10_divide_150 rfl 0 rfl ?_
  refine gf_9_0 (pc := 151) cx hv0 t2_73 dX10_divide_151 ?_
  refine p_icmp_gt (pc := 154) (tgt := 171) cx dX10_divide_154 (by decide) (fun hc => ?_) (fun hc => ?_)
  · have hw := hw.1 hc
    refine p_iconst (pc := 171) (v := 1) cx dX10_divide_171 (by decide) ?_
    exact p_iret (pc := 172) cx hr hlk dX10_divide_172 hM12 hw
  · have hw := hw.2 hc
    refine p_aload_n (pc := 157) cx dX10_divide_157 rfl 0 rfl ?_
    refine gf_9_11 (pc := 158) cx hv0 t2_84 dX10_divide_158 ?_
    have hr_14 : Is G 8 (mR M12 v0 11) := TYR.at hM12 hv0 11 8 rfl (by decide)
    refine gf_8_1 (pc := 161) cx hr_14 t1_59 dX10_divide_161 ?_
    refine p_aload_n (pc := 164) cx dX10_divide_164 rfl 0 rfl ?_
    refine gf_9_0 (pc := 165) cx hv0 t2_73 dX10_divide_165 ?_
    refine p_icmp_le (pc := 168) (tgt := 173) cx dX10_divide_168 (by decide) (fun hc => ?_) (fun hc => ?_)
    · have hw := hw.1 hc
      refine p_aload_n (pc := 173) cx dX10_divide_173 rfl 0 rfl ?_
      refine gf_9_1 (pc := 174) cx hv0 t2_74 dX10_divide_174 ?_
      have hr_15 : Is G 13 (mR M12 v0 1) := TYR.at hM12 hv0 1 13 rfl (by decide)
      refine p_iload_n (pc := 177) cx dX10_divide_177 rfl 1 rfl ?_
      have hr_16 : Is G 8 (mR M12 (mR M12 v0 1) v1.toNatClampNeg) := TYR.el hM12 hr_15 hw.1
      refine p_aald (pc := 178) cx hr_15 hw.1 dX10_divide_178 ?_
      have hw := hw.2
      refine p_aload_n (pc := 179) cx dX10_divide_179 rfl 0 rfl ?_
      refine gf_9_10 (pc := 180) cx hv0 t2_83 dX10_divide_180 ?_
      have hr_17 : Is G 8 (mR M12 v0 10) := TYR.at hM12 hv0 10 8 rfl (by decide)
      refine p_callVv (pc := 183) [.ref (mR M12 v0 10)] cx (c_X9_copy cx.2.2.2.2.2.2 hM12 hr_16 hr_17 hw) cf_X9_copy cv_X9_copy t2_145 hr_16 ⟨by decide, rfl, rfl⟩ ⟨rfl, rfl⟩ ⟨Nat.le_of_ble_eq_true rfl, Nat.le_of_ble_eq_true rfl⟩ rfl rfl (Nat.le_of_ble_eq_true rfl) dX10_divide_183 (fun M18 hw hM18 => ?_)
      refine p_aload_n (pc := 186) cx dX10_divide_186 rfl 0 rfl ?_
      refine gf_9_1 (pc := 187) cx hv0 t2_74 dX10_divide_187 ?_
      have hr_19 : Is G 13 (mR M18 v0 1) := TYR.at hM18 hv0 1 13 rfl (by decide)
      refine p_iload_n (pc := 190) cx dX10_divide_190 rfl 2 rfl ?_
      have hr_20 : Is G 8 (mR M18 (mR M18 v0 1) v2.toNatClampNeg) := TYR.el hM18 hr_19 hw.1
      refine p_aald (pc := 191) cx hr_19 hw.1 dX10_divide_191 ?_
      have hw := hw.2
      refine p_aload_n (pc := 192) cx dX10_divide_192 rfl 0 rfl ?_
      refine gf_9_11 (pc := 193) cx hv0 t2_84 dX10_divide_193 ?_
      have hr_21 : Is G 8 (mR M18 v0 11) := TYR.at hM18 hv0 11 8 rfl (by decide)
      refine p_callVv (pc := 196) [.ref (mR M18 v0 11)] cx (c_X9_copy cx.2.2.2.2.2.2 hM18 hr_20 hr_21 hw) cf_X9_copy cv_X9_copy t2_145 hr_20 ⟨by decide, rfl, rfl⟩ ⟨rfl, rfl⟩ ⟨Nat.le_of_ble_eq_true rfl, Nat.le_of_ble_eq_true rfl⟩ rfl rfl (Nat.le_of_ble_eq_true rfl) dX10_divide_196 (fun M22 hw hM22 => ?_)
      refine p_iconst (pc := 199) (v := 0) cx dX10_divide_199 (by decide) ?_
      exact p_iret (pc := 200) cx hr hlk dX10_divide_200 hM22 hw
    · have hw := hw.2 hc
      refine p_iconst (pc := 171) (v := 1) cx dX10_divide_171 (by decide) ?_
      exact p_iret (pc := 172) cx hr hlk dX10_divide_172 hM12 hw
set_option maxHeartbeats 4000000 in
set_option maxRecDepth 100000 in
theorem x_X10_divide_118 {p : Program} {l : Launch} {e : Env} {s : State} {m : MethodId} {args : Array Value} {below : List Frame} {meth : Method} {c : Code} {D : va_G} {G : SH} {Qp : Int32 → MS → Prop}  (cx : CX p s m args c D G cX10_divide 7 RX10) (hr : meth.sig.returnType = (some .int)) (hlk : meth.locks = false)  (v0 : Nat) (v1 : Int32) (v2 : Int32) (v5 : Nat) (v6 : Nat) (M : MS) (hT : TYR G M.2.2.1) (hv0 : Is G 9 v0) (hv5 : Is G 8 v5) (hv6 : Is G 8 v6) (hw : w_X10_divide_118 G Qp v0 v1 v2 v5 v6 M) : PW p l e rm_X10_divide s m args below meth c D G 7 (MQ below (va_Qi Qp (POST D G) (AG G)) args s 0 0 (AG G)) 118 [(0, .ref v0), (1, .int v1), (2, .int v2), (5, .ref v5), (6, .ref v6)] [] M := by
  unfold w_X10_divide_118 at hw
  refine p_aload_n (pc := 118) cx dX10_divide_118 rfl 0 rfl ?_
  refine gf_9_10 (pc := 119) cx hv0 t2_83 dX10_divide_119 ?_
  have hr_11 : Is G 8 (mR M v0 10) := TYR.at hT hv0 10 8 rfl (by decide)
  refine p_aload (pc := 122) cx dX10_divide_122 3 rfl ?_
  refine gf_8_2 (pc := 124) cx hv5 t1_63 dX10_divide_124 ?_
  refine p_aload (pc := 127) cx dX10_divide_127 4 rfl ?_
  refine gf_8_2 (pc := 129) cx hv6 t1_63 dX10_divide_129 ?_
  refine p_icmp_eq (pc := 132) (tgt := 139) cx dX10_divide_132 (by decide) (fun hc => ?_) (fun hc => ?_)
  · have hw := hw.1 hc
    refine p_iconst (pc := 139) (v := 0) cx dX10_divide_139 (by decide) ?_
    refine p_perm (lv' := [(0, .ref v0), (1, .int v1), (2, .int v2)]) [0, 1, 2] rfl ?_
    exact x_X10_divide_140 cx hr hlk v0 v1 v2 0 (mR M v0 10) M hT hv0 hr_11 hw
  · have hw := hw.2 hc
    refine p_iconst (pc := 135) (v := 1) cx dX10_divide_135 (by decide) ?_
    refine p_goto (pc := 136) (tgt := 140) cx dX10_divide_136 (by decide) ?_
    refine p_perm (lv' := [(0, .ref v0), (1, .int v1), (2, .int v2)]) [0, 1, 2] rfl ?_
    exact x_X10_divide_140 cx hr hlk v0 v1 v2 1 (mR M v0 10) M hT hv0 hr_11 hw
set_option maxHeartbeats 4000000 in
set_option maxRecDepth 100000 in
theorem c_X10_divide {l : Launch} {D : va_G} {G : SH} (hND : ND G) {a0 : Nat} {a1 : Int32} {a2 : Int32} {a3 : Int32} {a4 : Int32} {M : MS} {Qp : Int32 → MS → Prop} (hT : TYR G M.2.2.1) (ha0 : Is G 9 a0) (hw : w_X10_divide G a0 a1 a2 a3 a4 M Qp) : MeI l D G yX10_divide (Cond.code yX10_divide cX10_divide 7 (some .int) :: GW) rm_X10_divide [.ref a0, .int a1, .int a2, .int a3, .int a4] M Qp := by
  unfold MeI
  refine p_method (by decide) rfl (Nat.le_of_ble_eq_true rfl) hND ?_
  intro p e s m args below meth c cx hr hlk
  have cx : CX p s m args c D G cX10_divide 7 RX10 := cx
  unfold w_X10_divide at hw
  refine p_aload_n (pc := 0) cx dX10_divide_0 rfl 0 rfl ?_
  refine p_iload_n (pc := 1) cx dX10_divide_1 rfl 1 rfl ?_
  refine p_iload_n (pc := 2) cx dX10_divide_2 rfl 2 rfl ?_
  refine p_callVi (pc := 3) [.int a1, .int a2] cx (c_X10_areRegisters cx.2.2.2.2.2.2 hT ha0 hw) cf_X10_areRegisters cv_X10_areRegisters t2_160 ha0 ⟨by decide, rfl, rfl⟩ ⟨rfl, rfl⟩ ⟨Nat.le_of_ble_eq_true rfl, Nat.le_of_ble_eq_true rfl⟩ rfl rfl (Nat.le_of_ble_eq_true rfl) dX10_divide_3 (fun r1 M1 hw hM1 => ?_)
  refine p_if_eq (pc := 6) (tgt := 24) cx dX10_divide_6 (by decide) (fun hc => ?_) (fun hc => ?_)
  · have hw := hw.1 hc
    refine p_iconst (pc := 24) (v := 3) cx dX10_divide_24 (by decide) ?_
    exact p_iret (pc := 25) cx hr hlk dX10_divide_25 hM1 hw
  · have hw := hw.2 hc
    refine p_aload_n (pc := 9) cx dX10_divide_9 rfl 0 rfl ?_
    refine p_iload_n (pc := 10) cx dX10_divide_10 rfl 3 rfl ?_
    refine p_iload (pc := 11) cx dX10_divide_11 4 rfl ?_
    refine p_callVi (pc := 13) [.int a3, .int a4] cx (c_X10_areRegisters cx.2.2.2.2.2.2 hM1 ha0 hw) cf_X10_areRegisters cv_X10_areRegisters t2_160 ha0 ⟨by decide, rfl, rfl⟩ ⟨rfl, rfl⟩ ⟨Nat.le_of_ble_eq_true rfl, Nat.le_of_ble_eq_true rfl⟩ rfl rfl (Nat.le_of_ble_eq_true rfl) dX10_divide_13 (fun r2 M2 hw hM2 => ?_)
    refine p_if_eq (pc := 16) (tgt := 24) cx dX10_divide_16 (by decide) (fun hc => ?_) (fun hc => ?_)
    · have hw := hw.1 hc
      refine p_iconst (pc := 24) (v := 3) cx dX10_divide_24 (by decide) ?_
      exact p_iret (pc := 25) cx hr hlk dX10_divide_25 hM2 hw
    · have hw := hw.2 hc
      refine p_iload_n (pc := 19) cx dX10_divide_19 rfl 1 rfl ?_
      refine p_iload_n (pc := 20) cx dX10_divide_20 rfl 2 rfl ?_
      refine p_icmp_ne (pc := 21) (tgt := 26) cx dX10_divide_21 (by decide) (fun hc => ?_) (fun hc => ?_)
      · have hw := hw.1 hc
        refine p_aload_n (pc := 26) cx dX10_divide_26 rfl 0 rfl ?_
        refine gf_9_1 (pc := 27) cx ha0 t2_74 dX10_divide_27 ?_
        have hr_3 : Is G 13 (mR M2 a0 1) := TYR.at hM2 ha0 1 13 rfl (by decide)
        refine p_iload_n (pc := 30) cx dX10_divide_30 rfl 3 rfl ?_
        have hr_4 : Is G 8 (mR M2 (mR M2 a0 1) a3.toNatClampNeg) := TYR.el hM2 hr_3 hw.1
        refine p_aald (pc := 31) cx hr_3 hw.1 dX10_divide_31 ?_
        have hw := hw.2
        refine p_astore (pc := 32) (lv' := [(0, .ref a0), (1, .int a1), (2, .int a2), (4, .int a4), (5, .ref (mR M2 (mR M2 a0 1) a3.toNatClampNeg))]) cx dX10_divide_32 (by decide) [1, 2, 3, 5, 0] rfl ?_
        refine p_aload_n (pc := 34) cx dX10_divide_34 rfl 0 rfl ?_
        refine gf_9_1 (pc := 35) cx ha0 t2_74 dX10_divide_35 ?_
        have hr_5 : Is G 13 (mR M2 a0 1) := TYR.at hM2 ha0 1 13 rfl (by decide)
        refine p_iload (pc := 38) cx dX10_divide_38 3 rfl ?_
        have hr_6 : Is G 8 (mR M2 (mR M2 a0 1) a4.toNatClampNeg) := TYR.el hM2 hr_5 hw.1
        refine p_aald (pc := 40) cx hr_5 hw.1 dX10_divide_40 ?_
        have hw := hw.2
        refine p_astore (pc := 41) (lv' := [(0, .ref a0), (1, .int a1), (2, .int a2), (5, .ref (mR M2 (mR M2 a0 1) a3.toNatClampNeg)), (6, .ref (mR M2 (mR M2 a0 1) a4.toNatClampNeg))]) cx dX10_divide_41 (by decide) [1, 2, 3, 5, 0] rfl ?_
        refine p_aload (pc := 43) cx dX10_divide_43 4 rfl ?_
        refine gf_8_1 (pc := 45) cx hr_6 t1_59 dX10_divide_45 ?_
        refine p_if_ne (pc := 48) (tgt := 53) cx dX10_divide_48 (by decide) (fun hc => ?_) (fun hc => ?_)
        · have hw := hw.1 hc
          refine p_aload_n (pc := 53) cx dX10_divide_53 rfl 0 rfl ?_
          refine gf_9_2 (pc := 54) cx ha0 t2_75 dX10_divide_54 ?_
          have hr_7 : Is G 0 (mR M2 a0 2) := TYR.at hM2 ha0 2 0 rfl (by decide)
          refine p_aload_n (pc := 57) cx dX10_divide_57 rfl 0 rfl ?_
          refine gf_9_10 (pc := 58) cx ha0 t2_83 dX10_divide_58 ?_
          have hr_8 : Is G 8 (mR M2 a0 10) := TYR.at hM2 ha0 10 8 rfl (by decide)
          refine p_aload_n (pc := 61) cx dX10_divide_61 rfl 0 rfl ?_
          refine gf_9_11 (pc := 62) cx ha0 t2_84 dX10_divide_62 ?_
          have hr_9 : Is G 8 (mR M2 a0 11) := TYR.at hM2 ha0 11 8 rfl (by decide)
          refine p_aload (pc := 65) cx dX10_divide_65 3 rfl ?_
          refine p_aload (pc := 67) cx dX10_divide_67 4 rfl ?_
          refine p_callVv (pc := 69) [.ref (mR M2 a0 10), .ref (mR M2 a0 11), .ref (mR M2 (mR M2 a0 1) a3.toNatClampNeg), .ref (mR M2 (mR M2 a0 1) a4.toNatClampNeg)] cx (c_X0_split cx.2.2.2.2.2.2 hM2 hr_7 hr_8 hr_9 hr_4 hr_6 hw) cf_X0_split cv_X0_split t2_199 hr_7 ⟨by decide, rfl, rfl⟩ ⟨rfl, rfl⟩ ⟨Nat.le_of_ble_eq_true rfl, Nat.le_of_ble_eq_true rfl⟩ rfl rfl (Nat.le_of_ble_eq_true rfl) dX10_divide_69 (fun M10 hw hM10 => ?_)
          refine p_aload (pc := 72) cx dX10_divide_72 3 rfl ?_
          refine gf_8_2 (pc := 74) cx hr_4 t1_63 dX10_divide_74 ?_
          refine p_if_eq (pc := 77) (tgt := 118) cx dX10_divide_77 (by decide) (fun hc => ?_) (fun hc => ?_)
          · have hw := hw.1 hc
            exact x_X10_divide_118 cx hr hlk a0 a1 a2 (mR M2 (mR M2 a0 1) a3.toNatClampNeg) (mR M2 (mR M2 a0 1) a4.toNatClampNeg) M10 hM10 ha0 hr_4 hr_6 hw
          · have hw := hw.2 hc
            refine p_aload_n (pc := 80) cx dX10_divide_80 rfl 0 rfl ?_
            refine gf_9_11 (pc := 81) cx ha0 t2_84 dX10_divide_81 ?_
            have hr_23 : Is G 8 (mR M10 a0 11) := TYR.at hM10 ha0 11 8 rfl (by decide)
            refine gf_8_1 (pc := 84) cx hr_23 t1_59 dX10_divide_84 ?_
            refine p_if_le (pc := 87) (tgt := 118) cx dX10_divide_87 (by decide) (fun hc => ?_) (fun hc => ?_)
            · have hw := hw.1 hc
              exact x_X10_divide_118 cx hr hlk a0 a1 a2 (mR M2 (mR M2 a0 1) a3.toNatClampNeg) (mR M2 (mR M2 a0 1) a4.toNatClampNeg) M10 hM10 ha0 hr_4 hr_6 hw
            · have hw := hw.2 hc
              refine p_aload_n (pc := 90) cx dX10_divide_90 rfl 0 rfl ?_
              refine gf_9_10 (pc := 91) cx ha0 t2_83 dX10_divide_91 ?_
              have hr_24 : Is G 8 (mR M10 a0 10) := TYR.at hM10 ha0 10 8 rfl (by decide)
              refine p_aload_n (pc := 94) cx dX10_divide_94 rfl 0 rfl ?_
              refine gf_9_10 (pc := 95) cx ha0 t2_83 dX10_divide_95 ?_
              have hr_25 : Is G 8 (mR M10 a0 10) := TYR.at hM10 ha0 10 8 rfl (by decide)
              refine p_aload_n (pc := 98) cx dX10_divide_98 rfl 0 rfl ?_
              refine gf_9_12 (pc := 99) cx ha0 t2_85 dX10_divide_99 ?_
              have hr_26 : Is G 8 (mR M10 a0 12) := TYR.at hM10 ha0 12 8 rfl (by decide)
              refine p_callSv (pc := 102) [.ref (mR M10 a0 10), .ref (mR M10 a0 10), .ref (mR M10 a0 12)] cx (c_X7_sum cx.2.2.2.2.2.2 hM10 hr_24 hr_25 hr_26 hw) cf_X7_sum cv_X7_sum t2_133 ⟨rfl, rfl⟩ ⟨Nat.le_of_ble_eq_true rfl, Nat.le_of_ble_eq_true rfl⟩ rfl rfl (Nat.le_of_ble_eq_true rfl) dX10_divide_102 (fun M27 hw hM27 => ?_)
              refine p_aload_n (pc := 105) cx dX10_divide_105 rfl 0 rfl ?_
              refine gf_9_11 (pc := 106) cx ha0 t2_84 dX10_divide_106 ?_
              have hr_28 : Is G 8 (mR M27 a0 11) := TYR.at hM27 ha0 11 8 rfl (by decide)
              refine p_aload (pc := 109) cx dX10_divide_109 4 rfl ?_
              refine p_aload_n (pc := 111) cx dX10_divide_111 rfl 0 rfl ?_
              refine gf_9_11 (pc := 112) cx ha0 t2_84 dX10_divide_112 ?_
              have hr_29 : Is G 8 (mR M27 a0 11) := TYR.at hM27 ha0 11 8 rfl (by decide)
              refine p_callSv (pc := 115) [.ref (mR M27 a0 11), .ref (mR M2 (mR M2 a0 1) a4.toNatClampNeg), .ref (mR M27 a0 11)] cx (c_X7_difference cx.2.2.2.2.2.2 hM27 hr_28 hr_6 hr_29 hw) cf_X7_difference cv_X7_difference t3_8 ⟨rfl, rfl⟩ ⟨Nat.le_of_ble_eq_true rfl, Nat.le_of_ble_eq_true rfl⟩ rfl rfl (Nat.le_of_ble_eq_true rfl) dX10_divide_115 (fun M30 hw hM30 => ?_)
              exact x_X10_divide_118 cx hr hlk a0 a1 a2 (mR M2 (mR M2 a0 1) a3.toNatClampNeg) (mR M2 (mR M2 a0 1) a4.toNatClampNeg) M30 hM30 ha0 hr_4 hr_6 hw
        · have hw := hw.2 hc
          refine p_iconst (pc := 51) (v := 2) cx dX10_divide_51 (by decide) ?_
          exact p_iret (pc := 52) cx hr hlk dX10_divide_52 hM2 hw
      · have hw := hw.2 hc
        refine p_iconst (pc := 24) (v := 3) cx dX10_divide_24 (by decide) ?_
        exact p_iret (pc := 25) cx hr hlk dX10_divide_25 hM2 hw
set_option maxHeartbeats 4000000 in
set_option maxRecDepth 100000 in
theorem x_X10_halve_45 {p : Program} {l : Launch} {e : Env} {s : State} {m : MethodId} {args : Array Value} {below : List Frame} {meth : Method} {c : Code} {D : va_G} {G : SH} {Qp : MS → Prop}  (cx : CX p s m args c D G cX10_halve 7 RX10) (hr : meth.sig.returnType = none) (hlk : meth.locks = false)  (v0 : Nat) (v1 : Nat) (v5 : Int32) (s0 : Int32) (M : MS) (hT : TYR G M.2.2.1) (hv0 : Is G 9 v0) (hv1 : Is G 8 v1) (hw : w_X10_halve_45 G Qp v0 v1 v5 s0 M) : PW p l e rm_X10_halve s m args below meth c D G 7 (MQ below (va_Qv Qp (POST D G) (AG G)) args s 0 0 (AG G)) 45 [(0, .ref v0), (1, .ref v1), (5, .int v5)] [.int s0] M := by
  unfold w_X10_halve_45 at hw
  refine p_istore (pc := 45) (lv' := [(0, .ref v0), (1, .ref v1), (5, .int v5), (6, .int s0)]) cx dX10_halve_45 (by decide) [1, 2, 3, 0] rfl ?_
  refine p_aload_n (pc := 47) cx dX10_halve_47 rfl 0 rfl ?_
  refine gf_9_10 (pc := 48) cx hv0 t2_83 dX10_halve_48 ?_
  have hr_2 : Is G 8 (mR M v0 10) := TYR.at hT hv0 10 8 rfl (by decide)
  refine p_aload_n (pc := 51) cx dX10_halve_51 rfl 1 rfl ?_
  refine p_iload (pc := 52) cx dX10_halve_52 2 rfl ?_
  refine p_callSv (pc := 54) [.ref (mR M v0 10), .ref v1, .int v5] cx (c_X7_shiftDown cx.2.2.2.2.2.2 hT hr_2 hv1 hw) cf_X7_shiftDown cv_X7_shiftDown t3_29 ⟨rfl, rfl⟩ ⟨Nat.le_of_ble_eq_true rfl, Nat.le_of_ble_eq_true rfl⟩ rfl rfl (Nat.le_of_ble_eq_true rfl) dX10_halve_54 (fun M3 hw hM3 => ?_)
  refine p_aload_n (pc := 57) cx dX10_halve_57 rfl 1 rfl ?_
  refine gf_8_2 (pc := 58) cx hv1 t1_63 dX10_halve_58 ?_
  refine p_if_eq (pc := 61) (tgt := 84) cx dX10_halve_61 (by decide) (fun hc => ?_) (fun hc => ?_)
  · have hw := hw.1 hc
    refine p_aload_n (pc := 84) cx dX10_halve_84 rfl 0 rfl ?_
    refine gf_9_10 (pc := 85) cx hv0 t2_83 dX10_halve_85 ?_
    have hr_4 : Is G 8 (mR M3 v0 10) := TYR.at hM3 hv0 10 8 rfl (by decide)
    refine p_aload_n (pc := 88) cx dX10_halve_88 rfl 1 rfl ?_
    refine gf_8_2 (pc := 89) cx hv1 t1_63 dX10_halve_89 ?_
    refine p_callVv (pc := 92) [.int (mI M3 v1 2)] cx (c_X9_takeSign cx.2.2.2.2.2.2 hM3 hr_4 hw) cf_X9_takeSign cv_X9_takeSign t2_137 hr_4 ⟨by decide, rfl, rfl⟩ ⟨rfl, rfl⟩ ⟨Nat.le_of_ble_eq_true rfl, Nat.le_of_ble_eq_true rfl⟩ rfl rfl (Nat.le_of_ble_eq_true rfl) dX10_halve_92 (fun M5 hw hM5 => ?_)
    exact p_vret (pc := 95) cx hr hlk dX10_halve_95 hM5 hw
  · have hw := hw.2 hc
    refine p_iload (pc := 64) cx dX10_halve_64 3 rfl ?_
    refine p_if_eq (pc := 66) (tgt := 84) cx dX10_halve_66 (by decide) (fun hc => ?_) (fun hc => ?_)
    · have hw := hw.1 hc
      refine p_aload_n (pc := 84) cx dX10_halve_84 rfl 0 rfl ?_
      refine gf_9_10 (pc := 85) cx hv0 t2_83 dX10_halve_85 ?_
      have hr_6 : Is G 8 (mR M3 v0 10) := TYR.at hM3 hv0 10 8 rfl (by decide)
      refine p_aload_n (pc := 88) cx dX10_halve_88 rfl 1 rfl ?_
      refine gf_8_2 (pc := 89) cx hv1 t1_63 dX10_halve_89 ?_
      refine p_callVv (pc := 92) [.int (mI M3 v1 2)] cx (c_X9_takeSign cx.2.2.2.2.2.2 hM3 hr_6 hw) cf_X9_takeSign cv_X9_takeSign t2_137 hr_6 ⟨by decide, rfl, rfl⟩ ⟨rfl, rfl⟩ ⟨Nat.le_of_ble_eq_true rfl, Nat.le_of_ble_eq_true rfl⟩ rfl rfl (Nat.le_of_ble_eq_true rfl) dX10_halve_92 (fun M7 hw hM7 => ?_)
      exact p_vret (pc := 95) cx hr hlk dX10_halve_95 hM7 hw
    · have hw := hw.2 hc
      refine p_aload_n (pc := 69) cx dX10_halve_69 rfl 0 rfl ?_
      refine gf_9_10 (pc := 70) cx hv0 t2_83 dX10_halve_70 ?_
      have hr_8 : Is G 8 (mR M3 v0 10) := TYR.at hM3 hv0 10 8 rfl (by decide)
      refine p_aload_n (pc := 73) cx dX10_halve_73 rfl 0 rfl ?_
      refine gf_9_10 (pc := 74) cx hv0 t2_83 dX10_halve_74 ?_
      have hr_9 : Is G 8 (mR M3 v0 10) := TYR.at hM3 hv0 10 8 rfl (by decide)
      refine p_aload_n (pc := 77) cx dX10_halve_77 rfl 0 rfl ?_
      refine gf_9_12 (pc := 78) cx hv0 t2_85 dX10_halve_78 ?_
      have hr_10 : Is G 8 (mR M3 v0 12) := TYR.at hM3 hv0 12 8 rfl (by decide)
      refine p_callSv (pc := 81) [.ref (mR M3 v0 10), .ref (mR M3 v0 10), .ref (mR M3 v0 12)] cx (c_X7_sum cx.2.2.2.2.2.2 hM3 hr_8 hr_9 hr_10 hw) cf_X7_sum cv_X7_sum t2_133 ⟨rfl, rfl⟩ ⟨Nat.le_of_ble_eq_true rfl, Nat.le_of_ble_eq_true rfl⟩ rfl rfl (Nat.le_of_ble_eq_true rfl) dX10_halve_81 (fun M11 hw hM11 => ?_)
      refine p_aload_n (pc := 84) cx dX10_halve_84 rfl 0 rfl ?_
      refine gf_9_10 (pc := 85) cx hv0 t2_83 dX10_halve_85 ?_
      have hr_12 : Is G 8 (mR M11 v0 10) := TYR.at hM11 hv0 10 8 rfl (by decide)
      refine p_aload_n (pc := 88) cx dX10_halve_88 rfl 1 rfl ?_
      refine gf_8_2 (pc := 89) cx hv1 t1_63 dX10_halve_89 ?_
      refine p_callVv (pc := 92) [.int (mI M11 v1 2)] cx (c_X9_takeSign cx.2.2.2.2.2.2 hM11 hr_12 hw) cf_X9_takeSign cv_X9_takeSign t2_137 hr_12 ⟨by decide, rfl, rfl⟩ ⟨rfl, rfl⟩ ⟨Nat.le_of_ble_eq_true rfl, Nat.le_of_ble_eq_true rfl⟩ rfl rfl (Nat.le_of_ble_eq_true rfl) dX10_halve_92 (fun M13 hw hM13 => ?_)
      exact p_vret (pc := 95) cx hr hlk dX10_halve_95 hM13 hw
set_option maxHeartbeats 4000000 in
set_option maxRecDepth 100000 in
theorem x_X10_halve_44 {p : Program} {l : Launch} {e : Env} {s : State} {m : MethodId} {args : Array Value} {below : List Frame} {meth : Method} {c : Code} {D : va_G} {G : SH} {Qp : MS → Prop}  (cx : CX p s m args c D G cX10_halve 7 RX10) (hr : meth.sig.returnType = none) (hlk : meth.locks = false)  (v0 : Nat) (v1 : Nat) (v5 : Int32) (M : MS) (hT : TYR G M.2.2.1) (hv0 : Is G 9 v0) (hv1 : Is G 8 v1) (hw : w_X10_halve_44 G Qp v0 v1 v5 M) : PW p l e rm_X10_halve s m args below meth c D G 7 (MQ below (va_Qv Qp (POST D G) (AG G)) args s 0 0 (AG G)) 44 [(0, .ref v0), (1, .ref v1), (5, .int v5)] [] M := by
  unfold w_X10_halve_44 at hw
  refine p_iconst (pc := 44) (v := 0) cx dX10_halve_44 (by decide) ?_
  exact x_X10_halve_45 cx hr hlk v0 v1 v5 0 M hT hv0 hv1 hw
set_option maxHeartbeats 4000000 in
set_option maxRecDepth 100000 in
theorem x_X10_halve_21 {p : Program} {l : Launch} {e : Env} {s : State} {m : MethodId} {args : Array Value} {below : List Frame} {meth : Method} {c : Code} {D : va_G} {G : SH} {Qp : MS → Prop}  (cx : CX p s m args c D G cX10_halve 7 RX10) (hr : meth.sig.returnType = none) (hlk : meth.locks = false)  (v0 : Nat) (v1 : Nat) (v2 : Int64) (s0 : Int32) (M : MS) (hT : TYR G M.2.2.1) (hv0 : Is G 9 v0) (hv1 : Is G 8 v1) (hw : w_X10_halve_21 G Qp v0 v1 v2 s0 M) : PW p l e rm_X10_halve s m args below meth c D G 7 (MQ below (va_Qv Qp (POST D G) (AG G)) args s 0 0 (AG G)) 21 [(0, .ref v0), (1, .ref v1), (2, .long v2)] [.int s0] M := by
  unfold w_X10_halve_21 at hw
  refine p_istore (pc := 21) (lv' := [(0, .ref v0), (1, .ref v1), (2, .long v2), (5, .int s0)]) cx dX10_halve_21 (by decide) [1, 2, 3, 0] rfl ?_
  refine p_aload_n (pc := 23) cx dX10_halve_23 rfl 1 rfl ?_
  refine gf_8_1 (pc := 24) cx hv1 t1_59 dX10_halve_24 ?_
  refine p_if_le (pc := 27) (tgt := 44) cx dX10_halve_27 (by decide) (fun hc => ?_) (fun hc => ?_)
  · have hw := hw.1 hc
    refine p_perm (lv' := [(0, .ref v0), (1, .ref v1), (5, .int s0)]) [0, 1, 3] rfl ?_
    exact x_X10_halve_44 cx hr hlk v0 v1 s0 M hT hv0 hv1 hw
  · have hw := hw.2 hc
    refine p_aload_n (pc := 30) cx dX10_halve_30 rfl 1 rfl ?_
    refine p_callVi (pc := 31) [] cx (c_X9_lowZeros cx.2.2.2.2.2.2 hT hv1 hw) cf_X9_lowZeros cv_X9_lowZeros t3_22 hv1 ⟨by decide, rfl, rfl⟩ ⟨rfl, rfl⟩ ⟨Nat.le_of_ble_eq_true rfl, Nat.le_of_ble_eq_true rfl⟩ rfl rfl (Nat.le_of_ble_eq_true rfl) dX10_halve_31 (fun r14 M14 hw hM14 => ?_)
    refine p_i2l (pc := 34) cx dX10_halve_34 ?_
    refine p_lload_n (pc := 35) cx dX10_halve_35 rfl 2 rfl ?_
    refine p_lcmp (pc := 36) cx dX10_halve_36 ?_
    refine p_if_ge (pc := 37) (tgt := 44) cx dX10_halve_37 (by decide) (fun hc => ?_) (fun hc => ?_)
    · have hw := hw.1 ((lg_cmp_ge _ _).mp hc)
      refine p_perm (lv' := [(0, .ref v0), (1, .ref v1), (5, .int s0)]) [0, 1, 3] rfl ?_
      exact x_X10_halve_44 cx hr hlk v0 v1 s0 M14 hM14 hv0 hv1 hw
    · have hw := hw.2 (fun q => hc ((lg_cmp_ge _ _).mpr q))
      refine p_iconst (pc := 40) (v := 1) cx dX10_halve_40 (by decide) ?_
      refine p_goto (pc := 41) (tgt := 45) cx dX10_halve_41 (by decide) ?_
      refine p_perm (lv' := [(0, .ref v0), (1, .ref v1), (5, .int s0)]) [0, 1, 3] rfl ?_
      exact x_X10_halve_45 cx hr hlk v0 v1 s0 1 M14 hM14 hv0 hv1 hw
set_option maxHeartbeats 4000000 in
set_option maxRecDepth 100000 in
theorem c_X10_halve {l : Launch} {D : va_G} {G : SH} (hND : ND G) {a0 : Nat} {a1 : Nat} {a2 : Int64} {M : MS} {Qp : MS → Prop} (hT : TYR G M.2.2.1) (ha0 : Is G 9 a0) (ha1 : Is G 8 a1) (hw : w_X10_halve G a0 a1 a2 M Qp) : MeV l D G yX10_halve (Cond.code yX10_halve cX10_halve 7 none :: GW) rm_X10_halve [.ref a0, .ref a1, .long a2] M Qp := by
  unfold MeV
  refine p_method (by decide) rfl (Nat.le_of_ble_eq_true rfl) hND ?_
  intro p e s m args below meth c cx hr hlk
  have cx : CX p s m args c D G cX10_halve 7 RX10 := cx
  unfold w_X10_halve at hw
  refine p_aload_n (pc := 0) cx dX10_halve_0 rfl 1 rfl ?_
  refine p_callVi (pc := 1) [] cx (c_X9_bits cx.2.2.2.2.2.2 hT ha1 hw) cf_X9_bits cv_X9_bits t3_17 ha1 ⟨by decide, rfl, rfl⟩ ⟨rfl, rfl⟩ ⟨Nat.le_of_ble_eq_true rfl, Nat.le_of_ble_eq_true rfl⟩ rfl rfl (Nat.le_of_ble_eq_true rfl) dX10_halve_1 (fun r1 M1 hw hM1 => ?_)
  refine p_istore (pc := 4) (lv' := [(0, .ref a0), (1, .ref a1), (2, .long a2), (4, .int r1)]) cx dX10_halve_4 (by decide) [1, 2, 3, 0] rfl ?_
  refine p_lload_n (pc := 6) cx dX10_halve_6 rfl 2 rfl ?_
  refine p_iload (pc := 7) cx dX10_halve_7 3 rfl ?_
  refine p_i2l (pc := 9) cx dX10_halve_9 ?_
  refine p_lcmp (pc := 10) cx dX10_halve_10 ?_
  refine p_if_le (pc := 11) (tgt := 19) cx dX10_halve_11 (by decide) (fun hc => ?_) (fun hc => ?_)
  · have hw := hw.1 ((lg_cmp_le _ _).mp hc)
    refine p_lload_n (pc := 19) cx dX10_halve_19 rfl 2 rfl ?_
    refine p_l2i (pc := 20) cx dX10_halve_20 ?_
    refine p_perm (lv' := [(0, .ref a0), (1, .ref a1), (2, .long a2)]) [0, 1, 2] rfl ?_
    exact x_X10_halve_21 cx hr hlk a0 a1 a2 a2.toInt32 M1 hM1 ha0 ha1 hw
  · have hw := hw.2 (fun q => hc ((lg_cmp_le _ _).mpr q))
    refine p_iload (pc := 14) cx dX10_halve_14 3 rfl ?_
    refine p_goto (pc := 16) (tgt := 21) cx dX10_halve_16 (by decide) ?_
    refine p_perm (lv' := [(0, .ref a0), (1, .ref a1), (2, .long a2)]) [0, 1, 2] rfl ?_
    exact x_X10_halve_21 cx hr hlk a0 a1 a2 r1 M1 hM1 ha0 ha1 hw
set_option maxHeartbeats 4000000 in
set_option maxRecDepth 100000 in
theorem x_X10_shift_93 {p : Program} {l : Launch} {e : Env} {s : State} {m : MethodId} {args : Array Value} {below : List Frame} {meth : Method} {c : Code} {D : va_G} {G : SH} {Qp : Int32 → MS → Prop}  (cx : CX p s m args c D G cX10_shift 5 RX10) (hr : meth.sig.returnType = (some .int)) (hlk : meth.locks = false)  (v0 : Nat) (v1 : Int32) (v4 : Nat) (s0 : Int32) (s1 : Nat) (s2 : Nat) (M : MS) (hT : TYR G M.2.2.1) (hv0 : Is G 9 v0) (hv4 : Is G 8 v4) (hs1 : Is G 8 s1) (hs2 : Is G 8 s2) (hw : w_X10_shift_93 G Qp v0 v1 v4 s0 s1 s2 M) : PW p l e rm_X10_shift s m args below meth c D G 5 (MQ below (va_Qi Qp (POST D G) (AG G)) args s 0 0 (AG G)) 93 [(0, .ref v0), (1, .int v1), (4, .ref v4)] [.int s0, .ref s1, .ref s2] M := by
  unfold w_X10_shift_93 at hw
  refine p_callSv (pc := 93) [.ref s2, .ref s1, .int s0] cx (c_X7_shiftUp cx.2.2.2.2.2.2 hT hs2 hs1 hw) cf_X7_shiftUp cv_X7_shiftUp t2_124 ⟨rfl, rfl⟩ ⟨Nat.le_of_ble_eq_true rfl, Nat.le_of_ble_eq_true rfl⟩ rfl rfl (Nat.le_of_ble_eq_true rfl) dX10_shift_93 (fun M5 hw hM5 => ?_)
  refine p_aload_n (pc := 96) cx dX10_shift_96 rfl 0 rfl ?_
  refine gf_9_10 (pc := 97) cx hv0 t2_83 dX10_shift_97 ?_
  have hr_6 : Is G 8 (mR M5 v0 10) := TYR.at hM5 hv0 10 8 rfl (by decide)
  refine p_aload (pc := 100) cx dX10_shift_100 2 rfl ?_
  refine gf_8_2 (pc := 102) cx hv4 t1_63 dX10_shift_102 ?_
  refine p_callVv (pc := 105) [.int (mI M5 v4 2)] cx (c_X9_takeSign cx.2.2.2.2.2.2 hM5 hr_6 hw) cf_X9_takeSign cv_X9_takeSign t2_137 hr_6 ⟨by decide, rfl, rfl⟩ ⟨rfl, rfl⟩ ⟨Nat.le_of_ble_eq_true rfl, Nat.le_of_ble_eq_true rfl⟩ rfl rfl (Nat.le_of_ble_eq_true rfl) dX10_shift_105 (fun M7 hw hM7 => ?_)
  refine p_aload_n (pc := 108) cx dX10_shift_108 rfl 0 rfl ?_
  refine p_iload_n (pc := 109) cx dX10_shift_109 rfl 1 rfl ?_
  refine p_aload_n (pc := 110) cx dX10_shift_110 rfl 0 rfl ?_
  refine gf_9_10 (pc := 111) cx hv0 t2_83 dX10_shift_111 ?_
  have hr_8 : Is G 8 (mR M7 v0 10) := TYR.at hM7 hv0 10 8 rfl (by decide)
  refine p_callVi (pc := 114) [.int v1, .ref (mR M7 v0 10)] cx (c_X10_put cx.2.2.2.2.2.2 hM7 hv0 hr_8 hw) cf_X10_put cv_X10_put t2_141 hv0 ⟨by decide, rfl, rfl⟩ ⟨rfl, rfl⟩ ⟨Nat.le_of_ble_eq_true rfl, Nat.le_of_ble_eq_true rfl⟩ rfl rfl (Nat.le_of_ble_eq_true rfl) dX10_shift_114 (fun r9 M9 hw hM9 => ?_)
  exact p_iret (pc := 117) cx hr hlk dX10_shift_117 hM9 hw
set_option maxHeartbeats 4000000 in
set_option maxRecDepth 100000 in
theorem x_X10_shift_74 {p : Program} {l : Launch} {e : Env} {s : State} {m : MethodId} {args : Array Value} {below : List Frame} {meth : Method} {c : Code} {D : va_G} {G : SH} {Qp : Int32 → MS → Prop}  (cx : CX p s m args c D G cX10_shift 5 RX10) (hr : meth.sig.returnType = (some .int)) (hlk : meth.locks = false)  (v0 : Nat) (v1 : Int32) (v3 : Int32) (v4 : Nat) (M : MS) (hT : TYR G M.2.2.1) (hv0 : Is G 9 v0) (hv4 : Is G 8 v4) (hw : w_X10_shift_74 G Qp v0 v1 v3 v4 M) : PW p l e rm_X10_shift s m args below meth c D G 5 (MQ below (va_Qi Qp (POST D G) (AG G)) args s 0 0 (AG G)) 74 [(0, .ref v0), (1, .int v1), (3, .int v3), (4, .ref v4)] [] M := by
  unfold w_X10_shift_74 at hw
  refine p_aload_n (pc := 74) cx dX10_shift_74 rfl 0 rfl ?_
  refine gf_9_10 (pc := 75) cx hv0 t2_83 dX10_shift_75 ?_
  have hr_4 : Is G 8 (mR M v0 10) := TYR.at hT hv0 10 8 rfl (by decide)
  refine p_aload (pc := 78) cx dX10_shift_78 3 rfl ?_
  refine p_aload (pc := 80) cx dX10_shift_80 3 rfl ?_
  refine gf_8_1 (pc := 82) cx hv4 t1_59 dX10_shift_82 ?_
  refine p_if_le (pc := 85) (tgt := 92) cx dX10_shift_85 (by decide) (fun hc => ?_) (fun hc => ?_)
  · have hw := hw.1 hc
    refine p_iconst (pc := 92) (v := 0) cx dX10_shift_92 (by decide) ?_
    refine p_perm (lv' := [(0, .ref v0), (1, .int v1), (4, .ref v4)]) [0, 1, 3] rfl ?_
    exact x_X10_shift_93 cx hr hlk v0 v1 v4 0 v4 (mR M v0 10) M hT hv0 hv4 hv4 hr_4 hw
  · have hw := hw.2 hc
    refine p_iload_n (pc := 88) cx dX10_shift_88 rfl 2 rfl ?_
    refine p_goto (pc := 89) (tgt := 93) cx dX10_shift_89 (by decide) ?_
    refine p_perm (lv' := [(0, .ref v0), (1, .int v1), (4, .ref v4)]) [0, 1, 3] rfl ?_
    exact x_X10_shift_93 cx hr hlk v0 v1 v4 v3 v4 (mR M v0 10) M hT hv0 hv4 hv4 hr_4 hw
set_option maxHeartbeats 4000000 in
set_option maxRecDepth 100000 in
theorem c_X10_shift {l : Launch} {D : va_G} {G : SH} (hND : ND G) {a0 : Nat} {a1 : Int32} {a2 : Int32} {a3 : Int32} {M : MS} {Qp : Int32 → MS → Prop} (hT : TYR G M.2.2.1) (ha0 : Is G 9 a0) (hw : w_X10_shift G a0 a1 a2 a3 M Qp) : MeI l D G yX10_shift (Cond.code yX10_shift cX10_shift 5 (some .int) :: GW) rm_X10_shift [.ref a0, .int a1, .int a2, .int a3] M Qp := by
  unfold MeI
  refine p_method (by decide) rfl (Nat.le_of_ble_eq_true rfl) hND ?_
  intro p e s m args below meth c cx hr hlk
  have cx : CX p s m args c D G cX10_shift 5 RX10 := cx
  unfold w_X10_shift at hw
  refine p_aload_n (pc := 0) cx dX10_shift_0 rfl 0 rfl ?_
  refine p_iload_n (pc := 1) cx dX10_shift_1 rfl 1 rfl ?_
  refine p_iload_n (pc := 2) cx dX10_shift_2 rfl 2 rfl ?_
  refine p_callVi (pc := 3) [.int a1, .int a2] cx (c_X10_areRegisters cx.2.2.2.2.2.2 hT ha0 hw) cf_X10_areRegisters cv_X10_areRegisters t2_160 ha0 ⟨by decide, rfl, rfl⟩ ⟨rfl, rfl⟩ ⟨Nat.le_of_ble_eq_true rfl, Nat.le_of_ble_eq_true rfl⟩ rfl rfl (Nat.le_of_ble_eq_true rfl) dX10_shift_3 (fun r1 M1 hw hM1 => ?_)
  refine p_if_ne (pc := 6) (tgt := 11) cx dX10_shift_6 (by decide) (fun hc => ?_) (fun hc => ?_)
  · have hw := hw.1 hc
    refine p_aload_n (pc := 11) cx dX10_shift_11 rfl 0 rfl ?_
    refine gf_9_1 (pc := 12) cx ha0 t2_74 dX10_shift_12 ?_
    have hr_2 : Is G 13 (mR M1 a0 1) := TYR.at hM1 ha0 1 13 rfl (by decide)
    refine p_iload_n (pc := 15) cx dX10_shift_15 rfl 2 rfl ?_
    have hr_3 : Is G 8 (mR M1 (mR M1 a0 1) a2.toNatClampNeg) := TYR.el hM1 hr_2 hw.1
    refine p_aald (pc := 16) cx hr_2 hw.1 dX10_shift_16 ?_
    have hw := hw.2
    refine p_astore (pc := 17) (lv' := [(0, .ref a0), (1, .int a1), (3, .int a3), (4, .ref (mR M1 (mR M1 a0 1) a2.toNatClampNeg))]) cx dX10_shift_17 (by decide) [1, 2, 4, 0] rfl ?_
    refine p_iload_n (pc := 19) cx dX10_shift_19 rfl 2 rfl ?_
    refine p_if_ge (pc := 20) (tgt := 42) cx dX10_shift_20 (by decide) (fun hc => ?_) (fun hc => ?_)
    · have hw := hw.1 hc
      refine p_aload (pc := 42) cx dX10_shift_42 3 rfl ?_
      refine gf_8_1 (pc := 44) cx hr_3 t1_59 dX10_shift_44 ?_
      refine p_if_le (pc := 47) (tgt := 74) cx dX10_shift_47 (by decide) (fun hc => ?_) (fun hc => ?_)
      · have hw := hw.1 hc
        exact x_X10_shift_74 cx hr hlk a0 a1 a3 (mR M1 (mR M1 a0 1) a2.toNatClampNeg) M1 hM1 ha0 hr_3 hw
      · have hw := hw.2 hc
        refine p_aload (pc := 50) cx dX10_shift_50 3 rfl ?_
        refine p_callVi (pc := 52) [] cx (c_X9_bits cx.2.2.2.2.2.2 hM1 hr_3 hw) cf_X9_bits cv_X9_bits t3_17 hr_3 ⟨by decide, rfl, rfl⟩ ⟨rfl, rfl⟩ ⟨Nat.le_of_ble_eq_true rfl, Nat.le_of_ble_eq_true rfl⟩ rfl rfl (Nat.le_of_ble_eq_true rfl) dX10_shift_52 (fun r10 M10 hw hM10 => ?_)
        refine p_i2l (pc := 55) cx dX10_shift_55 ?_
        refine p_iload_n (pc := 56) cx dX10_shift_56 rfl 2 rfl ?_
        refine p_i2l (pc := 57) cx dX10_shift_57 ?_
        refine p_ladd (pc := 58) cx dX10_shift_58 ?_
        refine p_ldc2 (pc := 59) cx dX10_shift_59 t3_30 ?_
        refine p_aload_n (pc := 62) cx dX10_shift_62 rfl 0 rfl ?_
        refine gf_9_0 (pc := 63) cx ha0 t2_73 dX10_shift_63 ?_
        refine p_i2l (pc := 66) cx dX10_shift_66 ?_
        refine p_lmul (pc := 67) cx dX10_shift_67 ?_
        refine p_lcmp (pc := 68) cx dX10_shift_68 ?_
        refine p_if_le (pc := 69) (tgt := 74) cx dX10_shift_69 (by decide) (fun hc => ?_) (fun hc => ?_)
        · have hw := hw.1 ((lg_cmp_le _ _).mp hc)
          exact x_X10_shift_74 cx hr hlk a0 a1 a3 (mR M1 (mR M1 a0 1) a2.toNatClampNeg) M10 hM10 ha0 hr_3 hw
        · have hw := hw.2 (fun q => hc ((lg_cmp_le _ _).mpr q))
          refine p_iconst (pc := 72) (v := 1) cx dX10_shift_72 (by decide) ?_
          exact p_iret (pc := 73) cx hr hlk dX10_shift_73 hM10 hw
    · have hw := hw.2 hc
      refine p_aload_n (pc := 23) cx dX10_shift_23 rfl 0 rfl ?_
      refine p_aload (pc := 24) cx dX10_shift_24 3 rfl ?_
      refine p_iload_n (pc := 26) cx dX10_shift_26 rfl 2 rfl ?_
      refine p_i2l (pc := 27) cx dX10_shift_27 ?_
      refine p_lneg (pc := 28) cx dX10_shift_28 ?_
      refine p_callVv (pc := 29) [.ref (mR M1 (mR M1 a0 1) a2.toNatClampNeg), .long (-a3.toInt64)] cx (c_X10_halve cx.2.2.2.2.2.2 hM1 ha0 hr_3 hw) cf_X10_halve cv_X10_halve t3_13 ha0 ⟨by decide, rfl, rfl⟩ ⟨rfl, rfl⟩ ⟨Nat.le_of_ble_eq_true rfl, Nat.le_of_ble_eq_true rfl⟩ rfl rfl (Nat.le_of_ble_eq_true rfl) dX10_shift_29 (fun M11 hw hM11 => ?_)
      refine p_aload_n (pc := 32) cx dX10_shift_32 rfl 0 rfl ?_
      refine p_iload_n (pc := 33) cx dX10_shift_33 rfl 1 rfl ?_
      refine p_aload_n (pc := 34) cx dX10_shift_34 rfl 0 rfl ?_
      refine gf_9_10 (pc := 35) cx ha0 t2_83 dX10_shift_35 ?_
      have hr_12 : Is G 8 (mR M11 a0 10) := TYR.at hM11 ha0 10 8 rfl (by decide)
      refine p_callVi (pc := 38) [.int a1, .ref (mR M11 a0 10)] cx (c_X10_put cx.2.2.2.2.2.2 hM11 ha0 hr_12 hw) cf_X10_put cv_X10_put t2_141 ha0 ⟨by decide, rfl, rfl⟩ ⟨rfl, rfl⟩ ⟨Nat.le_of_ble_eq_true rfl, Nat.le_of_ble_eq_true rfl⟩ rfl rfl (Nat.le_of_ble_eq_true rfl) dX10_shift_38 (fun r13 M13 hw hM13 => ?_)
      exact p_iret (pc := 41) cx hr hlk dX10_shift_41 hM13 hw
  · have hw := hw.2 hc
    refine p_iconst (pc := 9) (v := 3) cx dX10_shift_9 (by decide) ?_
    exact p_iret (pc := 10) cx hr hlk dX10_shift_10 hM1 hw
set_option maxHeartbeats 4000000 in
set_option maxRecDepth 100000 in
theorem c_X10_compare {l : Launch} {D : va_G} {G : SH} (hND : ND G) {a0 : Nat} {a1 : Int32} {a2 : Int32} {M : MS} {Qp : Int32 → MS → Prop} (hT : TYR G M.2.2.1) (ha0 : Is G 9 a0) (hw : w_X10_compare G a0 a1 a2 M Qp) : MeI l D G yX10_compare (Cond.code yX10_compare cX10_compare 6 (some .int) :: GW) rm_X10_compare [.ref a0, .int a1, .int a2] M Qp := by
  unfold MeI
  refine p_method (by decide) rfl (Nat.le_of_ble_eq_true rfl) hND ?_
  intro p e s m args below meth c cx hr hlk
  have cx : CX p s m args c D G cX10_compare 6 RX10 := cx
  unfold w_X10_compare at hw
  refine p_aload_n (pc := 0) cx dX10_compare_0 rfl 0 rfl ?_
  refine p_iload_n (pc := 1) cx dX10_compare_1 rfl 1 rfl ?_
  refine p_iload_n (pc := 2) cx dX10_compare_2 rfl 2 rfl ?_
  refine p_callVi (pc := 3) [.int a1, .int a2] cx (c_X10_areRegisters cx.2.2.2.2.2.2 hT ha0 hw) cf_X10_areRegisters cv_X10_areRegisters t2_160 ha0 ⟨by decide, rfl, rfl⟩ ⟨rfl, rfl⟩ ⟨Nat.le_of_ble_eq_true rfl, Nat.le_of_ble_eq_true rfl⟩ rfl rfl (Nat.le_of_ble_eq_true rfl) dX10_compare_3 (fun r1 M1 hw hM1 => ?_)
  refine p_if_ne (pc := 6) (tgt := 11) cx dX10_compare_6 (by decide) (fun hc => ?_) (fun hc => ?_)
  · have hw := hw.1 hc
    refine p_aload_n (pc := 11) cx dX10_compare_11 rfl 0 rfl ?_
    refine gf_9_1 (pc := 12) cx ha0 t2_74 dX10_compare_12 ?_
    have hr_2 : Is G 13 (mR M1 a0 1) := TYR.at hM1 ha0 1 13 rfl (by decide)
    refine p_iload_n (pc := 15) cx dX10_compare_15 rfl 1 rfl ?_
    have hr_3 : Is G 8 (mR M1 (mR M1 a0 1) a1.toNatClampNeg) := TYR.el hM1 hr_2 hw.1
    refine p_aald (pc := 16) cx hr_2 hw.1 dX10_compare_16 ?_
    have hw := hw.2
    refine p_astore_n (pc := 17) (lv' := [(0, .ref a0), (2, .int a2), (3, .ref (mR M1 (mR M1 a0 1) a1.toNatClampNeg))]) cx dX10_compare_17 rfl (by decide) [1, 3, 0] rfl ?_
    refine p_aload_n (pc := 18) cx dX10_compare_18 rfl 0 rfl ?_
    refine gf_9_1 (pc := 19) cx ha0 t2_74 dX10_compare_19 ?_
    have hr_4 : Is G 13 (mR M1 a0 1) := TYR.at hM1 ha0 1 13 rfl (by decide)
    refine p_iload_n (pc := 22) cx dX10_compare_22 rfl 1 rfl ?_
    have hr_5 : Is G 8 (mR M1 (mR M1 a0 1) a2.toNatClampNeg) := TYR.el hM1 hr_4 hw.1
    refine p_aald (pc := 23) cx hr_4 hw.1 dX10_compare_23 ?_
    have hw := hw.2
    refine p_astore (pc := 24) (lv' := [(3, .ref (mR M1 (mR M1 a0 1) a1.toNatClampNeg)), (4, .ref (mR M1 (mR M1 a0 1) a2.toNatClampNeg))]) cx dX10_compare_24 (by decide) [3, 0] rfl ?_
    refine p_aload_n (pc := 26) cx dX10_compare_26 rfl 0 rfl ?_
    refine gf_8_2 (pc := 27) cx hr_3 t1_63 dX10_compare_27 ?_
    refine p_aload (pc := 30) cx dX10_compare_30 1 rfl ?_
    refine gf_8_2 (pc := 32) cx hr_5 t1_63 dX10_compare_32 ?_
    refine p_icmp_eq (pc := 35) (tgt := 51) cx dX10_compare_35 (by decide) (fun hc => ?_) (fun hc => ?_)
    · have hw := hw.1 hc
      refine p_aload_n (pc := 51) cx dX10_compare_51 rfl 0 rfl ?_
      refine p_aload (pc := 52) cx dX10_compare_52 1 rfl ?_
      refine p_callSi (pc := 54) [.ref (mR M1 (mR M1 a0 1) a1.toNatClampNeg), .ref (mR M1 (mR M1 a0 1) a2.toNatClampNeg)] cx (c_X7_order cx.2.2.2.2.2.2 hM1 hr_3 hr_5 hw) cf_X7_order cv_X7_order t3_35 ⟨rfl, rfl⟩ ⟨Nat.le_of_ble_eq_true rfl, Nat.le_of_ble_eq_true rfl⟩ rfl rfl (Nat.le_of_ble_eq_true rfl) dX10_compare_54 (fun r6 M6 hw hM6 => ?_)
      refine p_istore (pc := 57) (lv' := [(3, .ref (mR M1 (mR M1 a0 1) a1.toNatClampNeg)), (5, .int r6)]) cx dX10_compare_57 (by decide) [1, 0] rfl ?_
      refine p_aload_n (pc := 59) cx dX10_compare_59 rfl 0 rfl ?_
      refine gf_8_2 (pc := 60) cx hr_3 t1_63 dX10_compare_60 ?_
      refine p_if_eq (pc := 63) (tgt := 72) cx dX10_compare_63 (by decide) (fun hc => ?_) (fun hc => ?_)
      · have hw := hw.1 hc
        refine p_iload (pc := 72) cx dX10_compare_72 1 rfl ?_
        exact p_iret (pc := 74) cx hr hlk dX10_compare_74 hM6 hw
      · have hw := hw.2 hc
        refine p_iload (pc := 66) cx dX10_compare_66 1 rfl ?_
        refine p_ineg (pc := 68) cx dX10_compare_68 ?_
        refine p_goto (pc := 69) (tgt := 74) cx dX10_compare_69 (by decide) ?_
        exact p_iret (pc := 74) cx hr hlk dX10_compare_74 hM6 hw
    · have hw := hw.2 hc
      refine p_aload_n (pc := 38) cx dX10_compare_38 rfl 0 rfl ?_
      refine gf_8_2 (pc := 39) cx hr_3 t1_63 dX10_compare_39 ?_
      refine p_if_eq (pc := 42) (tgt := 49) cx dX10_compare_42 (by decide) (fun hc => ?_) (fun hc => ?_)
      · have hw := hw.1 hc
        refine p_iconst (pc := 49) (v := 1) cx dX10_compare_49 (by decide) ?_
        exact p_iret (pc := 50) cx hr hlk dX10_compare_50 hM1 hw
      · have hw := hw.2 hc
        refine p_iconst (pc := 45) (v := (-1)) cx dX10_compare_45 (by decide) ?_
        refine p_goto (pc := 46) (tgt := 50) cx dX10_compare_46 (by decide) ?_
        exact p_iret (pc := 50) cx hr hlk dX10_compare_50 hM1 hw
  · have hw := hw.2 hc
    refine p_iconst (pc := 9) (v := 3) cx dX10_compare_9 (by decide) ?_
    exact p_iret (pc := 10) cx hr hlk dX10_compare_10 hM1 hw
set_option maxHeartbeats 4000000 in
set_option maxRecDepth 100000 in
theorem c_X10_gcdBinary {l : Launch} {D : va_G} {G : SH} (hND : ND G) {a0 : Nat} {a1 : Int32} {a2 : Int32} {a3 : Int32} {M : MS} {Qp : Int32 → MS → Prop} (hT : TYR G M.2.2.1) (ha0 : Is G 9 a0) (hw : w_X10_gcdBinary G a0 a1 a2 a3 M Qp) : MeI l D G yX10_gcdBinary (Cond.code yX10_gcdBinary cX10_gcdBinary 4 (some .int) :: GW) rm_X10_gcdBinary [.ref a0, .int a1, .int a2, .int a3] M Qp := by
  unfold MeI
  refine p_method (by decide) rfl (Nat.le_of_ble_eq_true rfl) hND ?_
  intro p e s m args below meth c cx hr hlk
  have cx : CX p s m args c D G cX10_gcdBinary 4 RX10 := cx
  unfold w_X10_gcdBinary at hw
  refine p_aload_n (pc := 0) cx dX10_gcdBinary_0 rfl 0 rfl ?_
  refine p_iload_n (pc := 1) cx dX10_gcdBinary_1 rfl 1 rfl ?_
  refine p_iload_n (pc := 2) cx dX10_gcdBinary_2 rfl 2 rfl ?_
  refine p_iload_n (pc := 3) cx dX10_gcdBinary_3 rfl 3 rfl ?_
  refine p_callVi (pc := 4) [.int a1, .int a2, .int a3] cx (c_X10_areRegisters_ cx.2.2.2.2.2.2 hT ha0 hw) cf_X10_areRegisters_ cv_X10_areRegisters_ t2_168 ha0 ⟨by decide, rfl, rfl⟩ ⟨rfl, rfl⟩ ⟨Nat.le_of_ble_eq_true rfl, Nat.le_of_ble_eq_true rfl⟩ rfl rfl (Nat.le_of_ble_eq_true rfl) dX10_gcdBinary_4 (fun r1 M1 hw hM1 => ?_)
  refine p_if_ne (pc := 7) (tgt := 12) cx dX10_gcdBinary_7 (by decide) (fun hc => ?_) (fun hc => ?_)
  · have hw := hw.1 hc
    refine p_aload_n (pc := 12) cx dX10_gcdBinary_12 rfl 0 rfl ?_
    refine p_iload_n (pc := 13) cx dX10_gcdBinary_13 rfl 1 rfl ?_
    refine p_aload_n (pc := 14) cx dX10_gcdBinary_14 rfl 0 rfl ?_
    refine gf_9_3 (pc := 15) cx ha0 t2_76 dX10_gcdBinary_15 ?_
    have hr_2 : Is G 1 (mR M1 a0 3) := TYR.at hM1 ha0 3 1 rfl (by decide)
    refine p_aload_n (pc := 18) cx dX10_gcdBinary_18 rfl 0 rfl ?_
    refine gf_9_1 (pc := 19) cx ha0 t2_74 dX10_gcdBinary_19 ?_
    have hr_3 : Is G 13 (mR M1 a0 1) := TYR.at hM1 ha0 1 13 rfl (by decide)
    refine p_iload_n (pc := 22) cx dX10_gcdBinary_22 rfl 2 rfl ?_
    have hr_4 : Is G 8 (mR M1 (mR M1 a0 1) a2.toNatClampNeg) := TYR.el hM1 hr_3 hw.1
    refine p_aald (pc := 23) cx hr_3 hw.1 dX10_gcdBinary_23 ?_
    have hw := hw.2
    refine p_aload_n (pc := 24) cx dX10_gcdBinary_24 rfl 0 rfl ?_
    refine gf_9_1 (pc := 25) cx ha0 t2_74 dX10_gcdBinary_25 ?_
    have hr_5 : Is G 13 (mR M1 a0 1) := TYR.at hM1 ha0 1 13 rfl (by decide)
    refine p_iload_n (pc := 28) cx dX10_gcdBinary_28 rfl 3 rfl ?_
    have hr_6 : Is G 8 (mR M1 (mR M1 a0 1) a3.toNatClampNeg) := TYR.el hM1 hr_5 hw.1
    refine p_aald (pc := 29) cx hr_5 hw.1 dX10_gcdBinary_29 ?_
    have hw := hw.2
    refine p_callVr (pc := 30) [.ref (mR M1 (mR M1 a0 1) a2.toNatClampNeg), .ref (mR M1 (mR M1 a0 1) a3.toNatClampNeg)] cx (c_X1_byHalves cx.2.2.2.2.2.2 hM1 hr_2 hr_4 hr_6 hw) cf_X1_byHalves cv_X1_byHalves t3_40 hr_2 ⟨by decide, rfl, rfl⟩ ⟨rfl, rfl⟩ ⟨Nat.le_of_ble_eq_true rfl, Nat.le_of_ble_eq_true rfl⟩ rfl rfl (Nat.le_of_ble_eq_true rfl) dX10_gcdBinary_30 (fun r7 M7 hw hi7 hM7 => ?_)
    refine p_callVi (pc := 33) [.int a1, .ref r7] cx (c_X10_put cx.2.2.2.2.2.2 hM7 ha0 hi7 hw) cf_X10_put cv_X10_put t2_141 ha0 ⟨by decide, rfl, rfl⟩ ⟨rfl, rfl⟩ ⟨Nat.le_of_ble_eq_true rfl, Nat.le_of_ble_eq_true rfl⟩ rfl rfl (Nat.le_of_ble_eq_true rfl) dX10_gcdBinary_33 (fun r8 M8 hw hM8 => ?_)
    exact p_iret (pc := 36) cx hr hlk dX10_gcdBinary_36 hM8 hw
  · have hw := hw.2 hc
    refine p_iconst (pc := 10) (v := 3) cx dX10_gcdBinary_10 (by decide) ?_
    exact p_iret (pc := 11) cx hr hlk dX10_gcdBinary_11 hM1 hw
set_option maxHeartbeats 4000000 in
set_option maxRecDepth 100000 in
theorem c_X10_gcdEuclid {l : Launch} {D : va_G} {G : SH} (hND : ND G) {a0 : Nat} {a1 : Int32} {a2 : Int32} {a3 : Int32} {M : MS} {Qp : Int32 → MS → Prop} (hT : TYR G M.2.2.1) (ha0 : Is G 9 a0) (hw : w_X10_gcdEuclid G a0 a1 a2 a3 M Qp) : MeI l D G yX10_gcdEuclid (Cond.code yX10_gcdEuclid cX10_gcdEuclid 4 (some .int) :: GW) rm_X10_gcdEuclid [.ref a0, .int a1, .int a2, .int a3] M Qp := by
  unfold MeI
  refine p_method (by decide) rfl (Nat.le_of_ble_eq_true rfl) hND ?_
  intro p e s m args below meth c cx hr hlk
  have cx : CX p s m args c D G cX10_gcdEuclid 4 RX10 := cx
  unfold w_X10_gcdEuclid at hw
  refine p_aload_n (pc := 0) cx dX10_gcdEuclid_0 rfl 0 rfl ?_
  refine p_iload_n (pc := 1) cx dX10_gcdEuclid_1 rfl 1 rfl ?_
  refine p_iload_n (pc := 2) cx dX10_gcdEuclid_2 rfl 2 rfl ?_
  refine p_iload_n (pc := 3) cx dX10_gcdEuclid_3 rfl 3 rfl ?_
  refine p_callVi (pc := 4) [.int a1, .int a2, .int a3] cx (c_X10_areRegisters_ cx.2.2.2.2.2.2 hT ha0 hw) cf_X10_areRegisters_ cv_X10_areRegisters_ t2_168 ha0 ⟨by decide, rfl, rfl⟩ ⟨rfl, rfl⟩ ⟨Nat.le_of_ble_eq_true rfl, Nat.le_of_ble_eq_true rfl⟩ rfl rfl (Nat.le_of_ble_eq_true rfl) dX10_gcdEuclid_4 (fun r1 M1 hw hM1 => ?_)
  refine p_if_ne (pc := 7) (tgt := 12) cx dX10_gcdEuclid_7 (by decide) (fun hc => ?_) (fun hc => ?_)
  · have hw := hw.1 hc
    refine p_aload_n (pc := 12) cx dX10_gcdEuclid_12 rfl 0 rfl ?_
    refine p_iload_n (pc := 13) cx dX10_gcdEuclid_13 rfl 1 rfl ?_
    refine p_aload_n (pc := 14) cx dX10_gcdEuclid_14 rfl 0 rfl ?_
    refine gf_9_3 (pc := 15) cx ha0 t2_76 dX10_gcdEuclid_15 ?_
    have hr_2 : Is G 1 (mR M1 a0 3) := TYR.at hM1 ha0 3 1 rfl (by decide)
    refine p_aload_n (pc := 18) cx dX10_gcdEuclid_18 rfl 0 rfl ?_
    refine gf_9_1 (pc := 19) cx ha0 t2_74 dX10_gcdEuclid_19 ?_
    have hr_3 : Is G 13 (mR M1 a0 1) := TYR.at hM1 ha0 1 13 rfl (by decide)
    refine p_iload_n (pc := 22) cx dX10_gcdEuclid_22 rfl 2 rfl ?_
    have hr_4 : Is G 8 (mR M1 (mR M1 a0 1) a2.toNatClampNeg) := TYR.el hM1 hr_3 hw.1
    refine p_aald (pc := 23) cx hr_3 hw.1 dX10_gcdEuclid_23 ?_
    have hw := hw.2
    refine p_aload_n (pc := 24) cx dX10_gcdEuclid_24 rfl 0 rfl ?_
    refine gf_9_1 (pc := 25) cx ha0 t2_74 dX10_gcdEuclid_25 ?_
    have hr_5 : Is G 13 (mR M1 a0 1) := TYR.at hM1 ha0 1 13 rfl (by decide)
    refine p_iload_n (pc := 28) cx dX10_gcdEuclid_28 rfl 3 rfl ?_
    have hr_6 : Is G 8 (mR M1 (mR M1 a0 1) a3.toNatClampNeg) := TYR.el hM1 hr_5 hw.1
    refine p_aald (pc := 29) cx hr_5 hw.1 dX10_gcdEuclid_29 ?_
    have hw := hw.2
    refine p_callVr (pc := 30) [.ref (mR M1 (mR M1 a0 1) a2.toNatClampNeg), .ref (mR M1 (mR M1 a0 1) a3.toNatClampNeg)] cx (c_X1_byQuotients cx.2.2.2.2.2.2 hM1 hr_2 hr_4 hr_6 hw) cf_X1_byQuotients cv_X1_byQuotients t3_60 hr_2 ⟨by decide, rfl, rfl⟩ ⟨rfl, rfl⟩ ⟨Nat.le_of_ble_eq_true rfl, Nat.le_of_ble_eq_true rfl⟩ rfl rfl (Nat.le_of_ble_eq_true rfl) dX10_gcdEuclid_30 (fun r7 M7 hw hi7 hM7 => ?_)
    refine p_callVi (pc := 33) [.int a1, .ref r7] cx (c_X10_put cx.2.2.2.2.2.2 hM7 ha0 hi7 hw) cf_X10_put cv_X10_put t2_141 ha0 ⟨by decide, rfl, rfl⟩ ⟨rfl, rfl⟩ ⟨Nat.le_of_ble_eq_true rfl, Nat.le_of_ble_eq_true rfl⟩ rfl rfl (Nat.le_of_ble_eq_true rfl) dX10_gcdEuclid_33 (fun r8 M8 hw hM8 => ?_)
    exact p_iret (pc := 36) cx hr hlk dX10_gcdEuclid_36 hM8 hw
  · have hw := hw.2 hc
    refine p_iconst (pc := 10) (v := 3) cx dX10_gcdEuclid_10 (by decide) ?_
    exact p_iret (pc := 11) cx hr hlk dX10_gcdEuclid_11 hM1 hw
set_option maxHeartbeats 4000000 in
set_option maxRecDepth 100000 in
theorem c_X10_gcdLehmer {l : Launch} {D : va_G} {G : SH} (hND : ND G) {a0 : Nat} {a1 : Int32} {a2 : Int32} {a3 : Int32} {M : MS} {Qp : Int32 → MS → Prop} (hT : TYR G M.2.2.1) (ha0 : Is G 9 a0) (hw : w_X10_gcdLehmer G a0 a1 a2 a3 M Qp) : MeI l D G yX10_gcdLehmer (Cond.code yX10_gcdLehmer cX10_gcdLehmer 5 (some .int) :: GW) rm_X10_gcdLehmer [.ref a0, .int a1, .int a2, .int a3] M Qp := by
  unfold MeI
  refine p_method (by decide) rfl (Nat.le_of_ble_eq_true rfl) hND ?_
  intro p e s m args below meth c cx hr hlk
  have cx : CX p s m args c D G cX10_gcdLehmer 5 RX10 := cx
  unfold w_X10_gcdLehmer at hw
  refine p_aload_n (pc := 0) cx dX10_gcdLehmer_0 rfl 0 rfl ?_
  refine p_iload_n (pc := 1) cx dX10_gcdLehmer_1 rfl 1 rfl ?_
  refine p_iload_n (pc := 2) cx dX10_gcdLehmer_2 rfl 2 rfl ?_
  refine p_iload_n (pc := 3) cx dX10_gcdLehmer_3 rfl 3 rfl ?_
  refine p_callVi (pc := 4) [.int a1, .int a2, .int a3] cx (c_X10_areRegisters_ cx.2.2.2.2.2.2 hT ha0 hw) cf_X10_areRegisters_ cv_X10_areRegisters_ t2_168 ha0 ⟨by decide, rfl, rfl⟩ ⟨rfl, rfl⟩ ⟨Nat.le_of_ble_eq_true rfl, Nat.le_of_ble_eq_true rfl⟩ rfl rfl (Nat.le_of_ble_eq_true rfl) dX10_gcdLehmer_4 (fun r1 M1 hw hM1 => ?_)
  refine p_if_ne (pc := 7) (tgt := 12) cx dX10_gcdLehmer_7 (by decide) (fun hc => ?_) (fun hc => ?_)
  · have hw := hw.1 hc
    refine p_aload_n (pc := 12) cx dX10_gcdLehmer_12 rfl 0 rfl ?_
    refine p_iload_n (pc := 13) cx dX10_gcdLehmer_13 rfl 1 rfl ?_
    refine p_aload_n (pc := 14) cx dX10_gcdLehmer_14 rfl 0 rfl ?_
    refine gf_9_4 (pc := 15) cx ha0 t2_77 dX10_gcdLehmer_15 ?_
    have hr_2 : Is G 3 (mR M1 a0 4) := TYR.at hM1 ha0 4 3 rfl (by decide)
    refine p_aload_n (pc := 18) cx dX10_gcdLehmer_18 rfl 0 rfl ?_
    refine gf_9_1 (pc := 19) cx ha0 t2_74 dX10_gcdLehmer_19 ?_
    have hr_3 : Is G 13 (mR M1 a0 1) := TYR.at hM1 ha0 1 13 rfl (by decide)
    refine p_iload_n (pc := 22) cx dX10_gcdLehmer_22 rfl 2 rfl ?_
    have hr_4 : Is G 8 (mR M1 (mR M1 a0 1) a2.toNatClampNeg) := TYR.el hM1 hr_3 hw.1
    refine p_aald (pc := 23) cx hr_3 hw.1 dX10_gcdLehmer_23 ?_
    have hw := hw.2
    refine p_aload_n (pc := 24) cx dX10_gcdLehmer_24 rfl 0 rfl ?_
    refine gf_9_1 (pc := 25) cx ha0 t2_74 dX10_gcdLehmer_25 ?_
    have hr_5 : Is G 13 (mR M1 a0 1) := TYR.at hM1 ha0 1 13 rfl (by decide)
    refine p_iload_n (pc := 28) cx dX10_gcdLehmer_28 rfl 3 rfl ?_
    have hr_6 : Is G 8 (mR M1 (mR M1 a0 1) a3.toNatClampNeg) := TYR.el hM1 hr_5 hw.1
    refine p_aald (pc := 29) cx hr_5 hw.1 dX10_gcdLehmer_29 ?_
    have hw := hw.2
    refine p_callVr (pc := 30) [.ref (mR M1 (mR M1 a0 1) a2.toNatClampNeg), .ref (mR M1 (mR M1 a0 1) a3.toNatClampNeg)] cx (c_X3_divisor cx.2.2.2.2.2.2 hM1 hr_2 hr_4 hr_6 hw) cf_X3_divisor cv_X3_divisor t3_69 hr_2 ⟨by decide, rfl, rfl⟩ ⟨rfl, rfl⟩ ⟨Nat.le_of_ble_eq_true rfl, Nat.le_of_ble_eq_true rfl⟩ rfl rfl (Nat.le_of_ble_eq_true rfl) dX10_gcdLehmer_30 (fun r7 M7 hw hi7 hM7 => ?_)
    refine p_callVi (pc := 33) [.int a1, .ref r7] cx (c_X10_put cx.2.2.2.2.2.2 hM7 ha0 hi7 hw) cf_X10_put cv_X10_put t2_141 ha0 ⟨by decide, rfl, rfl⟩ ⟨rfl, rfl⟩ ⟨Nat.le_of_ble_eq_true rfl, Nat.le_of_ble_eq_true rfl⟩ rfl rfl (Nat.le_of_ble_eq_true rfl) dX10_gcdLehmer_33 (fun r8 M8 hw hM8 => ?_)
    refine p_istore (pc := 36) (lv' := [(0, .ref a0), (4, .int r8)]) cx dX10_gcdLehmer_36 (by decide) [1, 0] rfl ?_
    refine p_aload_n (pc := 38) cx dX10_gcdLehmer_38 rfl 0 rfl ?_
    refine p_aload_n (pc := 39) cx dX10_gcdLehmer_39 rfl 0 rfl ?_
    refine gf_9_4 (pc := 40) cx ha0 t2_77 dX10_gcdLehmer_40 ?_
    have hr_9 : Is G 3 (mR M8 a0 4) := TYR.at hM8 ha0 4 3 rfl (by decide)
    refine gf_3_0 (pc := 43) cx hr_9 t1_122 dX10_gcdLehmer_43 ?_
    refine pf_9_13 (pc := 46) cx ha0 t2_86 dX10_gcdLehmer_46 ?_
    refine p_mem (fun M10 eM10 => ?_)
    have hw := hw M10 eM10
    have hM10 : TYR G M10.2.2.1 := by rw [eM10]; exact hM8
    refine p_iload (pc := 49) cx dX10_gcdLehmer_49 1 rfl ?_
    exact p_iret (pc := 51) cx hr hlk dX10_gcdLehmer_51 hM10 hw
  · have hw := hw.2 hc
    refine p_iconst (pc := 10) (v := 3) cx dX10_gcdLehmer_10 (by decide) ?_
    exact p_iret (pc := 11) cx hr hlk dX10_gcdLehmer_11 hM1 hw
set_option maxHeartbeats 4000000 in
set_option maxRecDepth 100000 in
theorem c_X10_lastSteps {l : Launch} {D : va_G} {G : SH} (hND : ND G) {a0 : Nat} {M : MS} {Qp : Int32 → MS → Prop} (hT : TYR G M.2.2.1) (ha0 : Is G 9 a0) (hw : w_X10_lastSteps G a0 M Qp) : MeI l D G yX10_lastSteps (Cond.code yX10_lastSteps cX10_lastSteps 1 (some .int) :: GW) rm_X10_lastSteps [.ref a0] M Qp := by
  unfold MeI
  refine p_method (by decide) rfl (Nat.le_of_ble_eq_true rfl) hND ?_
  intro p e s m args below meth c cx hr hlk
  have cx : CX p s m args c D G cX10_lastSteps 1 RX10 := cx
  unfold w_X10_lastSteps at hw
  refine p_aload_n (pc := 0) cx dX10_lastSteps_0 rfl 0 rfl ?_
  refine gf_9_13 (pc := 1) cx ha0 t2_86 dX10_lastSteps_1 ?_
  exact p_iret (pc := 4) cx hr hlk dX10_lastSteps_4 hT hw
set_option maxHeartbeats 4000000 in
set_option maxRecDepth 100000 in
theorem c_X10_bezout {l : Launch} {D : va_G} {G : SH} (hND : ND G) {a0 : Nat} {a1 : Int32} {a2 : Int32} {a3 : Int32} {a4 : Int32} {a5 : Int32} {M : MS} {Qp : Int32 → MS → Prop} (hT : TYR G M.2.2.1) (ha0 : Is G 9 a0) (hw : w_X10_bezout G a0 a1 a2 a3 a4 a5 M Qp) : MeI l D G yX10_bezout (Cond.code yX10_bezout cX10_bezout 6 (some .int) :: GW) rm_X10_bezout [.ref a0, .int a1, .int a2, .int a3, .int a4, .int a5] M Qp := by
  unfold MeI
  refine p_method (by decide) rfl (Nat.le_of_ble_eq_true rfl) hND ?_
  intro p e s m args below meth c cx hr hlk
  have cx : CX p s m args c D G cX10_bezout 6 RX10 := cx
  unfold w_X10_bezout at hw
  refine p_aload_n (pc := 0) cx dX10_bezout_0 rfl 0 rfl ?_
  refine p_iload_n (pc := 1) cx dX10_bezout_1 rfl 1 rfl ?_
  refine p_iload_n (pc := 2) cx dX10_bezout_2 rfl 2 rfl ?_
  refine p_iload_n (pc := 3) cx dX10_bezout_3 rfl 3 rfl ?_
  refine p_callVi (pc := 4) [.int a1, .int a2, .int a3] cx (c_X10_areRegisters_ cx.2.2.2.2.2.2 hT ha0 hw) cf_X10_areRegisters_ cv_X10_areRegisters_ t2_168 ha0 ⟨by decide, rfl, rfl⟩ ⟨rfl, rfl⟩ ⟨Nat.le_of_ble_eq_true rfl, Nat.le_of_ble_eq_true rfl⟩ rfl rfl (Nat.le_of_ble_eq_true rfl) dX10_bezout_4 (fun r1 M1 hw hM1 => ?_)
  refine p_if_eq (pc := 7) (tgt := 36) cx dX10_bezout_7 (by decide) (fun hc => ?_) (fun hc => ?_)
  · have hw := hw.1 hc
    refine p_iconst (pc := 36) (v := 3) cx dX10_bezout_36 (by decide) ?_
    exact p_iret (pc := 37) cx hr hlk dX10_bezout_37 hM1 hw
  · have hw := hw.2 hc
    refine p_aload_n (pc := 10) cx dX10_bezout_10 rfl 0 rfl ?_
    refine p_iload (pc := 11) cx dX10_bezout_11 4 rfl ?_
    refine p_iload (pc := 13) cx dX10_bezout_13 5 rfl ?_
    refine p_callVi (pc := 15) [.int a4, .int a5] cx (c_X10_areRegisters cx.2.2.2.2.2.2 hM1 ha0 hw) cf_X10_areRegisters cv_X10_areRegisters t2_160 ha0 ⟨by decide, rfl, rfl⟩ ⟨rfl, rfl⟩ ⟨Nat.le_of_ble_eq_true rfl, Nat.le_of_ble_eq_true rfl⟩ rfl rfl (Nat.le_of_ble_eq_true rfl) dX10_bezout_15 (fun r2 M2 hw hM2 => ?_)
    refine p_if_eq (pc := 18) (tgt := 36) cx dX10_bezout_18 (by decide) (fun hc => ?_) (fun hc => ?_)
    · have hw := hw.1 hc
      refine p_iconst (pc := 36) (v := 3) cx dX10_bezout_36 (by decide) ?_
      exact p_iret (pc := 37) cx hr hlk dX10_bezout_37 hM2 hw
    · have hw := hw.2 hc
      refine p_iload_n (pc := 21) cx dX10_bezout_21 rfl 1 rfl ?_
      refine p_iload_n (pc := 22) cx dX10_bezout_22 rfl 2 rfl ?_
      refine p_icmp_eq (pc := 23) (tgt := 36) cx dX10_bezout_23 (by decide) (fun hc => ?_) (fun hc => ?_)
      · have hw := hw.1 hc
        refine p_iconst (pc := 36) (v := 3) cx dX10_bezout_36 (by decide) ?_
        exact p_iret (pc := 37) cx hr hlk dX10_bezout_37 hM2 hw
      · have hw := hw.2 hc
        refine p_iload_n (pc := 26) cx dX10_bezout_26 rfl 1 rfl ?_
        refine p_iload_n (pc := 27) cx dX10_bezout_27 rfl 3 rfl ?_
        refine p_icmp_eq (pc := 28) (tgt := 36) cx dX10_bezout_28 (by decide) (fun hc => ?_) (fun hc => ?_)
        · have hw := hw.1 hc
          refine p_iconst (pc := 36) (v := 3) cx dX10_bezout_36 (by decide) ?_
          exact p_iret (pc := 37) cx hr hlk dX10_bezout_37 hM2 hw
        · have hw := hw.2 hc
          refine p_iload_n (pc := 31) cx dX10_bezout_31 rfl 2 rfl ?_
          refine p_iload_n (pc := 32) cx dX10_bezout_32 rfl 3 rfl ?_
          refine p_icmp_ne (pc := 33) (tgt := 38) cx dX10_bezout_33 (by decide) (fun hc => ?_) (fun hc => ?_)
          · have hw := hw.1 hc
            refine p_aload_n (pc := 38) cx dX10_bezout_38 rfl 0 rfl ?_
            refine gf_9_5 (pc := 39) cx ha0 t2_78 dX10_bezout_39 ?_
            have hr_3 : Is G 2 (mR M2 a0 5) := TYR.at hM2 ha0 5 2 rfl (by decide)
            refine p_aload_n (pc := 42) cx dX10_bezout_42 rfl 0 rfl ?_
            refine gf_9_1 (pc := 43) cx ha0 t2_74 dX10_bezout_43 ?_
            have hr_4 : Is G 13 (mR M2 a0 1) := TYR.at hM2 ha0 1 13 rfl (by decide)
            refine p_iload (pc := 46) cx dX10_bezout_46 4 rfl ?_
            have hr_5 : Is G 8 (mR M2 (mR M2 a0 1) a4.toNatClampNeg) := TYR.el hM2 hr_4 hw.1
            refine p_aald (pc := 48) cx hr_4 hw.1 dX10_bezout_48 ?_
            have hw := hw.2
            refine p_aload_n (pc := 49) cx dX10_bezout_49 rfl 0 rfl ?_
            refine gf_9_1 (pc := 50) cx ha0 t2_74 dX10_bezout_50 ?_
            have hr_6 : Is G 13 (mR M2 a0 1) := TYR.at hM2 ha0 1 13 rfl (by decide)
            refine p_iload (pc := 53) cx dX10_bezout_53 5 rfl ?_
            have hr_7 : Is G 8 (mR M2 (mR M2 a0 1) a5.toNatClampNeg) := TYR.el hM2 hr_6 hw.1
            refine p_aald (pc := 55) cx hr_6 hw.1 dX10_bezout_55 ?_
            have hw := hw.2
            refine p_callVv (pc := 56) [.ref (mR M2 (mR M2 a0 1) a4.toNatClampNeg), .ref (mR M2 (mR M2 a0 1) a5.toNatClampNeg)] cx (c_X2_find cx.2.2.2.2.2.2 hM2 hr_3 hr_5 hr_7 hw) cf_X2_find cv_X2_find t3_110 hr_3 ⟨by decide, rfl, rfl⟩ ⟨rfl, rfl⟩ ⟨Nat.le_of_ble_eq_true rfl, Nat.le_of_ble_eq_true rfl⟩ rfl rfl (Nat.le_of_ble_eq_true rfl) dX10_bezout_56 (fun M8 hw hM8 => ?_)
            refine p_aload_n (pc := 59) cx dX10_bezout_59 rfl 0 rfl ?_
            refine gf_9_5 (pc := 60) cx ha0 t2_78 dX10_bezout_60 ?_
            have hr_9 : Is G 2 (mR M8 a0 5) := TYR.at hM8 ha0 5 2 rfl (by decide)
            refine gf_2_0 (pc := 63) cx hr_9 t1_165 dX10_bezout_63 ?_
            have hr_10 : Is G 8 (mR M8 (mR M8 a0 5) 0) := TYR.at hM8 hr_9 0 8 rfl (by decide)
            refine gf_8_1 (pc := 66) cx hr_10 t1_59 dX10_bezout_66 ?_
            refine p_aload_n (pc := 69) cx dX10_bezout_69 rfl 0 rfl ?_
            refine gf_9_0 (pc := 70) cx ha0 t2_73 dX10_bezout_70 ?_
            refine p_icmp_gt (pc := 73) (tgt := 110) cx dX10_bezout_73 (by decide) (fun hc => ?_) (fun hc => ?_)
            · have hw := hw.1 hc
              refine p_iconst (pc := 110) (v := 1) cx dX10_bezout_110 (by decide) ?_
              exact p_iret (pc := 111) cx hr hlk dX10_bezout_111 hM8 hw
            · have hw := hw.2 hc
              refine p_aload_n (pc := 76) cx dX10_bezout_76 rfl 0 rfl ?_
              refine gf_9_5 (pc := 77) cx ha0 t2_78 dX10_bezout_77 ?_
              have hr_11 : Is G 2 (mR M8 a0 5) := TYR.at hM8 ha0 5 2 rfl (by decide)
              refine gf_2_1 (pc := 80) cx hr_11 t1_167 dX10_bezout_80 ?_
              have hr_12 : Is G 8 (mR M8 (mR M8 a0 5) 1) := TYR.at hM8 hr_11 1 8 rfl (by decide)
              refine gf_8_1 (pc := 83) cx hr_12 t1_59 dX10_bezout_83 ?_
              refine p_aload_n (pc := 86) cx dX10_bezout_86 rfl 0 rfl ?_
              refine gf_9_0 (pc := 87) cx ha0 t2_73 dX10_bezout_87 ?_
              refine p_icmp_gt (pc := 90) (tgt := 110) cx dX10_bezout_90 (by decide) (fun hc => ?_) (fun hc => ?_)
              · have hw := hw.1 hc
                refine p_iconst (pc := 110) (v := 1) cx dX10_bezout_110 (by decide) ?_
                exact p_iret (pc := 111) cx hr hlk dX10_bezout_111 hM8 hw
              · have hw := hw.2 hc
                refine p_aload_n (pc := 93) cx dX10_bezout_93 rfl 0 rfl ?_
                refine gf_9_5 (pc := 94) cx ha0 t2_78 dX10_bezout_94 ?_
                have hr_13 : Is G 2 (mR M8 a0 5) := TYR.at hM8 ha0 5 2 rfl (by decide)
                refine gf_2_2 (pc := 97) cx hr_13 t1_169 dX10_bezout_97 ?_
                have hr_14 : Is G 8 (mR M8 (mR M8 a0 5) 2) := TYR.at hM8 hr_13 2 8 rfl (by decide)
                refine gf_8_1 (pc := 100) cx hr_14 t1_59 dX10_bezout_100 ?_
                refine p_aload_n (pc := 103) cx dX10_bezout_103 rfl 0 rfl ?_
                refine gf_9_0 (pc := 104) cx ha0 t2_73 dX10_bezout_104 ?_
                refine p_icmp_le (pc := 107) (tgt := 112) cx dX10_bezout_107 (by decide) (fun hc => ?_) (fun hc => ?_)
                · have hw := hw.1 hc
                  refine p_aload_n (pc := 112) cx dX10_bezout_112 rfl 0 rfl ?_
                  refine gf_9_1 (pc := 113) cx ha0 t2_74 dX10_bezout_113 ?_
                  have hr_15 : Is G 13 (mR M8 a0 1) := TYR.at hM8 ha0 1 13 rfl (by decide)
                  refine p_iload_n (pc := 116) cx dX10_bezout_116 rfl 1 rfl ?_
                  have hr_16 : Is G 8 (mR M8 (mR M8 a0 1) a1.toNatClampNeg) := TYR.el hM8 hr_15 hw.1
                  refine p_aald (pc := 117) cx hr_15 hw.1 dX10_bezout_117 ?_
                  have hw := hw.2
                  refine p_aload_n (pc := 118) cx dX10_bezout_118 rfl 0 rfl ?_
                  refine gf_9_5 (pc := 119) cx ha0 t2_78 dX10_bezout_119 ?_
                  have hr_17 : Is G 2 (mR M8 a0 5) := TYR.at hM8 ha0 5 2 rfl (by decide)
                  refine gf_2_0 (pc := 122) cx hr_17 t1_165 dX10_bezout_122 ?_
                  have hr_18 : Is G 8 (mR M8 (mR M8 a0 5) 0) := TYR.at hM8 hr_17 0 8 rfl (by decide)
                  refine p_callVv (pc := 125) [.ref (mR M8 (mR M8 a0 5) 0)] cx (c_X9_copy cx.2.2.2.2.2.2 hM8 hr_16 hr_18 hw) cf_X9_copy cv_X9_copy t2_145 hr_16 ⟨by decide, rfl, rfl⟩ ⟨rfl, rfl⟩ ⟨Nat.le_of_ble_eq_true rfl, Nat.le_of_ble_eq_true rfl⟩ rfl rfl (Nat.le_of_ble_eq_true rfl) dX10_bezout_125 (fun M19 hw hM19 => ?_)
                  refine p_aload_n (pc := 128) cx dX10_bezout_128 rfl 0 rfl ?_
                  refine gf_9_1 (pc := 129) cx ha0 t2_74 dX10_bezout_129 ?_
                  have hr_20 : Is G 13 (mR M19 a0 1) := TYR.at hM19 ha0 1 13 rfl (by decide)
                  refine p_iload_n (pc := 132) cx dX10_bezout_132 rfl 2 rfl ?_
                  have hr_21 : Is G 8 (mR M19 (mR M19 a0 1) a2.toNatClampNeg) := TYR.el hM19 hr_20 hw.1
                  refine p_aald (pc := 133) cx hr_20 hw.1 dX10_bezout_133 ?_
                  have hw := hw.2
                  refine p_aload_n (pc := 134) cx dX10_bezout_134 rfl 0 rfl ?_
                  refine gf_9_5 (pc := 135) cx ha0 t2_78 dX10_bezout_135 ?_
                  have hr_22 : Is G 2 (mR M19 a0 5) := TYR.at hM19 ha0 5 2 rfl (by decide)
                  refine gf_2_1 (pc := 138) cx hr_22 t1_167 dX10_bezout_138 ?_
                  have hr_23 : Is G 8 (mR M19 (mR M19 a0 5) 1) := TYR.at hM19 hr_22 1 8 rfl (by decide)
                  refine p_callVv (pc := 141) [.ref (mR M19 (mR M19 a0 5) 1)] cx (c_X9_copy cx.2.2.2.2.2.2 hM19 hr_21 hr_23 hw) cf_X9_copy cv_X9_copy t2_145 hr_21 ⟨by decide, rfl, rfl⟩ ⟨rfl, rfl⟩ ⟨Nat.le_of_ble_eq_true rfl, Nat.le_of_ble_eq_true rfl⟩ rfl rfl (Nat.le_of_ble_eq_true rfl) dX10_bezout_141 (fun M24 hw hM24 => ?_)
                  refine p_aload_n (pc := 144) cx dX10_bezout_144 rfl 0 rfl ?_
                  refine gf_9_1 (pc := 145) cx ha0 t2_74 dX10_bezout_145 ?_
                  have hr_25 : Is G 13 (mR M24 a0 1) := TYR.at hM24 ha0 1 13 rfl (by decide)
                  refine p_iload_n (pc := 148) cx dX10_bezout_148 rfl 3 rfl ?_
                  have hr_26 : Is G 8 (mR M24 (mR M24 a0 1) a3.toNatClampNeg) := TYR.el hM24 hr_25 hw.1
                  refine p_aald (pc := 149) cx hr_25 hw.1 dX10_bezout_149 ?_
                  have hw := hw.2
                  refine p_aload_n (pc := 150) cx dX10_bezout_150 rfl 0 rfl ?_
                  refine gf_9_5 (pc := 151) cx ha0 t2_78 dX10_bezout_151 ?_
                  have hr_27 : Is G 2 (mR M24 a0 5) := TYR.at hM24 ha0 5 2 rfl (by decide)
                  refine gf_2_2 (pc := 154) cx hr_27 t1_169 dX10_bezout_154 ?_
                  have hr_28 : Is G 8 (mR M24 (mR M24 a0 5) 2) := TYR.at hM24 hr_27 2 8 rfl (by decide)
                  refine p_callVv (pc := 157) [.ref (mR M24 (mR M24 a0 5) 2)] cx (c_X9_copy cx.2.2.2.2.2.2 hM24 hr_26 hr_28 hw) cf_X9_copy cv_X9_copy t2_145 hr_26 ⟨by decide, rfl, rfl⟩ ⟨rfl, rfl⟩ ⟨Nat.le_of_ble_eq_true rfl, Nat.le_of_ble_eq_true rfl⟩ rfl rfl (Nat.le_of_ble_eq_true rfl) dX10_bezout_157 (fun M29 hw hM29 => ?_)
                  refine p_iconst (pc := 160) (v := 0) cx dX10_bezout_160 (by decide) ?_
                  exact p_iret (pc := 161) cx hr hlk dX10_bezout_161 hM29 hw
                · have hw := hw.2 hc
                  refine p_iconst (pc := 110) (v := 1) cx dX10_bezout_110 (by decide) ?_
                  exact p_iret (pc := 111) cx hr hlk dX10_bezout_111 hM8 hw
          · have hw := hw.2 hc
            refine p_iconst (pc := 36) (v := 3) cx dX10_bezout_36 (by decide) ?_
            exact p_iret (pc := 37) cx hr hlk dX10_bezout_37 hM2 hw
set_option maxHeartbeats 4000000 in
set_option maxRecDepth 100000 in
theorem c_X10_inverse {l : Launch} {D : va_G} {G : SH} (hND : ND G) {a0 : Nat} {a1 : Int32} {a2 : Int32} {a3 : Int32} {M : MS} {Qp : Int32 → MS → Prop} (hT : TYR G M.2.2.1) (ha0 : Is G 9 a0) (hw : w_X10_inverse G a0 a1 a2 a3 M Qp) : MeI l D G yX10_inverse (Cond.code yX10_inverse cX10_inverse 5 (some .int) :: GW) rm_X10_inverse [.ref a0, .int a1, .int a2, .int a3] M Qp := by
  unfold MeI
  refine p_method (by decide) rfl (Nat.le_of_ble_eq_true rfl) hND ?_
  intro p e s m args below meth c cx hr hlk
  have cx : CX p s m args c D G cX10_inverse 5 RX10 := cx
  unfold w_X10_inverse at hw
  refine p_aload_n (pc := 0) cx dX10_inverse_0 rfl 0 rfl ?_
  refine p_iload_n (pc := 1) cx dX10_inverse_1 rfl 1 rfl ?_
  refine p_iload_n (pc := 2) cx dX10_inverse_2 rfl 2 rfl ?_
  refine p_iload_n (pc := 3) cx dX10_inverse_3 rfl 3 rfl ?_
  refine p_callVi (pc := 4) [.int a1, .int a2, .int a3] cx (c_X10_areRegisters_ cx.2.2.2.2.2.2 hT ha0 hw) cf_X10_areRegisters_ cv_X10_areRegisters_ t2_168 ha0 ⟨by decide, rfl, rfl⟩ ⟨rfl, rfl⟩ ⟨Nat.le_of_ble_eq_true rfl, Nat.le_of_ble_eq_true rfl⟩ rfl rfl (Nat.le_of_ble_eq_true rfl) dX10_inverse_4 (fun r1 M1 hw hM1 => ?_)
  refine p_if_ne (pc := 7) (tgt := 12) cx dX10_inverse_7 (by decide) (fun hc => ?_) (fun hc => ?_)
  · have hw := hw.1 hc
    refine p_aload_n (pc := 12) cx dX10_inverse_12 rfl 0 rfl ?_
    refine gf_9_1 (pc := 13) cx ha0 t2_74 dX10_inverse_13 ?_
    have hr_2 : Is G 13 (mR M1 a0 1) := TYR.at hM1 ha0 1 13 rfl (by decide)
    refine p_iload_n (pc := 16) cx dX10_inverse_16 rfl 3 rfl ?_
    have hr_3 : Is G 8 (mR M1 (mR M1 a0 1) a3.toNatClampNeg) := TYR.el hM1 hr_2 hw.1
    refine p_aald (pc := 17) cx hr_2 hw.1 dX10_inverse_17 ?_
    have hw := hw.2
    refine p_astore (pc := 18) (lv' := [(0, .ref a0), (1, .int a1), (2, .int a2), (4, .ref (mR M1 (mR M1 a0 1) a3.toNatClampNeg))]) cx dX10_inverse_18 (by decide) [1, 2, 3, 0] rfl ?_
    refine p_aload (pc := 20) cx dX10_inverse_20 3 rfl ?_
    refine p_callVi (pc := 22) [] cx (c_X9_isAboveZero cx.2.2.2.2.2.2 hM1 hr_3 hw) cf_X9_isAboveZero cv_X9_isAboveZero t3_133 hr_3 ⟨by decide, rfl, rfl⟩ ⟨rfl, rfl⟩ ⟨Nat.le_of_ble_eq_true rfl, Nat.le_of_ble_eq_true rfl⟩ rfl rfl (Nat.le_of_ble_eq_true rfl) dX10_inverse_22 (fun r4 M4 hw hM4 => ?_)
    refine p_if_ne (pc := 25) (tgt := 30) cx dX10_inverse_25 (by decide) (fun hc => ?_) (fun hc => ?_)
    · have hw := hw.1 hc
      refine p_aload_n (pc := 30) cx dX10_inverse_30 rfl 0 rfl ?_
      refine gf_9_6 (pc := 31) cx ha0 t2_79 dX10_inverse_31 ?_
      have hr_5 : Is G 5 (mR M4 a0 6) := TYR.at hM4 ha0 6 5 rfl (by decide)
      refine p_aload_n (pc := 34) cx dX10_inverse_34 rfl 0 rfl ?_
      refine gf_9_11 (pc := 35) cx ha0 t2_84 dX10_inverse_35 ?_
      have hr_6 : Is G 8 (mR M4 a0 11) := TYR.at hM4 ha0 11 8 rfl (by decide)
      refine p_aload_n (pc := 38) cx dX10_inverse_38 rfl 0 rfl ?_
      refine gf_9_1 (pc := 39) cx ha0 t2_74 dX10_inverse_39 ?_
      have hr_7 : Is G 13 (mR M4 a0 1) := TYR.at hM4 ha0 1 13 rfl (by decide)
      refine p_iload_n (pc := 42) cx dX10_inverse_42 rfl 2 rfl ?_
      have hr_8 : Is G 8 (mR M4 (mR M4 a0 1) a2.toNatClampNeg) := TYR.el hM4 hr_7 hw.1
      refine p_aald (pc := 43) cx hr_7 hw.1 dX10_inverse_43 ?_
      have hw := hw.2
      refine p_aload (pc := 44) cx dX10_inverse_44 3 rfl ?_
      refine p_callVv (pc := 46) [.ref (mR M4 a0 11), .ref (mR M4 (mR M4 a0 1) a2.toNatClampNeg), .ref (mR M1 (mR M1 a0 1) a3.toNatClampNeg)] cx (c_X5_reduce cx.2.2.2.2.2.2 hM4 hr_5 hr_6 hr_8 hr_3 hw) cf_X5_reduce cv_X5_reduce t3_137 hr_5 ⟨by decide, rfl, rfl⟩ ⟨rfl, rfl⟩ ⟨Nat.le_of_ble_eq_true rfl, Nat.le_of_ble_eq_true rfl⟩ rfl rfl (Nat.le_of_ble_eq_true rfl) dX10_inverse_46 (fun M9 hw hM9 => ?_)
      refine p_aload_n (pc := 49) cx dX10_inverse_49 rfl 0 rfl ?_
      refine gf_9_5 (pc := 50) cx ha0 t2_78 dX10_inverse_50 ?_
      have hr_10 : Is G 2 (mR M9 a0 5) := TYR.at hM9 ha0 5 2 rfl (by decide)
      refine p_aload_n (pc := 53) cx dX10_inverse_53 rfl 0 rfl ?_
      refine gf_9_11 (pc := 54) cx ha0 t2_84 dX10_inverse_54 ?_
      have hr_11 : Is G 8 (mR M9 a0 11) := TYR.at hM9 ha0 11 8 rfl (by decide)
      refine p_aload (pc := 57) cx dX10_inverse_57 3 rfl ?_
      refine p_callVv (pc := 59) [.ref (mR M9 a0 11), .ref (mR M1 (mR M1 a0 1) a3.toNatClampNeg)] cx (c_X2_find cx.2.2.2.2.2.2 hM9 hr_10 hr_11 hr_3 hw) cf_X2_find cv_X2_find t3_110 hr_10 ⟨by decide, rfl, rfl⟩ ⟨rfl, rfl⟩ ⟨Nat.le_of_ble_eq_true rfl, Nat.le_of_ble_eq_true rfl⟩ rfl rfl (Nat.le_of_ble_eq_true rfl) dX10_inverse_59 (fun M12 hw hM12 => ?_)
      refine p_aload_n (pc := 62) cx dX10_inverse_62 rfl 0 rfl ?_
      refine gf_9_5 (pc := 63) cx ha0 t2_78 dX10_inverse_63 ?_
      have hr_13 : Is G 2 (mR M12 a0 5) := TYR.at hM12 ha0 5 2 rfl (by decide)
      refine gf_2_0 (pc := 66) cx hr_13 t1_165 dX10_inverse_66 ?_
      have hr_14 : Is G 8 (mR M12 (mR M12 a0 5) 0) := TYR.at hM12 hr_13 0 8 rfl (by decide)
      refine p_aload_n (pc := 69) cx dX10_inverse_69 rfl 0 rfl ?_
      refine gf_9_12 (pc := 70) cx ha0 t2_85 dX10_inverse_70 ?_
      have hr_15 : Is G 8 (mR M12 a0 12) := TYR.at hM12 ha0 12 8 rfl (by decide)
      refine p_callSi (pc := 73) [.ref (mR M12 (mR M12 a0 5) 0), .ref (mR M12 a0 12)] cx (c_X7_order cx.2.2.2.2.2.2 hM12 hr_14 hr_15 hw) cf_X7_order cv_X7_order t3_35 ⟨rfl, rfl⟩ ⟨Nat.le_of_ble_eq_true rfl, Nat.le_of_ble_eq_true rfl⟩ rfl rfl (Nat.le_of_ble_eq_true rfl) dX10_inverse_73 (fun r16 M16 hw hM16 => ?_)
      refine p_if_eq (pc := 76) (tgt := 81) cx dX10_inverse_76 (by decide) (fun hc => ?_) (fun hc => ?_)
      · have hw := hw.1 hc
        refine p_aload_n (pc := 81) cx dX10_inverse_81 rfl 0 rfl ?_
        refine gf_9_6 (pc := 82) cx ha0 t2_79 dX10_inverse_82 ?_
        have hr_17 : Is G 5 (mR M16 a0 6) := TYR.at hM16 ha0 6 5 rfl (by decide)
        refine p_aload_n (pc := 85) cx dX10_inverse_85 rfl 0 rfl ?_
        refine gf_9_10 (pc := 86) cx ha0 t2_83 dX10_inverse_86 ?_
        have hr_18 : Is G 8 (mR M16 a0 10) := TYR.at hM16 ha0 10 8 rfl (by decide)
        refine p_aload_n (pc := 89) cx dX10_inverse_89 rfl 0 rfl ?_
        refine gf_9_5 (pc := 90) cx ha0 t2_78 dX10_inverse_90 ?_
        have hr_19 : Is G 2 (mR M16 a0 5) := TYR.at hM16 ha0 5 2 rfl (by decide)
        refine gf_2_1 (pc := 93) cx hr_19 t1_167 dX10_inverse_93 ?_
        have hr_20 : Is G 8 (mR M16 (mR M16 a0 5) 1) := TYR.at hM16 hr_19 1 8 rfl (by decide)
        refine p_aload (pc := 96) cx dX10_inverse_96 3 rfl ?_
        refine p_callVv (pc := 98) [.ref (mR M16 a0 10), .ref (mR M16 (mR M16 a0 5) 1), .ref (mR M1 (mR M1 a0 1) a3.toNatClampNeg)] cx (c_X5_reduce cx.2.2.2.2.2.2 hM16 hr_17 hr_18 hr_20 hr_3 hw) cf_X5_reduce cv_X5_reduce t3_137 hr_17 ⟨by decide, rfl, rfl⟩ ⟨rfl, rfl⟩ ⟨Nat.le_of_ble_eq_true rfl, Nat.le_of_ble_eq_true rfl⟩ rfl rfl (Nat.le_of_ble_eq_true rfl) dX10_inverse_98 (fun M21 hw hM21 => ?_)
        refine p_aload_n (pc := 101) cx dX10_inverse_101 rfl 0 rfl ?_
        refine p_iload_n (pc := 102) cx dX10_inverse_102 rfl 1 rfl ?_
        refine p_aload_n (pc := 103) cx dX10_inverse_103 rfl 0 rfl ?_
        refine gf_9_10 (pc := 104) cx ha0 t2_83 dX10_inverse_104 ?_
        have hr_22 : Is G 8 (mR M21 a0 10) := TYR.at hM21 ha0 10 8 rfl (by decide)
        refine p_callVi (pc := 107) [.int a1, .ref (mR M21 a0 10)] cx (c_X10_put cx.2.2.2.2.2.2 hM21 ha0 hr_22 hw) cf_X10_put cv_X10_put t2_141 ha0 ⟨by decide, rfl, rfl⟩ ⟨rfl, rfl⟩ ⟨Nat.le_of_ble_eq_true rfl, Nat.le_of_ble_eq_true rfl⟩ rfl rfl (Nat.le_of_ble_eq_true rfl) dX10_inverse_107 (fun r23 M23 hw hM23 => ?_)
        exact p_iret (pc := 110) cx hr hlk dX10_inverse_110 hM23 hw
      · have hw := hw.2 hc
        refine p_iconst (pc := 79) (v := 2) cx dX10_inverse_79 (by decide) ?_
        exact p_iret (pc := 80) cx hr hlk dX10_inverse_80 hM16 hw
    · have hw := hw.2 hc
      refine p_iconst (pc := 28) (v := 2) cx dX10_inverse_28 (by decide) ?_
      exact p_iret (pc := 29) cx hr hlk dX10_inverse_29 hM4 hw
  · have hw := hw.2 hc
    refine p_iconst (pc := 10) (v := 3) cx dX10_inverse_10 (by decide) ?_
    exact p_iret (pc := 11) cx hr hlk dX10_inverse_11 hM1 hw
set_option maxHeartbeats 4000000 in
set_option maxRecDepth 100000 in
theorem c_X10_power {l : Launch} {D : va_G} {G : SH} (hND : ND G) {a0 : Nat} {a1 : Int32} {a2 : Int32} {a3 : Int32} {a4 : Int32} {M : MS} {Qp : Int32 → MS → Prop} (hT : TYR G M.2.2.1) (ha0 : Is G 9 a0) (hw : w_X10_power G a0 a1 a2 a3 a4 M Qp) : MeI l D G yX10_power (Cond.code yX10_power cX10_power 5 (some .int) :: GW) rm_X10_power [.ref a0, .int a1, .int a2, .int a3, .int a4] M Qp := by
  unfold MeI
  refine p_method (by decide) rfl (Nat.le_of_ble_eq_true rfl) hND ?_
  intro p e s m args below meth c cx hr hlk
  have cx : CX p s m args c D G cX10_power 5 RX10 := cx
  unfold w_X10_power at hw
  refine p_aload_n (pc := 0) cx dX10_power_0 rfl 0 rfl ?_
  refine p_iload_n (pc := 1) cx dX10_power_1 rfl 1 rfl ?_
  refine p_iload_n (pc := 2) cx dX10_power_2 rfl 2 rfl ?_
  refine p_callVi (pc := 3) [.int a1, .int a2] cx (c_X10_areRegisters cx.2.2.2.2.2.2 hT ha0 hw) cf_X10_areRegisters cv_X10_areRegisters t2_160 ha0 ⟨by decide, rfl, rfl⟩ ⟨rfl, rfl⟩ ⟨Nat.le_of_ble_eq_true rfl, Nat.le_of_ble_eq_true rfl⟩ rfl rfl (Nat.le_of_ble_eq_true rfl) dX10_power_3 (fun r1 M1 hw hM1 => ?_)
  refine p_if_eq (pc := 6) (tgt := 19) cx dX10_power_6 (by decide) (fun hc => ?_) (fun hc => ?_)
  · have hw := hw.1 hc
    refine p_iconst (pc := 19) (v := 3) cx dX10_power_19 (by decide) ?_
    exact p_iret (pc := 20) cx hr hlk dX10_power_20 hM1 hw
  · have hw := hw.2 hc
    refine p_aload_n (pc := 9) cx dX10_power_9 rfl 0 rfl ?_
    refine p_iload_n (pc := 10) cx dX10_power_10 rfl 3 rfl ?_
    refine p_iload (pc := 11) cx dX10_power_11 4 rfl ?_
    refine p_callVi (pc := 13) [.int a3, .int a4] cx (c_X10_areRegisters cx.2.2.2.2.2.2 hM1 ha0 hw) cf_X10_areRegisters cv_X10_areRegisters t2_160 ha0 ⟨by decide, rfl, rfl⟩ ⟨rfl, rfl⟩ ⟨Nat.le_of_ble_eq_true rfl, Nat.le_of_ble_eq_true rfl⟩ rfl rfl (Nat.le_of_ble_eq_true rfl) dX10_power_13 (fun r2 M2 hw hM2 => ?_)
    refine p_if_ne (pc := 16) (tgt := 21) cx dX10_power_16 (by decide) (fun hc => ?_) (fun hc => ?_)
    · have hw := hw.1 hc
      refine p_aload_n (pc := 21) cx dX10_power_21 rfl 0 rfl ?_
      refine gf_9_1 (pc := 22) cx ha0 t2_74 dX10_power_22 ?_
      have hr_3 : Is G 13 (mR M2 a0 1) := TYR.at hM2 ha0 1 13 rfl (by decide)
      refine p_iload_n (pc := 25) cx dX10_power_25 rfl 3 rfl ?_
      have hr_4 : Is G 8 (mR M2 (mR M2 a0 1) a3.toNatClampNeg) := TYR.el hM2 hr_3 hw.1
      refine p_aald (pc := 26) cx hr_3 hw.1 dX10_power_26 ?_
      have hw := hw.2
      refine gf_8_2 (pc := 27) cx hr_4 t1_63 dX10_power_27 ?_
      refine p_if_ne (pc := 30) (tgt := 46) cx dX10_power_30 (by decide) (fun hc => ?_) (fun hc => ?_)
      · have hw := hw.1 hc
        refine p_iconst (pc := 46) (v := 2) cx dX10_power_46 (by decide) ?_
        exact p_iret (pc := 47) cx hr hlk dX10_power_47 hM2 hw
      · have hw := hw.2 hc
        refine p_aload_n (pc := 33) cx dX10_power_33 rfl 0 rfl ?_
        refine gf_9_1 (pc := 34) cx ha0 t2_74 dX10_power_34 ?_
        have hr_5 : Is G 13 (mR M2 a0 1) := TYR.at hM2 ha0 1 13 rfl (by decide)
        refine p_iload (pc := 37) cx dX10_power_37 4 rfl ?_
        have hr_6 : Is G 8 (mR M2 (mR M2 a0 1) a4.toNatClampNeg) := TYR.el hM2 hr_5 hw.1
        refine p_aald (pc := 39) cx hr_5 hw.1 dX10_power_39 ?_
        have hw := hw.2
        refine p_callVi (pc := 40) [] cx (c_X9_isAboveZero cx.2.2.2.2.2.2 hM2 hr_6 hw) cf_X9_isAboveZero cv_X9_isAboveZero t3_133 hr_6 ⟨by decide, rfl, rfl⟩ ⟨rfl, rfl⟩ ⟨Nat.le_of_ble_eq_true rfl, Nat.le_of_ble_eq_true rfl⟩ rfl rfl (Nat.le_of_ble_eq_true rfl) dX10_power_40 (fun r7 M7 hw hM7 => ?_)
        refine p_if_ne (pc := 43) (tgt := 48) cx dX10_power_43 (by decide) (fun hc => ?_) (fun hc => ?_)
        · have hw := hw.1 hc
          refine p_aload_n (pc := 48) cx dX10_power_48 rfl 0 rfl ?_
          refine p_iload_n (pc := 49) cx dX10_power_49 rfl 1 rfl ?_
          refine p_aload_n (pc := 50) cx dX10_power_50 rfl 0 rfl ?_
          refine gf_9_6 (pc := 51) cx ha0 t2_79 dX10_power_51 ?_
          have hr_8 : Is G 5 (mR M7 a0 6) := TYR.at hM7 ha0 6 5 rfl (by decide)
          refine p_aload_n (pc := 54) cx dX10_power_54 rfl 0 rfl ?_
          refine gf_9_1 (pc := 55) cx ha0 t2_74 dX10_power_55 ?_
          have hr_9 : Is G 13 (mR M7 a0 1) := TYR.at hM7 ha0 1 13 rfl (by decide)
          refine p_iload_n (pc := 58) cx dX10_power_58 rfl 2 rfl ?_
          have hr_10 : Is G 8 (mR M7 (mR M7 a0 1) a2.toNatClampNeg) := TYR.el hM7 hr_9 hw.1
          refine p_aald (pc := 59) cx hr_9 hw.1 dX10_power_59 ?_
          have hw := hw.2
          refine p_aload_n (pc := 60) cx dX10_power_60 rfl 0 rfl ?_
          refine gf_9_1 (pc := 61) cx ha0 t2_74 dX10_power_61 ?_
          have hr_11 : Is G 13 (mR M7 a0 1) := TYR.at hM7 ha0 1 13 rfl (by decide)
          refine p_iload_n (pc := 64) cx dX10_power_64 rfl 3 rfl ?_
          have hr_12 : Is G 8 (mR M7 (mR M7 a0 1) a3.toNatClampNeg) := TYR.el hM7 hr_11 hw.1
          refine p_aald (pc := 65) cx hr_11 hw.1 dX10_power_65 ?_
          have hw := hw.2
          refine p_aload_n (pc := 66) cx dX10_power_66 rfl 0 rfl ?_
          refine gf_9_1 (pc := 67) cx ha0 t2_74 dX10_power_67 ?_
          have hr_13 : Is G 13 (mR M7 a0 1) := TYR.at hM7 ha0 1 13 rfl (by decide)
          refine p_iload (pc := 70) cx dX10_power_70 4 rfl ?_
          have hr_14 : Is G 8 (mR M7 (mR M7 a0 1) a4.toNatClampNeg) := TYR.el hM7 hr_13 hw.1
          refine p_aald (pc := 72) cx hr_13 hw.1 dX10_power_72 ?_
          have hw := hw.2
          refine p_callVr (pc := 73) [.ref (mR M7 (mR M7 a0 1) a2.toNatClampNeg), .ref (mR M7 (mR M7 a0 1) a3.toNatClampNeg), .ref (mR M7 (mR M7 a0 1) a4.toNatClampNeg)] cx (c_X5_raise cx.2.2.2.2.2.2 hM7 hr_8 hr_10 hr_12 hr_14 hw) cf_X5_raise cv_X5_raise t3_147 hr_8 ⟨by decide, rfl, rfl⟩ ⟨rfl, rfl⟩ ⟨Nat.le_of_ble_eq_true rfl, Nat.le_of_ble_eq_true rfl⟩ rfl rfl (Nat.le_of_ble_eq_true rfl) dX10_power_73 (fun r15 M15 hw hi15 hM15 => ?_)
          refine p_callVi (pc := 76) [.int a1, .ref r15] cx (c_X10_put cx.2.2.2.2.2.2 hM15 ha0 hi15 hw) cf_X10_put cv_X10_put t2_141 ha0 ⟨by decide, rfl, rfl⟩ ⟨rfl, rfl⟩ ⟨Nat.le_of_ble_eq_true rfl, Nat.le_of_ble_eq_true rfl⟩ rfl rfl (Nat.le_of_ble_eq_true rfl) dX10_power_76 (fun r16 M16 hw hM16 => ?_)
          exact p_iret (pc := 79) cx hr hlk dX10_power_79 hM16 hw
        · have hw := hw.2 hc
          refine p_iconst (pc := 46) (v := 2) cx dX10_power_46 (by decide) ?_
          exact p_iret (pc := 47) cx hr hlk dX10_power_47 hM7 hw
    · have hw := hw.2 hc
      refine p_iconst (pc := 19) (v := 3) cx dX10_power_19 (by decide) ?_
      exact p_iret (pc := 20) cx hr hlk dX10_power_20 hM2 hw
set_option maxHeartbeats 4000000 in
set_option maxRecDepth 100000 in
theorem c_X10_isqrt {l : Launch} {D : va_G} {G : SH} (hND : ND G) {a0 : Nat} {a1 : Int32} {a2 : Int32} {M : MS} {Qp : Int32 → MS → Prop} (hT : TYR G M.2.2.1) (ha0 : Is G 9 a0) (hw : w_X10_isqrt G a0 a1 a2 M Qp) : MeI l D G yX10_isqrt (Cond.code yX10_isqrt cX10_isqrt 3 (some .int) :: GW) rm_X10_isqrt [.ref a0, .int a1, .int a2] M Qp := by
  unfold MeI
  refine p_method (by decide) rfl (Nat.le_of_ble_eq_true rfl) hND ?_
  intro p e s m args below meth c cx hr hlk
  have cx : CX p s m args c D G cX10_isqrt 3 RX10 := cx
  unfold w_X10_isqrt at hw
  refine p_aload_n (pc := 0) cx dX10_isqrt_0 rfl 0 rfl ?_
  refine p_iload_n (pc := 1) cx dX10_isqrt_1 rfl 1 rfl ?_
  refine p_iload_n (pc := 2) cx dX10_isqrt_2 rfl 2 rfl ?_
  refine p_callVi (pc := 3) [.int a1, .int a2] cx (c_X10_areRegisters cx.2.2.2.2.2.2 hT ha0 hw) cf_X10_areRegisters cv_X10_areRegisters t2_160 ha0 ⟨by decide, rfl, rfl⟩ ⟨rfl, rfl⟩ ⟨Nat.le_of_ble_eq_true rfl, Nat.le_of_ble_eq_true rfl⟩ rfl rfl (Nat.le_of_ble_eq_true rfl) dX10_isqrt_3 (fun r1 M1 hw hM1 => ?_)
  refine p_if_ne (pc := 6) (tgt := 11) cx dX10_isqrt_6 (by decide) (fun hc => ?_) (fun hc => ?_)
  · have hw := hw.1 hc
    refine p_aload_n (pc := 11) cx dX10_isqrt_11 rfl 0 rfl ?_
    refine gf_9_1 (pc := 12) cx ha0 t2_74 dX10_isqrt_12 ?_
    have hr_2 : Is G 13 (mR M1 a0 1) := TYR.at hM1 ha0 1 13 rfl (by decide)
    refine p_iload_n (pc := 15) cx dX10_isqrt_15 rfl 2 rfl ?_
    have hr_3 : Is G 8 (mR M1 (mR M1 a0 1) a2.toNatClampNeg) := TYR.el hM1 hr_2 hw.1
    refine p_aald (pc := 16) cx hr_2 hw.1 dX10_isqrt_16 ?_
    have hw := hw.2
    refine gf_8_2 (pc := 17) cx hr_3 t1_63 dX10_isqrt_17 ?_
    refine p_if_eq (pc := 20) (tgt := 25) cx dX10_isqrt_20 (by decide) (fun hc => ?_) (fun hc => ?_)
    · have hw := hw.1 hc
      refine p_aload_n (pc := 25) cx dX10_isqrt_25 rfl 0 rfl ?_
      refine p_iload_n (pc := 26) cx dX10_isqrt_26 rfl 1 rfl ?_
      refine p_aload_n (pc := 27) cx dX10_isqrt_27 rfl 0 rfl ?_
      refine gf_9_7 (pc := 28) cx ha0 t2_80 dX10_isqrt_28 ?_
      have hr_4 : Is G 6 (mR M1 a0 7) := TYR.at hM1 ha0 7 6 rfl (by decide)
      refine p_aload_n (pc := 31) cx dX10_isqrt_31 rfl 0 rfl ?_
      refine gf_9_1 (pc := 32) cx ha0 t2_74 dX10_isqrt_32 ?_
      have hr_5 : Is G 13 (mR M1 a0 1) := TYR.at hM1 ha0 1 13 rfl (by decide)
      refine p_iload_n (pc := 35) cx dX10_isqrt_35 rfl 2 rfl ?_
      have hr_6 : Is G 8 (mR M1 (mR M1 a0 1) a2.toNatClampNeg) := TYR.el hM1 hr_5 hw.1
      refine p_aald (pc := 36) cx hr_5 hw.1 dX10_isqrt_36 ?_
      have hw := hw.2
      refine p_iconst (pc := 37) (v := 2) cx dX10_isqrt_37 (by decide) ?_
      refine p_callVr (pc := 38) [.ref (mR M1 (mR M1 a0 1) a2.toNatClampNeg), .int (2 : Int32)] cx (c_X6_find cx.2.2.2.2.2.2 hM1 hr_4 hr_6 hw) cf_X6_find cv_X6_find t3_168 hr_4 ⟨by decide, rfl, rfl⟩ ⟨rfl, rfl⟩ ⟨Nat.le_of_ble_eq_true rfl, Nat.le_of_ble_eq_true rfl⟩ rfl rfl (Nat.le_of_ble_eq_true rfl) dX10_isqrt_38 (fun r7 M7 hw hi7 hM7 => ?_)
      refine p_callVi (pc := 41) [.int a1, .ref r7] cx (c_X10_put cx.2.2.2.2.2.2 hM7 ha0 hi7 hw) cf_X10_put cv_X10_put t2_141 ha0 ⟨by decide, rfl, rfl⟩ ⟨rfl, rfl⟩ ⟨Nat.le_of_ble_eq_true rfl, Nat.le_of_ble_eq_true rfl⟩ rfl rfl (Nat.le_of_ble_eq_true rfl) dX10_isqrt_41 (fun r8 M8 hw hM8 => ?_)
      exact p_iret (pc := 44) cx hr hlk dX10_isqrt_44 hM8 hw
    · have hw := hw.2 hc
      refine p_iconst (pc := 23) (v := 2) cx dX10_isqrt_23 (by decide) ?_
      exact p_iret (pc := 24) cx hr hlk dX10_isqrt_24 hM1 hw
  · have hw := hw.2 hc
    refine p_iconst (pc := 9) (v := 3) cx dX10_isqrt_9 (by decide) ?_
    exact p_iret (pc := 10) cx hr hlk dX10_isqrt_10 hM1 hw
set_option maxHeartbeats 4000000 in
set_option maxRecDepth 100000 in
theorem c_X10_root {l : Launch} {D : va_G} {G : SH} (hND : ND G) {a0 : Nat} {a1 : Int32} {a2 : Int32} {a3 : Int32} {M : MS} {Qp : Int32 → MS → Prop} (hT : TYR G M.2.2.1) (ha0 : Is G 9 a0) (hw : w_X10_root G a0 a1 a2 a3 M Qp) : MeI l D G yX10_root (Cond.code yX10_root cX10_root 4 (some .int) :: GW) rm_X10_root [.ref a0, .int a1, .int a2, .int a3] M Qp := by
  unfold MeI
  refine p_method (by decide) rfl (Nat.le_of_ble_eq_true rfl) hND ?_
  intro p e s m args below meth c cx hr hlk
  have cx : CX p s m args c D G cX10_root 4 RX10 := cx
  unfold w_X10_root at hw
  refine p_aload_n (pc := 0) cx dX10_root_0 rfl 0 rfl ?_
  refine p_iload_n (pc := 1) cx dX10_root_1 rfl 1 rfl ?_
  refine p_iload_n (pc := 2) cx dX10_root_2 rfl 2 rfl ?_
  refine p_callVi (pc := 3) [.int a1, .int a2] cx (c_X10_areRegisters cx.2.2.2.2.2.2 hT ha0 hw) cf_X10_areRegisters cv_X10_areRegisters t2_160 ha0 ⟨by decide, rfl, rfl⟩ ⟨rfl, rfl⟩ ⟨Nat.le_of_ble_eq_true rfl, Nat.le_of_ble_eq_true rfl⟩ rfl rfl (Nat.le_of_ble_eq_true rfl) dX10_root_3 (fun r1 M1 hw hM1 => ?_)
  refine p_if_ne (pc := 6) (tgt := 11) cx dX10_root_6 (by decide) (fun hc => ?_) (fun hc => ?_)
  · have hw := hw.1 hc
    refine p_aload_n (pc := 11) cx dX10_root_11 rfl 0 rfl ?_
    refine gf_9_1 (pc := 12) cx ha0 t2_74 dX10_root_12 ?_
    have hr_2 : Is G 13 (mR M1 a0 1) := TYR.at hM1 ha0 1 13 rfl (by decide)
    refine p_iload_n (pc := 15) cx dX10_root_15 rfl 2 rfl ?_
    have hr_3 : Is G 8 (mR M1 (mR M1 a0 1) a2.toNatClampNeg) := TYR.el hM1 hr_2 hw.1
    refine p_aald (pc := 16) cx hr_2 hw.1 dX10_root_16 ?_
    have hw := hw.2
    refine gf_8_2 (pc := 17) cx hr_3 t1_63 dX10_root_17 ?_
    refine p_if_ne (pc := 20) (tgt := 28) cx dX10_root_20 (by decide) (fun hc => ?_) (fun hc => ?_)
    · have hw := hw.1 hc
      refine p_iconst (pc := 28) (v := 2) cx dX10_root_28 (by decide) ?_
      exact p_iret (pc := 29) cx hr hlk dX10_root_29 hM1 hw
    · have hw := hw.2 hc
      refine p_iload_n (pc := 23) cx dX10_root_23 rfl 3 rfl ?_
      refine p_iconst (pc := 24) (v := 1) cx dX10_root_24 (by decide) ?_
      refine p_icmp_ge (pc := 25) (tgt := 30) cx dX10_root_25 (by decide) (fun hc => ?_) (fun hc => ?_)
      · have hw := hw.1 hc
        refine p_aload_n (pc := 30) cx dX10_root_30 rfl 0 rfl ?_
        refine p_iload_n (pc := 31) cx dX10_root_31 rfl 1 rfl ?_
        refine p_aload_n (pc := 32) cx dX10_root_32 rfl 0 rfl ?_
        refine gf_9_7 (pc := 33) cx ha0 t2_80 dX10_root_33 ?_
        have hr_4 : Is G 6 (mR M1 a0 7) := TYR.at hM1 ha0 7 6 rfl (by decide)
        refine p_aload_n (pc := 36) cx dX10_root_36 rfl 0 rfl ?_
        refine gf_9_1 (pc := 37) cx ha0 t2_74 dX10_root_37 ?_
        have hr_5 : Is G 13 (mR M1 a0 1) := TYR.at hM1 ha0 1 13 rfl (by decide)
        refine p_iload_n (pc := 40) cx dX10_root_40 rfl 2 rfl ?_
        have hr_6 : Is G 8 (mR M1 (mR M1 a0 1) a2.toNatClampNeg) := TYR.el hM1 hr_5 hw.1
        refine p_aald (pc := 41) cx hr_5 hw.1 dX10_root_41 ?_
        have hw := hw.2
        refine p_iload_n (pc := 42) cx dX10_root_42 rfl 3 rfl ?_
        refine p_callVr (pc := 43) [.ref (mR M1 (mR M1 a0 1) a2.toNatClampNeg), .int a3] cx (c_X6_find cx.2.2.2.2.2.2 hM1 hr_4 hr_6 hw) cf_X6_find cv_X6_find t3_168 hr_4 ⟨by decide, rfl, rfl⟩ ⟨rfl, rfl⟩ ⟨Nat.le_of_ble_eq_true rfl, Nat.le_of_ble_eq_true rfl⟩ rfl rfl (Nat.le_of_ble_eq_true rfl) dX10_root_43 (fun r7 M7 hw hi7 hM7 => ?_)
        refine p_callVi (pc := 46) [.int a1, .ref r7] cx (c_X10_put cx.2.2.2.2.2.2 hM7 ha0 hi7 hw) cf_X10_put cv_X10_put t2_141 ha0 ⟨by decide, rfl, rfl⟩ ⟨rfl, rfl⟩ ⟨Nat.le_of_ble_eq_true rfl, Nat.le_of_ble_eq_true rfl⟩ rfl rfl (Nat.le_of_ble_eq_true rfl) dX10_root_46 (fun r8 M8 hw hM8 => ?_)
        exact p_iret (pc := 49) cx hr hlk dX10_root_49 hM8 hw
      · have hw := hw.2 hc
        refine p_iconst (pc := 28) (v := 2) cx dX10_root_28 (by decide) ?_
        exact p_iret (pc := 29) cx hr hlk dX10_root_29 hM1 hw
  · have hw := hw.2 hc
    refine p_iconst (pc := 9) (v := 3) cx dX10_root_9 (by decide) ?_
    exact p_iret (pc := 10) cx hr hlk dX10_root_10 hM1 hw
set_option maxHeartbeats 4000000 in
set_option maxRecDepth 100000 in
theorem c_X10_isSquare {l : Launch} {D : va_G} {G : SH} (hND : ND G) {a0 : Nat} {a1 : Int32} {M : MS} {Qp : Int32 → MS → Prop} (hT : TYR G M.2.2.1) (ha0 : Is G 9 a0) (hw : w_X10_isSquare G a0 a1 M Qp) : MeI l D G yX10_isSquare (Cond.code yX10_isSquare cX10_isSquare 4 (some .int) :: GW) rm_X10_isSquare [.ref a0, .int a1] M Qp := by
  unfold MeI
  refine p_method (by decide) rfl (Nat.le_of_ble_eq_true rfl) hND ?_
  intro p e s m args below meth c cx hr hlk
  have cx : CX p s m args c D G cX10_isSquare 4 RX10 := cx
  unfold w_X10_isSquare at hw
  refine p_aload_n (pc := 0) cx dX10_isSquare_0 rfl 0 rfl ?_
  refine p_iload_n (pc := 1) cx dX10_isSquare_1 rfl 1 rfl ?_
  refine p_callVi (pc := 2) [.int a1] cx (c_X10_isRegister cx.2.2.2.2.2.2 hT ha0 hw) cf_X10_isRegister cv_X10_isRegister t2_120 ha0 ⟨by decide, rfl, rfl⟩ ⟨rfl, rfl⟩ ⟨Nat.le_of_ble_eq_true rfl, Nat.le_of_ble_eq_true rfl⟩ rfl rfl (Nat.le_of_ble_eq_true rfl) dX10_isSquare_2 (fun r1 M1 hw hM1 => ?_)
  refine p_if_ne (pc := 5) (tgt := 10) cx dX10_isSquare_5 (by decide) (fun hc => ?_) (fun hc => ?_)
  · have hw := hw.1 hc
    refine p_aload_n (pc := 10) cx dX10_isSquare_10 rfl 0 rfl ?_
    refine gf_9_1 (pc := 11) cx ha0 t2_74 dX10_isSquare_11 ?_
    have hr_2 : Is G 13 (mR M1 a0 1) := TYR.at hM1 ha0 1 13 rfl (by decide)
    refine p_iload_n (pc := 14) cx dX10_isSquare_14 rfl 1 rfl ?_
    have hr_3 : Is G 8 (mR M1 (mR M1 a0 1) a1.toNatClampNeg) := TYR.el hM1 hr_2 hw.1
    refine p_aald (pc := 15) cx hr_2 hw.1 dX10_isSquare_15 ?_
    have hw := hw.2
    refine p_astore_n (pc := 16) (lv' := [(0, .ref a0), (2, .ref (mR M1 (mR M1 a0 1) a1.toNatClampNeg))]) cx dX10_isSquare_16 rfl (by decide) [1, 0] rfl ?_
    refine p_aload_n (pc := 17) cx dX10_isSquare_17 rfl 1 rfl ?_
    refine gf_8_2 (pc := 18) cx hr_3 t1_63 dX10_isSquare_18 ?_
    refine p_if_eq (pc := 21) (tgt := 26) cx dX10_isSquare_21 (by decide) (fun hc => ?_) (fun hc => ?_)
    · have hw := hw.1 hc
      refine p_aload_n (pc := 26) cx dX10_isSquare_26 rfl 0 rfl ?_
      refine gf_9_7 (pc := 27) cx ha0 t2_80 dX10_isSquare_27 ?_
      have hr_4 : Is G 6 (mR M1 a0 7) := TYR.at hM1 ha0 7 6 rfl (by decide)
      refine p_aload_n (pc := 30) cx dX10_isSquare_30 rfl 1 rfl ?_
      refine p_iconst (pc := 31) (v := 2) cx dX10_isSquare_31 (by decide) ?_
      refine p_callVr (pc := 32) [.ref (mR M1 (mR M1 a0 1) a1.toNatClampNeg), .int (2 : Int32)] cx (c_X6_find cx.2.2.2.2.2.2 hM1 hr_4 hr_3 hw) cf_X6_find cv_X6_find t3_168 hr_4 ⟨by decide, rfl, rfl⟩ ⟨rfl, rfl⟩ ⟨Nat.le_of_ble_eq_true rfl, Nat.le_of_ble_eq_true rfl⟩ rfl rfl (Nat.le_of_ble_eq_true rfl) dX10_isSquare_32 (fun r5 M5 hw hi5 hM5 => ?_)
      refine p_astore_n (pc := 35) (lv' := [(0, .ref a0), (2, .ref (mR M1 (mR M1 a0 1) a1.toNatClampNeg)), (3, .ref r5)]) cx dX10_isSquare_35 rfl (by decide) [1, 2, 0] rfl ?_
      refine p_aload_n (pc := 36) cx dX10_isSquare_36 rfl 0 rfl ?_
      refine gf_9_10 (pc := 37) cx ha0 t2_83 dX10_isSquare_37 ?_
      have hr_6 : Is G 8 (mR M5 a0 10) := TYR.at hM5 ha0 10 8 rfl (by decide)
      refine p_aload_n (pc := 40) cx dX10_isSquare_40 rfl 2 rfl ?_
      refine p_aload_n (pc := 41) cx dX10_isSquare_41 rfl 2 rfl ?_
      refine p_callSv (pc := 42) [.ref (mR M5 a0 10), .ref r5, .ref r5] cx (c_X7_product cx.2.2.2.2.2.2 hM5 hr_6 hi5 hi5 hw) cf_X7_product cv_X7_product t2_191 ⟨rfl, rfl⟩ ⟨Nat.le_of_ble_eq_true rfl, Nat.le_of_ble_eq_true rfl⟩ rfl rfl (Nat.le_of_ble_eq_true rfl) dX10_isSquare_42 (fun M7 hw hM7 => ?_)
      refine p_aload_n (pc := 45) cx dX10_isSquare_45 rfl 0 rfl ?_
      refine gf_9_10 (pc := 46) cx ha0 t2_83 dX10_isSquare_46 ?_
      have hr_8 : Is G 8 (mR M7 a0 10) := TYR.at hM7 ha0 10 8 rfl (by decide)
      refine p_aload_n (pc := 49) cx dX10_isSquare_49 rfl 1 rfl ?_
      refine p_callSi (pc := 50) [.ref (mR M7 a0 10), .ref (mR M1 (mR M1 a0 1) a1.toNatClampNeg)] cx (c_X7_order cx.2.2.2.2.2.2 hM7 hr_8 hr_3 hw) cf_X7_order cv_X7_order t3_35 ⟨rfl, rfl⟩ ⟨Nat.le_of_ble_eq_true rfl, Nat.le_of_ble_eq_true rfl⟩ rfl rfl (Nat.le_of_ble_eq_true rfl) dX10_isSquare_50 (fun r9 M9 hw hM9 => ?_)
      refine p_if_ne (pc := 53) (tgt := 60) cx dX10_isSquare_53 (by decide) (fun hc => ?_) (fun hc => ?_)
      · have hw := hw.1 hc
        refine p_iconst (pc := 60) (v := 0) cx dX10_isSquare_60 (by decide) ?_
        exact p_iret (pc := 61) cx hr hlk dX10_isSquare_61 hM9 hw
      · have hw := hw.2 hc
        refine p_iconst (pc := 56) (v := 1) cx dX10_isSquare_56 (by decide) ?_
        refine p_goto (pc := 57) (tgt := 61) cx dX10_isSquare_57 (by decide) ?_
        exact p_iret (pc := 61) cx hr hlk dX10_isSquare_61 hM9 hw
    · have hw := hw.2 hc
      refine p_iconst (pc := 24) (v := 0) cx dX10_isSquare_24 (by decide) ?_
      exact p_iret (pc := 25) cx hr hlk dX10_isSquare_25 hM1 hw
  · have hw := hw.2 hc
    refine p_iconst (pc := 8) (v := 3) cx dX10_isSquare_8 (by decide) ?_
    exact p_iret (pc := 9) cx hr hlk dX10_isSquare_9 hM1 hw
set_option maxHeartbeats 4000000 in
set_option maxRecDepth 100000 in
theorem c_X10_jacobi {l : Launch} {D : va_G} {G : SH} (hND : ND G) {a0 : Nat} {a1 : Int32} {a2 : Int32} {M : MS} {Qp : Int32 → MS → Prop} (hT : TYR G M.2.2.1) (ha0 : Is G 9 a0) (hw : w_X10_jacobi G a0 a1 a2 M Qp) : MeI l D G yX10_jacobi (Cond.code yX10_jacobi cX10_jacobi 4 (some .int) :: GW) rm_X10_jacobi [.ref a0, .int a1, .int a2] M Qp := by
  unfold MeI
  refine p_method (by decide) rfl (Nat.le_of_ble_eq_true rfl) hND ?_
  intro p e s m args below meth c cx hr hlk
  have cx : CX p s m args c D G cX10_jacobi 4 RX10 := cx
  unfold w_X10_jacobi at hw
  refine p_aload_n (pc := 0) cx dX10_jacobi_0 rfl 0 rfl ?_
  refine p_iload_n (pc := 1) cx dX10_jacobi_1 rfl 1 rfl ?_
  refine p_iload_n (pc := 2) cx dX10_jacobi_2 rfl 2 rfl ?_
  refine p_callVi (pc := 3) [.int a1, .int a2] cx (c_X10_areRegisters cx.2.2.2.2.2.2 hT ha0 hw) cf_X10_areRegisters cv_X10_areRegisters t2_160 ha0 ⟨by decide, rfl, rfl⟩ ⟨rfl, rfl⟩ ⟨Nat.le_of_ble_eq_true rfl, Nat.le_of_ble_eq_true rfl⟩ rfl rfl (Nat.le_of_ble_eq_true rfl) dX10_jacobi_3 (fun r1 M1 hw hM1 => ?_)
  refine p_if_ne (pc := 6) (tgt := 11) cx dX10_jacobi_6 (by decide) (fun hc => ?_) (fun hc => ?_)
  · have hw := hw.1 hc
    refine p_aload_n (pc := 11) cx dX10_jacobi_11 rfl 0 rfl ?_
    refine gf_9_1 (pc := 12) cx ha0 t2_74 dX10_jacobi_12 ?_
    have hr_2 : Is G 13 (mR M1 a0 1) := TYR.at hM1 ha0 1 13 rfl (by decide)
    refine p_iload_n (pc := 15) cx dX10_jacobi_15 rfl 2 rfl ?_
    have hr_3 : Is G 8 (mR M1 (mR M1 a0 1) a2.toNatClampNeg) := TYR.el hM1 hr_2 hw.1
    refine p_aald (pc := 16) cx hr_2 hw.1 dX10_jacobi_16 ?_
    have hw := hw.2
    refine p_astore_n (pc := 17) (lv' := [(0, .ref a0), (1, .int a1), (3, .ref (mR M1 (mR M1 a0 1) a2.toNatClampNeg))]) cx dX10_jacobi_17 rfl (by decide) [1, 2, 0] rfl ?_
    refine p_aload_n (pc := 18) cx dX10_jacobi_18 rfl 2 rfl ?_
    refine p_callVi (pc := 19) [] cx (c_X9_isAboveZero cx.2.2.2.2.2.2 hM1 hr_3 hw) cf_X9_isAboveZero cv_X9_isAboveZero t3_133 hr_3 ⟨by decide, rfl, rfl⟩ ⟨rfl, rfl⟩ ⟨Nat.le_of_ble_eq_true rfl, Nat.le_of_ble_eq_true rfl⟩ rfl rfl (Nat.le_of_ble_eq_true rfl) dX10_jacobi_19 (fun r4 M4 hw hM4 => ?_)
    refine p_if_eq (pc := 22) (tgt := 32) cx dX10_jacobi_22 (by decide) (fun hc => ?_) (fun hc => ?_)
    · have hw := hw.1 hc
      refine p_iconst (pc := 32) (v := 2) cx dX10_jacobi_32 (by decide) ?_
      exact p_iret (pc := 33) cx hr hlk dX10_jacobi_33 hM4 hw
    · have hw := hw.2 hc
      refine p_aload_n (pc := 25) cx dX10_jacobi_25 rfl 2 rfl ?_
      refine p_callVi (pc := 26) [] cx (c_X9_isOdd cx.2.2.2.2.2.2 hM4 hr_3 hw) cf_X9_isOdd cv_X9_isOdd t3_206 hr_3 ⟨by decide, rfl, rfl⟩ ⟨rfl, rfl⟩ ⟨Nat.le_of_ble_eq_true rfl, Nat.le_of_ble_eq_true rfl⟩ rfl rfl (Nat.le_of_ble_eq_true rfl) dX10_jacobi_26 (fun r5 M5 hw hM5 => ?_)
      refine p_if_ne (pc := 29) (tgt := 34) cx dX10_jacobi_29 (by decide) (fun hc => ?_) (fun hc => ?_)
      · have hw := hw.1 hc
        refine p_aload_n (pc := 34) cx dX10_jacobi_34 rfl 0 rfl ?_
        refine gf_9_6 (pc := 35) cx ha0 t2_79 dX10_jacobi_35 ?_
        have hr_6 : Is G 5 (mR M5 a0 6) := TYR.at hM5 ha0 6 5 rfl (by decide)
        refine p_aload_n (pc := 38) cx dX10_jacobi_38 rfl 0 rfl ?_
        refine gf_9_1 (pc := 39) cx ha0 t2_74 dX10_jacobi_39 ?_
        have hr_7 : Is G 13 (mR M5 a0 1) := TYR.at hM5 ha0 1 13 rfl (by decide)
        refine p_iload_n (pc := 42) cx dX10_jacobi_42 rfl 1 rfl ?_
        have hr_8 : Is G 8 (mR M5 (mR M5 a0 1) a1.toNatClampNeg) := TYR.el hM5 hr_7 hw.1
        refine p_aald (pc := 43) cx hr_7 hw.1 dX10_jacobi_43 ?_
        have hw := hw.2
        refine p_aload_n (pc := 44) cx dX10_jacobi_44 rfl 2 rfl ?_
        refine p_callVi (pc := 45) [.ref (mR M5 (mR M5 a0 1) a1.toNatClampNeg), .ref (mR M1 (mR M1 a0 1) a2.toNatClampNeg)] cx (c_X5_symbol cx.2.2.2.2.2.2 hM5 hr_6 hr_8 hr_3 hw) cf_X5_symbol cv_X5_symbol t3_210 hr_6 ⟨by decide, rfl, rfl⟩ ⟨rfl, rfl⟩ ⟨Nat.le_of_ble_eq_true rfl, Nat.le_of_ble_eq_true rfl⟩ rfl rfl (Nat.le_of_ble_eq_true rfl) dX10_jacobi_45 (fun r9 M9 hw hM9 => ?_)
        exact p_iret (pc := 48) cx hr hlk dX10_jacobi_48 hM9 hw
      · have hw := hw.2 hc
        refine p_iconst (pc := 32) (v := 2) cx dX10_jacobi_32 (by decide) ?_
        exact p_iret (pc := 33) cx hr hlk dX10_jacobi_33 hM5 hw
  · have hw := hw.2 hc
    refine p_iconst (pc := 9) (v := 3) cx dX10_jacobi_9 (by decide) ?_
    exact p_iret (pc := 10) cx hr hlk dX10_jacobi_10 hM1 hw
set_option maxHeartbeats 4000000 in
set_option maxRecDepth 100000 in
theorem c_X10_feed {l : Launch} {D : va_G} {G : SH} (hND : ND G) {a0 : Nat} {a1 : Int32} {a2 : Int32} {a3 : Int32} {a4 : Int32} {a5 : Int32} {M : MS} {Qp : Int32 → MS → Prop} (hT : TYR G M.2.2.1) (ha0 : Is G 9 a0) (hw : w_X10_feed G a0 a1 a2 a3 a4 a5 M Qp) : MeI l D G yX10_feed (Cond.code yX10_feed cX10_feed 6 (some .int) :: GW) rm_X10_feed [.ref a0, .int a1, .int a2, .int a3, .int a4, .int a5] M Qp := by
  unfold MeI
  refine p_method (by decide) rfl (Nat.le_of_ble_eq_true rfl) hND ?_
  intro p e s m args below meth c cx hr hlk
  have cx : CX p s m args c D G cX10_feed 6 RX10 := cx
  unfold w_X10_feed at hw
  refine p_aload_n (pc := 0) cx dX10_feed_0 rfl 0 rfl ?_
  refine gf_9_8 (pc := 1) cx ha0 t2_81 dX10_feed_1 ?_
  have hr_1 : Is G 7 (mR M a0 8) := TYR.at hT ha0 8 7 rfl (by decide)
  refine gf_7_0 (pc := 4) cx hr_1 t2_43 dX10_feed_4 ?_
  refine p_sipush (pc := 7) (v := 980) cx dX10_feed_7 (by decide) ?_
  refine p_icmp_le (pc := 10) (tgt := 15) cx dX10_feed_10 (by decide) (fun hc => ?_) (fun hc => ?_)
  · have hw := hw.1 hc
    refine p_aload_n (pc := 15) cx dX10_feed_15 rfl 0 rfl ?_
    refine gf_9_8 (pc := 16) cx ha0 t2_81 dX10_feed_16 ?_
    have hr_2 : Is G 7 (mR M a0 8) := TYR.at hT ha0 8 7 rfl (by decide)
    refine p_iload_n (pc := 19) cx dX10_feed_19 rfl 1 rfl ?_
    refine p_callVv (pc := 20) [.int a1] cx (c_X8_append cx.2.2.2.2.2.2 hT hr_2 hw) cf_X8_append cv_X8_append t3_225 hr_2 ⟨by decide, rfl, rfl⟩ ⟨rfl, rfl⟩ ⟨Nat.le_of_ble_eq_true rfl, Nat.le_of_ble_eq_true rfl⟩ rfl rfl (Nat.le_of_ble_eq_true rfl) dX10_feed_20 (fun M3 hw hM3 => ?_)
    refine p_aload_n (pc := 23) cx dX10_feed_23 rfl 0 rfl ?_
    refine gf_9_8 (pc := 24) cx ha0 t2_81 dX10_feed_24 ?_
    have hr_4 : Is G 7 (mR M3 a0 8) := TYR.at hM3 ha0 8 7 rfl (by decide)
    refine p_iload_n (pc := 27) cx dX10_feed_27 rfl 2 rfl ?_
    refine p_callVv (pc := 28) [.int a2] cx (c_X8_append cx.2.2.2.2.2.2 hM3 hr_4 hw) cf_X8_append cv_X8_append t3_225 hr_4 ⟨by decide, rfl, rfl⟩ ⟨rfl, rfl⟩ ⟨Nat.le_of_ble_eq_true rfl, Nat.le_of_ble_eq_true rfl⟩ rfl rfl (Nat.le_of_ble_eq_true rfl) dX10_feed_28 (fun M5 hw hM5 => ?_)
    refine p_aload_n (pc := 31) cx dX10_feed_31 rfl 0 rfl ?_
    refine gf_9_8 (pc := 32) cx ha0 t2_81 dX10_feed_32 ?_
    have hr_6 : Is G 7 (mR M5 a0 8) := TYR.at hM5 ha0 8 7 rfl (by decide)
    refine p_iload_n (pc := 35) cx dX10_feed_35 rfl 3 rfl ?_
    refine p_callVv (pc := 36) [.int a3] cx (c_X8_append cx.2.2.2.2.2.2 hM5 hr_6 hw) cf_X8_append cv_X8_append t3_225 hr_6 ⟨by decide, rfl, rfl⟩ ⟨rfl, rfl⟩ ⟨Nat.le_of_ble_eq_true rfl, Nat.le_of_ble_eq_true rfl⟩ rfl rfl (Nat.le_of_ble_eq_true rfl) dX10_feed_36 (fun M7 hw hM7 => ?_)
    refine p_aload_n (pc := 39) cx dX10_feed_39 rfl 0 rfl ?_
    refine gf_9_8 (pc := 40) cx ha0 t2_81 dX10_feed_40 ?_
    have hr_8 : Is G 7 (mR M7 a0 8) := TYR.at hM7 ha0 8 7 rfl (by decide)
    refine p_iload (pc := 43) cx dX10_feed_43 4 rfl ?_
    refine p_callVv (pc := 45) [.int a4] cx (c_X8_append cx.2.2.2.2.2.2 hM7 hr_8 hw) cf_X8_append cv_X8_append t3_225 hr_8 ⟨by decide, rfl, rfl⟩ ⟨rfl, rfl⟩ ⟨Nat.le_of_ble_eq_true rfl, Nat.le_of_ble_eq_true rfl⟩ rfl rfl (Nat.le_of_ble_eq_true rfl) dX10_feed_45 (fun M9 hw hM9 => ?_)
    refine p_aload_n (pc := 48) cx dX10_feed_48 rfl 0 rfl ?_
    refine gf_9_8 (pc := 49) cx ha0 t2_81 dX10_feed_49 ?_
    have hr_10 : Is G 7 (mR M9 a0 8) := TYR.at hM9 ha0 8 7 rfl (by decide)
    refine p_iload (pc := 52) cx dX10_feed_52 5 rfl ?_
    refine p_callVv (pc := 54) [.int a5] cx (c_X8_append cx.2.2.2.2.2.2 hM9 hr_10 hw) cf_X8_append cv_X8_append t3_225 hr_10 ⟨by decide, rfl, rfl⟩ ⟨rfl, rfl⟩ ⟨Nat.le_of_ble_eq_true rfl, Nat.le_of_ble_eq_true rfl⟩ rfl rfl (Nat.le_of_ble_eq_true rfl) dX10_feed_54 (fun M11 hw hM11 => ?_)
    refine p_aload_n (pc := 57) cx dX10_feed_57 rfl 0 rfl ?_
    refine gf_9_8 (pc := 58) cx ha0 t2_81 dX10_feed_58 ?_
    have hr_12 : Is G 7 (mR M11 a0 8) := TYR.at hM11 ha0 8 7 rfl (by decide)
    refine gf_7_0 (pc := 61) cx hr_12 t2_43 dX10_feed_61 ?_
    exact p_iret (pc := 64) cx hr hlk dX10_feed_64 hM11 hw
  · have hw := hw.2 hc
    refine p_iconst (pc := 13) (v := (-1)) cx dX10_feed_13 (by decide) ?_
    exact p_iret (pc := 14) cx hr hlk dX10_feed_14 hT hw
set_option maxHeartbeats 4000000 in
set_option maxRecDepth 100000 in
theorem c_X10_end {l : Launch} {D : va_G} {G : SH} (hND : ND G) {a0 : Nat} {a1 : Int32} {M : MS} {Qp : Int32 → MS → Prop} (hT : TYR G M.2.2.1) (ha0 : Is G 9 a0) (hw : w_X10_end G a0 a1 M Qp) : MeI l D G yX10_end (Cond.code yX10_end cX10_end 2 (some .boolean) :: GW) rm_X10_end [.ref a0, .int a1] M Qp := by
  unfold MeI
  refine p_method (by decide) rfl (Nat.le_of_ble_eq_true rfl) hND ?_
  intro p e s m args below meth c cx hr hlk
  have cx : CX p s m args c D G cX10_end 2 RX10 := cx
  unfold w_X10_end at hw
  refine p_iload_n (pc := 0) cx dX10_end_0 rfl 1 rfl ?_
  refine p_if_lt (pc := 1) (tgt := 15) cx dX10_end_1 (by decide) (fun hc => ?_) (fun hc => ?_)
  · have hw := hw.1 hc
    refine p_iconst (pc := 15) (v := 0) cx dX10_end_15 (by decide) ?_
    exact p_zret (pc := 16) cx hr hlk dX10_end_16 (by decide) hT hw
  · have hw := hw.2 hc
    refine p_iload_n (pc := 4) cx dX10_end_4 rfl 1 rfl ?_
    refine p_aload_n (pc := 5) cx dX10_end_5 rfl 0 rfl ?_
    refine gf_9_8 (pc := 6) cx ha0 t2_81 dX10_end_6 ?_
    have hr_1 : Is G 7 (mR M a0 8) := TYR.at hT ha0 8 7 rfl (by decide)
    refine gf_7_0 (pc := 9) cx hr_1 t2_43 dX10_end_9 ?_
    refine p_icmp_le (pc := 12) (tgt := 17) cx dX10_end_12 (by decide) (fun hc => ?_) (fun hc => ?_)
    · have hw := hw.1 hc
      refine p_aload_n (pc := 17) cx dX10_end_17 rfl 0 rfl ?_
      refine gf_9_8 (pc := 18) cx ha0 t2_81 dX10_end_18 ?_
      have hr_2 : Is G 7 (mR M a0 8) := TYR.at hT ha0 8 7 rfl (by decide)
      refine p_iload_n (pc := 21) cx dX10_end_21 rfl 1 rfl ?_
      refine pf_7_0 (pc := 22) cx hr_2 t2_43 dX10_end_22 ?_
      refine p_mem (fun M3 eM3 => ?_)
      have hw := hw M3 eM3
      have hM3 : TYR G M3.2.2.1 := by rw [eM3]; exact hT
      refine p_iconst (pc := 25) (v := 1) cx dX10_end_25 (by decide) ?_
      exact p_zret (pc := 26) cx hr hlk dX10_end_26 (by decide) hM3 hw
    · have hw := hw.2 hc
      refine p_iconst (pc := 15) (v := 0) cx dX10_end_15 (by decide) ?_
      exact p_zret (pc := 16) cx hr hlk dX10_end_16 (by decide) hT hw
set_option maxHeartbeats 4000000 in
set_option maxRecDepth 100000 in
theorem x_X10_read_45 {p : Program} {l : Launch} {e : Env} {s : State} {m : MethodId} {args : Array Value} {below : List Frame} {meth : Method} {c : Code} {D : va_G} {G : SH} {Qp : Int32 → MS → Prop}  (cx : CX p s m args c D G cX10_read 4 RX10) (hr : meth.sig.returnType = (some .int)) (hlk : meth.locks = false)  (v0 : Nat) (v1 : Int32) (v2 : Int32) (s0 : Int32) (M : MS) (hT : TYR G M.2.2.1) (hv0 : Is G 9 v0) (hw : w_X10_read_45 G Qp v0 v1 v2 s0 M) : PW p l e rm_X10_read s m args below meth c D G 4 (MQ below (va_Qi Qp (POST D G) (AG G)) args s 0 0 (AG G)) 45 [(0, .ref v0), (1, .int v1), (2, .int v2)] [.int s0] M := by
  unfold w_X10_read_45 at hw
  refine p_istore_n (pc := 45) (lv' := [(0, .ref v0), (1, .int v1), (2, .int v2), (3, .int s0)]) cx dX10_read_45 rfl (by decide) [1, 2, 3, 0] rfl ?_
  refine p_aload_n (pc := 46) cx dX10_read_46 rfl 0 rfl ?_
  refine gf_9_8 (pc := 47) cx hv0 t2_81 dX10_read_47 ?_
  have hr_4 : Is G 7 (mR M v0 8) := TYR.at hT hv0 8 7 rfl (by decide)
  refine p_iconst (pc := 50) (v := 0) cx dX10_read_50 (by decide) ?_
  refine pf_7_0 (pc := 51) cx hr_4 t2_43 dX10_read_51 ?_
  refine p_mem (fun M5 eM5 => ?_)
  have hw := hw M5 eM5
  have hM5 : TYR G M5.2.2.1 := by rw [eM5]; exact hT
  refine p_iload_n (pc := 54) cx dX10_read_54 rfl 2 rfl ?_
  refine p_if_ne (pc := 55) (tgt := 60) cx dX10_read_55 (by decide) (fun hc => ?_) (fun hc => ?_)
  · have hw := hw.1 hc
    refine p_iload_n (pc := 60) cx dX10_read_60 rfl 3 rfl ?_
    refine p_if_eq (pc := 61) (tgt := 76) cx dX10_read_61 (by decide) (fun hc => ?_) (fun hc => ?_)
    · have hw := hw.1 hc
      refine p_iconst (pc := 76) (v := 1) cx dX10_read_76 (by decide) ?_
      exact p_iret (pc := 77) cx hr hlk dX10_read_77 hM5 hw
    · have hw := hw.2 hc
      refine p_aload_n (pc := 64) cx dX10_read_64 rfl 0 rfl ?_
      refine p_iload_n (pc := 65) cx dX10_read_65 rfl 1 rfl ?_
      refine p_aload_n (pc := 66) cx dX10_read_66 rfl 0 rfl ?_
      refine gf_9_10 (pc := 67) cx hv0 t2_83 dX10_read_67 ?_
      have hr_6 : Is G 8 (mR M5 v0 10) := TYR.at hM5 hv0 10 8 rfl (by decide)
      refine p_callVi (pc := 70) [.int v1, .ref (mR M5 v0 10)] cx (c_X10_put cx.2.2.2.2.2.2 hM5 hv0 hr_6 hw) cf_X10_put cv_X10_put t2_141 hv0 ⟨by decide, rfl, rfl⟩ ⟨rfl, rfl⟩ ⟨Nat.le_of_ble_eq_true rfl, Nat.le_of_ble_eq_true rfl⟩ rfl rfl (Nat.le_of_ble_eq_true rfl) dX10_read_70 (fun r7 M7 hw hM7 => ?_)
      refine p_goto (pc := 73) (tgt := 77) cx dX10_read_73 (by decide) ?_
      exact p_iret (pc := 77) cx hr hlk dX10_read_77 hM7 hw
  · have hw := hw.2 hc
    refine p_iconst (pc := 58) (v := 2) cx dX10_read_58 (by decide) ?_
    exact p_iret (pc := 59) cx hr hlk dX10_read_59 hM5 hw
set_option maxHeartbeats 4000000 in
set_option maxRecDepth 100000 in
theorem x_X10_read_44 {p : Program} {l : Launch} {e : Env} {s : State} {m : MethodId} {args : Array Value} {below : List Frame} {meth : Method} {c : Code} {D : va_G} {G : SH} {Qp : Int32 → MS → Prop}  (cx : CX p s m args c D G cX10_read 4 RX10) (hr : meth.sig.returnType = (some .int)) (hlk : meth.locks = false)  (v0 : Nat) (v1 : Int32) (v2 : Int32) (M : MS) (hT : TYR G M.2.2.1) (hv0 : Is G 9 v0) (hw : w_X10_read_44 G Qp v0 v1 v2 M) : PW p l e rm_X10_read s m args below meth c D G 4 (MQ below (va_Qi Qp (POST D G) (AG G)) args s 0 0 (AG G)) 44 [(0, .ref v0), (1, .int v1), (2, .int v2)] [] M := by
  unfold w_X10_read_44 at hw
  refine p_iconst (pc := 44) (v := 0) cx dX10_read_44 (by decide) ?_
  exact x_X10_read_45 cx hr hlk v0 v1 v2 0 M hT hv0 hw
set_option maxHeartbeats 4000000 in
set_option maxRecDepth 100000 in
theorem c_X10_read {l : Launch} {D : va_G} {G : SH} (hND : ND G) {a0 : Nat} {a1 : Int32} {M : MS} {Qp : Int32 → MS → Prop} (hT : TYR G M.2.2.1) (ha0 : Is G 9 a0) (hw : w_X10_read G a0 a1 M Qp) : MeI l D G yX10_read (Cond.code yX10_read cX10_read 4 (some .int) :: GW) rm_X10_read [.ref a0, .int a1] M Qp := by
  unfold MeI
  refine p_method (by decide) rfl (Nat.le_of_ble_eq_true rfl) hND ?_
  intro p e s m args below meth c cx hr hlk
  have cx : CX p s m args c D G cX10_read 4 RX10 := cx
  unfold w_X10_read at hw
  refine p_aload_n (pc := 0) cx dX10_read_0 rfl 0 rfl ?_
  refine p_iload_n (pc := 1) cx dX10_read_1 rfl 1 rfl ?_
  refine p_callVi (pc := 2) [.int a1] cx (c_X10_isRegister cx.2.2.2.2.2.2 hT ha0 hw) cf_X10_isRegister cv_X10_isRegister t2_120 ha0 ⟨by decide, rfl, rfl⟩ ⟨rfl, rfl⟩ ⟨Nat.le_of_ble_eq_true rfl, Nat.le_of_ble_eq_true rfl⟩ rfl rfl (Nat.le_of_ble_eq_true rfl) dX10_read_2 (fun r1 M1 hw hM1 => ?_)
  refine p_if_ne (pc := 5) (tgt := 10) cx dX10_read_5 (by decide) (fun hc => ?_) (fun hc => ?_)
  · have hw := hw.1 hc
    refine p_aload_n (pc := 10) cx dX10_read_10 rfl 0 rfl ?_
    refine gf_9_8 (pc := 11) cx ha0 t2_81 dX10_read_11 ?_
    have hr_2 : Is G 7 (mR M1 a0 8) := TYR.at hM1 ha0 8 7 rfl (by decide)
    refine p_callVi (pc := 14) [] cx (c_X8_isDecimal cx.2.2.2.2.2.2 hM1 hr_2 hw) cf_X8_isDecimal cv_X8_isDecimal t3_237 hr_2 ⟨by decide, rfl, rfl⟩ ⟨rfl, rfl⟩ ⟨Nat.le_of_ble_eq_true rfl, Nat.le_of_ble_eq_true rfl⟩ rfl rfl (Nat.le_of_ble_eq_true rfl) dX10_read_14 (fun r3 M3 hw hM3 => ?_)
    refine p_istore_n (pc := 17) (lv' := [(0, .ref a0), (1, .int a1), (2, .int r3)]) cx dX10_read_17 rfl (by decide) [1, 2, 0] rfl ?_
    refine p_iload_n (pc := 18) cx dX10_read_18 rfl 2 rfl ?_
    refine p_if_eq (pc := 19) (tgt := 44) cx dX10_read_19 (by decide) (fun hc => ?_) (fun hc => ?_)
    · have hw := hw.1 hc
      exact x_X10_read_44 cx hr hlk a0 a1 r3 M3 hM3 ha0 hw
    · have hw := hw.2 hc
      refine p_aload_n (pc := 22) cx dX10_read_22 rfl 0 rfl ?_
      refine gf_9_8 (pc := 23) cx ha0 t2_81 dX10_read_23 ?_
      have hr_8 : Is G 7 (mR M3 a0 8) := TYR.at hM3 ha0 8 7 rfl (by decide)
      refine p_aload_n (pc := 26) cx dX10_read_26 rfl 0 rfl ?_
      refine gf_9_10 (pc := 27) cx ha0 t2_83 dX10_read_27 ?_
      have hr_9 : Is G 8 (mR M3 a0 10) := TYR.at hM3 ha0 10 8 rfl (by decide)
      refine p_aload_n (pc := 30) cx dX10_read_30 rfl 0 rfl ?_
      refine gf_9_0 (pc := 31) cx ha0 t2_73 dX10_read_31 ?_
      refine p_callVi (pc := 34) [.ref (mR M3 a0 10), .int (mI M3 a0 0)] cx (c_X8_parse cx.2.2.2.2.2.2 hM3 hr_8 hr_9 hw) cf_X8_parse cv_X8_parse t4_9 hr_8 ⟨by decide, rfl, rfl⟩ ⟨rfl, rfl⟩ ⟨Nat.le_of_ble_eq_true rfl, Nat.le_of_ble_eq_true rfl⟩ rfl rfl (Nat.le_of_ble_eq_true rfl) dX10_read_34 (fun r10 M10 hw hM10 => ?_)
      refine p_if_eq (pc := 37) (tgt := 44) cx dX10_read_37 (by decide) (fun hc => ?_) (fun hc => ?_)
      · have hw := hw.1 hc
        exact x_X10_read_44 cx hr hlk a0 a1 r3 M10 hM10 ha0 hw
      · have hw := hw.2 hc
        refine p_iconst (pc := 40) (v := 1) cx dX10_read_40 (by decide) ?_
        refine p_goto (pc := 41) (tgt := 45) cx dX10_read_41 (by decide) ?_
        exact x_X10_read_45 cx hr hlk a0 a1 r3 1 M10 hM10 ha0 hw
  · have hw := hw.2 hc
    refine p_iconst (pc := 8) (v := 3) cx dX10_read_8 (by decide) ?_
    exact p_iret (pc := 9) cx hr hlk dX10_read_9 hM1 hw
set_option maxHeartbeats 4000000 in
set_option maxRecDepth 100000 in
theorem c_X10_octet {l : Launch} {D : va_G} {G : SH} (hND : ND G) {a0 : Nat} {a1 : Int32} {M : MS} {Qp : Int32 → MS → Prop} (hT : TYR G M.2.2.1) (ha0 : Is G 9 a0) (hw : w_X10_octet G a0 a1 M Qp) : MeI l D G yX10_octet (Cond.code yX10_octet cX10_octet 2 (some .int) :: GW) rm_X10_octet [.ref a0, .int a1] M Qp := by
  unfold MeI
  refine p_method (by decide) rfl (Nat.le_of_ble_eq_true rfl) hND ?_
  intro p e s m args below meth c cx hr hlk
  have cx : CX p s m args c D G cX10_octet 2 RX10 := cx
  unfold w_X10_octet at hw
  refine p_iload_n (pc := 0) cx dX10_octet_0 rfl 1 rfl ?_
  refine p_if_lt (pc := 1) (tgt := 15) cx dX10_octet_1 (by decide) (fun hc => ?_) (fun hc => ?_)
  · have hw := hw.1 hc
    refine p_iconst (pc := 15) (v := (-1)) cx dX10_octet_15 (by decide) ?_
    refine p_goto (pc := 16) (tgt := 28) cx dX10_octet_16 (by decide) ?_
    exact p_iret (pc := 28) cx hr hlk dX10_octet_28 hT hw
  · have hw := hw.2 hc
    refine p_iload_n (pc := 4) cx dX10_octet_4 rfl 1 rfl ?_
    refine p_aload_n (pc := 5) cx dX10_octet_5 rfl 0 rfl ?_
    refine gf_9_9 (pc := 6) cx ha0 t2_82 dX10_octet_6 ?_
    have hr_1 : Is G 4 (mR M a0 9) := TYR.at hT ha0 9 4 rfl (by decide)
    refine gf_4_0 (pc := 9) cx hr_1 t2_61 dX10_octet_9 ?_
    refine p_icmp_lt (pc := 12) (tgt := 19) cx dX10_octet_12 (by decide) (fun hc => ?_) (fun hc => ?_)
    · have hw := hw.1 hc
      refine p_aload_n (pc := 19) cx dX10_octet_19 rfl 0 rfl ?_
      refine gf_9_9 (pc := 20) cx ha0 t2_82 dX10_octet_20 ?_
      have hr_2 : Is G 4 (mR M a0 9) := TYR.at hT ha0 9 4 rfl (by decide)
      refine gf_4_1 (pc := 23) cx hr_2 t2_63 dX10_octet_23 ?_
      have hr_3 : Is G 11 (mR M (mR M a0 9) 1) := TYR.at hT hr_2 1 11 rfl (by decide)
      refine p_iload_n (pc := 26) cx dX10_octet_26 rfl 1 rfl ?_
      refine p_bald (pc := 27) cx hr_3 hw.1 dX10_octet_27 ?_
      have hw := hw.2
      exact p_iret (pc := 28) cx hr hlk dX10_octet_28 hT hw
    · have hw := hw.2 hc
      refine p_iconst (pc := 15) (v := (-1)) cx dX10_octet_15 (by decide) ?_
      refine p_goto (pc := 16) (tgt := 28) cx dX10_octet_16 (by decide) ?_
      exact p_iret (pc := 28) cx hr hlk dX10_octet_28 hT hw
