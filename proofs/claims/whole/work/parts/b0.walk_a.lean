set_option maxHeartbeats 4000000 in
set_option maxRecDepth 100000 in
theorem x_X9_keep_17 {p : Program} {l : Launch} {e : Env} {s : State} {m : MethodId} {args : Array Value} {below : List Frame} {meth : Method} {c : Code} {D : va_G} {G : SH} {Qp : MS → Prop}  (cx : CX p s m args c D G cX9_keep 2 RX9) (hr : meth.sig.returnType = none) (hlk : meth.locks = false)  : ∀ (n : Nat) (v0 : Nat) (M : MS), TYR G M.2.2.1 → Is G 8 v0 → w_X9_keep_17 G Qp n v0 M → PW p l e rm_X9_keep s m args below meth c D G 2 (MQ below (va_Qv Qp (POST D G) (AG G)) args s 0 0 (AG G)) 17 [(0, .ref v0)] [] M := by
  intro n
  induction n with
  | zero =>
    intro v0 M hT hv0 hw
    exact hw.elim
  | succ n ih =>
    intro v0 M hT hv0 hw
    rw [w_X9_keep_17] at hw
    refine p_aload_n (pc := 17) cx dX9_keep_17 rfl 0 rfl ?_
    refine gf_8_1 (pc := 18) cx hv0 t1_57 dX9_keep_18 ?_
    refine p_if_le (pc := 21) (tgt := 51) cx dX9_keep_21 (by decide) (fun hc => ?_) (fun hc => ?_)
    · have hw := hw.1 hc
      refine p_aload_n (pc := 51) cx dX9_keep_51 rfl 0 rfl ?_
      refine p_iconst (pc := 52) (v := 0) cx dX9_keep_52 (by decide) ?_
      refine pf_8_2 (pc := 53) (by decide) cx hv0 t1_66 dX9_keep_53 ?_
      refine p_mem (fun M5 eM5 => ?_)
      have hw := hw M5 eM5
      have hM5 : TYR G M5.2.2.1 := by rw [eM5]; exact hT
      exact p_vret (pc := 56) cx hr hlk dX9_keep_56 hM5 hw
    · have hw := hw.2 hc
      refine p_aload_n (pc := 24) cx dX9_keep_24 rfl 0 rfl ?_
      refine gf_8_0 (pc := 25) cx hv0 t1_43 dX9_keep_25 ?_
      have hr_6 : Is G 12 (mR M v0 0) := TYR.at hT hv0 0 12 rfl (by decide)
      refine p_aload_n (pc := 28) cx dX9_keep_28 rfl 0 rfl ?_
      refine gf_8_1 (pc := 29) cx hv0 t1_57 dX9_keep_29 ?_
      refine p_iconst (pc := 32) (v := 1) cx dX9_keep_32 (by decide) ?_
      refine p_isub (pc := 33) cx dX9_keep_33 ?_
      refine p_iald (pc := 34) cx hr_6 hw.1 dX9_keep_34 ?_
      have hw := hw.2
      refine p_if_ne (pc := 35) (tgt := 51) cx dX9_keep_35 (by decide) (fun hc => ?_) (fun hc => ?_)
      · have hw := hw.1 hc
        refine p_aload_n (pc := 51) cx dX9_keep_51 rfl 0 rfl ?_
        refine p_iconst (pc := 52) (v := 0) cx dX9_keep_52 (by decide) ?_
        refine pf_8_2 (pc := 53) (by decide) cx hv0 t1_66 dX9_keep_53 ?_
        refine p_mem (fun M7 eM7 => ?_)
        have hw := hw M7 eM7
        have hM7 : TYR G M7.2.2.1 := by rw [eM7]; exact hT
        exact p_vret (pc := 56) cx hr hlk dX9_keep_56 hM7 hw
      · have hw := hw.2 hc
        refine p_aload_n (pc := 38) cx dX9_keep_38 rfl 0 rfl ?_
        refine p_dup (pc := 39) cx dX9_keep_39 rfl ?_
        refine gf_8_1 (pc := 40) cx hv0 t1_57 dX9_keep_40 ?_
        refine p_iconst (pc := 43) (v := 1) cx dX9_keep_43 (by decide) ?_
        refine p_isub (pc := 44) cx dX9_keep_44 ?_
        refine pf_8_1 (pc := 45) cx hv0 t1_57 dX9_keep_45 ?_
        refine p_mem (fun M8 eM8 => ?_)
        have hw := hw M8 eM8
        have hM8 : TYR G M8.2.2.1 := by rw [eM8]; exact hT
        refine p_goto (pc := 48) (tgt := 17) cx dX9_keep_48 (by decide) ?_
        exact ih v0 M8 hM8 hv0 hw
set_option maxHeartbeats 4000000 in
set_option maxRecDepth 100000 in
theorem c_X9_keep {l : Launch} {D : va_G} {G : SH} (hND : ND G) {a0 : Nat} {a1 : Int32} {M : MS} {Qp : MS → Prop} (hT : TYR G M.2.2.1) (ha0 : Is G 8 a0) (hw : w_X9_keep G a0 a1 M Qp) : MeV l D G yX9_keep (Cond.code yX9_keep cX9_keep 2 none :: GW) rm_X9_keep [.ref a0, .int a1] M Qp := by
  unfold MeV
  refine p_method (by decide) rfl (Nat.le_of_ble_eq_true rfl) hND ?_
  intro p e s m args below meth c cx hr hlk
  have cx : CX p s m args c D G cX9_keep 2 RX9 := cx
  unfold w_X9_keep at hw
  refine p_aload_n (pc := 0) cx dX9_keep_0 rfl 0 rfl ?_
  refine p_iconst (pc := 1) (v := 0) cx dX9_keep_1 (by decide) ?_
  refine p_iload_n (pc := 2) cx dX9_keep_2 rfl 1 rfl ?_
  refine p_aload_n (pc := 3) cx dX9_keep_3 rfl 0 rfl ?_
  refine gf_8_0 (pc := 4) cx ha0 t1_43 dX9_keep_4 ?_
  have hr_1 : Is G 12 (mR M a0 0) := TYR.at hT ha0 0 12 rfl (by decide)
  refine p_alenI (pc := 7) cx hr_1 dX9_keep_7 ?_
  refine p_min (pc := 8) cx t2_7 t1_30 t1_2 t1_31 ⟨Nat.le_of_ble_eq_true rfl, Nat.le_of_ble_eq_true rfl⟩ dX9_keep_8 ?_
  refine p_topi (fun y_2 ey_2 => ?_)
  have hw := hw y_2 ey_2
  refine p_max (pc := 11) cx t1_42 t1_33 t1_2 t1_34 ⟨Nat.le_of_ble_eq_true rfl, Nat.le_of_ble_eq_true rfl⟩ dX9_keep_11 ?_
  refine p_topi (fun y_3 ey_3 => ?_)
  have hw := hw y_3 ey_3
  refine pf_8_1 (pc := 14) cx ha0 t1_57 dX9_keep_14 ?_
  refine p_mem (fun M4 eM4 => ?_)
  have hw := hw M4 eM4
  have hM4 : TYR G M4.2.2.1 := by rw [eM4]; exact hT
  obtain ⟨n1, hw⟩ := hw
  refine p_perm (lv' := [(0, .ref a0)]) [0] rfl ?_
  exact x_X9_keep_17 cx hr hlk n1 a0 M4 hM4 ha0 hw
set_option maxHeartbeats 4000000 in
set_option maxRecDepth 100000 in
theorem c_X9_limb {l : Launch} {D : va_G} {G : SH} (hND : ND G) {a0 : Nat} {a1 : Int32} {M : MS} {Qp : Int64 → MS → Prop} (hT : TYR G M.2.2.1) (ha0 : Is G 8 a0) (hw : w_X9_limb G a0 a1 M Qp) : MeL l D G yX9_limb (Cond.code yX9_limb cX9_limb 2 (some .long) :: GW) rm_X9_limb [.ref a0, .int a1] M Qp := by
  unfold MeL
  refine p_method (by decide) rfl (Nat.le_of_ble_eq_true rfl) hND ?_
  intro p e s m args below meth c cx hr hlk
  have cx : CX p s m args c D G cX9_limb 2 RX9 := cx
  unfold w_X9_limb at hw
  refine p_iload_n (pc := 0) cx dX9_limb_0 rfl 1 rfl ?_
  refine p_if_lt (pc := 1) (tgt := 12) cx dX9_limb_1 (by decide) (fun hc => ?_) (fun hc => ?_)
  · have hw := hw.1 hc
    refine p_lconst (pc := 12) (v := 0) cx dX9_limb_12 (by decide) ?_
    refine p_goto (pc := 13) (tgt := 27) cx dX9_limb_13 (by decide) ?_
    exact p_lret (pc := 27) cx hr hlk dX9_limb_27 hT hw
  · have hw := hw.2 hc
    refine p_iload_n (pc := 4) cx dX9_limb_4 rfl 1 rfl ?_
    refine p_aload_n (pc := 5) cx dX9_limb_5 rfl 0 rfl ?_
    refine gf_8_1 (pc := 6) cx ha0 t1_57 dX9_limb_6 ?_
    refine p_icmp_lt (pc := 9) (tgt := 16) cx dX9_limb_9 (by decide) (fun hc => ?_) (fun hc => ?_)
    · have hw := hw.1 hc
      refine p_aload_n (pc := 16) cx dX9_limb_16 rfl 0 rfl ?_
      refine gf_8_0 (pc := 17) cx ha0 t1_43 dX9_limb_17 ?_
      have hr_1 : Is G 12 (mR M a0 0) := TYR.at hT ha0 0 12 rfl (by decide)
      refine p_iload_n (pc := 20) cx dX9_limb_20 rfl 1 rfl ?_
      refine p_iald (pc := 21) cx hr_1 hw.1 dX9_limb_21 ?_
      have hw := hw.2
      refine p_i2l (pc := 22) cx dX9_limb_22 ?_
      refine p_ldc2 (pc := 23) cx dX9_limb_23 t2_132 ?_
      refine p_land (pc := 26) cx dX9_limb_26 ?_
      exact p_lret (pc := 27) cx hr hlk dX9_limb_27 hT hw
    · have hw := hw.2 hc
      refine p_lconst (pc := 12) (v := 0) cx dX9_limb_12 (by decide) ?_
      refine p_goto (pc := 13) (tgt := 27) cx dX9_limb_13 (by decide) ?_
      exact p_lret (pc := 27) cx hr hlk dX9_limb_27 hT hw
set_option maxHeartbeats 4000000 in
set_option maxRecDepth 100000 in
theorem c_X9_copy {l : Launch} {D : va_G} {G : SH} (hND : ND G) {a0 : Nat} {a1 : Nat} {M : MS} {Qp : MS → Prop} (hT : TYR G M.2.2.1) (ha0 : Is G 8 a0) (ha1 : Is G 8 a1) (hw : w_X9_copy G a0 a1 M Qp) : MeV l D G yX9_copy (Cond.code yX9_copy cX9_copy 3 none :: GW) rm_X9_copy [.ref a0, .ref a1] M Qp := by
  unfold MeV
  refine p_method (by decide) rfl (Nat.le_of_ble_eq_true rfl) hND ?_
  intro p e s m args below meth c cx hr hlk
  have cx : CX p s m args c D G cX9_copy 3 RX9 := cx
  unfold w_X9_copy at hw
  refine p_aload_n (pc := 0) cx dX9_copy_0 rfl 1 rfl ?_
  refine gf_8_1 (pc := 1) cx ha1 t1_57 dX9_copy_1 ?_
  refine p_aload_n (pc := 4) cx dX9_copy_4 rfl 0 rfl ?_
  refine gf_8_0 (pc := 5) cx ha0 t1_43 dX9_copy_5 ?_
  have hr_1 : Is G 12 (mR M a0 0) := TYR.at hT ha0 0 12 rfl (by decide)
  refine p_alenI (pc := 8) cx hr_1 dX9_copy_8 ?_
  refine p_min (pc := 9) cx t2_7 t1_30 t1_2 t1_31 ⟨Nat.le_of_ble_eq_true rfl, Nat.le_of_ble_eq_true rfl⟩ dX9_copy_9 ?_
  refine p_topi (fun y_2 ey_2 => ?_)
  have hw := hw y_2 ey_2
  refine p_istore_n (pc := 12) (lv' := [(0, .ref a0), (1, .ref a1), (2, .int y_2)]) cx dX9_copy_12 rfl (by decide) [1, 2, 0] rfl ?_
  refine p_aload_n (pc := 13) cx dX9_copy_13 rfl 1 rfl ?_
  refine gf_8_0 (pc := 14) cx ha1 t1_43 dX9_copy_14 ?_
  have hr_3 : Is G 12 (mR M a1 0) := TYR.at hT ha1 0 12 rfl (by decide)
  refine p_iconst (pc := 17) (v := 0) cx dX9_copy_17 (by decide) ?_
  refine p_aload_n (pc := 18) cx dX9_copy_18 rfl 0 rfl ?_
  refine gf_8_0 (pc := 19) cx ha0 t1_43 dX9_copy_19 ?_
  have hr_4 : Is G 12 (mR M a0 0) := TYR.at hT ha0 0 12 rfl (by decide)
  refine p_iconst (pc := 22) (v := 0) cx dX9_copy_22 (by decide) ?_
  refine p_iload_n (pc := 23) cx dX9_copy_23 rfl 2 rfl ?_
  refine p_copy (pc := 24) cx hr_3 hr_4 hw.1 t2_149 t2_151 t2_150 t1_14 ⟨Nat.le_of_ble_eq_true rfl, Nat.le_of_ble_eq_true rfl⟩ dX9_copy_24 ?_
  have hw := hw.2
  refine p_mem (fun M5 eM5 => ?_)
  have hw := hw M5 eM5
  have hM5 : TYR G M5.2.2.1 := by rw [eM5]; exact hT
  refine p_aload_n (pc := 27) cx dX9_copy_27 rfl 0 rfl ?_
  refine p_iload_n (pc := 28) cx dX9_copy_28 rfl 2 rfl ?_
  refine pf_8_1 (pc := 29) cx ha0 t1_57 dX9_copy_29 ?_
  refine p_mem (fun M6 eM6 => ?_)
  have hw := hw M6 eM6
  have hM6 : TYR G M6.2.2.1 := by rw [eM6]; exact hM5
  refine p_aload_n (pc := 32) cx dX9_copy_32 rfl 0 rfl ?_
  refine p_aload_n (pc := 33) cx dX9_copy_33 rfl 1 rfl ?_
  refine gf_8_2 (pc := 34) cx ha1 t1_66 dX9_copy_34 ?_
  refine pf_8_2 (pc := 37) hw.1 cx ha0 t1_66 dX9_copy_37 ?_
  have hw := hw.2
  refine p_mem (fun M7 eM7 => ?_)
  have hw := hw M7 eM7
  have hM7 : TYR G M7.2.2.1 := by rw [eM7]; exact hM6
  exact p_vret (pc := 40) cx hr hlk dX9_copy_40 hM7 hw
set_option maxHeartbeats 4000000 in
set_option maxRecDepth 100000 in
theorem c_X9_become {l : Launch} {D : va_G} {G : SH} (hND : ND G) {a0 : Nat} {a1 : Int32} {M : MS} {Qp : MS → Prop} (hT : TYR G M.2.2.1) (ha0 : Is G 8 a0) (hw : w_X9_become G a0 a1 M Qp) : MeV l D G yX9_become (Cond.code yX9_become cX9_become 2 none :: GW) rm_X9_become [.ref a0, .int a1] M Qp := by
  unfold MeV
  refine p_method (by decide) rfl (Nat.le_of_ble_eq_true rfl) hND ?_
  intro p e s m args below meth c cx hr hlk
  have cx : CX p s m args c D G cX9_become 2 RX9 := cx
  unfold w_X9_become at hw
  refine p_aload_n (pc := 0) cx dX9_become_0 rfl 0 rfl ?_
  refine gf_8_0 (pc := 1) cx ha0 t1_43 dX9_become_1 ?_
  have hr_1 : Is G 12 (mR M a0 0) := TYR.at hT ha0 0 12 rfl (by decide)
  refine p_iconst (pc := 4) (v := 0) cx dX9_become_4 (by decide) ?_
  refine p_iload_n (pc := 5) cx dX9_become_5 rfl 1 rfl ?_
  refine p_iast (pc := 6) cx hr_1 hw.1 dX9_become_6 ?_
  have hw := hw.2
  refine p_mem (fun M2 eM2 => ?_)
  have hw := hw M2 eM2
  have hM2 : TYR G M2.2.2.1 := by rw [eM2]; exact hT
  refine p_aload_n (pc := 7) cx dX9_become_7 rfl 0 rfl ?_
  refine p_iconst (pc := 8) (v := 1) cx dX9_become_8 (by decide) ?_
  refine p_callVv (pc := 9) [.int (1 : Int32)] cx (c_X9_keep cx.2.2.2.2.2.2 hM2 ha0 hw) cf_X9_keep cv_X9_keep t2_3 ha0 ⟨by decide, rfl, rfl⟩ ⟨rfl, rfl⟩ ⟨Nat.le_of_ble_eq_true rfl, Nat.le_of_ble_eq_true rfl⟩ rfl rfl (Nat.le_of_ble_eq_true rfl) dX9_become_9 (fun M3 hw hM3 => ?_)
  exact p_vret (pc := 12) cx hr hlk dX9_become_12 hM3 hw
set_option maxHeartbeats 4000000 in
set_option maxRecDepth 100000 in
theorem x_J6_numberOfLeadingZeros_0f7a4_61 {p : Program} {l : Launch} {e : Env} {s : State} {m : MethodId} {args : Array Value} {below : List Frame} {meth : Method} {c : Code} {D : va_G} {G : SH} {Qp : Int32 → MS → Prop}  (cx : CX p s m args c D G cJ6_numberOfLeadingZeros_0f7a4 2 RJ6) (hr : meth.sig.returnType = (some .int)) (hlk : meth.locks = false)  (v0 : Int32) (v1 : Int32) (M : MS) (hT : TYR G M.2.2.1)  (hw : w_J6_numberOfLeadingZeros_0f7a4_61 G Qp v0 v1 M) : PW p l e rm_J6_numberOfLeadingZeros_0f7a4 s m args below meth c D G 2 (MQ below (va_Qi Qp (POST D G) (AG G)) args s 0 0 (AG G)) 61 [(0, .int v0), (1, .int v1)] [] M := by
  unfold w_J6_numberOfLeadingZeros_0f7a4_61 at hw
  refine p_iload_n (pc := 61) cx dJ6_numberOfLeadingZeros_0f7a4_61 rfl 0 rfl ?_
  refine p_iconst (pc := 62) (v := 4) cx dJ6_numberOfLeadingZeros_0f7a4_62 (by decide) ?_
  refine p_icmp_lt (pc := 63) (tgt := 73) cx dJ6_numberOfLeadingZeros_0f7a4_63 (by decide) (fun hc => ?_) (fun hc => ?_)
  · have hw := hw.1 hc
    refine p_iload_n (pc := 73) cx dJ6_numberOfLeadingZeros_0f7a4_73 rfl 1 rfl ?_
    refine p_iload_n (pc := 74) cx dJ6_numberOfLeadingZeros_0f7a4_74 rfl 0 rfl ?_
    refine p_iconst (pc := 75) (v := 1) cx dJ6_numberOfLeadingZeros_0f7a4_75 (by decide) ?_
    refine p_iushr (pc := 76) cx dJ6_numberOfLeadingZeros_0f7a4_76 ?_
    refine p_isub (pc := 77) cx dJ6_numberOfLeadingZeros_0f7a4_77 ?_
    exact p_iret (pc := 78) cx hr hlk dJ6_numberOfLeadingZeros_0f7a4_78 hT hw
  · have hw := hw.2 hc
    obtain ⟨x1_1, ex1_1⟩ : ∃ y : Int32, y = v1 + (-2) := ⟨_, rfl⟩
    have hw := hw x1_1 ex1_1
    refine p_iinc (pc := 66) (v := x1_1) (lv' := [(0, .int v0), (1, .int x1_1)]) cx dJ6_numberOfLeadingZeros_0f7a4_66 1 rfl (by rw [ex1_1]; rfl) (by decide) [1, 0] rfl ?_
    refine p_iload_n (pc := 69) cx dJ6_numberOfLeadingZeros_0f7a4_69 rfl 0 rfl ?_
    refine p_iconst (pc := 70) (v := 2) cx dJ6_numberOfLeadingZeros_0f7a4_70 (by decide) ?_
    refine p_iushr (pc := 71) cx dJ6_numberOfLeadingZeros_0f7a4_71 ?_
    refine p_topi (fun x0_2 ex0_2 => ?_)
    have hw := hw x0_2 ex0_2
    refine p_istore_n (pc := 72) (lv' := [(0, .int x0_2), (1, .int x1_1)]) cx dJ6_numberOfLeadingZeros_0f7a4_72 rfl (by decide) [0, 1] rfl ?_
    refine p_iload_n (pc := 73) cx dJ6_numberOfLeadingZeros_0f7a4_73 rfl 1 rfl ?_
    refine p_iload_n (pc := 74) cx dJ6_numberOfLeadingZeros_0f7a4_74 rfl 0 rfl ?_
    refine p_iconst (pc := 75) (v := 1) cx dJ6_numberOfLeadingZeros_0f7a4_75 (by decide) ?_
    refine p_iushr (pc := 76) cx dJ6_numberOfLeadingZeros_0f7a4_76 ?_
    refine p_isub (pc := 77) cx dJ6_numberOfLeadingZeros_0f7a4_77 ?_
    exact p_iret (pc := 78) cx hr hlk dJ6_numberOfLeadingZeros_0f7a4_78 hT hw
set_option maxHeartbeats 4000000 in
set_option maxRecDepth 100000 in
theorem x_J6_numberOfLeadingZeros_0f7a4_48 {p : Program} {l : Launch} {e : Env} {s : State} {m : MethodId} {args : Array Value} {below : List Frame} {meth : Method} {c : Code} {D : va_G} {G : SH} {Qp : Int32 → MS → Prop}  (cx : CX p s m args c D G cJ6_numberOfLeadingZeros_0f7a4 2 RJ6) (hr : meth.sig.returnType = (some .int)) (hlk : meth.locks = false)  (v0 : Int32) (v1 : Int32) (M : MS) (hT : TYR G M.2.2.1)  (hw : w_J6_numberOfLeadingZeros_0f7a4_48 G Qp v0 v1 M) : PW p l e rm_J6_numberOfLeadingZeros_0f7a4 s m args below meth c D G 2 (MQ below (va_Qi Qp (POST D G) (AG G)) args s 0 0 (AG G)) 48 [(0, .int v0), (1, .int v1)] [] M := by
  unfold w_J6_numberOfLeadingZeros_0f7a4_48 at hw
  refine p_iload_n (pc := 48) cx dJ6_numberOfLeadingZeros_0f7a4_48 rfl 0 rfl ?_
  refine p_bipush (pc := 49) (v := 16) cx dJ6_numberOfLeadingZeros_0f7a4_49 (by decide) ?_
  refine p_icmp_lt (pc := 51) (tgt := 61) cx dJ6_numberOfLeadingZeros_0f7a4_51 (by decide) (fun hc => ?_) (fun hc => ?_)
  · have hw := hw.1 hc
    exact x_J6_numberOfLeadingZeros_0f7a4_61 cx hr hlk v0 v1 M hT hw
  · have hw := hw.2 hc
    obtain ⟨x1_3, ex1_3⟩ : ∃ y : Int32, y = v1 + (-4) := ⟨_, rfl⟩
    have hw := hw x1_3 ex1_3
    refine p_iinc (pc := 54) (v := x1_3) (lv' := [(0, .int v0), (1, .int x1_3)]) cx dJ6_numberOfLeadingZeros_0f7a4_54 1 rfl (by rw [ex1_3]; rfl) (by decide) [1, 0] rfl ?_
    refine p_iload_n (pc := 57) cx dJ6_numberOfLeadingZeros_0f7a4_57 rfl 0 rfl ?_
    refine p_iconst (pc := 58) (v := 4) cx dJ6_numberOfLeadingZeros_0f7a4_58 (by decide) ?_
    refine p_iushr (pc := 59) cx dJ6_numberOfLeadingZeros_0f7a4_59 ?_
    refine p_topi (fun x0_4 ex0_4 => ?_)
    have hw := hw x0_4 ex0_4
    refine p_istore_n (pc := 60) (lv' := [(0, .int x0_4), (1, .int x1_3)]) cx dJ6_numberOfLeadingZeros_0f7a4_60 rfl (by decide) [0, 1] rfl ?_
    exact x_J6_numberOfLeadingZeros_0f7a4_61 cx hr hlk x0_4 x1_3 M hT hw
set_option maxHeartbeats 4000000 in
set_option maxRecDepth 100000 in
theorem x_J6_numberOfLeadingZeros_0f7a4_33 {p : Program} {l : Launch} {e : Env} {s : State} {m : MethodId} {args : Array Value} {below : List Frame} {meth : Method} {c : Code} {D : va_G} {G : SH} {Qp : Int32 → MS → Prop}  (cx : CX p s m args c D G cJ6_numberOfLeadingZeros_0f7a4 2 RJ6) (hr : meth.sig.returnType = (some .int)) (hlk : meth.locks = false)  (v0 : Int32) (v1 : Int32) (M : MS) (hT : TYR G M.2.2.1)  (hw : w_J6_numberOfLeadingZeros_0f7a4_33 G Qp v0 v1 M) : PW p l e rm_J6_numberOfLeadingZeros_0f7a4 s m args below meth c D G 2 (MQ below (va_Qi Qp (POST D G) (AG G)) args s 0 0 (AG G)) 33 [(0, .int v0), (1, .int v1)] [] M := by
  unfold w_J6_numberOfLeadingZeros_0f7a4_33 at hw
  refine p_iload_n (pc := 33) cx dJ6_numberOfLeadingZeros_0f7a4_33 rfl 0 rfl ?_
  refine p_sipush (pc := 34) (v := 256) cx dJ6_numberOfLeadingZeros_0f7a4_34 (by decide) ?_
  refine p_icmp_lt (pc := 37) (tgt := 48) cx dJ6_numberOfLeadingZeros_0f7a4_37 (by decide) (fun hc => ?_) (fun hc => ?_)
  · have hw := hw.1 hc
    exact x_J6_numberOfLeadingZeros_0f7a4_48 cx hr hlk v0 v1 M hT hw
  · have hw := hw.2 hc
    obtain ⟨x1_5, ex1_5⟩ : ∃ y : Int32, y = v1 + (-8) := ⟨_, rfl⟩
    have hw := hw x1_5 ex1_5
    refine p_iinc (pc := 40) (v := x1_5) (lv' := [(0, .int v0), (1, .int x1_5)]) cx dJ6_numberOfLeadingZeros_0f7a4_40 1 rfl (by rw [ex1_5]; rfl) (by decide) [1, 0] rfl ?_
    refine p_iload_n (pc := 43) cx dJ6_numberOfLeadingZeros_0f7a4_43 rfl 0 rfl ?_
    refine p_bipush (pc := 44) (v := 8) cx dJ6_numberOfLeadingZeros_0f7a4_44 (by decide) ?_
    refine p_iushr (pc := 46) cx dJ6_numberOfLeadingZeros_0f7a4_46 ?_
    refine p_topi (fun x0_6 ex0_6 => ?_)
    have hw := hw x0_6 ex0_6
    refine p_istore_n (pc := 47) (lv' := [(0, .int x0_6), (1, .int x1_5)]) cx dJ6_numberOfLeadingZeros_0f7a4_47 rfl (by decide) [0, 1] rfl ?_
    exact x_J6_numberOfLeadingZeros_0f7a4_48 cx hr hlk x0_6 x1_5 M hT hw
set_option maxHeartbeats 4000000 in
set_option maxRecDepth 100000 in
theorem c_J6_numberOfLeadingZeros_0f7a4 {l : Launch} {D : va_G} {G : SH} (hND : ND G) {a0 : Int32} {M : MS} {Qp : Int32 → MS → Prop} (hT : TYR G M.2.2.1)  (hw : w_J6_numberOfLeadingZeros_0f7a4 G a0 M Qp) : MeI l D G yJ6_numberOfLeadingZeros_0f7a4 (Cond.code yJ6_numberOfLeadingZeros_0f7a4 cJ6_numberOfLeadingZeros_0f7a4 2 (some .int) :: GW) rm_J6_numberOfLeadingZeros_0f7a4 [.int a0] M Qp := by
  unfold MeI
  refine p_method (by decide) rfl (Nat.le_of_ble_eq_true rfl) hND ?_
  intro p e s m args below meth c cx hr hlk
  have cx : CX p s m args c D G cJ6_numberOfLeadingZeros_0f7a4 2 RJ6 := cx
  unfold w_J6_numberOfLeadingZeros_0f7a4 at hw
  refine p_iload_n (pc := 0) cx dJ6_numberOfLeadingZeros_0f7a4_0 rfl 0 rfl ?_
  refine p_if_gt (pc := 1) (tgt := 15) cx dJ6_numberOfLeadingZeros_0f7a4_1 (by decide) (fun hc => ?_) (fun hc => ?_)
  · have hw := hw.1 hc
    refine p_bipush (pc := 15) (v := 31) cx dJ6_numberOfLeadingZeros_0f7a4_15 (by decide) ?_
    refine p_istore_n (pc := 17) (lv' := [(0, .int a0), (1, .int (31 : Int32))]) cx dJ6_numberOfLeadingZeros_0f7a4_17 rfl (by decide) [1, 0] rfl ?_
    refine p_iload_n (pc := 18) cx dJ6_numberOfLeadingZeros_0f7a4_18 rfl 0 rfl ?_
    refine p_ldcw (pc := 19) cx dJ6_numberOfLeadingZeros_0f7a4_19 t2_219 ?_
    refine p_icmp_lt (pc := 22) (tgt := 33) cx dJ6_numberOfLeadingZeros_0f7a4_22 (by decide) (fun hc => ?_) (fun hc => ?_)
    · have hw := hw.1 hc
      exact x_J6_numberOfLeadingZeros_0f7a4_33 cx hr hlk a0 31 M hT hw
    · have hw := hw.2 hc
      obtain ⟨x1_7, ex1_7⟩ : ∃ y : Int32, y = 31 + (-16) := ⟨_, rfl⟩
      have hw := hw x1_7 ex1_7
      refine p_iinc (pc := 25) (v := x1_7) (lv' := [(0, .int a0), (1, .int x1_7)]) cx dJ6_numberOfLeadingZeros_0f7a4_25 1 rfl (by rw [ex1_7]; rfl) (by decide) [1, 0] rfl ?_
      refine p_iload_n (pc := 28) cx dJ6_numberOfLeadingZeros_0f7a4_28 rfl 0 rfl ?_
      refine p_bipush (pc := 29) (v := 16) cx dJ6_numberOfLeadingZeros_0f7a4_29 (by decide) ?_
      refine p_iushr (pc := 31) cx dJ6_numberOfLeadingZeros_0f7a4_31 ?_
      refine p_topi (fun x0_8 ex0_8 => ?_)
      have hw := hw x0_8 ex0_8
      refine p_istore_n (pc := 32) (lv' := [(0, .int x0_8), (1, .int x1_7)]) cx dJ6_numberOfLeadingZeros_0f7a4_32 rfl (by decide) [0, 1] rfl ?_
      exact x_J6_numberOfLeadingZeros_0f7a4_33 cx hr hlk x0_8 x1_7 M hT hw
  · have hw := hw.2 hc
    refine p_iload_n (pc := 4) cx dJ6_numberOfLeadingZeros_0f7a4_4 rfl 0 rfl ?_
    refine p_if_ne (pc := 5) (tgt := 13) cx dJ6_numberOfLeadingZeros_0f7a4_5 (by decide) (fun hc => ?_) (fun hc => ?_)
    · have hw := hw.1 hc
      refine p_iconst (pc := 13) (v := 0) cx dJ6_numberOfLeadingZeros_0f7a4_13 (by decide) ?_
      exact p_iret (pc := 14) cx hr hlk dJ6_numberOfLeadingZeros_0f7a4_14 hT hw
    · have hw := hw.2 hc
      refine p_bipush (pc := 8) (v := 32) cx dJ6_numberOfLeadingZeros_0f7a4_8 (by decide) ?_
      refine p_goto (pc := 10) (tgt := 14) cx dJ6_numberOfLeadingZeros_0f7a4_10 (by decide) ?_
      exact p_iret (pc := 14) cx hr hlk dJ6_numberOfLeadingZeros_0f7a4_14 hT hw
set_option maxHeartbeats 4000000 in
set_option maxRecDepth 100000 in
theorem c_J13_compare_74951 {l : Launch} {D : va_G} {G : SH} (hND : ND G) {a0 : Int64} {a1 : Int64} {M : MS} {Qp : Int32 → MS → Prop} (hT : TYR G M.2.2.1)  (hw : w_J13_compare_74951 G a0 a1 M Qp) : MeI l D G yJ13_compare_74951 (Cond.code yJ13_compare_74951 cJ13_compare_74951 4 (some .int) :: GW) rm_J13_compare_74951 [.long a0, .long a1] M Qp := by
  unfold MeI
  refine p_method (by decide) rfl (Nat.le_of_ble_eq_true rfl) hND ?_
  intro p e s m args below meth c cx hr hlk
  have cx : CX p s m args c D G cJ13_compare_74951 4 RJ13 := cx
  unfold w_J13_compare_74951 at hw
  refine p_lload_n (pc := 0) cx dJ13_compare_74951_0 rfl 0 rfl ?_
  refine p_lload_n (pc := 1) cx dJ13_compare_74951_1 rfl 1 rfl ?_
  refine p_lcmp (pc := 2) cx dJ13_compare_74951_2 ?_
  refine p_if_ge (pc := 3) (tgt := 10) cx dJ13_compare_74951_3 (by decide) (fun hc => ?_) (fun hc => ?_)
  · have hw := hw.1 ((lg_cmp_ge _ _).mp hc)
    refine p_lload_n (pc := 10) cx dJ13_compare_74951_10 rfl 0 rfl ?_
    refine p_lload_n (pc := 11) cx dJ13_compare_74951_11 rfl 1 rfl ?_
    refine p_lcmp (pc := 12) cx dJ13_compare_74951_12 ?_
    refine p_if_ne (pc := 13) (tgt := 20) cx dJ13_compare_74951_13 (by decide) (fun hc => ?_) (fun hc => ?_)
    · have hw := hw.1 (fun q => hc ((lg_cmp_eq _ _).mpr q))
      refine p_iconst (pc := 20) (v := 1) cx dJ13_compare_74951_20 (by decide) ?_
      exact p_iret (pc := 21) cx hr hlk dJ13_compare_74951_21 hT hw
    · have hw := hw.2 ((lg_cmp_eq _ _).mp hc)
      refine p_iconst (pc := 16) (v := 0) cx dJ13_compare_74951_16 (by decide) ?_
      refine p_goto (pc := 17) (tgt := 21) cx dJ13_compare_74951_17 (by decide) ?_
      exact p_iret (pc := 21) cx hr hlk dJ13_compare_74951_21 hT hw
  · have hw := hw.2 (fun q => hc ((lg_cmp_ge _ _).mpr q))
    refine p_iconst (pc := 6) (v := (-1)) cx dJ13_compare_74951_6 (by decide) ?_
    refine p_goto (pc := 7) (tgt := 21) cx dJ13_compare_74951_7 (by decide) ?_
    exact p_iret (pc := 21) cx hr hlk dJ13_compare_74951_21 hT hw
set_option maxHeartbeats 4000000 in
set_option maxRecDepth 100000 in
theorem c_J13_compareUnsigned_74951 {l : Launch} {D : va_G} {G : SH} (hND : ND G) {a0 : Int64} {a1 : Int64} {M : MS} {Qp : Int32 → MS → Prop} (hT : TYR G M.2.2.1)  (hw : w_J13_compareUnsigned_74951 G a0 a1 M Qp) : MeI l D G yJ13_compareUnsigned_74951 (Cond.code yJ13_compareUnsigned_74951 cJ13_compareUnsigned_74951 4 (some .int) :: GW) rm_J13_compareUnsigned_74951 [.long a0, .long a1] M Qp := by
  unfold MeI
  refine p_method (by decide) rfl (Nat.le_of_ble_eq_true rfl) hND ?_
  intro p e s m args below meth c cx hr hlk
  have cx : CX p s m args c D G cJ13_compareUnsigned_74951 4 RJ13 := cx
  unfold w_J13_compareUnsigned_74951 at hw
  refine p_lload_n (pc := 0) cx dJ13_compareUnsigned_74951_0 rfl 0 rfl ?_
  refine p_ldc2 (pc := 1) cx dJ13_compareUnsigned_74951_1 t2_228 ?_
  refine p_ladd (pc := 4) cx dJ13_compareUnsigned_74951_4 ?_
  refine p_lload_n (pc := 5) cx dJ13_compareUnsigned_74951_5 rfl 1 rfl ?_
  refine p_ldc2 (pc := 6) cx dJ13_compareUnsigned_74951_6 t2_228 ?_
  refine p_ladd (pc := 9) cx dJ13_compareUnsigned_74951_9 ?_
  refine p_callSi (pc := 10) [.long (a0 + (-9223372036854775808)), .long (a1 + (-9223372036854775808))] cx (c_J13_compare_74951 cx.2.2.2.2.2.2 hT hw) cf_J13_compare_74951 cv_J13_compare_74951 t2_229 ⟨rfl, rfl⟩ ⟨Nat.le_of_ble_eq_true rfl, Nat.le_of_ble_eq_true rfl⟩ rfl rfl (Nat.le_of_ble_eq_true rfl) dJ13_compareUnsigned_74951_10 (fun r1 M1 hw hM1 => ?_)
  exact p_iret (pc := 13) cx hr hlk dJ13_compareUnsigned_74951_13 hM1 hw
set_option maxHeartbeats 4000000 in
set_option maxRecDepth 100000 in
theorem c_X9_window {l : Launch} {D : va_G} {G : SH} (hND : ND G) {a0 : Nat} {a1 : Int32} {M : MS} {Qp : Int64 → MS → Prop} (hT : TYR G M.2.2.1) (ha0 : Is G 8 a0) (hw : w_X9_window G a0 a1 M Qp) : MeL l D G yX9_window (Cond.code yX9_window cX9_window 4 (some .long) :: GW) rm_X9_window [.ref a0, .int a1] M Qp := by
  unfold MeL
  refine p_method (by decide) rfl (Nat.le_of_ble_eq_true rfl) hND ?_
  intro p e s m args below meth c cx hr hlk
  have cx : CX p s m args c D G cX9_window 4 RX9 := cx
  unfold w_X9_window at hw
  refine p_aload_n (pc := 0) cx dX9_window_0 rfl 0 rfl ?_
  refine p_iload_n (pc := 1) cx dX9_window_1 rfl 1 rfl ?_
  refine p_iconst (pc := 2) (v := 5) cx dX9_window_2 (by decide) ?_
  refine p_ishr (pc := 3) cx dX9_window_3 ?_
  refine p_iconst (pc := 4) (v := 1) cx dX9_window_4 (by decide) ?_
  refine p_iadd (pc := 5) cx dX9_window_5 ?_
  refine p_callVl (pc := 6) [.int ((a1 >>> ((5 : Int32) &&& 31)) + 1)] cx (c_X9_limb cx.2.2.2.2.2.2 hT ha0 hw) cf_X9_limb cv_X9_limb t3_7 ha0 ⟨by decide, rfl, rfl⟩ ⟨rfl, rfl⟩ ⟨Nat.le_of_ble_eq_true rfl, Nat.le_of_ble_eq_true rfl⟩ rfl rfl (Nat.le_of_ble_eq_true rfl) dX9_window_6 (fun r1 M1 hw hM1 => ?_)
  refine p_bipush (pc := 9) (v := 32) cx dX9_window_9 (by decide) ?_
  refine p_lshl (pc := 11) cx dX9_window_11 ?_
  refine p_aload_n (pc := 12) cx dX9_window_12 rfl 0 rfl ?_
  refine p_iload_n (pc := 13) cx dX9_window_13 rfl 1 rfl ?_
  refine p_iconst (pc := 14) (v := 5) cx dX9_window_14 (by decide) ?_
  refine p_ishr (pc := 15) cx dX9_window_15 ?_
  refine p_callVl (pc := 16) [.int (a1 >>> ((5 : Int32) &&& 31))] cx (c_X9_limb cx.2.2.2.2.2.2 hM1 ha0 hw) cf_X9_limb cv_X9_limb t3_7 ha0 ⟨by decide, rfl, rfl⟩ ⟨rfl, rfl⟩ ⟨Nat.le_of_ble_eq_true rfl, Nat.le_of_ble_eq_true rfl⟩ rfl rfl (Nat.le_of_ble_eq_true rfl) dX9_window_16 (fun r2 M2 hw hM2 => ?_)
  refine p_lor (pc := 19) cx dX9_window_19 ?_
  refine p_topl (fun x2_3 ex2_3 => ?_)
  have hw := hw x2_3 ex2_3
  refine p_lstore_n (pc := 20) (lv' := [(1, .int a1), (2, .long x2_3)]) cx dX9_window_20 rfl (by decide) [2, 0] rfl ?_
  refine p_lload_n (pc := 21) cx dX9_window_21 rfl 1 rfl ?_
  refine p_iload_n (pc := 22) cx dX9_window_22 rfl 0 rfl ?_
  refine p_bipush (pc := 23) (v := 31) cx dX9_window_23 (by decide) ?_
  refine p_iand (pc := 25) cx dX9_window_25 ?_
  refine p_lushr (pc := 26) cx dX9_window_26 ?_
  refine p_ldc2 (pc := 27) cx dX9_window_27 t2_132 ?_
  refine p_land (pc := 30) cx dX9_window_30 ?_
  exact p_lret (pc := 31) cx hr hlk dX9_window_31 hM2 hw
set_option maxHeartbeats 4000000 in
set_option maxRecDepth 100000 in
theorem x_J6_numberOfTrailingZeros_0f7a4_62 {p : Program} {l : Launch} {e : Env} {s : State} {m : MethodId} {args : Array Value} {below : List Frame} {meth : Method} {c : Code} {D : va_G} {G : SH} {Qp : Int32 → MS → Prop}  (cx : CX p s m args c D G cJ6_numberOfTrailingZeros_0f7a4 2 RJ6) (hr : meth.sig.returnType = (some .int)) (hlk : meth.locks = false)  (v0 : Int32) (v1 : Int32) (M : MS) (hT : TYR G M.2.2.1)  (hw : w_J6_numberOfTrailingZeros_0f7a4_62 G Qp v0 v1 M) : PW p l e rm_J6_numberOfTrailingZeros_0f7a4 s m args below meth c D G 2 (MQ below (va_Qi Qp (POST D G) (AG G)) args s 0 0 (AG G)) 62 [(0, .int v0), (1, .int v1)] [] M := by
  unfold w_J6_numberOfTrailingZeros_0f7a4_62 at hw
  refine p_iload_n (pc := 62) cx dJ6_numberOfTrailingZeros_0f7a4_62 rfl 0 rfl ?_
  refine p_iconst (pc := 63) (v := 4) cx dJ6_numberOfTrailingZeros_0f7a4_63 (by decide) ?_
  refine p_icmp_le (pc := 64) (tgt := 74) cx dJ6_numberOfTrailingZeros_0f7a4_64 (by decide) (fun hc => ?_) (fun hc => ?_)
  · have hw := hw.1 hc
    refine p_iload_n (pc := 74) cx dJ6_numberOfTrailingZeros_0f7a4_74 rfl 1 rfl ?_
    refine p_iload_n (pc := 75) cx dJ6_numberOfTrailingZeros_0f7a4_75 rfl 0 rfl ?_
    refine p_iconst (pc := 76) (v := 1) cx dJ6_numberOfTrailingZeros_0f7a4_76 (by decide) ?_
    refine p_iushr (pc := 77) cx dJ6_numberOfTrailingZeros_0f7a4_77 ?_
    refine p_iadd (pc := 78) cx dJ6_numberOfTrailingZeros_0f7a4_78 ?_
    exact p_iret (pc := 79) cx hr hlk dJ6_numberOfTrailingZeros_0f7a4_79 hT hw
  · have hw := hw.2 hc
    obtain ⟨x1_2, ex1_2⟩ : ∃ y : Int32, y = v1 + 2 := ⟨_, rfl⟩
    have hw := hw x1_2 ex1_2
    refine p_iinc (pc := 67) (v := x1_2) (lv' := [(0, .int v0), (1, .int x1_2)]) cx dJ6_numberOfTrailingZeros_0f7a4_67 1 rfl (by rw [ex1_2]; rfl) (by decide) [1, 0] rfl ?_
    refine p_iload_n (pc := 70) cx dJ6_numberOfTrailingZeros_0f7a4_70 rfl 0 rfl ?_
    refine p_iconst (pc := 71) (v := 2) cx dJ6_numberOfTrailingZeros_0f7a4_71 (by decide) ?_
    refine p_iushr (pc := 72) cx dJ6_numberOfTrailingZeros_0f7a4_72 ?_
    refine p_topi (fun x0_3 ex0_3 => ?_)
    have hw := hw x0_3 ex0_3
    refine p_istore_n (pc := 73) (lv' := [(0, .int x0_3), (1, .int x1_2)]) cx dJ6_numberOfTrailingZeros_0f7a4_73 rfl (by decide) [0, 1] rfl ?_
    refine p_iload_n (pc := 74) cx dJ6_numberOfTrailingZeros_0f7a4_74 rfl 1 rfl ?_
    refine p_iload_n (pc := 75) cx dJ6_numberOfTrailingZeros_0f7a4_75 rfl 0 rfl ?_
    refine p_iconst (pc := 76) (v := 1) cx dJ6_numberOfTrailingZeros_0f7a4_76 (by decide) ?_
    refine p_iushr (pc := 77) cx dJ6_numberOfTrailingZeros_0f7a4_77 ?_
    refine p_iadd (pc := 78) cx dJ6_numberOfTrailingZeros_0f7a4_78 ?_
    exact p_iret (pc := 79) cx hr hlk dJ6_numberOfTrailingZeros_0f7a4_79 hT hw
set_option maxHeartbeats 4000000 in
set_option maxRecDepth 100000 in
theorem x_J6_numberOfTrailingZeros_0f7a4_49 {p : Program} {l : Launch} {e : Env} {s : State} {m : MethodId} {args : Array Value} {below : List Frame} {meth : Method} {c : Code} {D : va_G} {G : SH} {Qp : Int32 → MS → Prop}  (cx : CX p s m args c D G cJ6_numberOfTrailingZeros_0f7a4 2 RJ6) (hr : meth.sig.returnType = (some .int)) (hlk : meth.locks = false)  (v0 : Int32) (v1 : Int32) (M : MS) (hT : TYR G M.2.2.1)  (hw : w_J6_numberOfTrailingZeros_0f7a4_49 G Qp v0 v1 M) : PW p l e rm_J6_numberOfTrailingZeros_0f7a4 s m args below meth c D G 2 (MQ below (va_Qi Qp (POST D G) (AG G)) args s 0 0 (AG G)) 49 [(0, .int v0), (1, .int v1)] [] M := by
  unfold w_J6_numberOfTrailingZeros_0f7a4_49 at hw
  refine p_iload_n (pc := 49) cx dJ6_numberOfTrailingZeros_0f7a4_49 rfl 0 rfl ?_
  refine p_bipush (pc := 50) (v := 16) cx dJ6_numberOfTrailingZeros_0f7a4_50 (by decide) ?_
  refine p_icmp_le (pc := 52) (tgt := 62) cx dJ6_numberOfTrailingZeros_0f7a4_52 (by decide) (fun hc => ?_) (fun hc => ?_)
  · have hw := hw.1 hc
    exact x_J6_numberOfTrailingZeros_0f7a4_62 cx hr hlk v0 v1 M hT hw
  · have hw := hw.2 hc
    obtain ⟨x1_4, ex1_4⟩ : ∃ y : Int32, y = v1 + 4 := ⟨_, rfl⟩
    have hw := hw x1_4 ex1_4
    refine p_iinc (pc := 55) (v := x1_4) (lv' := [(0, .int v0), (1, .int x1_4)]) cx dJ6_numberOfTrailingZeros_0f7a4_55 1 rfl (by rw [ex1_4]; rfl) (by decide) [1, 0] rfl ?_
    refine p_iload_n (pc := 58) cx dJ6_numberOfTrailingZeros_0f7a4_58 rfl 0 rfl ?_
    refine p_iconst (pc := 59) (v := 4) cx dJ6_numberOfTrailingZeros_0f7a4_59 (by decide) ?_
    refine p_iushr (pc := 60) cx dJ6_numberOfTrailingZeros_0f7a4_60 ?_
    refine p_topi (fun x0_5 ex0_5 => ?_)
    have hw := hw x0_5 ex0_5
    refine p_istore_n (pc := 61) (lv' := [(0, .int x0_5), (1, .int x1_4)]) cx dJ6_numberOfTrailingZeros_0f7a4_61 rfl (by decide) [0, 1] rfl ?_
    exact x_J6_numberOfTrailingZeros_0f7a4_62 cx hr hlk x0_5 x1_4 M hT hw
set_option maxHeartbeats 4000000 in
set_option maxRecDepth 100000 in
theorem x_J6_numberOfTrailingZeros_0f7a4_34 {p : Program} {l : Launch} {e : Env} {s : State} {m : MethodId} {args : Array Value} {below : List Frame} {meth : Method} {c : Code} {D : va_G} {G : SH} {Qp : Int32 → MS → Prop}  (cx : CX p s m args c D G cJ6_numberOfTrailingZeros_0f7a4 2 RJ6) (hr : meth.sig.returnType = (some .int)) (hlk : meth.locks = false)  (v0 : Int32) (v1 : Int32) (M : MS) (hT : TYR G M.2.2.1)  (hw : w_J6_numberOfTrailingZeros_0f7a4_34 G Qp v0 v1 M) : PW p l e rm_J6_numberOfTrailingZeros_0f7a4 s m args below meth c D G 2 (MQ below (va_Qi Qp (POST D G) (AG G)) args s 0 0 (AG G)) 34 [(0, .int v0), (1, .int v1)] [] M := by
  unfold w_J6_numberOfTrailingZeros_0f7a4_34 at hw
  refine p_iload_n (pc := 34) cx dJ6_numberOfTrailingZeros_0f7a4_34 rfl 0 rfl ?_
  refine p_sipush (pc := 35) (v := 256) cx dJ6_numberOfTrailingZeros_0f7a4_35 (by decide) ?_
  refine p_icmp_le (pc := 38) (tgt := 49) cx dJ6_numberOfTrailingZeros_0f7a4_38 (by decide) (fun hc => ?_) (fun hc => ?_)
  · have hw := hw.1 hc
    exact x_J6_numberOfTrailingZeros_0f7a4_49 cx hr hlk v0 v1 M hT hw
  · have hw := hw.2 hc
    obtain ⟨x1_6, ex1_6⟩ : ∃ y : Int32, y = v1 + 8 := ⟨_, rfl⟩
    have hw := hw x1_6 ex1_6
    refine p_iinc (pc := 41) (v := x1_6) (lv' := [(0, .int v0), (1, .int x1_6)]) cx dJ6_numberOfTrailingZeros_0f7a4_41 1 rfl (by rw [ex1_6]; rfl) (by decide) [1, 0] rfl ?_
    refine p_iload_n (pc := 44) cx dJ6_numberOfTrailingZeros_0f7a4_44 rfl 0 rfl ?_
    refine p_bipush (pc := 45) (v := 8) cx dJ6_numberOfTrailingZeros_0f7a4_45 (by decide) ?_
    refine p_iushr (pc := 47) cx dJ6_numberOfTrailingZeros_0f7a4_47 ?_
    refine p_topi (fun x0_7 ex0_7 => ?_)
    have hw := hw x0_7 ex0_7
    refine p_istore_n (pc := 48) (lv' := [(0, .int x0_7), (1, .int x1_6)]) cx dJ6_numberOfTrailingZeros_0f7a4_48 rfl (by decide) [0, 1] rfl ?_
    exact x_J6_numberOfTrailingZeros_0f7a4_49 cx hr hlk x0_7 x1_6 M hT hw
set_option maxHeartbeats 4000000 in
set_option maxRecDepth 100000 in
theorem c_J6_numberOfTrailingZeros_0f7a4 {l : Launch} {D : va_G} {G : SH} (hND : ND G) {a0 : Int32} {M : MS} {Qp : Int32 → MS → Prop} (hT : TYR G M.2.2.1)  (hw : w_J6_numberOfTrailingZeros_0f7a4 G a0 M Qp) : MeI l D G yJ6_numberOfTrailingZeros_0f7a4 (Cond.code yJ6_numberOfTrailingZeros_0f7a4 cJ6_numberOfTrailingZeros_0f7a4 2 (some .int) :: GW) rm_J6_numberOfTrailingZeros_0f7a4 [.int a0] M Qp := by
  unfold MeI
  refine p_method (by decide) rfl (Nat.le_of_ble_eq_true rfl) hND ?_
  intro p e s m args below meth c cx hr hlk
  have cx : CX p s m args c D G cJ6_numberOfTrailingZeros_0f7a4 2 RJ6 := cx
  unfold w_J6_numberOfTrailingZeros_0f7a4 at hw
  refine p_iload_n (pc := 0) cx dJ6_numberOfTrailingZeros_0f7a4_0 rfl 0 rfl ?_
  refine p_iconst (pc := 1) (v := (-1)) cx dJ6_numberOfTrailingZeros_0f7a4_1 (by decide) ?_
  refine p_ixor (pc := 2) cx dJ6_numberOfTrailingZeros_0f7a4_2 ?_
  refine p_iload_n (pc := 3) cx dJ6_numberOfTrailingZeros_0f7a4_3 rfl 0 rfl ?_
  refine p_iconst (pc := 4) (v := 1) cx dJ6_numberOfTrailingZeros_0f7a4_4 (by decide) ?_
  refine p_isub (pc := 5) cx dJ6_numberOfTrailingZeros_0f7a4_5 ?_
  refine p_iand (pc := 6) cx dJ6_numberOfTrailingZeros_0f7a4_6 ?_
  refine p_topi (fun x0_1 ex0_1 => ?_)
  have hw := hw x0_1 ex0_1
  refine p_istore_n (pc := 7) (lv' := [(0, .int x0_1)]) cx dJ6_numberOfTrailingZeros_0f7a4_7 rfl (by decide) [0] rfl ?_
  refine p_iload_n (pc := 8) cx dJ6_numberOfTrailingZeros_0f7a4_8 rfl 0 rfl ?_
  refine p_if_gt (pc := 9) (tgt := 17) cx dJ6_numberOfTrailingZeros_0f7a4_9 (by decide) (fun hc => ?_) (fun hc => ?_)
  · have hw := hw.1 hc
    refine p_iconst (pc := 17) (v := 1) cx dJ6_numberOfTrailingZeros_0f7a4_17 (by decide) ?_
    refine p_istore_n (pc := 18) (lv' := [(0, .int x0_1), (1, .int (1 : Int32))]) cx dJ6_numberOfTrailingZeros_0f7a4_18 rfl (by decide) [1, 0] rfl ?_
    refine p_iload_n (pc := 19) cx dJ6_numberOfTrailingZeros_0f7a4_19 rfl 0 rfl ?_
    refine p_ldcw (pc := 20) cx dJ6_numberOfTrailingZeros_0f7a4_20 t2_219 ?_
    refine p_icmp_le (pc := 23) (tgt := 34) cx dJ6_numberOfTrailingZeros_0f7a4_23 (by decide) (fun hc => ?_) (fun hc => ?_)
    · have hw := hw.1 hc
      exact x_J6_numberOfTrailingZeros_0f7a4_34 cx hr hlk x0_1 1 M hT hw
    · have hw := hw.2 hc
      obtain ⟨x1_8, ex1_8⟩ : ∃ y : Int32, y = 1 + 16 := ⟨_, rfl⟩
      have hw := hw x1_8 ex1_8
      refine p_iinc (pc := 26) (v := x1_8) (lv' := [(0, .int x0_1), (1, .int x1_8)]) cx dJ6_numberOfTrailingZeros_0f7a4_26 1 rfl (by rw [ex1_8]; rfl) (by decide) [1, 0] rfl ?_
      refine p_iload_n (pc := 29) cx dJ6_numberOfTrailingZeros_0f7a4_29 rfl 0 rfl ?_
      refine p_bipush (pc := 30) (v := 16) cx dJ6_numberOfTrailingZeros_0f7a4_30 (by decide) ?_
      refine p_iushr (pc := 32) cx dJ6_numberOfTrailingZeros_0f7a4_32 ?_
      refine p_topi (fun x0_9 ex0_9 => ?_)
      have hw := hw x0_9 ex0_9
      refine p_istore_n (pc := 33) (lv' := [(0, .int x0_9), (1, .int x1_8)]) cx dJ6_numberOfTrailingZeros_0f7a4_33 rfl (by decide) [0, 1] rfl ?_
      exact x_J6_numberOfTrailingZeros_0f7a4_34 cx hr hlk x0_9 x1_8 M hT hw
  · have hw := hw.2 hc
    refine p_iload_n (pc := 12) cx dJ6_numberOfTrailingZeros_0f7a4_12 rfl 0 rfl ?_
    refine p_bipush (pc := 13) (v := 32) cx dJ6_numberOfTrailingZeros_0f7a4_13 (by decide) ?_
    refine p_iand (pc := 15) cx dJ6_numberOfTrailingZeros_0f7a4_15 ?_
    exact p_iret (pc := 16) cx hr hlk dJ6_numberOfTrailingZeros_0f7a4_16 hT hw
set_option maxHeartbeats 4000000 in
set_option maxRecDepth 100000 in
theorem x_X9_lowZeros_2 {p : Program} {l : Launch} {e : Env} {s : State} {m : MethodId} {args : Array Value} {below : List Frame} {meth : Method} {c : Code} {D : va_G} {G : SH} {Qp : Int32 → MS → Prop}  (cx : CX p s m args c D G cX9_lowZeros 2 RX9) (hr : meth.sig.returnType = (some .int)) (hlk : meth.locks = false)  : ∀ (n : Nat) (v0 : Nat) (v1 : Int32) (M : MS), TYR G M.2.2.1 → Is G 8 v0 → w_X9_lowZeros_2 G Qp n v0 v1 M → PW p l e rm_X9_lowZeros s m args below meth c D G 2 (MQ below (va_Qi Qp (POST D G) (AG G)) args s 0 0 (AG G)) 2 [(0, .ref v0), (1, .int v1)] [] M := by
  intro n
  induction n with
  | zero =>
    intro v0 v1 M hT hv0 hw
    exact hw.elim
  | succ n ih =>
    intro v0 v1 M hT hv0 hw
    rw [w_X9_lowZeros_2] at hw
    refine p_iload_n (pc := 2) cx dX9_lowZeros_2 rfl 1 rfl ?_
    refine p_aload_n (pc := 3) cx dX9_lowZeros_3 rfl 0 rfl ?_
    refine gf_8_1 (pc := 4) cx hv0 t1_57 dX9_lowZeros_4 ?_
    refine p_icmp_ge (pc := 7) (tgt := 40) cx dX9_lowZeros_7 (by decide) (fun hc => ?_) (fun hc => ?_)
    · have hw := hw.1 hc
      refine p_iconst (pc := 40) (v := 0) cx dX9_lowZeros_40 (by decide) ?_
      exact p_iret (pc := 41) cx hr hlk dX9_lowZeros_41 hT hw
    · have hw := hw.2 hc
      refine p_aload_n (pc := 10) cx dX9_lowZeros_10 rfl 0 rfl ?_
      refine gf_8_0 (pc := 11) cx hv0 t1_43 dX9_lowZeros_11 ?_
      have hr_1 : Is G 12 (mR M v0 0) := TYR.at hT hv0 0 12 rfl (by decide)
      refine p_iload_n (pc := 14) cx dX9_lowZeros_14 rfl 1 rfl ?_
      refine p_iald (pc := 15) cx hr_1 hw.1 dX9_lowZeros_15 ?_
      have hw := hw.2
      refine p_if_eq (pc := 16) (tgt := 34) cx dX9_lowZeros_16 (by decide) (fun hc => ?_) (fun hc => ?_)
      · have hw := hw.1 hc
        obtain ⟨x1_2, ex1_2⟩ : ∃ y : Int32, y = v1 + 1 := ⟨_, rfl⟩
        have hw := hw x1_2 ex1_2
        refine p_iinc (pc := 34) (v := x1_2) (lv' := [(0, .ref v0), (1, .int x1_2)]) cx dX9_lowZeros_34 1 rfl (by rw [ex1_2]; rfl) (by decide) [1, 0] rfl ?_
        refine p_goto (pc := 37) (tgt := 2) cx dX9_lowZeros_37 (by decide) ?_
        exact ih v0 x1_2 M hT hv0 hw
      · have hw := hw.2 hc
        refine p_bipush (pc := 19) (v := 32) cx dX9_lowZeros_19 (by decide) ?_
        refine p_iload_n (pc := 21) cx dX9_lowZeros_21 rfl 1 rfl ?_
        refine p_imul (pc := 22) cx dX9_lowZeros_22 ?_
        refine p_aload_n (pc := 23) cx dX9_lowZeros_23 rfl 0 rfl ?_
        refine gf_8_0 (pc := 24) cx hv0 t1_43 dX9_lowZeros_24 ?_
        have hr_3 : Is G 12 (mR M v0 0) := TYR.at hT hv0 0 12 rfl (by decide)
        refine p_iload_n (pc := 27) cx dX9_lowZeros_27 rfl 1 rfl ?_
        refine p_iald (pc := 28) cx hr_3 hw.1 dX9_lowZeros_28 ?_
        have hw := hw.2
        refine p_callSi (pc := 29) [.int (mA M (mR M v0 0) v1.toNatClampNeg)] cx (c_J6_numberOfTrailingZeros_0f7a4 cx.2.2.2.2.2.2 hT hw) cf_J6_numberOfTrailingZeros_0f7a4 cv_J6_numberOfTrailingZeros_0f7a4 t3_26 ⟨rfl, rfl⟩ ⟨Nat.le_of_ble_eq_true rfl, Nat.le_of_ble_eq_true rfl⟩ rfl rfl (Nat.le_of_ble_eq_true rfl) dX9_lowZeros_29 (fun r4 M4 hw hM4 => ?_)
        refine p_iadd (pc := 32) cx dX9_lowZeros_32 ?_
        exact p_iret (pc := 33) cx hr hlk dX9_lowZeros_33 hM4 hw
set_option maxHeartbeats 4000000 in
set_option maxRecDepth 100000 in
theorem c_X9_lowZeros {l : Launch} {D : va_G} {G : SH} (hND : ND G) {a0 : Nat} {M : MS} {Qp : Int32 → MS → Prop} (hT : TYR G M.2.2.1) (ha0 : Is G 8 a0) (hw : w_X9_lowZeros G a0 M Qp) : MeI l D G yX9_lowZeros (Cond.code yX9_lowZeros cX9_lowZeros 2 (some .int) :: GW) rm_X9_lowZeros [.ref a0] M Qp := by
  unfold MeI
  refine p_method (by decide) rfl (Nat.le_of_ble_eq_true rfl) hND ?_
  intro p e s m args below meth c cx hr hlk
  have cx : CX p s m args c D G cX9_lowZeros 2 RX9 := cx
  unfold w_X9_lowZeros at hw
  refine p_iconst (pc := 0) (v := 0) cx dX9_lowZeros_0 (by decide) ?_
  refine p_istore_n (pc := 1) (lv' := [(0, .ref a0), (1, .int (0 : Int32))]) cx dX9_lowZeros_1 rfl (by decide) [1, 0] rfl ?_
  obtain ⟨n1, hw⟩ := hw
  exact x_X9_lowZeros_2 cx hr hlk n1 a0 0 M hT ha0 hw
set_option maxHeartbeats 4000000 in
set_option maxRecDepth 100000 in
theorem c_X9_takeSign {l : Launch} {D : va_G} {G : SH} (hND : ND G) {a0 : Nat} {a1 : Int32} {M : MS} {Qp : MS → Prop} (hT : TYR G M.2.2.1) (ha0 : Is G 8 a0) (hw : w_X9_takeSign G a0 a1 M Qp) : MeV l D G yX9_takeSign (Cond.code yX9_takeSign cX9_takeSign 2 none :: GW) rm_X9_takeSign [.ref a0, .int a1] M Qp := by
  unfold MeV
  refine p_method (by decide) rfl (Nat.le_of_ble_eq_true rfl) hND ?_
  intro p e s m args below meth c cx hr hlk
  have cx : CX p s m args c D G cX9_takeSign 2 RX9 := cx
  unfold w_X9_takeSign at hw
  refine p_aload_n (pc := 0) cx dX9_takeSign_0 rfl 0 rfl ?_
  refine p_iload_n (pc := 1) cx dX9_takeSign_1 rfl 1 rfl ?_
  refine p_if_eq (pc := 2) (tgt := 16) cx dX9_takeSign_2 (by decide) (fun hc => ?_) (fun hc => ?_)
  · have hw := hw.1 hc
    refine p_iconst (pc := 16) (v := 0) cx dX9_takeSign_16 (by decide) ?_
    refine pf_8_2 (pc := 17) (by decide) cx ha0 t1_66 dX9_takeSign_17 ?_
    refine p_mem (fun M1 eM1 => ?_)
    have hw := hw M1 eM1
    have hM1 : TYR G M1.2.2.1 := by rw [eM1]; exact hT
    exact p_vret (pc := 20) cx hr hlk dX9_takeSign_20 hM1 hw
  · have hw := hw.2 hc
    refine p_aload_n (pc := 5) cx dX9_takeSign_5 rfl 0 rfl ?_
    refine gf_8_1 (pc := 6) cx ha0 t1_57 dX9_takeSign_6 ?_
    refine p_if_le (pc := 9) (tgt := 16) cx dX9_takeSign_9 (by decide) (fun hc => ?_) (fun hc => ?_)
    · have hw := hw.1 hc
      refine p_iconst (pc := 16) (v := 0) cx dX9_takeSign_16 (by decide) ?_
      refine pf_8_2 (pc := 17) (by decide) cx ha0 t1_66 dX9_takeSign_17 ?_
      refine p_mem (fun M2 eM2 => ?_)
      have hw := hw M2 eM2
      have hM2 : TYR G M2.2.2.1 := by rw [eM2]; exact hT
      exact p_vret (pc := 20) cx hr hlk dX9_takeSign_20 hM2 hw
    · have hw := hw.2 hc
      refine p_iconst (pc := 12) (v := 1) cx dX9_takeSign_12 (by decide) ?_
      refine p_goto (pc := 13) (tgt := 17) cx dX9_takeSign_13 (by decide) ?_
      refine pf_8_2 (pc := 17) (by decide) cx ha0 t1_66 dX9_takeSign_17 ?_
      refine p_mem (fun M3 eM3 => ?_)
      have hw := hw M3 eM3
      have hM3 : TYR G M3.2.2.1 := by rw [eM3]; exact hT
      exact p_vret (pc := 20) cx hr hlk dX9_takeSign_20 hM3 hw
set_option maxHeartbeats 4000000 in
set_option maxRecDepth 100000 in
theorem c_X9_bits {l : Launch} {D : va_G} {G : SH} (hND : ND G) {a0 : Nat} {M : MS} {Qp : Int32 → MS → Prop} (hT : TYR G M.2.2.1) (ha0 : Is G 8 a0) (hw : w_X9_bits G a0 M Qp) : MeI l D G yX9_bits (Cond.code yX9_bits cX9_bits 1 (some .int) :: GW) rm_X9_bits [.ref a0] M Qp := by
  unfold MeI
  refine p_method (by decide) rfl (Nat.le_of_ble_eq_true rfl) hND ?_
  intro p e s m args below meth c cx hr hlk
  have cx : CX p s m args c D G cX9_bits 1 RX9 := cx
  unfold w_X9_bits at hw
  refine p_aload_n (pc := 0) cx dX9_bits_0 rfl 0 rfl ?_
  refine gf_8_1 (pc := 1) cx ha0 t1_57 dX9_bits_1 ?_
  refine p_if_ne (pc := 4) (tgt := 9) cx dX9_bits_4 (by decide) (fun hc => ?_) (fun hc => ?_)
  · have hw := hw.1 hc
    refine p_bipush (pc := 9) (v := 32) cx dX9_bits_9 (by decide) ?_
    refine p_aload_n (pc := 11) cx dX9_bits_11 rfl 0 rfl ?_
    refine gf_8_1 (pc := 12) cx ha0 t1_57 dX9_bits_12 ?_
    refine p_imul (pc := 15) cx dX9_bits_15 ?_
    refine p_aload_n (pc := 16) cx dX9_bits_16 rfl 0 rfl ?_
    refine gf_8_0 (pc := 17) cx ha0 t1_43 dX9_bits_17 ?_
    have hr_1 : Is G 12 (mR M a0 0) := TYR.at hT ha0 0 12 rfl (by decide)
    refine p_aload_n (pc := 20) cx dX9_bits_20 rfl 0 rfl ?_
    refine gf_8_1 (pc := 21) cx ha0 t1_57 dX9_bits_21 ?_
    refine p_iconst (pc := 24) (v := 1) cx dX9_bits_24 (by decide) ?_
    refine p_isub (pc := 25) cx dX9_bits_25 ?_
    refine p_iald (pc := 26) cx hr_1 hw.1 dX9_bits_26 ?_
    have hw := hw.2
    refine p_callSi (pc := 27) [.int (mA M (mR M a0 0) ((mI M a0 1) - 1).toNatClampNeg)] cx (c_J6_numberOfLeadingZeros_0f7a4 cx.2.2.2.2.2.2 hT hw) cf_J6_numberOfLeadingZeros_0f7a4 cv_J6_numberOfLeadingZeros_0f7a4 t3_21 ⟨rfl, rfl⟩ ⟨Nat.le_of_ble_eq_true rfl, Nat.le_of_ble_eq_true rfl⟩ rfl rfl (Nat.le_of_ble_eq_true rfl) dX9_bits_27 (fun r2 M2 hw hM2 => ?_)
    refine p_isub (pc := 30) cx dX9_bits_30 ?_
    exact p_iret (pc := 31) cx hr hlk dX9_bits_31 hM2 hw
  · have hw := hw.2 hc
    refine p_iconst (pc := 7) (v := 0) cx dX9_bits_7 (by decide) ?_
    exact p_iret (pc := 8) cx hr hlk dX9_bits_8 hT hw
set_option maxHeartbeats 4000000 in
set_option maxRecDepth 100000 in
theorem c_X9_hasBit {l : Launch} {D : va_G} {G : SH} (hND : ND G) {a0 : Nat} {a1 : Int32} {M : MS} {Qp : Int32 → MS → Prop} (hT : TYR G M.2.2.1) (ha0 : Is G 8 a0) (hw : w_X9_hasBit G a0 a1 M Qp) : MeI l D G yX9_hasBit (Cond.code yX9_hasBit cX9_hasBit 2 (some .boolean) :: GW) rm_X9_hasBit [.ref a0, .int a1] M Qp := by
  unfold MeI
  refine p_method (by decide) rfl (Nat.le_of_ble_eq_true rfl) hND ?_
  intro p e s m args below meth c cx hr hlk
  have cx : CX p s m args c D G cX9_hasBit 2 RX9 := cx
  unfold w_X9_hasBit at hw
  refine p_aload_n (pc := 0) cx dX9_hasBit_0 rfl 0 rfl ?_
  refine p_iload_n (pc := 1) cx dX9_hasBit_1 rfl 1 rfl ?_
  refine p_iconst (pc := 2) (v := 5) cx dX9_hasBit_2 (by decide) ?_
  refine p_ishr (pc := 3) cx dX9_hasBit_3 ?_
  refine p_callVl (pc := 4) [.int (a1 >>> ((5 : Int32) &&& 31))] cx (c_X9_limb cx.2.2.2.2.2.2 hT ha0 hw) cf_X9_limb cv_X9_limb t3_7 ha0 ⟨by decide, rfl, rfl⟩ ⟨rfl, rfl⟩ ⟨Nat.le_of_ble_eq_true rfl, Nat.le_of_ble_eq_true rfl⟩ rfl rfl (Nat.le_of_ble_eq_true rfl) dX9_hasBit_4 (fun r1 M1 hw hM1 => ?_)
  refine p_iload_n (pc := 7) cx dX9_hasBit_7 rfl 1 rfl ?_
  refine p_bipush (pc := 8) (v := 31) cx dX9_hasBit_8 (by decide) ?_
  refine p_iand (pc := 10) cx dX9_hasBit_10 ?_
  refine p_lushr (pc := 11) cx dX9_hasBit_11 ?_
  refine p_lconst (pc := 12) (v := 1) cx dX9_hasBit_12 (by decide) ?_
  refine p_land (pc := 13) cx dX9_hasBit_13 ?_
  refine p_lconst (pc := 14) (v := 1) cx dX9_hasBit_14 (by decide) ?_
  refine p_lcmp (pc := 15) cx dX9_hasBit_15 ?_
  refine p_if_ne (pc := 16) (tgt := 23) cx dX9_hasBit_16 (by decide) (fun hc => ?_) (fun hc => ?_)
  · have hw := hw.1 (fun q => hc ((lg_cmp_eq _ _).mpr q))
    refine p_iconst (pc := 23) (v := 0) cx dX9_hasBit_23 (by decide) ?_
    exact p_zret (pc := 24) cx hr hlk dX9_hasBit_24 (by decide) hM1 hw
  · have hw := hw.2 ((lg_cmp_eq _ _).mp hc)
    refine p_iconst (pc := 19) (v := 1) cx dX9_hasBit_19 (by decide) ?_
    refine p_goto (pc := 20) (tgt := 24) cx dX9_hasBit_20 (by decide) ?_
    exact p_zret (pc := 24) cx hr hlk dX9_hasBit_24 (by decide) hM1 hw
set_option maxHeartbeats 4000000 in
set_option maxRecDepth 100000 in
theorem c_X9_isAboveZero {l : Launch} {D : va_G} {G : SH} (hND : ND G) {a0 : Nat} {M : MS} {Qp : Int32 → MS → Prop} (hT : TYR G M.2.2.1) (ha0 : Is G 8 a0) (hw : w_X9_isAboveZero G a0 M Qp) : MeI l D G yX9_isAboveZero (Cond.code yX9_isAboveZero cX9_isAboveZero 1 (some .boolean) :: GW) rm_X9_isAboveZero [.ref a0] M Qp := by
  unfold MeI
  refine p_method (by decide) rfl (Nat.le_of_ble_eq_true rfl) hND ?_
  intro p e s m args below meth c cx hr hlk
  have cx : CX p s m args c D G cX9_isAboveZero 1 RX9 := cx
  unfold w_X9_isAboveZero at hw
  refine p_aload_n (pc := 0) cx dX9_isAboveZero_0 rfl 0 rfl ?_
  refine gf_8_1 (pc := 1) cx ha0 t1_57 dX9_isAboveZero_1 ?_
  refine p_if_le (pc := 4) (tgt := 18) cx dX9_isAboveZero_4 (by decide) (fun hc => ?_) (fun hc => ?_)
  · have hw := hw.1 hc
    refine p_iconst (pc := 18) (v := 0) cx dX9_isAboveZero_18 (by decide) ?_
    exact p_zret (pc := 19) cx hr hlk dX9_isAboveZero_19 (by decide) hT hw
  · have hw := hw.2 hc
    refine p_aload_n (pc := 7) cx dX9_isAboveZero_7 rfl 0 rfl ?_
    refine gf_8_2 (pc := 8) cx ha0 t1_66 dX9_isAboveZero_8 ?_
    refine p_if_ne (pc := 11) (tgt := 18) cx dX9_isAboveZero_11 (by decide) (fun hc => ?_) (fun hc => ?_)
    · have hw := hw.1 hc
      refine p_iconst (pc := 18) (v := 0) cx dX9_isAboveZero_18 (by decide) ?_
      exact p_zret (pc := 19) cx hr hlk dX9_isAboveZero_19 (by decide) hT hw
    · have hw := hw.2 hc
      refine p_iconst (pc := 14) (v := 1) cx dX9_isAboveZero_14 (by decide) ?_
      refine p_goto (pc := 15) (tgt := 19) cx dX9_isAboveZero_15 (by decide) ?_
      exact p_zret (pc := 19) cx hr hlk dX9_isAboveZero_19 (by decide) hT hw
set_option maxHeartbeats 4000000 in
set_option maxRecDepth 100000 in
theorem c_X9_isOdd {l : Launch} {D : va_G} {G : SH} (hND : ND G) {a0 : Nat} {M : MS} {Qp : Int32 → MS → Prop} (hT : TYR G M.2.2.1) (ha0 : Is G 8 a0) (hw : w_X9_isOdd G a0 M Qp) : MeI l D G yX9_isOdd (Cond.code yX9_isOdd cX9_isOdd 1 (some .boolean) :: GW) rm_X9_isOdd [.ref a0] M Qp := by
  unfold MeI
  refine p_method (by decide) rfl (Nat.le_of_ble_eq_true rfl) hND ?_
  intro p e s m args below meth c cx hr hlk
  have cx : CX p s m args c D G cX9_isOdd 1 RX9 := cx
  unfold w_X9_isOdd at hw
  refine p_aload_n (pc := 0) cx dX9_isOdd_0 rfl 0 rfl ?_
  refine p_iconst (pc := 1) (v := 0) cx dX9_isOdd_1 (by decide) ?_
  refine p_callVl (pc := 2) [.int (0 : Int32)] cx (c_X9_limb cx.2.2.2.2.2.2 hT ha0 hw) cf_X9_limb cv_X9_limb t3_7 ha0 ⟨by decide, rfl, rfl⟩ ⟨rfl, rfl⟩ ⟨Nat.le_of_ble_eq_true rfl, Nat.le_of_ble_eq_true rfl⟩ rfl rfl (Nat.le_of_ble_eq_true rfl) dX9_isOdd_2 (fun r1 M1 hw hM1 => ?_)
  refine p_lconst (pc := 5) (v := 1) cx dX9_isOdd_5 (by decide) ?_
  refine p_land (pc := 6) cx dX9_isOdd_6 ?_
  refine p_lconst (pc := 7) (v := 1) cx dX9_isOdd_7 (by decide) ?_
  refine p_lcmp (pc := 8) cx dX9_isOdd_8 ?_
  refine p_if_ne (pc := 9) (tgt := 16) cx dX9_isOdd_9 (by decide) (fun hc => ?_) (fun hc => ?_)
  · have hw := hw.1 (fun q => hc ((lg_cmp_eq _ _).mpr q))
    refine p_iconst (pc := 16) (v := 0) cx dX9_isOdd_16 (by decide) ?_
    exact p_zret (pc := 17) cx hr hlk dX9_isOdd_17 (by decide) hM1 hw
  · have hw := hw.2 ((lg_cmp_eq _ _).mp hc)
    refine p_iconst (pc := 12) (v := 1) cx dX9_isOdd_12 (by decide) ?_
    refine p_goto (pc := 13) (tgt := 17) cx dX9_isOdd_13 (by decide) ?_
    exact p_zret (pc := 17) cx hr hlk dX9_isOdd_17 (by decide) hM1 hw
