set_option maxHeartbeats 4000000 in
set_option maxRecDepth 100000 in
theorem x_X4_takeChunk_12 {p : Program} {l : Launch} {e : Env} {s : State} {m : MethodId} {args : Array Value} {below : List Frame} {meth : Method} {c : Code} {D : va_G} {G : SH} {Qp : Int32 → MS → Prop}  (cx : CX p s m args c D G cX4_takeChunk 6 RX4) (hr : meth.sig.returnType = (some .int)) (hlk : meth.locks = false)  : ∀ (n : Nat) (v0 : Nat) (v1 : Int64) (v3 : Int32) (M : MS), TYR G M.2.2.1 → Is G 4 v0 → w_X4_takeChunk_12 G Qp n v0 v1 v3 M → PW p l e rm_X4_takeChunk s m args below meth c D G 6 (MQ below (va_Qi Qp (POST D G) (AG G)) args s 0 0 (AG G)) 12 [(0, .ref v0), (1, .long v1), (3, .int v3)] [] M := by
  intro n
  induction n with
  | zero =>
    intro v0 v1 v3 M hT hv0 hw
    exact hw.elim
  | succ n ih =>
    intro v0 v1 v3 M hT hv0 hw
    rw [w_X4_takeChunk_12] at hw
    refine p_iload_n (pc := 12) cx dX4_takeChunk_12 rfl 2 rfl ?_
    refine p_if_lt (pc := 13) (tgt := 60) cx dX4_takeChunk_13 (by decide) (fun hc => ?_) (fun hc => ?_)
    · have hw := hw.1 hc
      refine p_aload_n (pc := 60) cx dX4_takeChunk_60 rfl 0 rfl ?_
      refine gf_4_2 (pc := 61) cx hv0 t2_64 dX4_takeChunk_61 ?_
      have hr_3 : Is G 8 (mR M v0 2) := TYR.at hT hv0 2 8 rfl (by decide)
      refine p_aload_n (pc := 64) cx dX4_takeChunk_64 rfl 0 rfl ?_
      refine gf_4_2 (pc := 65) cx hv0 t2_64 dX4_takeChunk_65 ?_
      have hr_4 : Is G 8 (mR M v0 2) := TYR.at hT hv0 2 8 rfl (by decide)
      refine gf_8_1 (pc := 68) cx hr_4 t1_54 dX4_takeChunk_68 ?_
      refine p_callVv (pc := 71) [.int (mI M (mR M v0 2) 1)] cx (c_X9_keep cx.2.2.2.2.2.2 hT hr_3 hw) cf_X9_keep cv_X9_keep t4_142 hr_3 ⟨by decide, rfl, rfl⟩ ⟨rfl, rfl⟩ ⟨Nat.le_of_ble_eq_true rfl, Nat.le_of_ble_eq_true rfl⟩ rfl rfl (Nat.le_of_ble_eq_true rfl) dX4_takeChunk_71 (fun M5 hw hM5 => ?_)
      refine p_lload_n (pc := 74) cx dX4_takeChunk_74 rfl 1 rfl ?_
      refine p_l2i (pc := 75) cx dX4_takeChunk_75 ?_
      exact p_iret (pc := 76) cx hr hlk dX4_takeChunk_76 hM5 hw
    · have hw := hw.2 hc
      refine p_lload_n (pc := 16) cx dX4_takeChunk_16 rfl 1 rfl ?_
      refine p_bipush (pc := 17) (v := 32) cx dX4_takeChunk_17 (by decide) ?_
      refine p_lshl (pc := 19) cx dX4_takeChunk_19 ?_
      refine p_aload_n (pc := 20) cx dX4_takeChunk_20 rfl 0 rfl ?_
      refine gf_4_2 (pc := 21) cx hv0 t2_64 dX4_takeChunk_21 ?_
      have hr_6 : Is G 8 (mR M v0 2) := TYR.at hT hv0 2 8 rfl (by decide)
      refine p_iload_n (pc := 24) cx dX4_takeChunk_24 rfl 2 rfl ?_
      refine p_callVl (pc := 25) [.int v3] cx (c_X9_limb cx.2.2.2.2.2.2 hT hr_6 hw) cf_X9_limb cv_X9_limb t4_140 hr_6 ⟨by decide, rfl, rfl⟩ ⟨rfl, rfl⟩ ⟨Nat.le_of_ble_eq_true rfl, Nat.le_of_ble_eq_true rfl⟩ rfl rfl (Nat.le_of_ble_eq_true rfl) dX4_takeChunk_25 (fun r7 M7 hw hM7 => ?_)
      refine p_lor (pc := 28) cx dX4_takeChunk_28 ?_
      refine p_topl (fun x4_8 ex4_8 => ?_)
      have hw := hw x4_8 ex4_8
      refine p_lstore (pc := 29) (lv' := [(0, .ref v0), (3, .int v3), (4, .long x4_8)]) cx dX4_takeChunk_29 (by decide) [1, 3, 0] rfl ?_
      refine p_aload_n (pc := 31) cx dX4_takeChunk_31 rfl 0 rfl ?_
      refine gf_4_2 (pc := 32) cx hv0 t2_64 dX4_takeChunk_32 ?_
      have hr_9 : Is G 8 (mR M7 v0 2) := TYR.at hM7 hv0 2 8 rfl (by decide)
      refine gf_8_0 (pc := 35) cx hr_9 t1_46 dX4_takeChunk_35 ?_
      have hr_10 : Is G 12 (mR M7 (mR M7 v0 2) 0) := TYR.at hM7 hr_9 0 12 rfl (by decide)
      refine p_iload_n (pc := 38) cx dX4_takeChunk_38 rfl 1 rfl ?_
      refine p_lload (pc := 39) cx dX4_takeChunk_39 2 rfl ?_
      refine p_ldc2 (pc := 41) cx dX4_takeChunk_41 t4_141 ?_
      refine p_ldiv (pc := 44) cx dX4_takeChunk_44 hw.1 ?_
      have hw := hw.2
      refine p_l2i (pc := 45) cx dX4_takeChunk_45 ?_
      refine p_iast (pc := 46) cx hr_10 hw.1 dX4_takeChunk_46 ?_
      have hw := hw.2
      refine p_mem (fun M11 eM11 => ?_)
      have hw := hw M11 eM11
      have hM11 : TYR G M11.2.2.1 := by rw [eM11]; exact hM7
      refine p_lload (pc := 47) cx dX4_takeChunk_47 2 rfl ?_
      refine p_ldc2 (pc := 49) cx dX4_takeChunk_49 t4_141 ?_
      refine p_lrem (pc := 52) cx dX4_takeChunk_52 hw.1 ?_
      have hw := hw.2
      refine p_topl (fun x1_12 ex1_12 => ?_)
      have hw := hw x1_12 ex1_12
      refine p_lstore_n (pc := 53) (lv' := [(0, .ref v0), (1, .long x1_12), (3, .int v3)]) cx dX4_takeChunk_53 rfl (by decide) [1, 0, 2] rfl ?_
      obtain ⟨x3_13, ex3_13⟩ : ∃ y : Int32, y = v3 + (-1) := ⟨_, rfl⟩
      have hw := hw x3_13 ex3_13
      refine p_iinc (pc := 54) (v := x3_13) (lv' := [(0, .ref v0), (1, .long x1_12), (3, .int x3_13)]) cx dX4_takeChunk_54 2 rfl (by rw [ex3_13]; rfl) (by decide) [1, 2, 0] rfl ?_
      refine p_goto (pc := 57) (tgt := 12) cx dX4_takeChunk_57 (by decide) ?_
      exact ih v0 x1_12 x3_13 M11 hM11 hv0 hw
set_option maxHeartbeats 4000000 in
set_option maxRecDepth 100000 in
theorem c_X4_takeChunk {l : Launch} {D : va_G} {G : SH} (hND : ND G) {a0 : Nat} {M : MS} {Qp : Int32 → MS → Prop} (hT : TYR G M.2.2.1) (ha0 : Is G 4 a0) (hw : w_X4_takeChunk G a0 M Qp) : MeI l D G yX4_takeChunk (Cond.code yX4_takeChunk cX4_takeChunk 6 (some .int) :: GW) rm_X4_takeChunk [.ref a0] M Qp := by
  unfold MeI
  refine p_method (by decide) rfl (Nat.le_of_ble_eq_true rfl) hND ?_
  intro p e s m args below meth c cx hr hlk
  have cx : CX p s m args c D G cX4_takeChunk 6 RX4 := cx
  unfold w_X4_takeChunk at hw
  refine p_lconst (pc := 0) (v := 0) cx dX4_takeChunk_0 (by decide) ?_
  refine p_lstore_n (pc := 1) (lv' := [(0, .ref a0), (1, .long (0 : Int64))]) cx dX4_takeChunk_1 rfl (by decide) [1, 0] rfl ?_
  refine p_aload_n (pc := 2) cx dX4_takeChunk_2 rfl 0 rfl ?_
  refine gf_4_2 (pc := 3) cx ha0 t2_64 dX4_takeChunk_3 ?_
  have hr_1 : Is G 8 (mR M a0 2) := TYR.at hT ha0 2 8 rfl (by decide)
  refine gf_8_1 (pc := 6) cx hr_1 t1_54 dX4_takeChunk_6 ?_
  refine p_iconst (pc := 9) (v := 1) cx dX4_takeChunk_9 (by decide) ?_
  refine p_isub (pc := 10) cx dX4_takeChunk_10 ?_
  refine p_topi (fun x3_2 ex3_2 => ?_)
  have hw := hw x3_2 ex3_2
  refine p_istore_n (pc := 11) (lv' := [(0, .ref a0), (1, .long (0 : Int64)), (3, .int x3_2)]) cx dX4_takeChunk_11 rfl (by decide) [1, 2, 0] rfl ?_
  obtain ⟨n1, hw⟩ := hw
  exact x_X4_takeChunk_12 cx hr hlk n1 a0 0 x3_2 M hT ha0 hw
set_option maxHeartbeats 4000000 in
set_option maxRecDepth 100000 in
theorem c_X4_append {l : Launch} {D : va_G} {G : SH} (hND : ND G) {a0 : Nat} {a1 : Int32} {M : MS} {Qp : MS → Prop} (hT : TYR G M.2.2.1) (ha0 : Is G 4 a0) (hw : w_X4_append G a0 a1 M Qp) : MeV l D G yX4_append (Cond.code yX4_append cX4_append 2 none :: GW) rm_X4_append [.ref a0, .int a1] M Qp := by
  unfold MeV
  refine p_method (by decide) rfl (Nat.le_of_ble_eq_true rfl) hND ?_
  intro p e s m args below meth c cx hr hlk
  have cx : CX p s m args c D G cX4_append 2 RX4 := cx
  unfold w_X4_append at hw
  refine p_aload_n (pc := 0) cx dX4_append_0 rfl 0 rfl ?_
  refine gf_4_0 (pc := 1) cx ha0 t2_60 dX4_append_1 ?_
  refine p_aload_n (pc := 4) cx dX4_append_4 rfl 0 rfl ?_
  refine gf_4_1 (pc := 5) cx ha0 t2_62 dX4_append_5 ?_
  have hr_1 : Is G 11 (mR M a0 1) := TYR.at hT ha0 1 11 rfl (by decide)
  refine p_alenB (pc := 8) cx hr_1 dX4_append_8 ?_
  refine p_icmp_ge (pc := 9) (tgt := 33) cx dX4_append_9 (by decide) (fun hc => ?_) (fun hc => ?_)
  · have hw := hw.1 hc
    exact p_vret (pc := 33) cx hr hlk dX4_append_33 hT hw
  · have hw := hw.2 hc
    refine p_aload_n (pc := 12) cx dX4_append_12 rfl 0 rfl ?_
    refine gf_4_1 (pc := 13) cx ha0 t2_62 dX4_append_13 ?_
    have hr_2 : Is G 11 (mR M a0 1) := TYR.at hT ha0 1 11 rfl (by decide)
    refine p_aload_n (pc := 16) cx dX4_append_16 rfl 0 rfl ?_
    refine gf_4_0 (pc := 17) cx ha0 t2_60 dX4_append_17 ?_
    refine p_iload_n (pc := 20) cx dX4_append_20 rfl 1 rfl ?_
    refine p_i2b (pc := 21) cx dX4_append_21 ?_
    refine p_bast (pc := 22) cx hr_2 hw.1 dX4_append_22 ?_
    have hw := hw.2
    refine p_mem (fun M3 eM3 => ?_)
    have hw := hw M3 eM3
    have hM3 : TYR G M3.2.2.1 := by rw [eM3]; exact hT
    refine p_aload_n (pc := 23) cx dX4_append_23 rfl 0 rfl ?_
    refine p_dup (pc := 24) cx dX4_append_24 rfl ?_
    refine gf_4_0 (pc := 25) cx ha0 t2_60 dX4_append_25 ?_
    refine p_iconst (pc := 28) (v := 1) cx dX4_append_28 (by decide) ?_
    refine p_iadd (pc := 29) cx dX4_append_29 ?_
    refine pf_4_0 (pc := 30) cx ha0 t2_60 dX4_append_30 ?_
    refine p_mem (fun M4 eM4 => ?_)
    have hw := hw M4 eM4
    have hM4 : TYR G M4.2.2.1 := by rw [eM4]; exact hM3
    exact p_vret (pc := 33) cx hr hlk dX4_append_33 hM4 hw
set_option maxHeartbeats 4000000 in
set_option maxRecDepth 100000 in
theorem x_X4_appendChunk_24 {p : Program} {l : Launch} {e : Env} {s : State} {m : MethodId} {args : Array Value} {below : List Frame} {meth : Method} {c : Code} {D : va_G} {G : SH} {Qp : MS → Prop} {K4 : Nat → Int32 → Int32 → MS → Prop} (cx : CX p s m args c D G cX4_appendChunk 4 RX4) (hr : meth.sig.returnType = none) (hlk : meth.locks = false) (hK4 : ∀ (v0 : Nat) (v2 : Int32) (v3 : Int32) (M : MS), TYR G M.2.2.1 → Is G 4 v0 → K4 v0 v2 v3 M → PW p l e rm_X4_appendChunk s m args below meth c D G 4 (MQ below (va_Qv Qp (POST D G) (AG G)) args s 0 0 (AG G)) 4 [(0, .ref v0), (2, .int v2), (3, .int v3)] [] M) (v0 : Nat) (v2 : Int32) (v3 : Int32) (M : MS) (hT : TYR G M.2.2.1) (hv0 : Is G 4 v0) (hw : w_X4_appendChunk_24 G K4 Qp v0 v2 v3 M) : PW p l e rm_X4_appendChunk s m args below meth c D G 4 (MQ below (va_Qv Qp (POST D G) (AG G)) args s 0 0 (AG G)) 24 [(0, .ref v0), (2, .int v2), (3, .int v3)] [] M := by
  unfold w_X4_appendChunk_24 at hw
  refine p_aload_n (pc := 24) cx dX4_appendChunk_24 rfl 0 rfl ?_
  refine p_bipush (pc := 25) (v := 48) cx dX4_appendChunk_25 (by decide) ?_
  refine p_iload_n (pc := 27) cx dX4_appendChunk_27 rfl 1 rfl ?_
  refine p_bipush (pc := 28) (v := 10) cx dX4_appendChunk_28 (by decide) ?_
  refine p_irem (pc := 30) cx dX4_appendChunk_30 hw.1 ?_
  have hw := hw.2
  refine p_iadd (pc := 31) cx dX4_appendChunk_31 ?_
  refine p_callVv (pc := 32) [.int ((48 : Int32) + (v2 - v2 / (10 : Int32) * (10 : Int32)))] cx (c_X4_append cx.2.2.2.2.2.2 hT hv0 hw) cf_X4_append cv_X4_append t4_147 hv0 ⟨by decide, rfl, rfl⟩ ⟨rfl, rfl⟩ ⟨Nat.le_of_ble_eq_true rfl, Nat.le_of_ble_eq_true rfl⟩ rfl rfl (Nat.le_of_ble_eq_true rfl) dX4_appendChunk_32 (fun M2 hw hM2 => ?_)
  refine p_iload_n (pc := 35) cx dX4_appendChunk_35 rfl 1 rfl ?_
  refine p_bipush (pc := 36) (v := 10) cx dX4_appendChunk_36 (by decide) ?_
  refine p_idiv (pc := 38) cx dX4_appendChunk_38 hw.1 ?_
  have hw := hw.2
  refine p_topi (fun x2_3 ex2_3 => ?_)
  have hw := hw x2_3 ex2_3
  refine p_istore_n (pc := 39) (lv' := [(0, .ref v0), (2, .int x2_3), (3, .int v3)]) cx dX4_appendChunk_39 rfl (by decide) [1, 0, 2] rfl ?_
  obtain ⟨x3_4, ex3_4⟩ : ∃ y : Int32, y = v3 + 1 := ⟨_, rfl⟩
  have hw := hw x3_4 ex3_4
  refine p_iinc (pc := 40) (v := x3_4) (lv' := [(0, .ref v0), (2, .int x2_3), (3, .int x3_4)]) cx dX4_appendChunk_40 2 rfl (by rw [ex3_4]; rfl) (by decide) [1, 2, 0] rfl ?_
  refine p_goto (pc := 43) (tgt := 4) cx dX4_appendChunk_43 (by decide) ?_
  exact hK4 v0 x2_3 x3_4 M2 hM2 hv0 hw
set_option maxHeartbeats 4000000 in
set_option maxRecDepth 100000 in
theorem x_X4_appendChunk_4 {p : Program} {l : Launch} {e : Env} {s : State} {m : MethodId} {args : Array Value} {below : List Frame} {meth : Method} {c : Code} {D : va_G} {G : SH} {Qp : MS → Prop}  (cx : CX p s m args c D G cX4_appendChunk 4 RX4) (hr : meth.sig.returnType = none) (hlk : meth.locks = false)  : ∀ (n : Nat) (v0 : Nat) (v2 : Int32) (v3 : Int32) (M : MS), TYR G M.2.2.1 → Is G 4 v0 → w_X4_appendChunk_4 G Qp n v0 v2 v3 M → PW p l e rm_X4_appendChunk s m args below meth c D G 4 (MQ below (va_Qv Qp (POST D G) (AG G)) args s 0 0 (AG G)) 4 [(0, .ref v0), (2, .int v2), (3, .int v3)] [] M := by
  intro n
  induction n with
  | zero =>
    intro v0 v2 v3 M hT hv0 hw
    exact hw.elim
  | succ n ih =>
    intro v0 v2 v3 M hT hv0 hw
    rw [w_X4_appendChunk_4] at hw
    refine p_iload_n (pc := 4) cx dX4_appendChunk_4 rfl 2 rfl ?_
    refine p_bipush (pc := 5) (v := 9) cx dX4_appendChunk_5 (by decide) ?_
    refine p_icmp_ge (pc := 7) (tgt := 46) cx dX4_appendChunk_7 (by decide) (fun hc => ?_) (fun hc => ?_)
    · have hw := hw.1 hc
      exact p_vret (pc := 46) cx hr hlk dX4_appendChunk_46 hT hw
    · have hw := hw.2 hc
      refine p_aload_n (pc := 10) cx dX4_appendChunk_10 rfl 0 rfl ?_
      refine gf_4_2 (pc := 11) cx hv0 t2_64 dX4_appendChunk_11 ?_
      have hr_1 : Is G 8 (mR M v0 2) := TYR.at hT hv0 2 8 rfl (by decide)
      refine gf_8_1 (pc := 14) cx hr_1 t1_54 dX4_appendChunk_14 ?_
      refine p_if_gt (pc := 17) (tgt := 24) cx dX4_appendChunk_17 (by decide) (fun hc => ?_) (fun hc => ?_)
      · have hw := hw.1 hc
        exact x_X4_appendChunk_24 cx hr hlk ih v0 v2 v3 M hT hv0 hw
      · have hw := hw.2 hc
        refine p_iload_n (pc := 20) cx dX4_appendChunk_20 rfl 1 rfl ?_
        refine p_if_le (pc := 21) (tgt := 46) cx dX4_appendChunk_21 (by decide) (fun hc => ?_) (fun hc => ?_)
        · have hw := hw.1 hc
          exact p_vret (pc := 46) cx hr hlk dX4_appendChunk_46 hT hw
        · have hw := hw.2 hc
          exact x_X4_appendChunk_24 cx hr hlk ih v0 v2 v3 M hT hv0 hw
set_option maxHeartbeats 4000000 in
set_option maxRecDepth 100000 in
theorem c_X4_appendChunk {l : Launch} {D : va_G} {G : SH} (hND : ND G) {a0 : Nat} {a1 : Int32} {M : MS} {Qp : MS → Prop} (hT : TYR G M.2.2.1) (ha0 : Is G 4 a0) (hw : w_X4_appendChunk G a0 a1 M Qp) : MeV l D G yX4_appendChunk (Cond.code yX4_appendChunk cX4_appendChunk 4 none :: GW) rm_X4_appendChunk [.ref a0, .int a1] M Qp := by
  unfold MeV
  refine p_method (by decide) rfl (Nat.le_of_ble_eq_true rfl) hND ?_
  intro p e s m args below meth c cx hr hlk
  have cx : CX p s m args c D G cX4_appendChunk 4 RX4 := cx
  unfold w_X4_appendChunk at hw
  refine p_iload_n (pc := 0) cx dX4_appendChunk_0 rfl 1 rfl ?_
  refine p_istore_n (pc := 1) (lv' := [(0, .ref a0), (2, .int a1)]) cx dX4_appendChunk_1 rfl (by decide) [1, 0] rfl ?_
  refine p_iconst (pc := 2) (v := 0) cx dX4_appendChunk_2 (by decide) ?_
  refine p_istore_n (pc := 3) (lv' := [(0, .ref a0), (2, .int a1), (3, .int (0 : Int32))]) cx dX4_appendChunk_3 rfl (by decide) [1, 2, 0] rfl ?_
  obtain ⟨n1, hw⟩ := hw
  exact x_X4_appendChunk_4 cx hr hlk n1 a0 a1 0 M hT ha0 hw
set_option maxHeartbeats 4000000 in
set_option maxRecDepth 100000 in
theorem x_X4_turnRound_9 {p : Program} {l : Launch} {e : Env} {s : State} {m : MethodId} {args : Array Value} {below : List Frame} {meth : Method} {c : Code} {D : va_G} {G : SH} {Qp : MS → Prop}  (cx : CX p s m args c D G cX4_turnRound 4 RX4) (hr : meth.sig.returnType = none) (hlk : meth.locks = false)  : ∀ (n : Nat) (v0 : Nat) (v1 : Int32) (v2 : Int32) (M : MS), TYR G M.2.2.1 → Is G 4 v0 → w_X4_turnRound_9 G Qp n v0 v1 v2 M → PW p l e rm_X4_turnRound s m args below meth c D G 4 (MQ below (va_Qv Qp (POST D G) (AG G)) args s 0 0 (AG G)) 9 [(0, .ref v0), (1, .int v1), (2, .int v2)] [] M := by
  intro n
  induction n with
  | zero =>
    intro v0 v1 v2 M hT hv0 hw
    exact hw.elim
  | succ n ih =>
    intro v0 v1 v2 M hT hv0 hw
    rw [w_X4_turnRound_9] at hw
    refine p_iload_n (pc := 9) cx dX4_turnRound_9 rfl 1 rfl ?_
    refine p_iload_n (pc := 10) cx dX4_turnRound_10 rfl 2 rfl ?_
    refine p_icmp_ge (pc := 11) (tgt := 49) cx dX4_turnRound_11 (by decide) (fun hc => ?_) (fun hc => ?_)
    · have hw := hw.1 hc
      exact p_vret (pc := 49) cx hr hlk dX4_turnRound_49 hT hw
    · have hw := hw.2 hc
      refine p_aload_n (pc := 14) cx dX4_turnRound_14 rfl 0 rfl ?_
      refine gf_4_1 (pc := 15) cx hv0 t2_62 dX4_turnRound_15 ?_
      have hr_2 : Is G 11 (mR M v0 1) := TYR.at hT hv0 1 11 rfl (by decide)
      refine p_iload_n (pc := 18) cx dX4_turnRound_18 rfl 1 rfl ?_
      refine p_bald (pc := 19) cx hr_2 hw.1 dX4_turnRound_19 ?_
      have hw := hw.2
      refine p_topi (fun x3_3 ex3_3 => ?_)
      have hw := hw x3_3 ex3_3
      refine p_istore_n (pc := 20) (lv' := [(0, .ref v0), (1, .int v1), (2, .int v2), (3, .int x3_3)]) cx dX4_turnRound_20 rfl (by decide) [1, 2, 3, 0] rfl ?_
      refine p_aload_n (pc := 21) cx dX4_turnRound_21 rfl 0 rfl ?_
      refine gf_4_1 (pc := 22) cx hv0 t2_62 dX4_turnRound_22 ?_
      have hr_4 : Is G 11 (mR M v0 1) := TYR.at hT hv0 1 11 rfl (by decide)
      refine p_iload_n (pc := 25) cx dX4_turnRound_25 rfl 1 rfl ?_
      refine p_aload_n (pc := 26) cx dX4_turnRound_26 rfl 0 rfl ?_
      refine gf_4_1 (pc := 27) cx hv0 t2_62 dX4_turnRound_27 ?_
      have hr_5 : Is G 11 (mR M v0 1) := TYR.at hT hv0 1 11 rfl (by decide)
      refine p_iload_n (pc := 30) cx dX4_turnRound_30 rfl 2 rfl ?_
      refine p_bald (pc := 31) cx hr_5 hw.1 dX4_turnRound_31 ?_
      have hw := hw.2
      refine p_bast (pc := 32) cx hr_4 hw.1 dX4_turnRound_32 ?_
      have hw := hw.2
      refine p_mem (fun M6 eM6 => ?_)
      have hw := hw M6 eM6
      have hM6 : TYR G M6.2.2.1 := by rw [eM6]; exact hT
      refine p_aload_n (pc := 33) cx dX4_turnRound_33 rfl 0 rfl ?_
      refine gf_4_1 (pc := 34) cx hv0 t2_62 dX4_turnRound_34 ?_
      have hr_7 : Is G 11 (mR M6 v0 1) := TYR.at hM6 hv0 1 11 rfl (by decide)
      refine p_iload_n (pc := 37) cx dX4_turnRound_37 rfl 2 rfl ?_
      refine p_iload_n (pc := 38) cx dX4_turnRound_38 rfl 3 rfl ?_
      refine p_bast (pc := 39) cx hr_7 hw.1 dX4_turnRound_39 ?_
      have hw := hw.2
      refine p_mem (fun M8 eM8 => ?_)
      have hw := hw M8 eM8
      have hM8 : TYR G M8.2.2.1 := by rw [eM8]; exact hM6
      obtain ⟨x1_9, ex1_9⟩ : ∃ y : Int32, y = v1 + 1 := ⟨_, rfl⟩
      have hw := hw x1_9 ex1_9
      refine p_iinc (pc := 40) (v := x1_9) (lv' := [(0, .ref v0), (1, .int x1_9), (2, .int v2)]) cx dX4_turnRound_40 1 rfl (by rw [ex1_9]; rfl) (by decide) [1, 0, 2] rfl ?_
      obtain ⟨x2_10, ex2_10⟩ : ∃ y : Int32, y = v2 + (-1) := ⟨_, rfl⟩
      have hw := hw x2_10 ex2_10
      refine p_iinc (pc := 43) (v := x2_10) (lv' := [(0, .ref v0), (1, .int x1_9), (2, .int x2_10)]) cx dX4_turnRound_43 2 rfl (by rw [ex2_10]; rfl) (by decide) [1, 2, 0] rfl ?_
      refine p_goto (pc := 46) (tgt := 9) cx dX4_turnRound_46 (by decide) ?_
      exact ih v0 x1_9 x2_10 M8 hM8 hv0 hw
set_option maxHeartbeats 4000000 in
set_option maxRecDepth 100000 in
theorem c_X4_turnRound {l : Launch} {D : va_G} {G : SH} (hND : ND G) {a0 : Nat} {M : MS} {Qp : MS → Prop} (hT : TYR G M.2.2.1) (ha0 : Is G 4 a0) (hw : w_X4_turnRound G a0 M Qp) : MeV l D G yX4_turnRound (Cond.code yX4_turnRound cX4_turnRound 4 none :: GW) rm_X4_turnRound [.ref a0] M Qp := by
  unfold MeV
  refine p_method (by decide) rfl (Nat.le_of_ble_eq_true rfl) hND ?_
  intro p e s m args below meth c cx hr hlk
  have cx : CX p s m args c D G cX4_turnRound 4 RX4 := cx
  unfold w_X4_turnRound at hw
  refine p_iconst (pc := 0) (v := 0) cx dX4_turnRound_0 (by decide) ?_
  refine p_istore_n (pc := 1) (lv' := [(0, .ref a0), (1, .int (0 : Int32))]) cx dX4_turnRound_1 rfl (by decide) [1, 0] rfl ?_
  refine p_aload_n (pc := 2) cx dX4_turnRound_2 rfl 0 rfl ?_
  refine gf_4_0 (pc := 3) cx ha0 t2_60 dX4_turnRound_3 ?_
  refine p_iconst (pc := 6) (v := 1) cx dX4_turnRound_6 (by decide) ?_
  refine p_isub (pc := 7) cx dX4_turnRound_7 ?_
  refine p_topi (fun x2_1 ex2_1 => ?_)
  have hw := hw x2_1 ex2_1
  refine p_istore_n (pc := 8) (lv' := [(0, .ref a0), (1, .int (0 : Int32)), (2, .int x2_1)]) cx dX4_turnRound_8 rfl (by decide) [1, 2, 0] rfl ?_
  obtain ⟨n1, hw⟩ := hw
  exact x_X4_turnRound_9 cx hr hlk n1 a0 0 x2_1 M hT ha0 hw
set_option maxHeartbeats 4000000 in
set_option maxRecDepth 100000 in
theorem x_X4_print_61 {p : Program} {l : Launch} {e : Env} {s : State} {m : MethodId} {args : Array Value} {below : List Frame} {meth : Method} {c : Code} {D : va_G} {G : SH} {Qp : MS → Prop}  (cx : CX p s m args c D G cX4_print 3 RX4) (hr : meth.sig.returnType = none) (hlk : meth.locks = false)  (v0 : Nat) (v1 : Nat) (M : MS) (hT : TYR G M.2.2.1) (hv0 : Is G 4 v0) (hv1 : Is G 8 v1) (hw : w_X4_print_61 G Qp v0 v1 M) : PW p l e rm_X4_print s m args below meth c D G 3 (MQ below (va_Qv Qp (POST D G) (AG G)) args s 0 0 (AG G)) 61 [(0, .ref v0), (1, .ref v1)] [] M := by
  unfold w_X4_print_61 at hw
  refine p_aload_n (pc := 61) cx dX4_print_61 rfl 1 rfl ?_
  refine gf_8_2 (pc := 62) cx hv1 t1_64 dX4_print_62 ?_
  refine p_if_eq (pc := 65) (tgt := 74) cx dX4_print_65 (by decide) (fun hc => ?_) (fun hc => ?_)
  · have hw := hw.1 hc
    refine p_aload_n (pc := 74) cx dX4_print_74 rfl 0 rfl ?_
    refine p_callVv (pc := 75) [] cx (c_X4_turnRound cx.2.2.2.2.2.2 hT hv0 hw) cf_X4_turnRound cv_X4_turnRound t4_151 hv0 ⟨by decide, rfl, rfl⟩ ⟨rfl, rfl⟩ ⟨Nat.le_of_ble_eq_true rfl, Nat.le_of_ble_eq_true rfl⟩ rfl rfl (Nat.le_of_ble_eq_true rfl) dX4_print_75 (fun M5 hw hM5 => ?_)
    exact p_vret (pc := 78) cx hr hlk dX4_print_78 hM5 hw
  · have hw := hw.2 hc
    refine p_aload_n (pc := 68) cx dX4_print_68 rfl 0 rfl ?_
    refine p_bipush (pc := 69) (v := 45) cx dX4_print_69 (by decide) ?_
    refine p_callVv (pc := 71) [.int (45 : Int32)] cx (c_X4_append cx.2.2.2.2.2.2 hT hv0 hw) cf_X4_append cv_X4_append t4_147 hv0 ⟨by decide, rfl, rfl⟩ ⟨rfl, rfl⟩ ⟨Nat.le_of_ble_eq_true rfl, Nat.le_of_ble_eq_true rfl⟩ rfl rfl (Nat.le_of_ble_eq_true rfl) dX4_print_71 (fun M6 hw hM6 => ?_)
    refine p_aload_n (pc := 74) cx dX4_print_74 rfl 0 rfl ?_
    refine p_callVv (pc := 75) [] cx (c_X4_turnRound cx.2.2.2.2.2.2 hM6 hv0 hw) cf_X4_turnRound cv_X4_turnRound t4_151 hv0 ⟨by decide, rfl, rfl⟩ ⟨rfl, rfl⟩ ⟨Nat.le_of_ble_eq_true rfl, Nat.le_of_ble_eq_true rfl⟩ rfl rfl (Nat.le_of_ble_eq_true rfl) dX4_print_75 (fun M7 hw hM7 => ?_)
    exact p_vret (pc := 78) cx hr hlk dX4_print_78 hM7 hw
set_option maxHeartbeats 4000000 in
set_option maxRecDepth 100000 in
theorem x_X4_print_48 {p : Program} {l : Launch} {e : Env} {s : State} {m : MethodId} {args : Array Value} {below : List Frame} {meth : Method} {c : Code} {D : va_G} {G : SH} {Qp : MS → Prop}  (cx : CX p s m args c D G cX4_print 3 RX4) (hr : meth.sig.returnType = none) (hlk : meth.locks = false)  (v0 : Nat) (v1 : Nat) (M : MS) (hT : TYR G M.2.2.1) (hv0 : Is G 4 v0) (hv1 : Is G 8 v1) (hw : w_X4_print_48 G Qp v0 v1 M) : PW p l e rm_X4_print s m args below meth c D G 3 (MQ below (va_Qv Qp (POST D G) (AG G)) args s 0 0 (AG G)) 48 [(0, .ref v0), (1, .ref v1)] [] M := by
  unfold w_X4_print_48 at hw
  refine p_aload_n (pc := 48) cx dX4_print_48 rfl 0 rfl ?_
  refine gf_4_0 (pc := 49) cx hv0 t2_60 dX4_print_49 ?_
  refine p_if_ne (pc := 52) (tgt := 61) cx dX4_print_52 (by decide) (fun hc => ?_) (fun hc => ?_)
  · have hw := hw.1 hc
    exact x_X4_print_61 cx hr hlk v0 v1 M hT hv0 hv1 hw
  · have hw := hw.2 hc
    refine p_aload_n (pc := 55) cx dX4_print_55 rfl 0 rfl ?_
    refine p_bipush (pc := 56) (v := 48) cx dX4_print_56 (by decide) ?_
    refine p_callVv (pc := 58) [.int (48 : Int32)] cx (c_X4_append cx.2.2.2.2.2.2 hT hv0 hw) cf_X4_append cv_X4_append t4_147 hv0 ⟨by decide, rfl, rfl⟩ ⟨rfl, rfl⟩ ⟨Nat.le_of_ble_eq_true rfl, Nat.le_of_ble_eq_true rfl⟩ rfl rfl (Nat.le_of_ble_eq_true rfl) dX4_print_58 (fun M8 hw hM8 => ?_)
    exact x_X4_print_61 cx hr hlk v0 v1 M8 hM8 hv0 hv1 hw
set_option maxHeartbeats 4000000 in
set_option maxRecDepth 100000 in
theorem x_X4_print_15 {p : Program} {l : Launch} {e : Env} {s : State} {m : MethodId} {args : Array Value} {below : List Frame} {meth : Method} {c : Code} {D : va_G} {G : SH} {Qp : MS → Prop}  (cx : CX p s m args c D G cX4_print 3 RX4) (hr : meth.sig.returnType = none) (hlk : meth.locks = false)  : ∀ (n : Nat) (v0 : Nat) (v1 : Nat) (v2 : Int32) (M : MS), TYR G M.2.2.1 → Is G 4 v0 → Is G 8 v1 → w_X4_print_15 G Qp n v0 v1 v2 M → PW p l e rm_X4_print s m args below meth c D G 3 (MQ below (va_Qv Qp (POST D G) (AG G)) args s 0 0 (AG G)) 15 [(0, .ref v0), (1, .ref v1), (2, .int v2)] [] M := by
  intro n
  induction n with
  | zero =>
    intro v0 v1 v2 M hT hv0 hv1 hw
    exact hw.elim
  | succ n ih =>
    intro v0 v1 v2 M hT hv0 hv1 hw
    rw [w_X4_print_15] at hw
    refine p_iload_n (pc := 15) cx dX4_print_15 rfl 2 rfl ?_
    refine p_aload_n (pc := 16) cx dX4_print_16 rfl 0 rfl ?_
    refine gf_4_1 (pc := 17) cx hv0 t2_62 dX4_print_17 ?_
    have hr_4 : Is G 11 (mR M v0 1) := TYR.at hT hv0 1 11 rfl (by decide)
    refine p_alenB (pc := 20) cx hr_4 dX4_print_20 ?_
    refine p_icmp_ge (pc := 21) (tgt := 48) cx dX4_print_21 (by decide) (fun hc => ?_) (fun hc => ?_)
    · have hw := hw.1 hc
      refine p_perm (lv' := [(0, .ref v0), (1, .ref v1)]) [0, 1] rfl ?_
      exact x_X4_print_48 cx hr hlk v0 v1 M hT hv0 hv1 hw
    · have hw := hw.2 hc
      refine p_aload_n (pc := 24) cx dX4_print_24 rfl 0 rfl ?_
      refine gf_4_2 (pc := 25) cx hv0 t2_64 dX4_print_25 ?_
      have hr_9 : Is G 8 (mR M v0 2) := TYR.at hT hv0 2 8 rfl (by decide)
      refine gf_8_1 (pc := 28) cx hr_9 t1_54 dX4_print_28 ?_
      refine p_if_le (pc := 31) (tgt := 48) cx dX4_print_31 (by decide) (fun hc => ?_) (fun hc => ?_)
      · have hw := hw.1 hc
        refine p_perm (lv' := [(0, .ref v0), (1, .ref v1)]) [0, 1] rfl ?_
        exact x_X4_print_48 cx hr hlk v0 v1 M hT hv0 hv1 hw
      · have hw := hw.2 hc
        refine p_aload_n (pc := 34) cx dX4_print_34 rfl 0 rfl ?_
        refine p_aload_n (pc := 35) cx dX4_print_35 rfl 0 rfl ?_
        refine p_callVi (pc := 36) [] cx (c_X4_takeChunk cx.2.2.2.2.2.2 hT hv0 hw) cf_X4_takeChunk cv_X4_takeChunk t4_136 hv0 ⟨by decide, rfl, rfl⟩ ⟨rfl, rfl⟩ ⟨Nat.le_of_ble_eq_true rfl, Nat.le_of_ble_eq_true rfl⟩ rfl rfl (Nat.le_of_ble_eq_true rfl) dX4_print_36 (fun r10 M10 hw hM10 => ?_)
        refine p_callVv (pc := 39) [.int r10] cx (c_X4_appendChunk cx.2.2.2.2.2.2 hM10 hv0 hw) cf_X4_appendChunk cv_X4_appendChunk t4_143 hv0 ⟨by decide, rfl, rfl⟩ ⟨rfl, rfl⟩ ⟨Nat.le_of_ble_eq_true rfl, Nat.le_of_ble_eq_true rfl⟩ rfl rfl (Nat.le_of_ble_eq_true rfl) dX4_print_39 (fun M11 hw hM11 => ?_)
        obtain ⟨x2_12, ex2_12⟩ : ∃ y : Int32, y = v2 + 1 := ⟨_, rfl⟩
        have hw := hw x2_12 ex2_12
        refine p_iinc (pc := 42) (v := x2_12) (lv' := [(0, .ref v0), (1, .ref v1), (2, .int x2_12)]) cx dX4_print_42 2 rfl (by rw [ex2_12]; rfl) (by decide) [1, 2, 0] rfl ?_
        refine p_goto (pc := 45) (tgt := 15) cx dX4_print_45 (by decide) ?_
        exact ih v0 v1 x2_12 M11 hM11 hv0 hv1 hw
set_option maxHeartbeats 4000000 in
set_option maxRecDepth 100000 in
theorem c_X4_print {l : Launch} {D : va_G} {G : SH} (hND : ND G) {a0 : Nat} {a1 : Nat} {M : MS} {Qp : MS → Prop} (hT : TYR G M.2.2.1) (ha0 : Is G 4 a0) (ha1 : Is G 8 a1) (hw : w_X4_print G a0 a1 M Qp) : MeV l D G yX4_print (Cond.code yX4_print cX4_print 3 none :: GW) rm_X4_print [.ref a0, .ref a1] M Qp := by
  unfold MeV
  refine p_method (by decide) rfl (Nat.le_of_ble_eq_true rfl) hND ?_
  intro p e s m args below meth c cx hr hlk
  have cx : CX p s m args c D G cX4_print 3 RX4 := cx
  unfold w_X4_print at hw
  refine p_aload_n (pc := 0) cx dX4_print_0 rfl 0 rfl ?_
  refine p_iconst (pc := 1) (v := 0) cx dX4_print_1 (by decide) ?_
  refine pf_4_0 (pc := 2) cx ha0 t2_60 dX4_print_2 ?_
  refine p_mem (fun M1 eM1 => ?_)
  have hw := hw M1 eM1
  have hM1 : TYR G M1.2.2.1 := by rw [eM1]; exact hT
  refine p_aload_n (pc := 5) cx dX4_print_5 rfl 0 rfl ?_
  refine gf_4_2 (pc := 6) cx ha0 t2_64 dX4_print_6 ?_
  have hr_2 : Is G 8 (mR M1 a0 2) := TYR.at hM1 ha0 2 8 rfl (by decide)
  refine p_aload_n (pc := 9) cx dX4_print_9 rfl 1 rfl ?_
  refine p_callVv (pc := 10) [.ref a1] cx (c_X9_copy cx.2.2.2.2.2.2 hM1 hr_2 ha1 hw) cf_X9_copy cv_X9_copy t4_135 hr_2 ⟨by decide, rfl, rfl⟩ ⟨rfl, rfl⟩ ⟨Nat.le_of_ble_eq_true rfl, Nat.le_of_ble_eq_true rfl⟩ rfl rfl (Nat.le_of_ble_eq_true rfl) dX4_print_10 (fun M3 hw hM3 => ?_)
  refine p_iconst (pc := 13) (v := 0) cx dX4_print_13 (by decide) ?_
  refine p_istore_n (pc := 14) (lv' := [(0, .ref a0), (1, .ref a1), (2, .int (0 : Int32))]) cx dX4_print_14 rfl (by decide) [1, 2, 0] rfl ?_
  obtain ⟨n1, hw⟩ := hw
  exact x_X4_print_15 cx hr hlk n1 a0 a1 0 M3 hM3 ha0 ha1 hw
set_option maxHeartbeats 4000000 in
set_option maxRecDepth 100000 in
theorem c_X5_reduce {l : Launch} {D : va_G} {G : SH} (hND : ND G) {a0 : Nat} {a1 : Nat} {a2 : Nat} {a3 : Nat} {M : MS} {Qp : MS → Prop} (hT : TYR G M.2.2.1) (ha0 : Is G 5 a0) (ha1 : Is G 8 a1) (ha2 : Is G 8 a2) (ha3 : Is G 8 a3) (hw : w_X5_reduce G a0 a1 a2 a3 M Qp) : MeV l D G yX5_reduce (Cond.code yX5_reduce cX5_reduce 4 none :: GW) rm_X5_reduce [.ref a0, .ref a1, .ref a2, .ref a3] M Qp := by
  unfold MeV
  refine p_method (by decide) rfl (Nat.le_of_ble_eq_true rfl) hND ?_
  intro p e s m args below meth c cx hr hlk
  have cx : CX p s m args c D G cX5_reduce 4 RX5 := cx
  unfold w_X5_reduce at hw
  refine p_aload_n (pc := 0) cx dX5_reduce_0 rfl 0 rfl ?_
  refine gf_5_0 (pc := 1) cx ha0 t1_206 dX5_reduce_1 ?_
  have hr_1 : Is G 0 (mR M a0 0) := TYR.at hT ha0 0 0 rfl (by decide)
  refine p_aload_n (pc := 4) cx dX5_reduce_4 rfl 0 rfl ?_
  refine gf_5_1 (pc := 5) cx ha0 t1_207 dX5_reduce_5 ?_
  have hr_2 : Is G 8 (mR M a0 1) := TYR.at hT ha0 1 8 rfl (by decide)
  refine p_aload_n (pc := 8) cx dX5_reduce_8 rfl 1 rfl ?_
  refine p_aload_n (pc := 9) cx dX5_reduce_9 rfl 2 rfl ?_
  refine p_aload_n (pc := 10) cx dX5_reduce_10 rfl 3 rfl ?_
  refine p_callVv (pc := 11) [.ref (mR M a0 1), .ref a1, .ref a2, .ref a3] cx (c_X0_split cx.2.2.2.2.2.2 hT hr_1 hr_2 ha1 ha2 ha3 hw) cf_X0_split cv_X0_split t3_141 hr_1 ⟨by decide, rfl, rfl⟩ ⟨rfl, rfl⟩ ⟨Nat.le_of_ble_eq_true rfl, Nat.le_of_ble_eq_true rfl⟩ rfl rfl (Nat.le_of_ble_eq_true rfl) dX5_reduce_11 (fun M3 hw hM3 => ?_)
  refine p_aload_n (pc := 14) cx dX5_reduce_14 rfl 2 rfl ?_
  refine gf_8_2 (pc := 15) cx ha2 t1_61 dX5_reduce_15 ?_
  refine p_if_eq (pc := 18) (tgt := 34) cx dX5_reduce_18 (by decide) (fun hc => ?_) (fun hc => ?_)
  · have hw := hw.1 hc
    exact p_vret (pc := 34) cx hr hlk dX5_reduce_34 hM3 hw
  · have hw := hw.2 hc
    refine p_aload_n (pc := 21) cx dX5_reduce_21 rfl 1 rfl ?_
    refine gf_8_1 (pc := 22) cx ha1 t1_53 dX5_reduce_22 ?_
    refine p_if_le (pc := 25) (tgt := 34) cx dX5_reduce_25 (by decide) (fun hc => ?_) (fun hc => ?_)
    · have hw := hw.1 hc
      exact p_vret (pc := 34) cx hr hlk dX5_reduce_34 hM3 hw
    · have hw := hw.2 hc
      refine p_aload_n (pc := 28) cx dX5_reduce_28 rfl 1 rfl ?_
      refine p_aload_n (pc := 29) cx dX5_reduce_29 rfl 3 rfl ?_
      refine p_aload_n (pc := 30) cx dX5_reduce_30 rfl 1 rfl ?_
      refine p_callSv (pc := 31) [.ref a1, .ref a3, .ref a1] cx (c_X7_difference cx.2.2.2.2.2.2 hM3 ha1 ha3 ha1 hw) cf_X7_difference cv_X7_difference t3_142 ⟨rfl, rfl⟩ ⟨Nat.le_of_ble_eq_true rfl, Nat.le_of_ble_eq_true rfl⟩ rfl rfl (Nat.le_of_ble_eq_true rfl) dX5_reduce_31 (fun M4 hw hM4 => ?_)
      exact p_vret (pc := 34) cx hr hlk dX5_reduce_34 hM4 hw
set_option maxHeartbeats 4000000 in
set_option maxRecDepth 100000 in
theorem c_X5_timesInto {l : Launch} {D : va_G} {G : SH} (hND : ND G) {a0 : Nat} {a1 : Nat} {a2 : Nat} {a3 : Nat} {M : MS} {Qp : MS → Prop} (hT : TYR G M.2.2.1) (ha0 : Is G 5 a0) (ha1 : Is G 8 a1) (ha2 : Is G 8 a2) (ha3 : Is G 8 a3) (hw : w_X5_timesInto G a0 a1 a2 a3 M Qp) : MeV l D G yX5_timesInto (Cond.code yX5_timesInto cX5_timesInto 4 none :: GW) rm_X5_timesInto [.ref a0, .ref a1, .ref a2, .ref a3] M Qp := by
  unfold MeV
  refine p_method (by decide) rfl (Nat.le_of_ble_eq_true rfl) hND ?_
  intro p e s m args below meth c cx hr hlk
  have cx : CX p s m args c D G cX5_timesInto 4 RX5 := cx
  unfold w_X5_timesInto at hw
  refine p_aload_n (pc := 0) cx dX5_timesInto_0 rfl 0 rfl ?_
  refine gf_5_2 (pc := 1) cx ha0 t1_208 dX5_timesInto_1 ?_
  have hr_1 : Is G 8 (mR M a0 2) := TYR.at hT ha0 2 8 rfl (by decide)
  refine p_aload_n (pc := 4) cx dX5_timesInto_4 rfl 1 rfl ?_
  refine p_aload_n (pc := 5) cx dX5_timesInto_5 rfl 2 rfl ?_
  refine p_callSv (pc := 6) [.ref (mR M a0 2), .ref a1, .ref a2] cx (c_X7_product cx.2.2.2.2.2.2 hT hr_1 ha1 ha2 hw) cf_X7_product cv_X7_product t3_159 ⟨rfl, rfl⟩ ⟨Nat.le_of_ble_eq_true rfl, Nat.le_of_ble_eq_true rfl⟩ rfl rfl (Nat.le_of_ble_eq_true rfl) dX5_timesInto_6 (fun M2 hw hM2 => ?_)
  refine p_aload_n (pc := 9) cx dX5_timesInto_9 rfl 0 rfl ?_
  refine gf_5_0 (pc := 10) cx ha0 t1_206 dX5_timesInto_10 ?_
  have hr_3 : Is G 0 (mR M2 a0 0) := TYR.at hM2 ha0 0 0 rfl (by decide)
  refine p_aload_n (pc := 13) cx dX5_timesInto_13 rfl 0 rfl ?_
  refine gf_5_1 (pc := 14) cx ha0 t1_207 dX5_timesInto_14 ?_
  have hr_4 : Is G 8 (mR M2 a0 1) := TYR.at hM2 ha0 1 8 rfl (by decide)
  refine p_aload_n (pc := 17) cx dX5_timesInto_17 rfl 1 rfl ?_
  refine p_aload_n (pc := 18) cx dX5_timesInto_18 rfl 0 rfl ?_
  refine gf_5_2 (pc := 19) cx ha0 t1_208 dX5_timesInto_19 ?_
  have hr_5 : Is G 8 (mR M2 a0 2) := TYR.at hM2 ha0 2 8 rfl (by decide)
  refine p_aload_n (pc := 22) cx dX5_timesInto_22 rfl 3 rfl ?_
  refine p_callVv (pc := 23) [.ref (mR M2 a0 1), .ref a1, .ref (mR M2 a0 2), .ref a3] cx (c_X0_split cx.2.2.2.2.2.2 hM2 hr_3 hr_4 ha1 hr_5 ha3 hw) cf_X0_split cv_X0_split t3_141 hr_3 ⟨by decide, rfl, rfl⟩ ⟨rfl, rfl⟩ ⟨Nat.le_of_ble_eq_true rfl, Nat.le_of_ble_eq_true rfl⟩ rfl rfl (Nat.le_of_ble_eq_true rfl) dX5_timesInto_23 (fun M6 hw hM6 => ?_)
  exact p_vret (pc := 26) cx hr hlk dX5_timesInto_26 hM6 hw
set_option maxHeartbeats 4000000 in
set_option maxRecDepth 100000 in
theorem x_X5_raise_57 {p : Program} {l : Launch} {e : Env} {s : State} {m : MethodId} {args : Array Value} {below : List Frame} {meth : Method} {c : Code} {D : va_G} {G : SH} {Qp : Nat → MS → Prop}  (cx : CX p s m args c D G cX5_raise 5 RX5) (hr : meth.sig.returnType = (some (.object "GcdMill$Whole"))) (hlk : meth.locks = false)  : ∀ (n : Nat) (v0 : Nat) (v2 : Nat) (v3 : Nat) (v4 : Int32) (M : MS), TYR G M.2.2.1 → Is G 5 v0 → Is G 8 v2 → Is G 8 v3 → w_X5_raise_57 G Qp n v0 v2 v3 v4 M → PW p l e rm_X5_raise s m args below meth c D G 5 (MQ below (va_Qr (fun _ : MS => True) (fun N a t => Qp a N ∧ Is G 8 a ∧ POST D G N t) (AG G)) args s 0 0 (AG G)) 57 [(0, .ref v0), (2, .ref v2), (3, .ref v3), (4, .int v4)] [] M := by
  intro n
  induction n with
  | zero =>
    intro v0 v2 v3 v4 M hT hv0 hv2 hv3 hw
    exact hw.elim
  | succ n ih =>
    intro v0 v2 v3 v4 M hT hv0 hv2 hv3 hw
    rw [w_X5_raise_57] at hw
    refine p_iload (pc := 57) cx dX5_raise_57 3 rfl ?_
    refine p_if_lt (pc := 59) (tgt := 103) cx dX5_raise_59 (by decide) (fun hc => ?_) (fun hc => ?_)
    · have hw := hw.1 hc
      refine p_aload_n (pc := 103) cx dX5_raise_103 rfl 0 rfl ?_
      refine gf_5_4 (pc := 104) cx hv0 t1_210 dX5_raise_104 ?_
      have hr_10 : Is G 8 (mR M v0 4) := TYR.at hT hv0 4 8 rfl (by decide)
      exact p_aret (pc := 107) cx hr hlk dX5_raise_107 hr_10 hT hw
    · have hw := hw.2 hc
      refine p_aload_n (pc := 62) cx dX5_raise_62 rfl 0 rfl ?_
      refine p_aload_n (pc := 63) cx dX5_raise_63 rfl 0 rfl ?_
      refine gf_5_4 (pc := 64) cx hv0 t1_210 dX5_raise_64 ?_
      have hr_11 : Is G 8 (mR M v0 4) := TYR.at hT hv0 4 8 rfl (by decide)
      refine p_aload_n (pc := 67) cx dX5_raise_67 rfl 0 rfl ?_
      refine gf_5_4 (pc := 68) cx hv0 t1_210 dX5_raise_68 ?_
      have hr_12 : Is G 8 (mR M v0 4) := TYR.at hT hv0 4 8 rfl (by decide)
      refine p_aload_n (pc := 71) cx dX5_raise_71 rfl 2 rfl ?_
      refine p_callVv (pc := 72) [.ref (mR M v0 4), .ref (mR M v0 4), .ref v3] cx (c_X5_timesInto cx.2.2.2.2.2.2 hT hv0 hr_11 hr_12 hv3 hw) cf_X5_timesInto cv_X5_timesInto t3_155 hv0 ⟨by decide, rfl, rfl⟩ ⟨rfl, rfl⟩ ⟨Nat.le_of_ble_eq_true rfl, Nat.le_of_ble_eq_true rfl⟩ rfl rfl (Nat.le_of_ble_eq_true rfl) dX5_raise_72 (fun M13 hw hM13 => ?_)
      refine p_aload_n (pc := 75) cx dX5_raise_75 rfl 1 rfl ?_
      refine p_iload (pc := 76) cx dX5_raise_76 3 rfl ?_
      refine p_callVi (pc := 78) [.int v4] cx (c_X9_hasBit cx.2.2.2.2.2.2 hM13 hv2 hw) cf_X9_hasBit cv_X9_hasBit t3_160 hv2 ⟨by decide, rfl, rfl⟩ ⟨rfl, rfl⟩ ⟨Nat.le_of_ble_eq_true rfl, Nat.le_of_ble_eq_true rfl⟩ rfl rfl (Nat.le_of_ble_eq_true rfl) dX5_raise_78 (fun r14 M14 hw hM14 => ?_)
      refine p_if_eq (pc := 81) (tgt := 97) cx dX5_raise_81 (by decide) (fun hc => ?_) (fun hc => ?_)
      · have hw := hw.1 hc
        obtain ⟨x4_15, ex4_15⟩ : ∃ y : Int32, y = v4 + (-1) := ⟨_, rfl⟩
        have hw := hw x4_15 ex4_15
        refine p_iinc (pc := 97) (v := x4_15) (lv' := [(0, .ref v0), (2, .ref v2), (3, .ref v3), (4, .int x4_15)]) cx dX5_raise_97 3 rfl (by rw [ex4_15]; rfl) (by decide) [1, 2, 3, 0] rfl ?_
        refine p_goto (pc := 100) (tgt := 57) cx dX5_raise_100 (by decide) ?_
        exact ih v0 v2 v3 x4_15 M14 hM14 hv0 hv2 hv3 hw
      · have hw := hw.2 hc
        refine p_aload_n (pc := 84) cx dX5_raise_84 rfl 0 rfl ?_
        refine p_aload_n (pc := 85) cx dX5_raise_85 rfl 0 rfl ?_
        refine gf_5_4 (pc := 86) cx hv0 t1_210 dX5_raise_86 ?_
        have hr_16 : Is G 8 (mR M14 v0 4) := TYR.at hM14 hv0 4 8 rfl (by decide)
        refine p_aload_n (pc := 89) cx dX5_raise_89 rfl 0 rfl ?_
        refine gf_5_3 (pc := 90) cx hv0 t1_209 dX5_raise_90 ?_
        have hr_17 : Is G 8 (mR M14 v0 3) := TYR.at hM14 hv0 3 8 rfl (by decide)
        refine p_aload_n (pc := 93) cx dX5_raise_93 rfl 2 rfl ?_
        refine p_callVv (pc := 94) [.ref (mR M14 v0 4), .ref (mR M14 v0 3), .ref v3] cx (c_X5_timesInto cx.2.2.2.2.2.2 hM14 hv0 hr_16 hr_17 hv3 hw) cf_X5_timesInto cv_X5_timesInto t3_155 hv0 ⟨by decide, rfl, rfl⟩ ⟨rfl, rfl⟩ ⟨Nat.le_of_ble_eq_true rfl, Nat.le_of_ble_eq_true rfl⟩ rfl rfl (Nat.le_of_ble_eq_true rfl) dX5_raise_94 (fun M18 hw hM18 => ?_)
        obtain ⟨x4_19, ex4_19⟩ : ∃ y : Int32, y = v4 + (-1) := ⟨_, rfl⟩
        have hw := hw x4_19 ex4_19
        refine p_iinc (pc := 97) (v := x4_19) (lv' := [(0, .ref v0), (2, .ref v2), (3, .ref v3), (4, .int x4_19)]) cx dX5_raise_97 3 rfl (by rw [ex4_19]; rfl) (by decide) [1, 2, 3, 0] rfl ?_
        refine p_goto (pc := 100) (tgt := 57) cx dX5_raise_100 (by decide) ?_
        exact ih v0 v2 v3 x4_19 M18 hM18 hv0 hv2 hv3 hw
set_option maxHeartbeats 4000000 in
set_option maxRecDepth 100000 in
theorem c_X5_raise {l : Launch} {D : va_G} {G : SH} (hND : ND G) {a0 : Nat} {a1 : Nat} {a2 : Nat} {a3 : Nat} {M : MS} {Qp : Nat → MS → Prop} (hT : TYR G M.2.2.1) (ha0 : Is G 5 a0) (ha1 : Is G 8 a1) (ha2 : Is G 8 a2) (ha3 : Is G 8 a3) (hw : w_X5_raise G a0 a1 a2 a3 M Qp) : MeR l D G yX5_raise (Cond.code yX5_raise cX5_raise 5 (some (.object "GcdMill$Whole")) :: GW) rm_X5_raise [.ref a0, .ref a1, .ref a2, .ref a3] M Qp := by
  unfold MeR
  refine p_method (by decide) rfl (Nat.le_of_ble_eq_true rfl) hND ?_
  intro p e s m args below meth c cx hr hlk
  have cx : CX p s m args c D G cX5_raise 5 RX5 := cx
  unfold w_X5_raise at hw
  refine p_aload_n (pc := 0) cx dX5_raise_0 rfl 0 rfl ?_
  refine p_aload_n (pc := 1) cx dX5_raise_1 rfl 0 rfl ?_
  refine gf_5_3 (pc := 2) cx ha0 t1_209 dX5_raise_2 ?_
  have hr_1 : Is G 8 (mR M a0 3) := TYR.at hT ha0 3 8 rfl (by decide)
  refine p_aload_n (pc := 5) cx dX5_raise_5 rfl 1 rfl ?_
  refine p_aload_n (pc := 6) cx dX5_raise_6 rfl 3 rfl ?_
  refine p_callVv (pc := 7) [.ref (mR M a0 3), .ref a1, .ref a3] cx (c_X5_reduce cx.2.2.2.2.2.2 hT ha0 hr_1 ha1 ha3 hw) cf_X5_reduce cv_X5_reduce t3_151 ha0 ⟨by decide, rfl, rfl⟩ ⟨rfl, rfl⟩ ⟨Nat.le_of_ble_eq_true rfl, Nat.le_of_ble_eq_true rfl⟩ rfl rfl (Nat.le_of_ble_eq_true rfl) dX5_raise_7 (fun M2 hw hM2 => ?_)
  refine p_aload_n (pc := 10) cx dX5_raise_10 rfl 0 rfl ?_
  refine gf_5_2 (pc := 11) cx ha0 t1_208 dX5_raise_11 ?_
  have hr_3 : Is G 8 (mR M2 a0 2) := TYR.at hM2 ha0 2 8 rfl (by decide)
  refine p_iconst (pc := 14) (v := 1) cx dX5_raise_14 (by decide) ?_
  refine p_callVv (pc := 15) [.int (1 : Int32)] cx (c_X9_become cx.2.2.2.2.2.2 hM2 hr_3 hw) cf_X9_become cv_X9_become t3_152 hr_3 ⟨by decide, rfl, rfl⟩ ⟨rfl, rfl⟩ ⟨Nat.le_of_ble_eq_true rfl, Nat.le_of_ble_eq_true rfl⟩ rfl rfl (Nat.le_of_ble_eq_true rfl) dX5_raise_15 (fun M4 hw hM4 => ?_)
  refine p_aload_n (pc := 18) cx dX5_raise_18 rfl 0 rfl ?_
  refine p_aload_n (pc := 19) cx dX5_raise_19 rfl 0 rfl ?_
  refine gf_5_4 (pc := 20) cx ha0 t1_210 dX5_raise_20 ?_
  have hr_5 : Is G 8 (mR M4 a0 4) := TYR.at hM4 ha0 4 8 rfl (by decide)
  refine p_aload_n (pc := 23) cx dX5_raise_23 rfl 0 rfl ?_
  refine gf_5_2 (pc := 24) cx ha0 t1_208 dX5_raise_24 ?_
  have hr_6 : Is G 8 (mR M4 a0 2) := TYR.at hM4 ha0 2 8 rfl (by decide)
  refine p_aload_n (pc := 27) cx dX5_raise_27 rfl 3 rfl ?_
  refine p_callVv (pc := 28) [.ref (mR M4 a0 4), .ref (mR M4 a0 2), .ref a3] cx (c_X5_reduce cx.2.2.2.2.2.2 hM4 ha0 hr_5 hr_6 ha3 hw) cf_X5_reduce cv_X5_reduce t3_151 ha0 ⟨by decide, rfl, rfl⟩ ⟨rfl, rfl⟩ ⟨Nat.le_of_ble_eq_true rfl, Nat.le_of_ble_eq_true rfl⟩ rfl rfl (Nat.le_of_ble_eq_true rfl) dX5_raise_28 (fun M7 hw hM7 => ?_)
  refine p_aload_n (pc := 31) cx dX5_raise_31 rfl 2 rfl ?_
  refine gf_8_1 (pc := 32) cx ha2 t1_53 dX5_raise_32 ?_
  refine p_if_le (pc := 35) (tgt := 49) cx dX5_raise_35 (by decide) (fun hc => ?_) (fun hc => ?_)
  · have hw := hw.1 hc
    refine p_aload_n (pc := 49) cx dX5_raise_49 rfl 2 rfl ?_
    refine p_callVi (pc := 50) [] cx (c_X9_bits cx.2.2.2.2.2.2 hM7 ha2 hw) cf_X9_bits cv_X9_bits t3_154 ha2 ⟨by decide, rfl, rfl⟩ ⟨rfl, rfl⟩ ⟨Nat.le_of_ble_eq_true rfl, Nat.le_of_ble_eq_true rfl⟩ rfl rfl (Nat.le_of_ble_eq_true rfl) dX5_raise_50 (fun r8 M8 hw hM8 => ?_)
    refine p_iconst (pc := 53) (v := 2) cx dX5_raise_53 (by decide) ?_
    refine p_isub (pc := 54) cx dX5_raise_54 ?_
    refine p_topi (fun x4_9 ex4_9 => ?_)
    have hw := hw x4_9 ex4_9
    refine p_istore (pc := 55) (lv' := [(0, .ref a0), (2, .ref a2), (3, .ref a3), (4, .int x4_9)]) cx dX5_raise_55 (by decide) [1, 3, 4, 0] rfl ?_
    obtain ⟨n1, hw⟩ := hw
    exact x_X5_raise_57 cx hr hlk n1 a0 a2 a3 x4_9 M8 hM8 ha0 ha2 ha3 hw
  · have hw := hw.2 hc
    refine p_aload_n (pc := 38) cx dX5_raise_38 rfl 0 rfl ?_
    refine gf_5_4 (pc := 39) cx ha0 t1_210 dX5_raise_39 ?_
    have hr_20 : Is G 8 (mR M7 a0 4) := TYR.at hM7 ha0 4 8 rfl (by decide)
    refine p_aload_n (pc := 42) cx dX5_raise_42 rfl 0 rfl ?_
    refine gf_5_3 (pc := 43) cx ha0 t1_209 dX5_raise_43 ?_
    have hr_21 : Is G 8 (mR M7 a0 3) := TYR.at hM7 ha0 3 8 rfl (by decide)
    refine p_callVv (pc := 46) [.ref (mR M7 a0 3)] cx (c_X9_copy cx.2.2.2.2.2.2 hM7 hr_20 hr_21 hw) cf_X9_copy cv_X9_copy t3_153 hr_20 ⟨by decide, rfl, rfl⟩ ⟨rfl, rfl⟩ ⟨Nat.le_of_ble_eq_true rfl, Nat.le_of_ble_eq_true rfl⟩ rfl rfl (Nat.le_of_ble_eq_true rfl) dX5_raise_46 (fun M22 hw hM22 => ?_)
    refine p_aload_n (pc := 49) cx dX5_raise_49 rfl 2 rfl ?_
    refine p_callVi (pc := 50) [] cx (c_X9_bits cx.2.2.2.2.2.2 hM22 ha2 hw) cf_X9_bits cv_X9_bits t3_154 ha2 ⟨by decide, rfl, rfl⟩ ⟨rfl, rfl⟩ ⟨Nat.le_of_ble_eq_true rfl, Nat.le_of_ble_eq_true rfl⟩ rfl rfl (Nat.le_of_ble_eq_true rfl) dX5_raise_50 (fun r23 M23 hw hM23 => ?_)
    refine p_iconst (pc := 53) (v := 2) cx dX5_raise_53 (by decide) ?_
    refine p_isub (pc := 54) cx dX5_raise_54 ?_
    refine p_topi (fun x4_24 ex4_24 => ?_)
    have hw := hw x4_24 ex4_24
    refine p_istore (pc := 55) (lv' := [(0, .ref a0), (2, .ref a2), (3, .ref a3), (4, .int x4_24)]) cx dX5_raise_55 (by decide) [1, 3, 4, 0] rfl ?_
    obtain ⟨n1, hw⟩ := hw
    exact x_X5_raise_57 cx hr hlk n1 a0 a2 a3 x4_24 M23 hM23 ha0 ha2 ha3 hw
set_option maxHeartbeats 4000000 in
set_option maxRecDepth 100000 in
theorem x_X5_symbol_197 {p : Program} {l : Launch} {e : Env} {s : State} {m : MethodId} {args : Array Value} {below : List Frame} {meth : Method} {c : Code} {D : va_G} {G : SH} {Qp : Int32 → MS → Prop}  (cx : CX p s m args c D G cX5_symbol 9 RX5) (hr : meth.sig.returnType = (some .int)) (hlk : meth.locks = false)  (v0 : Nat) (v3 : Int32) (M : MS) (hT : TYR G M.2.2.1) (hv0 : Is G 5 v0) (hw : w_X5_symbol_197 G Qp v0 v3 M) : PW p l e rm_X5_symbol s m args below meth c D G 9 (MQ below (va_Qi Qp (POST D G) (AG G)) args s 0 0 (AG G)) 197 [(0, .ref v0), (3, .int v3)] [] M := by
  unfold w_X5_symbol_197 at hw
  refine p_aload_n (pc := 197) cx dX5_symbol_197 rfl 0 rfl ?_
  refine gf_5_6 (pc := 198) cx hv0 t1_212 dX5_symbol_198 ?_
  have hr_5 : Is G 8 (mR M v0 6) := TYR.at hT hv0 6 8 rfl (by decide)
  refine p_callVi (pc := 201) [] cx (c_X9_bits cx.2.2.2.2.2.2 hT hr_5 hw) cf_X9_bits cv_X9_bits t3_154 hr_5 ⟨by decide, rfl, rfl⟩ ⟨rfl, rfl⟩ ⟨Nat.le_of_ble_eq_true rfl, Nat.le_of_ble_eq_true rfl⟩ rfl rfl (Nat.le_of_ble_eq_true rfl) dX5_symbol_201 (fun r6 M6 hw hM6 => ?_)
  refine p_iconst (pc := 204) (v := 1) cx dX5_symbol_204 (by decide) ?_
  refine p_icmp_ne (pc := 205) (tgt := 212) cx dX5_symbol_205 (by decide) (fun hc => ?_) (fun hc => ?_)
  · have hw := hw.1 hc
    refine p_iconst (pc := 212) (v := 0) cx dX5_symbol_212 (by decide) ?_
    exact p_iret (pc := 213) cx hr hlk dX5_symbol_213 hM6 hw
  · have hw := hw.2 hc
    refine p_iload_n (pc := 208) cx dX5_symbol_208 rfl 1 rfl ?_
    refine p_goto (pc := 209) (tgt := 213) cx dX5_symbol_209 (by decide) ?_
    exact p_iret (pc := 213) cx hr hlk dX5_symbol_213 hM6 hw
set_option maxHeartbeats 4000000 in
set_option maxRecDepth 100000 in
theorem x_X5_symbol_140 {p : Program} {l : Launch} {e : Env} {s : State} {m : MethodId} {args : Array Value} {below : List Frame} {meth : Method} {c : Code} {D : va_G} {G : SH} {Qp : Int32 → MS → Prop} {K23 : Nat → Int32 → Int32 → MS → Prop} (cx : CX p s m args c D G cX5_symbol 9 RX5) (hr : meth.sig.returnType = (some .int)) (hlk : meth.locks = false) (hK23 : ∀ (v0 : Nat) (v3 : Int32) (v4 : Int32) (M : MS), TYR G M.2.2.1 → Is G 5 v0 → K23 v0 v3 v4 M → PW p l e rm_X5_symbol s m args below meth c D G 9 (MQ below (va_Qi Qp (POST D G) (AG G)) args s 0 0 (AG G)) 23 [(0, .ref v0), (3, .int v3), (4, .int v4)] [] M) (v0 : Nat) (v3 : Int32) (v4 : Int32) (M : MS) (hT : TYR G M.2.2.1) (hv0 : Is G 5 v0) (hw : w_X5_symbol_140 G K23 Qp v0 v3 v4 M) : PW p l e rm_X5_symbol s m args below meth c D G 9 (MQ below (va_Qi Qp (POST D G) (AG G)) args s 0 0 (AG G)) 140 [(0, .ref v0), (3, .int v3), (4, .int v4)] [] M := by
  unfold w_X5_symbol_140 at hw
  refine p_aload_n (pc := 140) cx dX5_symbol_140 rfl 0 rfl ?_
  refine gf_5_0 (pc := 141) cx hv0 t1_206 dX5_symbol_141 ?_
  have hr_18 : Is G 0 (mR M v0 0) := TYR.at hT hv0 0 0 rfl (by decide)
  refine p_aload_n (pc := 144) cx dX5_symbol_144 rfl 0 rfl ?_
  refine gf_5_1 (pc := 145) cx hv0 t1_207 dX5_symbol_145 ?_
  have hr_19 : Is G 8 (mR M v0 1) := TYR.at hT hv0 1 8 rfl (by decide)
  refine p_aload_n (pc := 148) cx dX5_symbol_148 rfl 0 rfl ?_
  refine gf_5_7 (pc := 149) cx hv0 t1_213 dX5_symbol_149 ?_
  have hr_20 : Is G 8 (mR M v0 7) := TYR.at hT hv0 7 8 rfl (by decide)
  refine p_aload_n (pc := 152) cx dX5_symbol_152 rfl 0 rfl ?_
  refine gf_5_6 (pc := 153) cx hv0 t1_212 dX5_symbol_153 ?_
  have hr_21 : Is G 8 (mR M v0 6) := TYR.at hT hv0 6 8 rfl (by decide)
  refine p_aload_n (pc := 156) cx dX5_symbol_156 rfl 0 rfl ?_
  refine gf_5_5 (pc := 157) cx hv0 t1_211 dX5_symbol_157 ?_
  have hr_22 : Is G 8 (mR M v0 5) := TYR.at hT hv0 5 8 rfl (by decide)
  refine p_callVv (pc := 160) [.ref (mR M v0 1), .ref (mR M v0 7), .ref (mR M v0 6), .ref (mR M v0 5)] cx (c_X0_split cx.2.2.2.2.2.2 hT hr_18 hr_19 hr_20 hr_21 hr_22 hw) cf_X0_split cv_X0_split t3_141 hr_18 ⟨by decide, rfl, rfl⟩ ⟨rfl, rfl⟩ ⟨Nat.le_of_ble_eq_true rfl, Nat.le_of_ble_eq_true rfl⟩ rfl rfl (Nat.le_of_ble_eq_true rfl) dX5_symbol_160 (fun M23 hw hM23 => ?_)
  refine p_aload_n (pc := 163) cx dX5_symbol_163 rfl 0 rfl ?_
  refine gf_5_6 (pc := 164) cx hv0 t1_212 dX5_symbol_164 ?_
  have hr_24 : Is G 8 (mR M23 v0 6) := TYR.at hM23 hv0 6 8 rfl (by decide)
  refine p_astore (pc := 167) (lv' := [(0, .ref v0), (3, .int v3), (4, .int v4), (8, .ref (mR M23 v0 6))]) cx dX5_symbol_167 (by decide) [1, 2, 3, 0] rfl ?_
  refine p_aload_n (pc := 169) cx dX5_symbol_169 rfl 0 rfl ?_
  refine p_aload_n (pc := 170) cx dX5_symbol_170 rfl 0 rfl ?_
  refine gf_5_5 (pc := 171) cx hv0 t1_211 dX5_symbol_171 ?_
  have hr_25 : Is G 8 (mR M23 v0 5) := TYR.at hM23 hv0 5 8 rfl (by decide)
  refine pf_5_6 (pc := 174) cx hv0 t1_212 dX5_symbol_174 ?_
  refine p_mem (fun M26 eM26 => ?_)
  have hw := hw M26 eM26
  have hM26 : TYR G M26.2.2.1 := by rw [eM26]; exact TYR.up hM23 hv0 6 8 (by decide) rfl hr_25
  refine p_aload_n (pc := 177) cx dX5_symbol_177 rfl 0 rfl ?_
  refine p_aload_n (pc := 178) cx dX5_symbol_178 rfl 0 rfl ?_
  refine gf_5_7 (pc := 179) cx hv0 t1_213 dX5_symbol_179 ?_
  have hr_27 : Is G 8 (mR M26 v0 7) := TYR.at hM26 hv0 7 8 rfl (by decide)
  refine pf_5_5 (pc := 182) cx hv0 t1_211 dX5_symbol_182 ?_
  refine p_mem (fun M28 eM28 => ?_)
  have hw := hw M28 eM28
  have hM28 : TYR G M28.2.2.1 := by rw [eM28]; exact TYR.up hM26 hv0 5 8 (by decide) rfl hr_27
  refine p_aload_n (pc := 185) cx dX5_symbol_185 rfl 0 rfl ?_
  refine p_aload (pc := 186) cx dX5_symbol_186 3 rfl ?_
  refine pf_5_7 (pc := 188) cx hv0 t1_213 dX5_symbol_188 ?_
  refine p_mem (fun M29 eM29 => ?_)
  have hw := hw M29 eM29
  have hM29 : TYR G M29.2.2.1 := by rw [eM29]; exact TYR.up hM28 hv0 7 8 (by decide) rfl hr_24
  obtain ⟨x4_30, ex4_30⟩ : ∃ y : Int32, y = v4 + 1 := ⟨_, rfl⟩
  have hw := hw x4_30 ex4_30
  refine p_iinc (pc := 191) (v := x4_30) (lv' := [(0, .ref v0), (3, .int v3), (4, .int x4_30)]) cx dX5_symbol_191 2 rfl (by rw [ex4_30]; rfl) (by decide) [1, 2, 0] rfl ?_
  refine p_goto (pc := 194) (tgt := 23) cx dX5_symbol_194 (by decide) ?_
  exact hK23 v0 v3 x4_30 M29 hM29 hv0 hw
set_option maxHeartbeats 4000000 in
set_option maxRecDepth 100000 in
theorem x_X5_symbol_105 {p : Program} {l : Launch} {e : Env} {s : State} {m : MethodId} {args : Array Value} {below : List Frame} {meth : Method} {c : Code} {D : va_G} {G : SH} {Qp : Int32 → MS → Prop} {K23 : Nat → Int32 → Int32 → MS → Prop} (cx : CX p s m args c D G cX5_symbol 9 RX5) (hr : meth.sig.returnType = (some .int)) (hlk : meth.locks = false) (hK23 : ∀ (v0 : Nat) (v3 : Int32) (v4 : Int32) (M : MS), TYR G M.2.2.1 → Is G 5 v0 → K23 v0 v3 v4 M → PW p l e rm_X5_symbol s m args below meth c D G 9 (MQ below (va_Qi Qp (POST D G) (AG G)) args s 0 0 (AG G)) 23 [(0, .ref v0), (3, .int v3), (4, .int v4)] [] M) (v0 : Nat) (v3 : Int32) (v4 : Int32) (v6 : Int64) (M : MS) (hT : TYR G M.2.2.1) (hv0 : Is G 5 v0) (hw : w_X5_symbol_105 G K23 Qp v0 v3 v4 v6 M) : PW p l e rm_X5_symbol s m args below meth c D G 9 (MQ below (va_Qi Qp (POST D G) (AG G)) args s 0 0 (AG G)) 105 [(0, .ref v0), (3, .int v3), (4, .int v4), (6, .long v6)] [] M := by
  unfold w_X5_symbol_105 at hw
  refine p_aload_n (pc := 105) cx dX5_symbol_105 rfl 0 rfl ?_
  refine gf_5_5 (pc := 106) cx hv0 t1_211 dX5_symbol_106 ?_
  have hr_16 : Is G 8 (mR M v0 5) := TYR.at hT hv0 5 8 rfl (by decide)
  refine p_iconst (pc := 109) (v := 0) cx dX5_symbol_109 (by decide) ?_
  refine p_callVl (pc := 110) [.int (0 : Int32)] cx (c_X9_limb cx.2.2.2.2.2.2 hT hr_16 hw) cf_X9_limb cv_X9_limb t3_217 hr_16 ⟨by decide, rfl, rfl⟩ ⟨rfl, rfl⟩ ⟨Nat.le_of_ble_eq_true rfl, Nat.le_of_ble_eq_true rfl⟩ rfl rfl (Nat.le_of_ble_eq_true rfl) dX5_symbol_110 (fun r17 M17 hw hM17 => ?_)
  refine p_ldc2 (pc := 113) cx dX5_symbol_113 t3_219 ?_
  refine p_land (pc := 116) cx dX5_symbol_116 ?_
  refine p_ldc2 (pc := 117) cx dX5_symbol_117 t3_219 ?_
  refine p_lcmp (pc := 120) cx dX5_symbol_120 ?_
  refine p_if_ne (pc := 121) (tgt := 140) cx dX5_symbol_121 (by decide) (fun hc => ?_) (fun hc => ?_)
  · have hw := hw.1 (fun q => hc ((lg_cmp_eq _ _).mpr q))
    refine p_perm (lv' := [(0, .ref v0), (3, .int v3), (4, .int v4)]) [0, 1, 2] rfl ?_
    exact x_X5_symbol_140 cx hr hlk hK23 v0 v3 v4 M17 hM17 hv0 hw
  · have hw := hw.2 ((lg_cmp_eq _ _).mp hc)
    refine p_lload (pc := 124) cx dX5_symbol_124 3 rfl ?_
    refine p_ldc2 (pc := 126) cx dX5_symbol_126 t3_219 ?_
    refine p_land (pc := 129) cx dX5_symbol_129 ?_
    refine p_ldc2 (pc := 130) cx dX5_symbol_130 t3_219 ?_
    refine p_lcmp (pc := 133) cx dX5_symbol_133 ?_
    refine p_if_ne (pc := 134) (tgt := 140) cx dX5_symbol_134 (by decide) (fun hc => ?_) (fun hc => ?_)
    · have hw := hw.1 (fun q => hc ((lg_cmp_eq _ _).mpr q))
      refine p_perm (lv' := [(0, .ref v0), (3, .int v3), (4, .int v4)]) [0, 1, 2] rfl ?_
      exact x_X5_symbol_140 cx hr hlk hK23 v0 v3 v4 M17 hM17 hv0 hw
    · have hw := hw.2 ((lg_cmp_eq _ _).mp hc)
      refine p_iload_n (pc := 137) cx dX5_symbol_137 rfl 1 rfl ?_
      refine p_ineg (pc := 138) cx dX5_symbol_138 ?_
      refine p_topi (fun x3_31 ex3_31 => ?_)
      have hw := hw x3_31 ex3_31
      refine p_istore_n (pc := 139) (lv' := [(0, .ref v0), (3, .int x3_31), (4, .int v4)]) cx dX5_symbol_139 rfl (by decide) [1, 0, 2] rfl ?_
      exact x_X5_symbol_140 cx hr hlk hK23 v0 x3_31 v4 M17 hM17 hv0 hw
set_option maxHeartbeats 4000000 in
set_option maxRecDepth 100000 in
theorem x_X5_symbol_102 {p : Program} {l : Launch} {e : Env} {s : State} {m : MethodId} {args : Array Value} {below : List Frame} {meth : Method} {c : Code} {D : va_G} {G : SH} {Qp : Int32 → MS → Prop} {K23 : Nat → Int32 → Int32 → MS → Prop} (cx : CX p s m args c D G cX5_symbol 9 RX5) (hr : meth.sig.returnType = (some .int)) (hlk : meth.locks = false) (hK23 : ∀ (v0 : Nat) (v3 : Int32) (v4 : Int32) (M : MS), TYR G M.2.2.1 → Is G 5 v0 → K23 v0 v3 v4 M → PW p l e rm_X5_symbol s m args below meth c D G 9 (MQ below (va_Qi Qp (POST D G) (AG G)) args s 0 0 (AG G)) 23 [(0, .ref v0), (3, .int v3), (4, .int v4)] [] M) (v0 : Nat) (v3 : Int32) (v4 : Int32) (v6 : Int64) (M : MS) (hT : TYR G M.2.2.1) (hv0 : Is G 5 v0) (hw : w_X5_symbol_102 G K23 Qp v0 v3 v4 v6 M) : PW p l e rm_X5_symbol s m args below meth c D G 9 (MQ below (va_Qi Qp (POST D G) (AG G)) args s 0 0 (AG G)) 102 [(0, .ref v0), (3, .int v3), (4, .int v4), (6, .long v6)] [] M := by
  unfold w_X5_symbol_102 at hw
  refine p_iload_n (pc := 102) cx dX5_symbol_102 rfl 1 rfl ?_
  refine p_ineg (pc := 103) cx dX5_symbol_103 ?_
  refine p_topi (fun x3_32 ex3_32 => ?_)
  have hw := hw x3_32 ex3_32
  refine p_istore_n (pc := 104) (lv' := [(0, .ref v0), (3, .int x3_32), (4, .int v4), (6, .long v6)]) cx dX5_symbol_104 rfl (by decide) [1, 0, 2, 3] rfl ?_
  exact x_X5_symbol_105 cx hr hlk hK23 v0 x3_32 v4 v6 M hT hv0 hw
set_option maxHeartbeats 4000000 in
set_option maxRecDepth 100000 in
theorem x_X5_symbol_23 {p : Program} {l : Launch} {e : Env} {s : State} {m : MethodId} {args : Array Value} {below : List Frame} {meth : Method} {c : Code} {D : va_G} {G : SH} {Qp : Int32 → MS → Prop}  (cx : CX p s m args c D G cX5_symbol 9 RX5) (hr : meth.sig.returnType = (some .int)) (hlk : meth.locks = false)  : ∀ (n : Nat) (v0 : Nat) (v3 : Int32) (v4 : Int32) (M : MS), TYR G M.2.2.1 → Is G 5 v0 → w_X5_symbol_23 G Qp n v0 v3 v4 M → PW p l e rm_X5_symbol s m args below meth c D G 9 (MQ below (va_Qi Qp (POST D G) (AG G)) args s 0 0 (AG G)) 23 [(0, .ref v0), (3, .int v3), (4, .int v4)] [] M := by
  intro n
  induction n with
  | zero =>
    intro v0 v3 v4 M hT hv0 hw
    exact hw.elim
  | succ n ih =>
    intro v0 v3 v4 M hT hv0 hw
    rw [w_X5_symbol_23] at hw
    refine p_iload (pc := 23) cx dX5_symbol_23 2 rfl ?_
    refine p_ldc (pc := 25) cx dX5_symbol_25 t3_214 ?_
    refine p_icmp_ge (pc := 27) (tgt := 197) cx dX5_symbol_27 (by decide) (fun hc => ?_) (fun hc => ?_)
    · have hw := hw.1 hc
      refine p_perm (lv' := [(0, .ref v0), (3, .int v3)]) [0, 1] rfl ?_
      exact x_X5_symbol_197 cx hr hlk v0 v3 M hT hv0 hw
    · have hw := hw.2 hc
      refine p_aload_n (pc := 30) cx dX5_symbol_30 rfl 0 rfl ?_
      refine gf_5_5 (pc := 31) cx hv0 t1_211 dX5_symbol_31 ?_
      have hr_7 : Is G 8 (mR M v0 5) := TYR.at hT hv0 5 8 rfl (by decide)
      refine gf_8_1 (pc := 34) cx hr_7 t1_53 dX5_symbol_34 ?_
      refine p_if_le (pc := 37) (tgt := 197) cx dX5_symbol_37 (by decide) (fun hc => ?_) (fun hc => ?_)
      · have hw := hw.1 hc
        refine p_perm (lv' := [(0, .ref v0), (3, .int v3)]) [0, 1] rfl ?_
        exact x_X5_symbol_197 cx hr hlk v0 v3 M hT hv0 hw
      · have hw := hw.2 hc
        refine p_aload_n (pc := 40) cx dX5_symbol_40 rfl 0 rfl ?_
        refine gf_5_5 (pc := 41) cx hv0 t1_211 dX5_symbol_41 ?_
        have hr_8 : Is G 8 (mR M v0 5) := TYR.at hT hv0 5 8 rfl (by decide)
        refine p_callVi (pc := 44) [] cx (c_X9_lowZeros cx.2.2.2.2.2.2 hT hr_8 hw) cf_X9_lowZeros cv_X9_lowZeros t3_215 hr_8 ⟨by decide, rfl, rfl⟩ ⟨rfl, rfl⟩ ⟨Nat.le_of_ble_eq_true rfl, Nat.le_of_ble_eq_true rfl⟩ rfl rfl (Nat.le_of_ble_eq_true rfl) dX5_symbol_44 (fun r9 M9 hw hM9 => ?_)
        refine p_istore (pc := 47) (lv' := [(0, .ref v0), (3, .int v3), (4, .int v4), (5, .int r9)]) cx dX5_symbol_47 (by decide) [1, 2, 3, 0] rfl ?_
        refine p_aload_n (pc := 49) cx dX5_symbol_49 rfl 0 rfl ?_
        refine gf_5_5 (pc := 50) cx hv0 t1_211 dX5_symbol_50 ?_
        have hr_10 : Is G 8 (mR M9 v0 5) := TYR.at hM9 hv0 5 8 rfl (by decide)
        refine p_aload_n (pc := 53) cx dX5_symbol_53 rfl 0 rfl ?_
        refine gf_5_5 (pc := 54) cx hv0 t1_211 dX5_symbol_54 ?_
        have hr_11 : Is G 8 (mR M9 v0 5) := TYR.at hM9 hv0 5 8 rfl (by decide)
        refine p_iload (pc := 57) cx dX5_symbol_57 3 rfl ?_
        refine p_callSv (pc := 59) [.ref (mR M9 v0 5), .ref (mR M9 v0 5), .int r9] cx (c_X7_shiftDown cx.2.2.2.2.2.2 hM9 hr_10 hr_11 hw) cf_X7_shiftDown cv_X7_shiftDown t3_216 ⟨rfl, rfl⟩ ⟨Nat.le_of_ble_eq_true rfl, Nat.le_of_ble_eq_true rfl⟩ rfl rfl (Nat.le_of_ble_eq_true rfl) dX5_symbol_59 (fun M12 hw hM12 => ?_)
        refine p_aload_n (pc := 62) cx dX5_symbol_62 rfl 0 rfl ?_
        refine gf_5_6 (pc := 63) cx hv0 t1_212 dX5_symbol_63 ?_
        have hr_13 : Is G 8 (mR M12 v0 6) := TYR.at hM12 hv0 6 8 rfl (by decide)
        refine p_iconst (pc := 66) (v := 0) cx dX5_symbol_66 (by decide) ?_
        refine p_callVl (pc := 67) [.int (0 : Int32)] cx (c_X9_limb cx.2.2.2.2.2.2 hM12 hr_13 hw) cf_X9_limb cv_X9_limb t3_217 hr_13 ⟨by decide, rfl, rfl⟩ ⟨rfl, rfl⟩ ⟨Nat.le_of_ble_eq_true rfl, Nat.le_of_ble_eq_true rfl⟩ rfl rfl (Nat.le_of_ble_eq_true rfl) dX5_symbol_67 (fun r14 M14 hw hM14 => ?_)
        refine p_ldc2 (pc := 70) cx dX5_symbol_70 t3_218 ?_
        refine p_land (pc := 73) cx dX5_symbol_73 ?_
        refine p_topl (fun x6_15 ex6_15 => ?_)
        have hw := hw x6_15 ex6_15
        refine p_lstore (pc := 74) (lv' := [(0, .ref v0), (3, .int v3), (4, .int v4), (5, .int r9), (6, .long x6_15)]) cx dX5_symbol_74 (by decide) [1, 2, 3, 4, 0] rfl ?_
        refine p_iload (pc := 76) cx dX5_symbol_76 3 rfl ?_
        refine p_iconst (pc := 78) (v := 1) cx dX5_symbol_78 (by decide) ?_
        refine p_iand (pc := 79) cx dX5_symbol_79 ?_
        refine p_iconst (pc := 80) (v := 1) cx dX5_symbol_80 (by decide) ?_
        refine p_icmp_ne (pc := 81) (tgt := 105) cx dX5_symbol_81 (by decide) (fun hc => ?_) (fun hc => ?_)
        · have hw := hw.1 hc
          refine p_perm (lv' := [(0, .ref v0), (3, .int v3), (4, .int v4), (6, .long x6_15)]) [0, 1, 2, 4] rfl ?_
          exact x_X5_symbol_105 cx hr hlk ih v0 v3 v4 x6_15 M14 hM14 hv0 hw
        · have hw := hw.2 hc
          refine p_lload (pc := 84) cx dX5_symbol_84 4 rfl ?_
          refine p_ldc2 (pc := 86) cx dX5_symbol_86 t3_219 ?_
          refine p_lcmp (pc := 89) cx dX5_symbol_89 ?_
          refine p_if_eq (pc := 90) (tgt := 102) cx dX5_symbol_90 (by decide) (fun hc => ?_) (fun hc => ?_)
          · have hw := hw.1 ((lg_cmp_eq _ _).mp hc)
            refine p_perm (lv' := [(0, .ref v0), (3, .int v3), (4, .int v4), (6, .long x6_15)]) [0, 1, 2, 4] rfl ?_
            exact x_X5_symbol_102 cx hr hlk ih v0 v3 v4 x6_15 M14 hM14 hv0 hw
          · have hw := hw.2 (fun q => hc ((lg_cmp_eq _ _).mpr q))
            refine p_lload (pc := 93) cx dX5_symbol_93 4 rfl ?_
            refine p_ldc2 (pc := 95) cx dX5_symbol_95 t3_220 ?_
            refine p_lcmp (pc := 98) cx dX5_symbol_98 ?_
            refine p_if_ne (pc := 99) (tgt := 105) cx dX5_symbol_99 (by decide) (fun hc => ?_) (fun hc => ?_)
            · have hw := hw.1 (fun q => hc ((lg_cmp_eq _ _).mpr q))
              refine p_perm (lv' := [(0, .ref v0), (3, .int v3), (4, .int v4), (6, .long x6_15)]) [0, 1, 2, 4] rfl ?_
              exact x_X5_symbol_105 cx hr hlk ih v0 v3 v4 x6_15 M14 hM14 hv0 hw
            · have hw := hw.2 ((lg_cmp_eq _ _).mp hc)
              refine p_perm (lv' := [(0, .ref v0), (3, .int v3), (4, .int v4), (6, .long x6_15)]) [0, 1, 2, 4] rfl ?_
              exact x_X5_symbol_102 cx hr hlk ih v0 v3 v4 x6_15 M14 hM14 hv0 hw
set_option maxHeartbeats 4000000 in
set_option maxRecDepth 100000 in
theorem c_X5_symbol {l : Launch} {D : va_G} {G : SH} (hND : ND G) {a0 : Nat} {a1 : Nat} {a2 : Nat} {M : MS} {Qp : Int32 → MS → Prop} (hT : TYR G M.2.2.1) (ha0 : Is G 5 a0) (ha1 : Is G 8 a1) (ha2 : Is G 8 a2) (hw : w_X5_symbol G a0 a1 a2 M Qp) : MeI l D G yX5_symbol (Cond.code yX5_symbol cX5_symbol 9 (some .int) :: GW) rm_X5_symbol [.ref a0, .ref a1, .ref a2] M Qp := by
  unfold MeI
  refine p_method (by decide) rfl (Nat.le_of_ble_eq_true rfl) hND ?_
  intro p e s m args below meth c cx hr hlk
  have cx : CX p s m args c D G cX5_symbol 9 RX5 := cx
  unfold w_X5_symbol at hw
  refine p_aload_n (pc := 0) cx dX5_symbol_0 rfl 0 rfl ?_
  refine p_aload_n (pc := 1) cx dX5_symbol_1 rfl 0 rfl ?_
  refine gf_5_5 (pc := 2) cx ha0 t1_211 dX5_symbol_2 ?_
  have hr_1 : Is G 8 (mR M a0 5) := TYR.at hT ha0 5 8 rfl (by decide)
  refine p_aload_n (pc := 5) cx dX5_symbol_5 rfl 1 rfl ?_
  refine p_aload_n (pc := 6) cx dX5_symbol_6 rfl 2 rfl ?_
  refine p_callVv (pc := 7) [.ref (mR M a0 5), .ref a1, .ref a2] cx (c_X5_reduce cx.2.2.2.2.2.2 hT ha0 hr_1 ha1 ha2 hw) cf_X5_reduce cv_X5_reduce t3_151 ha0 ⟨by decide, rfl, rfl⟩ ⟨rfl, rfl⟩ ⟨Nat.le_of_ble_eq_true rfl, Nat.le_of_ble_eq_true rfl⟩ rfl rfl (Nat.le_of_ble_eq_true rfl) dX5_symbol_7 (fun M2 hw hM2 => ?_)
  refine p_aload_n (pc := 10) cx dX5_symbol_10 rfl 0 rfl ?_
  refine gf_5_6 (pc := 11) cx ha0 t1_212 dX5_symbol_11 ?_
  have hr_3 : Is G 8 (mR M2 a0 6) := TYR.at hM2 ha0 6 8 rfl (by decide)
  refine p_aload_n (pc := 14) cx dX5_symbol_14 rfl 2 rfl ?_
  refine p_callVv (pc := 15) [.ref a2] cx (c_X9_copy cx.2.2.2.2.2.2 hM2 hr_3 ha2 hw) cf_X9_copy cv_X9_copy t3_153 hr_3 ⟨by decide, rfl, rfl⟩ ⟨rfl, rfl⟩ ⟨Nat.le_of_ble_eq_true rfl, Nat.le_of_ble_eq_true rfl⟩ rfl rfl (Nat.le_of_ble_eq_true rfl) dX5_symbol_15 (fun M4 hw hM4 => ?_)
  refine p_iconst (pc := 18) (v := 1) cx dX5_symbol_18 (by decide) ?_
  refine p_istore_n (pc := 19) (lv' := [(0, .ref a0), (3, .int (1 : Int32))]) cx dX5_symbol_19 rfl (by decide) [1, 0] rfl ?_
  refine p_iconst (pc := 20) (v := 0) cx dX5_symbol_20 (by decide) ?_
  refine p_istore (pc := 21) (lv' := [(0, .ref a0), (3, .int (1 : Int32)), (4, .int (0 : Int32))]) cx dX5_symbol_21 (by decide) [1, 2, 0] rfl ?_
  obtain ⟨n1, hw⟩ := hw
  exact x_X5_symbol_23 cx hr hlk n1 a0 1 0 M4 hM4 ha0 hw
set_option maxHeartbeats 4000000 in
set_option maxRecDepth 100000 in
theorem c_X6_guessWithBit {l : Launch} {D : va_G} {G : SH} (hND : ND G) {a0 : Nat} {a1 : Int32} {M : MS} {Qp : MS → Prop} (hT : TYR G M.2.2.1) (ha0 : Is G 6 a0) (hw : w_X6_guessWithBit G a0 a1 M Qp) : MeV l D G yX6_guessWithBit (Cond.code yX6_guessWithBit cX6_guessWithBit 2 none :: GW) rm_X6_guessWithBit [.ref a0, .int a1] M Qp := by
  unfold MeV
  refine p_method (by decide) rfl (Nat.le_of_ble_eq_true rfl) hND ?_
  intro p e s m args below meth c cx hr hlk
  have cx : CX p s m args c D G cX6_guessWithBit 2 RX6 := cx
  unfold w_X6_guessWithBit at hw
  refine p_aload_n (pc := 0) cx dX6_guessWithBit_0 rfl 0 rfl ?_
  refine gf_6_5 (pc := 1) cx ha0 t2_13 dX6_guessWithBit_1 ?_
  have hr_1 : Is G 8 (mR M a0 5) := TYR.at hT ha0 5 8 rfl (by decide)
  refine p_aload_n (pc := 4) cx dX6_guessWithBit_4 rfl 0 rfl ?_
  refine gf_6_6 (pc := 5) cx ha0 t2_14 dX6_guessWithBit_5 ?_
  have hr_2 : Is G 8 (mR M a0 6) := TYR.at hT ha0 6 8 rfl (by decide)
  refine p_iload_n (pc := 8) cx dX6_guessWithBit_8 rfl 1 rfl ?_
  refine p_callSv (pc := 9) [.ref (mR M a0 5), .ref (mR M a0 6), .int a1] cx (c_X7_shiftUp cx.2.2.2.2.2.2 hT hr_1 hr_2 hw) cf_X7_shiftUp cv_X7_shiftUp t3_179 ⟨rfl, rfl⟩ ⟨Nat.le_of_ble_eq_true rfl, Nat.le_of_ble_eq_true rfl⟩ rfl rfl (Nat.le_of_ble_eq_true rfl) dX6_guessWithBit_9 (fun M3 hw hM3 => ?_)
  refine p_aload_n (pc := 12) cx dX6_guessWithBit_12 rfl 0 rfl ?_
  refine gf_6_8 (pc := 13) cx ha0 t2_16 dX6_guessWithBit_13 ?_
  have hr_4 : Is G 8 (mR M3 a0 8) := TYR.at hM3 ha0 8 8 rfl (by decide)
  refine p_aload_n (pc := 16) cx dX6_guessWithBit_16 rfl 0 rfl ?_
  refine gf_6_7 (pc := 17) cx ha0 t2_15 dX6_guessWithBit_17 ?_
  have hr_5 : Is G 8 (mR M3 a0 7) := TYR.at hM3 ha0 7 8 rfl (by decide)
  refine p_aload_n (pc := 20) cx dX6_guessWithBit_20 rfl 0 rfl ?_
  refine gf_6_5 (pc := 21) cx ha0 t2_13 dX6_guessWithBit_21 ?_
  have hr_6 : Is G 8 (mR M3 a0 5) := TYR.at hM3 ha0 5 8 rfl (by decide)
  refine p_callSv (pc := 24) [.ref (mR M3 a0 8), .ref (mR M3 a0 7), .ref (mR M3 a0 5)] cx (c_X7_sum cx.2.2.2.2.2.2 hM3 hr_4 hr_5 hr_6 hw) cf_X7_sum cv_X7_sum t3_180 ⟨rfl, rfl⟩ ⟨Nat.le_of_ble_eq_true rfl, Nat.le_of_ble_eq_true rfl⟩ rfl rfl (Nat.le_of_ble_eq_true rfl) dX6_guessWithBit_24 (fun M7 hw hM7 => ?_)
  exact p_vret (pc := 27) cx hr hlk dX6_guessWithBit_27 hM7 hw
set_option maxHeartbeats 4000000 in
set_option maxRecDepth 100000 in
theorem x_X6_raiseUpTo_92 {p : Program} {l : Launch} {e : Env} {s : State} {m : MethodId} {args : Array Value} {below : List Frame} {meth : Method} {c : Code} {D : va_G} {G : SH} {Qp : Int32 → MS → Prop} {K17 : Nat → Nat → Int32 → Nat → Int32 → MS → Prop} (cx : CX p s m args c D G cX6_raiseUpTo 5 RX6) (hr : meth.sig.returnType = (some .boolean)) (hlk : meth.locks = false) (hK17 : ∀ (v0 : Nat) (v1 : Nat) (v2 : Int32) (v3 : Nat) (v4 : Int32) (M : MS), TYR G M.2.2.1 → Is G 6 v0 → Is G 8 v1 → Is G 8 v3 → K17 v0 v1 v2 v3 v4 M → PW p l e rm_X6_raiseUpTo s m args below meth c D G 5 (MQ below (va_Qi Qp (POST D G) (AG G)) args s 0 0 (AG G)) 17 [(0, .ref v0), (1, .ref v1), (2, .int v2), (3, .ref v3), (4, .int v4)] [] M) (v0 : Nat) (v1 : Nat) (v2 : Int32) (v3 : Nat) (v4 : Int32) (M : MS) (hT : TYR G M.2.2.1) (hv0 : Is G 6 v0) (hv1 : Is G 8 v1) (hv3 : Is G 8 v3) (hw : w_X6_raiseUpTo_92 G K17 Qp v0 v1 v2 v3 v4 M) : PW p l e rm_X6_raiseUpTo s m args below meth c D G 5 (MQ below (va_Qi Qp (POST D G) (AG G)) args s 0 0 (AG G)) 92 [(0, .ref v0), (1, .ref v1), (2, .int v2), (3, .ref v3), (4, .int v4)] [] M := by
  unfold w_X6_raiseUpTo_92 at hw
  refine p_aload_n (pc := 92) cx dX6_raiseUpTo_92 rfl 0 rfl ?_
  refine gf_6_4 (pc := 93) cx hv0 t2_12 dX6_raiseUpTo_93 ?_
  have hr_12 : Is G 8 (mR M v0 4) := TYR.at hT hv0 4 8 rfl (by decide)
  refine p_aload_n (pc := 96) cx dX6_raiseUpTo_96 rfl 3 rfl ?_
  refine p_callSi (pc := 97) [.ref (mR M v0 4), .ref v3] cx (c_X7_order cx.2.2.2.2.2.2 hT hr_12 hv3 hw) cf_X7_order cv_X7_order t3_187 ⟨rfl, rfl⟩ ⟨Nat.le_of_ble_eq_true rfl, Nat.le_of_ble_eq_true rfl⟩ rfl rfl (Nat.le_of_ble_eq_true rfl) dX6_raiseUpTo_97 (fun r13 M13 hw hM13 => ?_)
  refine p_if_le (pc := 100) (tgt := 105) cx dX6_raiseUpTo_100 (by decide) (fun hc => ?_) (fun hc => ?_)
  · have hw := hw.1 hc
    obtain ⟨x4_14, ex4_14⟩ : ∃ y : Int32, y = v4 + (-1) := ⟨_, rfl⟩
    have hw := hw x4_14 ex4_14
    refine p_iinc (pc := 105) (v := x4_14) (lv' := [(0, .ref v0), (1, .ref v1), (2, .int v2), (3, .ref v3), (4, .int x4_14)]) cx dX6_raiseUpTo_105 4 rfl (by rw [ex4_14]; rfl) (by decide) [1, 2, 3, 4, 0] rfl ?_
    refine p_goto (pc := 108) (tgt := 17) cx dX6_raiseUpTo_108 (by decide) ?_
    exact hK17 v0 v1 v2 v3 x4_14 M13 hM13 hv0 hv1 hv3 hw
  · have hw := hw.2 hc
    refine p_iconst (pc := 103) (v := 0) cx dX6_raiseUpTo_103 (by decide) ?_
    exact p_zret (pc := 104) cx hr hlk dX6_raiseUpTo_104 (by decide) hM13 hw
set_option maxHeartbeats 4000000 in
set_option maxRecDepth 100000 in
theorem x_X6_raiseUpTo_17 {p : Program} {l : Launch} {e : Env} {s : State} {m : MethodId} {args : Array Value} {below : List Frame} {meth : Method} {c : Code} {D : va_G} {G : SH} {Qp : Int32 → MS → Prop}  (cx : CX p s m args c D G cX6_raiseUpTo 5 RX6) (hr : meth.sig.returnType = (some .boolean)) (hlk : meth.locks = false)  : ∀ (n : Nat) (v0 : Nat) (v1 : Nat) (v2 : Int32) (v3 : Nat) (v4 : Int32) (M : MS), TYR G M.2.2.1 → Is G 6 v0 → Is G 8 v1 → Is G 8 v3 → w_X6_raiseUpTo_17 G Qp n v0 v1 v2 v3 v4 M → PW p l e rm_X6_raiseUpTo s m args below meth c D G 5 (MQ below (va_Qi Qp (POST D G) (AG G)) args s 0 0 (AG G)) 17 [(0, .ref v0), (1, .ref v1), (2, .int v2), (3, .ref v3), (4, .int v4)] [] M := by
  intro n
  induction n with
  | zero =>
    intro v0 v1 v2 v3 v4 M hT hv0 hv1 hv3 hw
    exact hw.elim
  | succ n ih =>
    intro v0 v1 v2 v3 v4 M hT hv0 hv1 hv3 hw
    rw [w_X6_raiseUpTo_17] at hw
    refine p_iload (pc := 17) cx dX6_raiseUpTo_17 4 rfl ?_
    refine p_if_lt (pc := 19) (tgt := 111) cx dX6_raiseUpTo_19 (by decide) (fun hc => ?_) (fun hc => ?_)
    · have hw := hw.1 hc
      refine p_iconst (pc := 111) (v := 1) cx dX6_raiseUpTo_111 (by decide) ?_
      exact p_zret (pc := 112) cx hr hlk dX6_raiseUpTo_112 (by decide) hT hw
    · have hw := hw.2 hc
      refine p_aload_n (pc := 22) cx dX6_raiseUpTo_22 rfl 0 rfl ?_
      refine gf_6_3 (pc := 23) cx hv0 t2_11 dX6_raiseUpTo_23 ?_
      have hr_5 : Is G 8 (mR M v0 3) := TYR.at hT hv0 3 8 rfl (by decide)
      refine p_aload_n (pc := 26) cx dX6_raiseUpTo_26 rfl 0 rfl ?_
      refine gf_6_4 (pc := 27) cx hv0 t2_12 dX6_raiseUpTo_27 ?_
      have hr_6 : Is G 8 (mR M v0 4) := TYR.at hT hv0 4 8 rfl (by decide)
      refine p_aload_n (pc := 30) cx dX6_raiseUpTo_30 rfl 0 rfl ?_
      refine gf_6_4 (pc := 31) cx hv0 t2_12 dX6_raiseUpTo_31 ?_
      have hr_7 : Is G 8 (mR M v0 4) := TYR.at hT hv0 4 8 rfl (by decide)
      refine p_callSv (pc := 34) [.ref (mR M v0 3), .ref (mR M v0 4), .ref (mR M v0 4)] cx (c_X7_product cx.2.2.2.2.2.2 hT hr_5 hr_6 hr_7 hw) cf_X7_product cv_X7_product t3_186 ⟨rfl, rfl⟩ ⟨Nat.le_of_ble_eq_true rfl, Nat.le_of_ble_eq_true rfl⟩ rfl rfl (Nat.le_of_ble_eq_true rfl) dX6_raiseUpTo_34 (fun M8 hw hM8 => ?_)
      refine p_aload_n (pc := 37) cx dX6_raiseUpTo_37 rfl 0 rfl ?_
      refine gf_6_4 (pc := 38) cx hv0 t2_12 dX6_raiseUpTo_38 ?_
      have hr_9 : Is G 8 (mR M8 v0 4) := TYR.at hM8 hv0 4 8 rfl (by decide)
      refine p_aload_n (pc := 41) cx dX6_raiseUpTo_41 rfl 0 rfl ?_
      refine gf_6_3 (pc := 42) cx hv0 t2_11 dX6_raiseUpTo_42 ?_
      have hr_10 : Is G 8 (mR M8 v0 3) := TYR.at hM8 hv0 3 8 rfl (by decide)
      refine p_callVv (pc := 45) [.ref (mR M8 v0 3)] cx (c_X9_copy cx.2.2.2.2.2.2 hM8 hr_9 hr_10 hw) cf_X9_copy cv_X9_copy t3_172 hr_9 ⟨by decide, rfl, rfl⟩ ⟨rfl, rfl⟩ ⟨Nat.le_of_ble_eq_true rfl, Nat.le_of_ble_eq_true rfl⟩ rfl rfl (Nat.le_of_ble_eq_true rfl) dX6_raiseUpTo_45 (fun M11 hw hM11 => ?_)
      refine p_iload_n (pc := 48) cx dX6_raiseUpTo_48 rfl 2 rfl ?_
      refine p_iload (pc := 49) cx dX6_raiseUpTo_49 4 rfl ?_
      refine p_iushr (pc := 51) cx dX6_raiseUpTo_51 ?_
      refine p_iconst (pc := 52) (v := 1) cx dX6_raiseUpTo_52 (by decide) ?_
      refine p_iand (pc := 53) cx dX6_raiseUpTo_53 ?_
      refine p_iconst (pc := 54) (v := 1) cx dX6_raiseUpTo_54 (by decide) ?_
      refine p_icmp_ne (pc := 55) (tgt := 92) cx dX6_raiseUpTo_55 (by decide) (fun hc => ?_) (fun hc => ?_)
      · have hw := hw.1 hc
        exact x_X6_raiseUpTo_92 cx hr hlk ih v0 v1 v2 v3 v4 M11 hM11 hv0 hv1 hv3 hw
      · have hw := hw.2 hc
        refine p_aload_n (pc := 58) cx dX6_raiseUpTo_58 rfl 0 rfl ?_
        refine gf_6_4 (pc := 59) cx hv0 t2_12 dX6_raiseUpTo_59 ?_
        have hr_15 : Is G 8 (mR M11 v0 4) := TYR.at hM11 hv0 4 8 rfl (by decide)
        refine p_aload_n (pc := 62) cx dX6_raiseUpTo_62 rfl 3 rfl ?_
        refine p_callSi (pc := 63) [.ref (mR M11 v0 4), .ref v3] cx (c_X7_order cx.2.2.2.2.2.2 hM11 hr_15 hv3 hw) cf_X7_order cv_X7_order t3_187 ⟨rfl, rfl⟩ ⟨Nat.le_of_ble_eq_true rfl, Nat.le_of_ble_eq_true rfl⟩ rfl rfl (Nat.le_of_ble_eq_true rfl) dX6_raiseUpTo_63 (fun r16 M16 hw hM16 => ?_)
        refine p_if_gt (pc := 66) (tgt := 92) cx dX6_raiseUpTo_66 (by decide) (fun hc => ?_) (fun hc => ?_)
        · have hw := hw.1 hc
          exact x_X6_raiseUpTo_92 cx hr hlk ih v0 v1 v2 v3 v4 M16 hM16 hv0 hv1 hv3 hw
        · have hw := hw.2 hc
          refine p_aload_n (pc := 69) cx dX6_raiseUpTo_69 rfl 0 rfl ?_
          refine gf_6_3 (pc := 70) cx hv0 t2_11 dX6_raiseUpTo_70 ?_
          have hr_17 : Is G 8 (mR M16 v0 3) := TYR.at hM16 hv0 3 8 rfl (by decide)
          refine p_aload_n (pc := 73) cx dX6_raiseUpTo_73 rfl 0 rfl ?_
          refine gf_6_4 (pc := 74) cx hv0 t2_12 dX6_raiseUpTo_74 ?_
          have hr_18 : Is G 8 (mR M16 v0 4) := TYR.at hM16 hv0 4 8 rfl (by decide)
          refine p_aload_n (pc := 77) cx dX6_raiseUpTo_77 rfl 1 rfl ?_
          refine p_callSv (pc := 78) [.ref (mR M16 v0 3), .ref (mR M16 v0 4), .ref v1] cx (c_X7_product cx.2.2.2.2.2.2 hM16 hr_17 hr_18 hv1 hw) cf_X7_product cv_X7_product t3_186 ⟨rfl, rfl⟩ ⟨Nat.le_of_ble_eq_true rfl, Nat.le_of_ble_eq_true rfl⟩ rfl rfl (Nat.le_of_ble_eq_true rfl) dX6_raiseUpTo_78 (fun M19 hw hM19 => ?_)
          refine p_aload_n (pc := 81) cx dX6_raiseUpTo_81 rfl 0 rfl ?_
          refine gf_6_4 (pc := 82) cx hv0 t2_12 dX6_raiseUpTo_82 ?_
          have hr_20 : Is G 8 (mR M19 v0 4) := TYR.at hM19 hv0 4 8 rfl (by decide)
          refine p_aload_n (pc := 85) cx dX6_raiseUpTo_85 rfl 0 rfl ?_
          refine gf_6_3 (pc := 86) cx hv0 t2_11 dX6_raiseUpTo_86 ?_
          have hr_21 : Is G 8 (mR M19 v0 3) := TYR.at hM19 hv0 3 8 rfl (by decide)
          refine p_callVv (pc := 89) [.ref (mR M19 v0 3)] cx (c_X9_copy cx.2.2.2.2.2.2 hM19 hr_20 hr_21 hw) cf_X9_copy cv_X9_copy t3_172 hr_20 ⟨by decide, rfl, rfl⟩ ⟨rfl, rfl⟩ ⟨Nat.le_of_ble_eq_true rfl, Nat.le_of_ble_eq_true rfl⟩ rfl rfl (Nat.le_of_ble_eq_true rfl) dX6_raiseUpTo_89 (fun M22 hw hM22 => ?_)
          exact x_X6_raiseUpTo_92 cx hr hlk ih v0 v1 v2 v3 v4 M22 hM22 hv0 hv1 hv3 hw
set_option maxHeartbeats 4000000 in
set_option maxRecDepth 100000 in
theorem c_X6_raiseUpTo {l : Launch} {D : va_G} {G : SH} (hND : ND G) {a0 : Nat} {a1 : Nat} {a2 : Int32} {a3 : Nat} {M : MS} {Qp : Int32 → MS → Prop} (hT : TYR G M.2.2.1) (ha0 : Is G 6 a0) (ha1 : Is G 8 a1) (ha3 : Is G 8 a3) (hw : w_X6_raiseUpTo G a0 a1 a2 a3 M Qp) : MeI l D G yX6_raiseUpTo (Cond.code yX6_raiseUpTo cX6_raiseUpTo 5 (some .boolean) :: GW) rm_X6_raiseUpTo [.ref a0, .ref a1, .int a2, .ref a3] M Qp := by
  unfold MeI
  refine p_method (by decide) rfl (Nat.le_of_ble_eq_true rfl) hND ?_
  intro p e s m args below meth c cx hr hlk
  have cx : CX p s m args c D G cX6_raiseUpTo 5 RX6 := cx
  unfold w_X6_raiseUpTo at hw
  refine p_aload_n (pc := 0) cx dX6_raiseUpTo_0 rfl 0 rfl ?_
  refine gf_6_4 (pc := 1) cx ha0 t2_12 dX6_raiseUpTo_1 ?_
  have hr_1 : Is G 8 (mR M a0 4) := TYR.at hT ha0 4 8 rfl (by decide)
  refine p_iconst (pc := 4) (v := 1) cx dX6_raiseUpTo_4 (by decide) ?_
  refine p_callVv (pc := 5) [.int (1 : Int32)] cx (c_X9_become cx.2.2.2.2.2.2 hT hr_1 hw) cf_X9_become cv_X9_become t1_239 hr_1 ⟨by decide, rfl, rfl⟩ ⟨rfl, rfl⟩ ⟨Nat.le_of_ble_eq_true rfl, Nat.le_of_ble_eq_true rfl⟩ rfl rfl (Nat.le_of_ble_eq_true rfl) dX6_raiseUpTo_5 (fun M2 hw hM2 => ?_)
  refine p_bipush (pc := 8) (v := 31) cx dX6_raiseUpTo_8 (by decide) ?_
  refine p_iload_n (pc := 10) cx dX6_raiseUpTo_10 rfl 2 rfl ?_
  refine p_callSi (pc := 11) [.int a2] cx (c_J6_numberOfLeadingZeros_0f7a4 cx.2.2.2.2.2.2 hM2 hw) cf_J6_numberOfLeadingZeros_0f7a4 cv_J6_numberOfLeadingZeros_0f7a4 t3_185 ⟨rfl, rfl⟩ ⟨Nat.le_of_ble_eq_true rfl, Nat.le_of_ble_eq_true rfl⟩ rfl rfl (Nat.le_of_ble_eq_true rfl) dX6_raiseUpTo_11 (fun r3 M3 hw hM3 => ?_)
  refine p_isub (pc := 14) cx dX6_raiseUpTo_14 ?_
  refine p_topi (fun x4_4 ex4_4 => ?_)
  have hw := hw x4_4 ex4_4
  refine p_istore (pc := 15) (lv' := [(0, .ref a0), (1, .ref a1), (2, .int a2), (3, .ref a3), (4, .int x4_4)]) cx dX6_raiseUpTo_15 (by decide) [1, 2, 3, 4, 0] rfl ?_
  obtain ⟨n1, hw⟩ := hw
  exact x_X6_raiseUpTo_17 cx hr hlk n1 a0 a1 a2 a3 x4_4 M3 hM3 ha0 ha1 ha3 hw
set_option maxHeartbeats 4000000 in
set_option maxRecDepth 100000 in
theorem x_X6_stepDown_43 {p : Program} {l : Launch} {e : Env} {s : State} {m : MethodId} {args : Array Value} {below : List Frame} {meth : Method} {c : Code} {D : va_G} {G : SH} {Qp : Int32 → MS → Prop}  (cx : CX p s m args c D G cX6_stepDown 4 RX6) (hr : meth.sig.returnType = (some .boolean)) (hlk : meth.locks = false)  (v0 : Nat) (v2 : Int32) (M : MS) (hT : TYR G M.2.2.1) (hv0 : Is G 6 v0) (hw : w_X6_stepDown_43 G Qp v0 v2 M) : PW p l e rm_X6_stepDown s m args below meth c D G 4 (MQ below (va_Qi Qp (POST D G) (AG G)) args s 0 0 (AG G)) 43 [(0, .ref v0), (2, .int v2)] [] M := by
  unfold w_X6_stepDown_43 at hw
  refine p_aload_n (pc := 43) cx dX6_stepDown_43 rfl 0 rfl ?_
  refine gf_6_5 (pc := 44) cx hv0 t2_13 dX6_stepDown_44 ?_
  have hr_5 : Is G 8 (mR M v0 5) := TYR.at hT hv0 5 8 rfl (by decide)
  refine p_iload_n (pc := 47) cx dX6_stepDown_47 rfl 1 rfl ?_
  refine p_iconst (pc := 48) (v := 1) cx dX6_stepDown_48 (by decide) ?_
  refine p_isub (pc := 49) cx dX6_stepDown_49 ?_
  refine p_callVv (pc := 50) [.int (v2 - 1)] cx (c_X9_become cx.2.2.2.2.2.2 hT hr_5 hw) cf_X9_become cv_X9_become t1_239 hr_5 ⟨by decide, rfl, rfl⟩ ⟨rfl, rfl⟩ ⟨Nat.le_of_ble_eq_true rfl, Nat.le_of_ble_eq_true rfl⟩ rfl rfl (Nat.le_of_ble_eq_true rfl) dX6_stepDown_50 (fun M6 hw hM6 => ?_)
  refine p_aload_n (pc := 53) cx dX6_stepDown_53 rfl 0 rfl ?_
  refine gf_6_3 (pc := 54) cx hv0 t2_11 dX6_stepDown_54 ?_
  have hr_7 : Is G 8 (mR M6 v0 3) := TYR.at hM6 hv0 3 8 rfl (by decide)
  refine p_aload_n (pc := 57) cx dX6_stepDown_57 rfl 0 rfl ?_
  refine gf_6_7 (pc := 58) cx hv0 t2_15 dX6_stepDown_58 ?_
  have hr_8 : Is G 8 (mR M6 v0 7) := TYR.at hM6 hv0 7 8 rfl (by decide)
  refine p_aload_n (pc := 61) cx dX6_stepDown_61 rfl 0 rfl ?_
  refine gf_6_5 (pc := 62) cx hv0 t2_13 dX6_stepDown_62 ?_
  have hr_9 : Is G 8 (mR M6 v0 5) := TYR.at hM6 hv0 5 8 rfl (by decide)
  refine p_callSv (pc := 65) [.ref (mR M6 v0 3), .ref (mR M6 v0 7), .ref (mR M6 v0 5)] cx (c_X7_product cx.2.2.2.2.2.2 hM6 hr_7 hr_8 hr_9 hw) cf_X7_product cv_X7_product t3_186 ⟨rfl, rfl⟩ ⟨Nat.le_of_ble_eq_true rfl, Nat.le_of_ble_eq_true rfl⟩ rfl rfl (Nat.le_of_ble_eq_true rfl) dX6_stepDown_65 (fun M10 hw hM10 => ?_)
  refine p_aload_n (pc := 68) cx dX6_stepDown_68 rfl 0 rfl ?_
  refine gf_6_3 (pc := 69) cx hv0 t2_11 dX6_stepDown_69 ?_
  have hr_11 : Is G 8 (mR M10 v0 3) := TYR.at hM10 hv0 3 8 rfl (by decide)
  refine p_aload_n (pc := 72) cx dX6_stepDown_72 rfl 0 rfl ?_
  refine gf_6_3 (pc := 73) cx hv0 t2_11 dX6_stepDown_73 ?_
  have hr_12 : Is G 8 (mR M10 v0 3) := TYR.at hM10 hv0 3 8 rfl (by decide)
  refine p_aload_n (pc := 76) cx dX6_stepDown_76 rfl 0 rfl ?_
  refine gf_6_1 (pc := 77) cx hv0 t2_9 dX6_stepDown_77 ?_
  have hr_13 : Is G 8 (mR M10 v0 1) := TYR.at hM10 hv0 1 8 rfl (by decide)
  refine p_callSv (pc := 80) [.ref (mR M10 v0 3), .ref (mR M10 v0 3), .ref (mR M10 v0 1)] cx (c_X7_sum cx.2.2.2.2.2.2 hM10 hr_11 hr_12 hr_13 hw) cf_X7_sum cv_X7_sum t3_180 ⟨rfl, rfl⟩ ⟨Nat.le_of_ble_eq_true rfl, Nat.le_of_ble_eq_true rfl⟩ rfl rfl (Nat.le_of_ble_eq_true rfl) dX6_stepDown_80 (fun M14 hw hM14 => ?_)
  refine p_aload_n (pc := 83) cx dX6_stepDown_83 rfl 0 rfl ?_
  refine gf_6_5 (pc := 84) cx hv0 t2_13 dX6_stepDown_84 ?_
  have hr_15 : Is G 8 (mR M14 v0 5) := TYR.at hM14 hv0 5 8 rfl (by decide)
  refine p_iload_n (pc := 87) cx dX6_stepDown_87 rfl 1 rfl ?_
  refine p_callVv (pc := 88) [.int v2] cx (c_X9_become cx.2.2.2.2.2.2 hM14 hr_15 hw) cf_X9_become cv_X9_become t1_239 hr_15 ⟨by decide, rfl, rfl⟩ ⟨rfl, rfl⟩ ⟨Nat.le_of_ble_eq_true rfl, Nat.le_of_ble_eq_true rfl⟩ rfl rfl (Nat.le_of_ble_eq_true rfl) dX6_stepDown_88 (fun M16 hw hM16 => ?_)
  refine p_aload_n (pc := 91) cx dX6_stepDown_91 rfl 0 rfl ?_
  refine gf_6_0 (pc := 92) cx hv0 t2_8 dX6_stepDown_92 ?_
  have hr_17 : Is G 0 (mR M16 v0 0) := TYR.at hM16 hv0 0 0 rfl (by decide)
  refine p_aload_n (pc := 95) cx dX6_stepDown_95 rfl 0 rfl ?_
  refine gf_6_8 (pc := 96) cx hv0 t2_16 dX6_stepDown_96 ?_
  have hr_18 : Is G 8 (mR M16 v0 8) := TYR.at hM16 hv0 8 8 rfl (by decide)
  refine p_aload_n (pc := 99) cx dX6_stepDown_99 rfl 0 rfl ?_
  refine gf_6_2 (pc := 100) cx hv0 t2_10 dX6_stepDown_100 ?_
  have hr_19 : Is G 8 (mR M16 v0 2) := TYR.at hM16 hv0 2 8 rfl (by decide)
  refine p_aload_n (pc := 103) cx dX6_stepDown_103 rfl 0 rfl ?_
  refine gf_6_3 (pc := 104) cx hv0 t2_11 dX6_stepDown_104 ?_
  have hr_20 : Is G 8 (mR M16 v0 3) := TYR.at hM16 hv0 3 8 rfl (by decide)
  refine p_aload_n (pc := 107) cx dX6_stepDown_107 rfl 0 rfl ?_
  refine gf_6_5 (pc := 108) cx hv0 t2_13 dX6_stepDown_108 ?_
  have hr_21 : Is G 8 (mR M16 v0 5) := TYR.at hM16 hv0 5 8 rfl (by decide)
  refine p_callVv (pc := 111) [.ref (mR M16 v0 8), .ref (mR M16 v0 2), .ref (mR M16 v0 3), .ref (mR M16 v0 5)] cx (c_X0_split cx.2.2.2.2.2.2 hM16 hr_17 hr_18 hr_19 hr_20 hr_21 hw) cf_X0_split cv_X0_split t3_193 hr_17 ⟨by decide, rfl, rfl⟩ ⟨rfl, rfl⟩ ⟨Nat.le_of_ble_eq_true rfl, Nat.le_of_ble_eq_true rfl⟩ rfl rfl (Nat.le_of_ble_eq_true rfl) dX6_stepDown_111 (fun M22 hw hM22 => ?_)
  refine p_aload_n (pc := 114) cx dX6_stepDown_114 rfl 0 rfl ?_
  refine gf_6_8 (pc := 115) cx hv0 t2_16 dX6_stepDown_115 ?_
  have hr_23 : Is G 8 (mR M22 v0 8) := TYR.at hM22 hv0 8 8 rfl (by decide)
  refine p_aload_n (pc := 118) cx dX6_stepDown_118 rfl 0 rfl ?_
  refine gf_6_7 (pc := 119) cx hv0 t2_15 dX6_stepDown_119 ?_
  have hr_24 : Is G 8 (mR M22 v0 7) := TYR.at hM22 hv0 7 8 rfl (by decide)
  refine p_callSi (pc := 122) [.ref (mR M22 v0 8), .ref (mR M22 v0 7)] cx (c_X7_order cx.2.2.2.2.2.2 hM22 hr_23 hr_24 hw) cf_X7_order cv_X7_order t3_187 ⟨rfl, rfl⟩ ⟨Nat.le_of_ble_eq_true rfl, Nat.le_of_ble_eq_true rfl⟩ rfl rfl (Nat.le_of_ble_eq_true rfl) dX6_stepDown_122 (fun r25 M25 hw hM25 => ?_)
  refine p_if_lt (pc := 125) (tgt := 130) cx dX6_stepDown_125 (by decide) (fun hc => ?_) (fun hc => ?_)
  · have hw := hw.1 hc
    refine p_aload_n (pc := 130) cx dX6_stepDown_130 rfl 0 rfl ?_
    refine gf_6_7 (pc := 131) cx hv0 t2_15 dX6_stepDown_131 ?_
    have hr_26 : Is G 8 (mR M25 v0 7) := TYR.at hM25 hv0 7 8 rfl (by decide)
    refine p_astore_n (pc := 134) (lv' := [(0, .ref v0), (3, .ref (mR M25 v0 7))]) cx dX6_stepDown_134 rfl (by decide) [1, 0] rfl ?_
    refine p_aload_n (pc := 135) cx dX6_stepDown_135 rfl 0 rfl ?_
    refine p_aload_n (pc := 136) cx dX6_stepDown_136 rfl 0 rfl ?_
    refine gf_6_8 (pc := 137) cx hv0 t2_16 dX6_stepDown_137 ?_
    have hr_27 : Is G 8 (mR M25 v0 8) := TYR.at hM25 hv0 8 8 rfl (by decide)
    refine pf_6_7 (pc := 140) cx hv0 t2_15 dX6_stepDown_140 ?_
    refine p_mem (fun M28 eM28 => ?_)
    have hw := hw M28 eM28
    have hM28 : TYR G M28.2.2.1 := by rw [eM28]; exact TYR.up hM25 hv0 7 8 (by decide) rfl hr_27
    refine p_aload_n (pc := 143) cx dX6_stepDown_143 rfl 0 rfl ?_
    refine p_aload_n (pc := 144) cx dX6_stepDown_144 rfl 1 rfl ?_
    refine pf_6_8 (pc := 145) cx hv0 t2_16 dX6_stepDown_145 ?_
    refine p_mem (fun M29 eM29 => ?_)
    have hw := hw M29 eM29
    have hM29 : TYR G M29.2.2.1 := by rw [eM29]; exact TYR.up hM28 hv0 8 8 (by decide) rfl hr_26
    refine p_iconst (pc := 148) (v := 1) cx dX6_stepDown_148 (by decide) ?_
    exact p_zret (pc := 149) cx hr hlk dX6_stepDown_149 (by decide) hM29 hw
  · have hw := hw.2 hc
    refine p_iconst (pc := 128) (v := 0) cx dX6_stepDown_128 (by decide) ?_
    exact p_zret (pc := 129) cx hr hlk dX6_stepDown_129 (by decide) hM25 hw
set_option maxHeartbeats 4000000 in
set_option maxRecDepth 100000 in
theorem c_X6_stepDown {l : Launch} {D : va_G} {G : SH} (hND : ND G) {a0 : Nat} {a1 : Nat} {a2 : Int32} {M : MS} {Qp : Int32 → MS → Prop} (hT : TYR G M.2.2.1) (ha0 : Is G 6 a0) (ha1 : Is G 8 a1) (hw : w_X6_stepDown G a0 a1 a2 M Qp) : MeI l D G yX6_stepDown (Cond.code yX6_stepDown cX6_stepDown 4 (some .boolean) :: GW) rm_X6_stepDown [.ref a0, .ref a1, .int a2] M Qp := by
  unfold MeI
  refine p_method (by decide) rfl (Nat.le_of_ble_eq_true rfl) hND ?_
  intro p e s m args below meth c cx hr hlk
  have cx : CX p s m args c D G cX6_stepDown 4 RX6 := cx
  unfold w_X6_stepDown at hw
  refine p_aload_n (pc := 0) cx dX6_stepDown_0 rfl 0 rfl ?_
  refine gf_6_1 (pc := 1) cx ha0 t2_9 dX6_stepDown_1 ?_
  have hr_1 : Is G 8 (mR M a0 1) := TYR.at hT ha0 1 8 rfl (by decide)
  refine p_iconst (pc := 4) (v := 0) cx dX6_stepDown_4 (by decide) ?_
  refine p_callVv (pc := 5) [.int (0 : Int32)] cx (c_X9_become cx.2.2.2.2.2.2 hT hr_1 hw) cf_X9_become cv_X9_become t1_239 hr_1 ⟨by decide, rfl, rfl⟩ ⟨rfl, rfl⟩ ⟨Nat.le_of_ble_eq_true rfl, Nat.le_of_ble_eq_true rfl⟩ rfl rfl (Nat.le_of_ble_eq_true rfl) dX6_stepDown_5 (fun M2 hw hM2 => ?_)
  refine p_aload_n (pc := 8) cx dX6_stepDown_8 rfl 0 rfl ?_
  refine p_aload_n (pc := 9) cx dX6_stepDown_9 rfl 0 rfl ?_
  refine gf_6_7 (pc := 10) cx ha0 t2_15 dX6_stepDown_10 ?_
  have hr_3 : Is G 8 (mR M2 a0 7) := TYR.at hM2 ha0 7 8 rfl (by decide)
  refine p_iload_n (pc := 13) cx dX6_stepDown_13 rfl 2 rfl ?_
  refine p_iconst (pc := 14) (v := 1) cx dX6_stepDown_14 (by decide) ?_
  refine p_isub (pc := 15) cx dX6_stepDown_15 ?_
  refine p_aload_n (pc := 16) cx dX6_stepDown_16 rfl 1 rfl ?_
  refine p_callVi (pc := 17) [.ref (mR M2 a0 7), .int (a2 - 1), .ref a1] cx (c_X6_raiseUpTo cx.2.2.2.2.2.2 hM2 ha0 hr_3 ha1 hw) cf_X6_raiseUpTo cv_X6_raiseUpTo t3_181 ha0 ⟨by decide, rfl, rfl⟩ ⟨rfl, rfl⟩ ⟨Nat.le_of_ble_eq_true rfl, Nat.le_of_ble_eq_true rfl⟩ rfl rfl (Nat.le_of_ble_eq_true rfl) dX6_stepDown_17 (fun r4 M4 hw hM4 => ?_)
  refine p_if_eq (pc := 20) (tgt := 43) cx dX6_stepDown_20 (by decide) (fun hc => ?_) (fun hc => ?_)
  · have hw := hw.1 hc
    refine p_perm (lv' := [(0, .ref a0), (2, .int a2)]) [0, 2] rfl ?_
    exact x_X6_stepDown_43 cx hr hlk a0 a2 M4 hM4 ha0 hw
  · have hw := hw.2 hc
    refine p_aload_n (pc := 23) cx dX6_stepDown_23 rfl 0 rfl ?_
    refine gf_6_0 (pc := 24) cx ha0 t2_8 dX6_stepDown_24 ?_
    have hr_30 : Is G 0 (mR M4 a0 0) := TYR.at hM4 ha0 0 0 rfl (by decide)
    refine p_aload_n (pc := 27) cx dX6_stepDown_27 rfl 0 rfl ?_
    refine gf_6_1 (pc := 28) cx ha0 t2_9 dX6_stepDown_28 ?_
    have hr_31 : Is G 8 (mR M4 a0 1) := TYR.at hM4 ha0 1 8 rfl (by decide)
    refine p_aload_n (pc := 31) cx dX6_stepDown_31 rfl 0 rfl ?_
    refine gf_6_2 (pc := 32) cx ha0 t2_10 dX6_stepDown_32 ?_
    have hr_32 : Is G 8 (mR M4 a0 2) := TYR.at hM4 ha0 2 8 rfl (by decide)
    refine p_aload_n (pc := 35) cx dX6_stepDown_35 rfl 1 rfl ?_
    refine p_aload_n (pc := 36) cx dX6_stepDown_36 rfl 0 rfl ?_
    refine gf_6_4 (pc := 37) cx ha0 t2_12 dX6_stepDown_37 ?_
    have hr_33 : Is G 8 (mR M4 a0 4) := TYR.at hM4 ha0 4 8 rfl (by decide)
    refine p_callVv (pc := 40) [.ref (mR M4 a0 1), .ref (mR M4 a0 2), .ref a1, .ref (mR M4 a0 4)] cx (c_X0_split cx.2.2.2.2.2.2 hM4 hr_30 hr_31 hr_32 ha1 hr_33 hw) cf_X0_split cv_X0_split t3_193 hr_30 ⟨by decide, rfl, rfl⟩ ⟨rfl, rfl⟩ ⟨Nat.le_of_ble_eq_true rfl, Nat.le_of_ble_eq_true rfl⟩ rfl rfl (Nat.le_of_ble_eq_true rfl) dX6_stepDown_40 (fun M34 hw hM34 => ?_)
    refine p_perm (lv' := [(0, .ref a0), (2, .int a2)]) [0, 2] rfl ?_
    exact x_X6_stepDown_43 cx hr hlk a0 a2 M34 hM34 ha0 hw
set_option maxHeartbeats 4000000 in
set_option maxRecDepth 100000 in
theorem x_X6_find_138 {p : Program} {l : Launch} {e : Env} {s : State} {m : MethodId} {args : Array Value} {below : List Frame} {meth : Method} {c : Code} {D : va_G} {G : SH} {Qp : Nat → MS → Prop}  (cx : CX p s m args c D G cX6_find 7 RX6) (hr : meth.sig.returnType = (some (.object "GcdMill$Whole"))) (hlk : meth.locks = false)  : ∀ (n : Nat) (v0 : Nat) (v1 : Nat) (v2 : Int32) (v5 : Int32) (v6 : Int32) (M : MS), TYR G M.2.2.1 → Is G 6 v0 → Is G 8 v1 → w_X6_find_138 G Qp n v0 v1 v2 v5 v6 M → PW p l e rm_X6_find s m args below meth c D G 7 (MQ below (va_Qr (fun _ : MS => True) (fun N a t => Qp a N ∧ Is G 8 a ∧ POST D G N t) (AG G)) args s 0 0 (AG G)) 138 [(0, .ref v0), (1, .ref v1), (2, .int v2), (5, .int v5), (6, .int v6)] [] M := by
  intro n
  induction n with
  | zero =>
    intro v0 v1 v2 v5 v6 M hT hv0 hv1 hw
    exact hw.elim
  | succ n ih =>
    intro v0 v1 v2 v5 v6 M hT hv0 hv1 hw
    rw [w_X6_find_138] at hw
    refine p_iload (pc := 138) cx dX6_find_138 4 rfl ?_
    refine p_ldc (pc := 140) cx dX6_find_140 t3_188 ?_
    refine p_icmp_ge (pc := 142) (tgt := 164) cx dX6_find_142 (by decide) (fun hc => ?_) (fun hc => ?_)
    · have hw := hw.1 hc
      refine p_aload_n (pc := 164) cx dX6_find_164 rfl 0 rfl ?_
      refine gf_6_7 (pc := 165) cx hv0 t2_15 dX6_find_165 ?_
      have hr_12 : Is G 8 (mR M v0 7) := TYR.at hT hv0 7 8 rfl (by decide)
      exact p_aret (pc := 168) cx hr hlk dX6_find_168 hr_12 hT hw
    · have hw := hw.2 hc
      refine p_iload (pc := 145) cx dX6_find_145 3 rfl ?_
      refine p_if_eq (pc := 147) (tgt := 164) cx dX6_find_147 (by decide) (fun hc => ?_) (fun hc => ?_)
      · have hw := hw.1 hc
        refine p_aload_n (pc := 164) cx dX6_find_164 rfl 0 rfl ?_
        refine gf_6_7 (pc := 165) cx hv0 t2_15 dX6_find_165 ?_
        have hr_13 : Is G 8 (mR M v0 7) := TYR.at hT hv0 7 8 rfl (by decide)
        exact p_aret (pc := 168) cx hr hlk dX6_find_168 hr_13 hT hw
      · have hw := hw.2 hc
        refine p_aload_n (pc := 150) cx dX6_find_150 rfl 0 rfl ?_
        refine p_aload_n (pc := 151) cx dX6_find_151 rfl 1 rfl ?_
        refine p_iload_n (pc := 152) cx dX6_find_152 rfl 2 rfl ?_
        refine p_callVi (pc := 153) [.ref v1, .int v2] cx (c_X6_stepDown cx.2.2.2.2.2.2 hT hv0 hv1 hw) cf_X6_stepDown cv_X6_stepDown t3_189 hv0 ⟨by decide, rfl, rfl⟩ ⟨rfl, rfl⟩ ⟨Nat.le_of_ble_eq_true rfl, Nat.le_of_ble_eq_true rfl⟩ rfl rfl (Nat.le_of_ble_eq_true rfl) dX6_find_153 (fun r14 M14 hw hM14 => ?_)
        refine p_istore (pc := 156) (lv' := [(0, .ref v0), (1, .ref v1), (2, .int v2), (5, .int r14), (6, .int v6)]) cx dX6_find_156 (by decide) [1, 2, 3, 0, 4] rfl ?_
        obtain ⟨x6_15, ex6_15⟩ : ∃ y : Int32, y = v6 + 1 := ⟨_, rfl⟩
        have hw := hw x6_15 ex6_15
        refine p_iinc (pc := 158) (v := x6_15) (lv' := [(0, .ref v0), (1, .ref v1), (2, .int v2), (5, .int r14), (6, .int x6_15)]) cx dX6_find_158 4 rfl (by rw [ex6_15]; rfl) (by decide) [1, 2, 3, 4, 0] rfl ?_
        refine p_goto (pc := 161) (tgt := 138) cx dX6_find_161 (by decide) ?_
        exact ih v0 v1 v2 r14 x6_15 M14 hM14 hv0 hv1 hw
set_option maxHeartbeats 4000000 in
set_option maxRecDepth 100000 in
theorem x_X6_find_67 {p : Program} {l : Launch} {e : Env} {s : State} {m : MethodId} {args : Array Value} {below : List Frame} {meth : Method} {c : Code} {D : va_G} {G : SH} {Qp : Nat → MS → Prop}  (cx : CX p s m args c D G cX6_find 7 RX6) (hr : meth.sig.returnType = (some (.object "GcdMill$Whole"))) (hlk : meth.locks = false)  : ∀ (n : Nat) (v0 : Nat) (v1 : Nat) (v2 : Int32) (v4 : Int32) (v5 : Int32) (M : MS), TYR G M.2.2.1 → Is G 6 v0 → Is G 8 v1 → w_X6_find_67 G Qp n v0 v1 v2 v4 v5 M → PW p l e rm_X6_find s m args below meth c D G 7 (MQ below (va_Qr (fun _ : MS => True) (fun N a t => Qp a N ∧ Is G 8 a ∧ POST D G N t) (AG G)) args s 0 0 (AG G)) 67 [(0, .ref v0), (1, .ref v1), (2, .int v2), (4, .int v4), (5, .int v5)] [] M := by
  intro n
  induction n with
  | zero =>
    intro v0 v1 v2 v4 v5 M hT hv0 hv1 hw
    exact hw.elim
  | succ n ih =>
    intro v0 v1 v2 v4 v5 M hT hv0 hv1 hw
    rw [w_X6_find_67] at hw
    refine p_iload (pc := 67) cx dX6_find_67 4 rfl ?_
    refine p_iload (pc := 69) cx dX6_find_69 3 rfl ?_
    refine p_icmp_lt (pc := 71) (tgt := 110) cx dX6_find_71 (by decide) (fun hc => ?_) (fun hc => ?_)
    · have hw := hw.1 hc
      refine p_iload (pc := 110) cx dX6_find_110 3 rfl ?_
      refine p_if_le (pc := 112) (tgt := 164) cx dX6_find_112 (by decide) (fun hc => ?_) (fun hc => ?_)
      · have hw := hw.1 hc
        refine p_aload_n (pc := 164) cx dX6_find_164 rfl 0 rfl ?_
        refine gf_6_7 (pc := 165) cx hv0 t2_15 dX6_find_165 ?_
        have hr_7 : Is G 8 (mR M v0 7) := TYR.at hT hv0 7 8 rfl (by decide)
        exact p_aret (pc := 168) cx hr hlk dX6_find_168 hr_7 hT hw
      · have hw := hw.2 hc
        refine p_aload_n (pc := 115) cx dX6_find_115 rfl 0 rfl ?_
        refine p_iload (pc := 116) cx dX6_find_116 3 rfl ?_
        refine p_callVv (pc := 118) [.int v4] cx (c_X6_guessWithBit cx.2.2.2.2.2.2 hT hv0 hw) cf_X6_guessWithBit cv_X6_guessWithBit t3_175 hv0 ⟨by decide, rfl, rfl⟩ ⟨rfl, rfl⟩ ⟨Nat.le_of_ble_eq_true rfl, Nat.le_of_ble_eq_true rfl⟩ rfl rfl (Nat.le_of_ble_eq_true rfl) dX6_find_118 (fun M8 hw hM8 => ?_)
        refine p_aload_n (pc := 121) cx dX6_find_121 rfl 0 rfl ?_
        refine gf_6_7 (pc := 122) cx hv0 t2_15 dX6_find_122 ?_
        have hr_9 : Is G 8 (mR M8 v0 7) := TYR.at hM8 hv0 7 8 rfl (by decide)
        refine p_aload_n (pc := 125) cx dX6_find_125 rfl 0 rfl ?_
        refine gf_6_8 (pc := 126) cx hv0 t2_16 dX6_find_126 ?_
        have hr_10 : Is G 8 (mR M8 v0 8) := TYR.at hM8 hv0 8 8 rfl (by decide)
        refine p_callVv (pc := 129) [.ref (mR M8 v0 8)] cx (c_X9_copy cx.2.2.2.2.2.2 hM8 hr_9 hr_10 hw) cf_X9_copy cv_X9_copy t3_172 hr_9 ⟨by decide, rfl, rfl⟩ ⟨rfl, rfl⟩ ⟨Nat.le_of_ble_eq_true rfl, Nat.le_of_ble_eq_true rfl⟩ rfl rfl (Nat.le_of_ble_eq_true rfl) dX6_find_129 (fun M11 hw hM11 => ?_)
        refine p_iconst (pc := 132) (v := 1) cx dX6_find_132 (by decide) ?_
        refine p_istore (pc := 133) (lv' := [(0, .ref v0), (1, .ref v1), (2, .int v2), (5, .int (1 : Int32))]) cx dX6_find_133 (by decide) [1, 2, 3, 0] rfl ?_
        refine p_iconst (pc := 135) (v := 0) cx dX6_find_135 (by decide) ?_
        refine p_istore (pc := 136) (lv' := [(0, .ref v0), (1, .ref v1), (2, .int v2), (5, .int (1 : Int32)), (6, .int (0 : Int32))]) cx dX6_find_136 (by decide) [1, 2, 3, 4, 0] rfl ?_
        obtain ⟨n1, hw⟩ := hw
        exact x_X6_find_138 cx hr hlk n1 v0 v1 v2 1 0 M11 hM11 hv0 hv1 hw
    · have hw := hw.2 hc
      refine p_aload_n (pc := 74) cx dX6_find_74 rfl 0 rfl ?_
      refine p_iload (pc := 75) cx dX6_find_75 4 rfl ?_
      refine p_callVv (pc := 77) [.int v5] cx (c_X6_guessWithBit cx.2.2.2.2.2.2 hT hv0 hw) cf_X6_guessWithBit cv_X6_guessWithBit t3_175 hv0 ⟨by decide, rfl, rfl⟩ ⟨rfl, rfl⟩ ⟨Nat.le_of_ble_eq_true rfl, Nat.le_of_ble_eq_true rfl⟩ rfl rfl (Nat.le_of_ble_eq_true rfl) dX6_find_77 (fun M16 hw hM16 => ?_)
      refine p_aload_n (pc := 80) cx dX6_find_80 rfl 0 rfl ?_
      refine p_aload_n (pc := 81) cx dX6_find_81 rfl 0 rfl ?_
      refine gf_6_8 (pc := 82) cx hv0 t2_16 dX6_find_82 ?_
      have hr_17 : Is G 8 (mR M16 v0 8) := TYR.at hM16 hv0 8 8 rfl (by decide)
      refine p_iload_n (pc := 85) cx dX6_find_85 rfl 2 rfl ?_
      refine p_aload_n (pc := 86) cx dX6_find_86 rfl 1 rfl ?_
      refine p_callVi (pc := 87) [.ref (mR M16 v0 8), .int v2, .ref v1] cx (c_X6_raiseUpTo cx.2.2.2.2.2.2 hM16 hv0 hr_17 hv1 hw) cf_X6_raiseUpTo cv_X6_raiseUpTo t3_181 hv0 ⟨by decide, rfl, rfl⟩ ⟨rfl, rfl⟩ ⟨Nat.le_of_ble_eq_true rfl, Nat.le_of_ble_eq_true rfl⟩ rfl rfl (Nat.le_of_ble_eq_true rfl) dX6_find_87 (fun r18 M18 hw hM18 => ?_)
      refine p_if_eq (pc := 90) (tgt := 104) cx dX6_find_90 (by decide) (fun hc => ?_) (fun hc => ?_)
      · have hw := hw.1 hc
        obtain ⟨x5_19, ex5_19⟩ : ∃ y : Int32, y = v5 + (-1) := ⟨_, rfl⟩
        have hw := hw x5_19 ex5_19
        refine p_iinc (pc := 104) (v := x5_19) (lv' := [(0, .ref v0), (1, .ref v1), (2, .int v2), (4, .int v4), (5, .int x5_19)]) cx dX6_find_104 4 rfl (by rw [ex5_19]; rfl) (by decide) [1, 2, 3, 4, 0] rfl ?_
        refine p_goto (pc := 107) (tgt := 67) cx dX6_find_107 (by decide) ?_
        exact ih v0 v1 v2 v4 x5_19 M18 hM18 hv0 hv1 hw
      · have hw := hw.2 hc
        refine p_aload_n (pc := 93) cx dX6_find_93 rfl 0 rfl ?_
        refine gf_6_7 (pc := 94) cx hv0 t2_15 dX6_find_94 ?_
        have hr_20 : Is G 8 (mR M18 v0 7) := TYR.at hM18 hv0 7 8 rfl (by decide)
        refine p_aload_n (pc := 97) cx dX6_find_97 rfl 0 rfl ?_
        refine gf_6_8 (pc := 98) cx hv0 t2_16 dX6_find_98 ?_
        have hr_21 : Is G 8 (mR M18 v0 8) := TYR.at hM18 hv0 8 8 rfl (by decide)
        refine p_callVv (pc := 101) [.ref (mR M18 v0 8)] cx (c_X9_copy cx.2.2.2.2.2.2 hM18 hr_20 hr_21 hw) cf_X9_copy cv_X9_copy t3_172 hr_20 ⟨by decide, rfl, rfl⟩ ⟨rfl, rfl⟩ ⟨Nat.le_of_ble_eq_true rfl, Nat.le_of_ble_eq_true rfl⟩ rfl rfl (Nat.le_of_ble_eq_true rfl) dX6_find_101 (fun M22 hw hM22 => ?_)
        obtain ⟨x5_23, ex5_23⟩ : ∃ y : Int32, y = v5 + (-1) := ⟨_, rfl⟩
        have hw := hw x5_23 ex5_23
        refine p_iinc (pc := 104) (v := x5_23) (lv' := [(0, .ref v0), (1, .ref v1), (2, .int v2), (4, .int v4), (5, .int x5_23)]) cx dX6_find_104 4 rfl (by rw [ex5_23]; rfl) (by decide) [1, 2, 3, 4, 0] rfl ?_
        refine p_goto (pc := 107) (tgt := 67) cx dX6_find_107 (by decide) ?_
        exact ih v0 v1 v2 v4 x5_23 M22 hM22 hv0 hv1 hw
set_option maxHeartbeats 4000000 in
set_option maxRecDepth 100000 in
theorem c_X6_find {l : Launch} {D : va_G} {G : SH} (hND : ND G) {a0 : Nat} {a1 : Nat} {a2 : Int32} {M : MS} {Qp : Nat → MS → Prop} (hT : TYR G M.2.2.1) (ha0 : Is G 6 a0) (ha1 : Is G 8 a1) (hw : w_X6_find G a0 a1 a2 M Qp) : MeR l D G yX6_find (Cond.code yX6_find cX6_find 7 (some (.object "GcdMill$Whole")) :: GW) rm_X6_find [.ref a0, .ref a1, .int a2] M Qp := by
  unfold MeR
  refine p_method (by decide) rfl (Nat.le_of_ble_eq_true rfl) hND ?_
  intro p e s m args below meth c cx hr hlk
  have cx : CX p s m args c D G cX6_find 7 RX6 := cx
  unfold w_X6_find at hw
  refine p_aload_n (pc := 0) cx dX6_find_0 rfl 0 rfl ?_
  refine gf_6_7 (pc := 1) cx ha0 t2_15 dX6_find_1 ?_
  have hr_1 : Is G 8 (mR M a0 7) := TYR.at hT ha0 7 8 rfl (by decide)
  refine p_iconst (pc := 4) (v := 0) cx dX6_find_4 (by decide) ?_
  refine p_callVv (pc := 5) [.int (0 : Int32)] cx (c_X9_become cx.2.2.2.2.2.2 hT hr_1 hw) cf_X9_become cv_X9_become t1_239 hr_1 ⟨by decide, rfl, rfl⟩ ⟨rfl, rfl⟩ ⟨Nat.le_of_ble_eq_true rfl, Nat.le_of_ble_eq_true rfl⟩ rfl rfl (Nat.le_of_ble_eq_true rfl) dX6_find_5 (fun M2 hw hM2 => ?_)
  refine p_aload_n (pc := 8) cx dX6_find_8 rfl 1 rfl ?_
  refine gf_8_1 (pc := 9) cx ha1 t1_51 dX6_find_9 ?_
  refine p_if_eq (pc := 12) (tgt := 20) cx dX6_find_12 (by decide) (fun hc => ?_) (fun hc => ?_)
  · have hw := hw.1 hc
    refine p_aload_n (pc := 20) cx dX6_find_20 rfl 0 rfl ?_
    refine gf_6_7 (pc := 21) cx ha0 t2_15 dX6_find_21 ?_
    have hr_3 : Is G 8 (mR M2 a0 7) := TYR.at hM2 ha0 7 8 rfl (by decide)
    exact p_aret (pc := 24) cx hr hlk dX6_find_24 hr_3 hM2 hw
  · have hw := hw.2 hc
    refine p_iload_n (pc := 15) cx dX6_find_15 rfl 2 rfl ?_
    refine p_iconst (pc := 16) (v := 1) cx dX6_find_16 (by decide) ?_
    refine p_icmp_ge (pc := 17) (tgt := 25) cx dX6_find_17 (by decide) (fun hc => ?_) (fun hc => ?_)
    · have hw := hw.1 hc
      refine p_iload_n (pc := 25) cx dX6_find_25 rfl 2 rfl ?_
      refine p_iconst (pc := 26) (v := 1) cx dX6_find_26 (by decide) ?_
      refine p_icmp_ne (pc := 27) (tgt := 43) cx dX6_find_27 (by decide) (fun hc => ?_) (fun hc => ?_)
      · have hw := hw.1 hc
        refine p_aload_n (pc := 43) cx dX6_find_43 rfl 1 rfl ?_
        refine p_callVi (pc := 44) [] cx (c_X9_bits cx.2.2.2.2.2.2 hM2 ha1 hw) cf_X9_bits cv_X9_bits t3_173 ha1 ⟨by decide, rfl, rfl⟩ ⟨rfl, rfl⟩ ⟨Nat.le_of_ble_eq_true rfl, Nat.le_of_ble_eq_true rfl⟩ rfl rfl (Nat.le_of_ble_eq_true rfl) dX6_find_44 (fun r4 M4 hw hM4 => ?_)
        refine p_iconst (pc := 47) (v := 1) cx dX6_find_47 (by decide) ?_
        refine p_isub (pc := 48) cx dX6_find_48 ?_
        refine p_iload_n (pc := 49) cx dX6_find_49 rfl 2 rfl ?_
        refine p_idiv (pc := 50) cx dX6_find_50 hw.1 ?_
        have hw := hw.2
        refine p_topi (fun x3_5 ex3_5 => ?_)
        have hw := hw x3_5 ex3_5
        refine p_istore_n (pc := 51) (lv' := [(0, .ref a0), (1, .ref a1), (2, .int a2), (3, .int x3_5)]) cx dX6_find_51 rfl (by decide) [1, 2, 3, 0] rfl ?_
        refine p_iconst (pc := 52) (v := 0) cx dX6_find_52 (by decide) ?_
        refine p_iload_n (pc := 53) cx dX6_find_53 rfl 3 rfl ?_
        refine p_bipush (pc := 54) (v := 8) cx dX6_find_54 (by decide) ?_
        refine p_isub (pc := 56) cx dX6_find_56 ?_
        refine p_iconst (pc := 57) (v := 1) cx dX6_find_57 (by decide) ?_
        refine p_iadd (pc := 58) cx dX6_find_58 ?_
        refine p_max (pc := 59) cx t3_174 t1_33 t1_2 t1_34 ⟨Nat.le_of_ble_eq_true rfl, Nat.le_of_ble_eq_true rfl⟩ dX6_find_59 ?_
        refine p_topi (fun y_6 ey_6 => ?_)
        have hw := hw y_6 ey_6
        refine p_istore (pc := 62) (lv' := [(0, .ref a0), (1, .ref a1), (2, .int a2), (3, .int x3_5), (4, .int y_6)]) cx dX6_find_62 (by decide) [1, 2, 3, 4, 0] rfl ?_
        refine p_iload_n (pc := 64) cx dX6_find_64 rfl 3 rfl ?_
        refine p_istore (pc := 65) (lv' := [(0, .ref a0), (1, .ref a1), (2, .int a2), (4, .int y_6), (5, .int x3_5)]) cx dX6_find_65 (by decide) [1, 2, 3, 5, 0] rfl ?_
        obtain ⟨n1, hw⟩ := hw
        exact x_X6_find_67 cx hr hlk n1 a0 a1 a2 y_6 x3_5 M4 hM4 ha0 ha1 hw
      · have hw := hw.2 hc
        refine p_aload_n (pc := 30) cx dX6_find_30 rfl 0 rfl ?_
        refine gf_6_7 (pc := 31) cx ha0 t2_15 dX6_find_31 ?_
        have hr_24 : Is G 8 (mR M2 a0 7) := TYR.at hM2 ha0 7 8 rfl (by decide)
        refine p_aload_n (pc := 34) cx dX6_find_34 rfl 1 rfl ?_
        refine p_callVv (pc := 35) [.ref a1] cx (c_X9_copy cx.2.2.2.2.2.2 hM2 hr_24 ha1 hw) cf_X9_copy cv_X9_copy t3_172 hr_24 ⟨by decide, rfl, rfl⟩ ⟨rfl, rfl⟩ ⟨Nat.le_of_ble_eq_true rfl, Nat.le_of_ble_eq_true rfl⟩ rfl rfl (Nat.le_of_ble_eq_true rfl) dX6_find_35 (fun M25 hw hM25 => ?_)
        refine p_aload_n (pc := 38) cx dX6_find_38 rfl 0 rfl ?_
        refine gf_6_7 (pc := 39) cx ha0 t2_15 dX6_find_39 ?_
        have hr_26 : Is G 8 (mR M25 a0 7) := TYR.at hM25 ha0 7 8 rfl (by decide)
        exact p_aret (pc := 42) cx hr hlk dX6_find_42 hr_26 hM25 hw
    · have hw := hw.2 hc
      refine p_aload_n (pc := 20) cx dX6_find_20 rfl 0 rfl ?_
      refine gf_6_7 (pc := 21) cx ha0 t2_15 dX6_find_21 ?_
      have hr_27 : Is G 8 (mR M2 a0 7) := TYR.at hM2 ha0 7 8 rfl (by decide)
      exact p_aret (pc := 24) cx hr hlk dX6_find_24 hr_27 hM2 hw
set_option maxHeartbeats 4000000 in
set_option maxRecDepth 100000 in
theorem x_X8_append_3 {p : Program} {l : Launch} {e : Env} {s : State} {m : MethodId} {args : Array Value} {below : List Frame} {meth : Method} {c : Code} {D : va_G} {G : SH} {Qp : MS → Prop}  (cx : CX p s m args c D G cX8_append 3 RX8) (hr : meth.sig.returnType = none) (hlk : meth.locks = false)  : ∀ (n : Nat) (v0 : Nat) (v1 : Int32) (v2 : Int32) (M : MS), TYR G M.2.2.1 → Is G 7 v0 → w_X8_append_3 G Qp n v0 v1 v2 M → PW p l e rm_X8_append s m args below meth c D G 3 (MQ below (va_Qv Qp (POST D G) (AG G)) args s 0 0 (AG G)) 3 [(0, .ref v0), (1, .int v1), (2, .int v2)] [] M := by
  intro n
  induction n with
  | zero =>
    intro v0 v1 v2 M hT hv0 hw
    exact hw.elim
  | succ n ih =>
    intro v0 v1 v2 M hT hv0 hw
    rw [w_X8_append_3] at hw
    refine p_iload_n (pc := 3) cx dX8_append_3 rfl 2 rfl ?_
    refine p_if_lt (pc := 4) (tgt := 48) cx dX8_append_4 (by decide) (fun hc => ?_) (fun hc => ?_)
    · have hw := hw.1 hc
      exact p_vret (pc := 48) cx hr hlk dX8_append_48 hT hw
    · have hw := hw.2 hc
      refine p_aload_n (pc := 7) cx dX8_append_7 rfl 0 rfl ?_
      refine gf_7_0 (pc := 8) cx hv0 t2_42 dX8_append_8 ?_
      refine p_aload_n (pc := 11) cx dX8_append_11 rfl 0 rfl ?_
      refine gf_7_1 (pc := 12) cx hv0 t2_44 dX8_append_12 ?_
      have hr_1 : Is G 11 (mR M v0 1) := TYR.at hT hv0 1 11 rfl (by decide)
      refine p_alenB (pc := 15) cx hr_1 dX8_append_15 ?_
      refine p_icmp_ge (pc := 16) (tgt := 48) cx dX8_append_16 (by decide) (fun hc => ?_) (fun hc => ?_)
      · have hw := hw.1 hc
        exact p_vret (pc := 48) cx hr hlk dX8_append_48 hT hw
      · have hw := hw.2 hc
        refine p_aload_n (pc := 19) cx dX8_append_19 rfl 0 rfl ?_
        refine gf_7_1 (pc := 20) cx hv0 t2_44 dX8_append_20 ?_
        have hr_2 : Is G 11 (mR M v0 1) := TYR.at hT hv0 1 11 rfl (by decide)
        refine p_aload_n (pc := 23) cx dX8_append_23 rfl 0 rfl ?_
        refine gf_7_0 (pc := 24) cx hv0 t2_42 dX8_append_24 ?_
        refine p_iload_n (pc := 27) cx dX8_append_27 rfl 1 rfl ?_
        refine p_iload_n (pc := 28) cx dX8_append_28 rfl 2 rfl ?_
        refine p_iushr (pc := 29) cx dX8_append_29 ?_
        refine p_i2b (pc := 30) cx dX8_append_30 ?_
        refine p_bast (pc := 31) cx hr_2 hw.1 dX8_append_31 ?_
        have hw := hw.2
        refine p_mem (fun M3 eM3 => ?_)
        have hw := hw M3 eM3
        have hM3 : TYR G M3.2.2.1 := by rw [eM3]; exact hT
        refine p_aload_n (pc := 32) cx dX8_append_32 rfl 0 rfl ?_
        refine p_dup (pc := 33) cx dX8_append_33 rfl ?_
        refine gf_7_0 (pc := 34) cx hv0 t2_42 dX8_append_34 ?_
        refine p_iconst (pc := 37) (v := 1) cx dX8_append_37 (by decide) ?_
        refine p_iadd (pc := 38) cx dX8_append_38 ?_
        refine pf_7_0 (pc := 39) cx hv0 t2_42 dX8_append_39 ?_
        refine p_mem (fun M4 eM4 => ?_)
        have hw := hw M4 eM4
        have hM4 : TYR G M4.2.2.1 := by rw [eM4]; exact hM3
        obtain ⟨x2_5, ex2_5⟩ : ∃ y : Int32, y = v2 + (-8) := ⟨_, rfl⟩
        have hw := hw x2_5 ex2_5
        refine p_iinc (pc := 42) (v := x2_5) (lv' := [(0, .ref v0), (1, .int v1), (2, .int x2_5)]) cx dX8_append_42 2 rfl (by rw [ex2_5]; rfl) (by decide) [1, 2, 0] rfl ?_
        refine p_goto (pc := 45) (tgt := 3) cx dX8_append_45 (by decide) ?_
        exact ih v0 v1 x2_5 M4 hM4 hv0 hw
set_option maxHeartbeats 4000000 in
set_option maxRecDepth 100000 in
theorem c_X8_append {l : Launch} {D : va_G} {G : SH} (hND : ND G) {a0 : Nat} {a1 : Int32} {M : MS} {Qp : MS → Prop} (hT : TYR G M.2.2.1) (ha0 : Is G 7 a0) (hw : w_X8_append G a0 a1 M Qp) : MeV l D G yX8_append (Cond.code yX8_append cX8_append 3 none :: GW) rm_X8_append [.ref a0, .int a1] M Qp := by
  unfold MeV
  refine p_method (by decide) rfl (Nat.le_of_ble_eq_true rfl) hND ?_
  intro p e s m args below meth c cx hr hlk
  have cx : CX p s m args c D G cX8_append 3 RX8 := cx
  unfold w_X8_append at hw
  refine p_bipush (pc := 0) (v := 24) cx dX8_append_0 (by decide) ?_
  refine p_istore_n (pc := 2) (lv' := [(0, .ref a0), (1, .int a1), (2, .int (24 : Int32))]) cx dX8_append_2 rfl (by decide) [1, 2, 0] rfl ?_
  obtain ⟨n1, hw⟩ := hw
  exact x_X8_append_3 cx hr hlk n1 a0 a1 24 M hT ha0 hw
set_option maxHeartbeats 4000000 in
set_option maxRecDepth 100000 in
theorem c_X8_hasMinus {l : Launch} {D : va_G} {G : SH} (hND : ND G) {a0 : Nat} {M : MS} {Qp : Int32 → MS → Prop} (hT : TYR G M.2.2.1) (ha0 : Is G 7 a0) (hw : w_X8_hasMinus G a0 M Qp) : MeI l D G yX8_hasMinus (Cond.code yX8_hasMinus cX8_hasMinus 1 (some .boolean) :: GW) rm_X8_hasMinus [.ref a0] M Qp := by
  unfold MeI
  refine p_method (by decide) rfl (Nat.le_of_ble_eq_true rfl) hND ?_
  intro p e s m args below meth c cx hr hlk
  have cx : CX p s m args c D G cX8_hasMinus 1 RX8 := cx
  unfold w_X8_hasMinus at hw
  refine p_aload_n (pc := 0) cx dX8_hasMinus_0 rfl 0 rfl ?_
  refine gf_7_0 (pc := 1) cx ha0 t2_42 dX8_hasMinus_1 ?_
  refine p_if_le (pc := 4) (tgt := 22) cx dX8_hasMinus_4 (by decide) (fun hc => ?_) (fun hc => ?_)
  · have hw := hw.1 hc
    refine p_iconst (pc := 22) (v := 0) cx dX8_hasMinus_22 (by decide) ?_
    exact p_zret (pc := 23) cx hr hlk dX8_hasMinus_23 (by decide) hT hw
  · have hw := hw.2 hc
    refine p_aload_n (pc := 7) cx dX8_hasMinus_7 rfl 0 rfl ?_
    refine gf_7_1 (pc := 8) cx ha0 t2_44 dX8_hasMinus_8 ?_
    have hr_1 : Is G 11 (mR M a0 1) := TYR.at hT ha0 1 11 rfl (by decide)
    refine p_iconst (pc := 11) (v := 0) cx dX8_hasMinus_11 (by decide) ?_
    refine p_bald (pc := 12) cx hr_1 hw.1 dX8_hasMinus_12 ?_
    have hw := hw.2
    refine p_bipush (pc := 13) (v := 45) cx dX8_hasMinus_13 (by decide) ?_
    refine p_icmp_ne (pc := 15) (tgt := 22) cx dX8_hasMinus_15 (by decide) (fun hc => ?_) (fun hc => ?_)
    · have hw := hw.1 hc
      refine p_iconst (pc := 22) (v := 0) cx dX8_hasMinus_22 (by decide) ?_
      exact p_zret (pc := 23) cx hr hlk dX8_hasMinus_23 (by decide) hT hw
    · have hw := hw.2 hc
      refine p_iconst (pc := 18) (v := 1) cx dX8_hasMinus_18 (by decide) ?_
      refine p_goto (pc := 19) (tgt := 23) cx dX8_hasMinus_19 (by decide) ?_
      exact p_zret (pc := 23) cx hr hlk dX8_hasMinus_23 (by decide) hT hw
set_option maxHeartbeats 4000000 in
set_option maxRecDepth 100000 in
theorem c_X8_firstDigit {l : Launch} {D : va_G} {G : SH} (hND : ND G) {a0 : Nat} {M : MS} {Qp : Int32 → MS → Prop} (hT : TYR G M.2.2.1) (ha0 : Is G 7 a0) (hw : w_X8_firstDigit G a0 M Qp) : MeI l D G yX8_firstDigit (Cond.code yX8_firstDigit cX8_firstDigit 1 (some .int) :: GW) rm_X8_firstDigit [.ref a0] M Qp := by
  unfold MeI
  refine p_method (by decide) rfl (Nat.le_of_ble_eq_true rfl) hND ?_
  intro p e s m args below meth c cx hr hlk
  have cx : CX p s m args c D G cX8_firstDigit 1 RX8 := cx
  unfold w_X8_firstDigit at hw
  refine p_aload_n (pc := 0) cx dX8_firstDigit_0 rfl 0 rfl ?_
  refine p_callVi (pc := 1) [] cx (c_X8_hasMinus cx.2.2.2.2.2.2 hT ha0 hw) cf_X8_hasMinus cv_X8_hasMinus t4_5 ha0 ⟨by decide, rfl, rfl⟩ ⟨rfl, rfl⟩ ⟨Nat.le_of_ble_eq_true rfl, Nat.le_of_ble_eq_true rfl⟩ rfl rfl (Nat.le_of_ble_eq_true rfl) dX8_firstDigit_1 (fun r1 M1 hw hM1 => ?_)
  refine p_if_eq (pc := 4) (tgt := 11) cx dX8_firstDigit_4 (by decide) (fun hc => ?_) (fun hc => ?_)
  · have hw := hw.1 hc
    refine p_iconst (pc := 11) (v := 0) cx dX8_firstDigit_11 (by decide) ?_
    exact p_iret (pc := 12) cx hr hlk dX8_firstDigit_12 hM1 hw
  · have hw := hw.2 hc
    refine p_iconst (pc := 7) (v := 1) cx dX8_firstDigit_7 (by decide) ?_
    refine p_goto (pc := 8) (tgt := 12) cx dX8_firstDigit_8 (by decide) ?_
    exact p_iret (pc := 12) cx hr hlk dX8_firstDigit_12 hM1 hw
set_option maxHeartbeats 4000000 in
set_option maxRecDepth 100000 in
theorem x_X8_isDecimal_7 {p : Program} {l : Launch} {e : Env} {s : State} {m : MethodId} {args : Array Value} {below : List Frame} {meth : Method} {c : Code} {D : va_G} {G : SH} {Qp : Int32 → MS → Prop}  (cx : CX p s m args c D G cX8_isDecimal 3 RX8) (hr : meth.sig.returnType = (some .boolean)) (hlk : meth.locks = false)  : ∀ (n : Nat) (v0 : Nat) (v1 : Int32) (v2 : Int32) (M : MS), TYR G M.2.2.1 → Is G 7 v0 → w_X8_isDecimal_7 G Qp n v0 v1 v2 M → PW p l e rm_X8_isDecimal s m args below meth c D G 3 (MQ below (va_Qi Qp (POST D G) (AG G)) args s 0 0 (AG G)) 7 [(0, .ref v0), (1, .int v1), (2, .int v2)] [] M := by
  intro n
  induction n with
  | zero =>
    intro v0 v1 v2 M hT hv0 hw
    exact hw.elim
  | succ n ih =>
    intro v0 v1 v2 M hT hv0 hw
    rw [w_X8_isDecimal_7] at hw
    refine p_iload_n (pc := 7) cx dX8_isDecimal_7 rfl 2 rfl ?_
    refine p_aload_n (pc := 8) cx dX8_isDecimal_8 rfl 0 rfl ?_
    refine gf_7_0 (pc := 9) cx hv0 t2_42 dX8_isDecimal_9 ?_
    refine p_icmp_ge (pc := 12) (tgt := 45) cx dX8_isDecimal_12 (by decide) (fun hc => ?_) (fun hc => ?_)
    · have hw := hw.1 hc
      refine p_iload_n (pc := 45) cx dX8_isDecimal_45 rfl 1 rfl ?_
      refine p_aload_n (pc := 46) cx dX8_isDecimal_46 rfl 0 rfl ?_
      refine gf_7_0 (pc := 47) cx hv0 t2_42 dX8_isDecimal_47 ?_
      refine p_icmp_ge (pc := 50) (tgt := 57) cx dX8_isDecimal_50 (by decide) (fun hc => ?_) (fun hc => ?_)
      · have hw := hw.1 hc
        refine p_iconst (pc := 57) (v := 0) cx dX8_isDecimal_57 (by decide) ?_
        exact p_zret (pc := 58) cx hr hlk dX8_isDecimal_58 (by decide) hT hw
      · have hw := hw.2 hc
        refine p_iconst (pc := 53) (v := 1) cx dX8_isDecimal_53 (by decide) ?_
        refine p_goto (pc := 54) (tgt := 58) cx dX8_isDecimal_54 (by decide) ?_
        exact p_zret (pc := 58) cx hr hlk dX8_isDecimal_58 (by decide) hT hw
    · have hw := hw.2 hc
      refine p_aload_n (pc := 15) cx dX8_isDecimal_15 rfl 0 rfl ?_
      refine gf_7_1 (pc := 16) cx hv0 t2_44 dX8_isDecimal_16 ?_
      have hr_2 : Is G 11 (mR M v0 1) := TYR.at hT hv0 1 11 rfl (by decide)
      refine p_iload_n (pc := 19) cx dX8_isDecimal_19 rfl 2 rfl ?_
      refine p_bald (pc := 20) cx hr_2 hw.1 dX8_isDecimal_20 ?_
      have hw := hw.2
      refine p_bipush (pc := 21) (v := 48) cx dX8_isDecimal_21 (by decide) ?_
      refine p_icmp_lt (pc := 23) (tgt := 37) cx dX8_isDecimal_23 (by decide) (fun hc => ?_) (fun hc => ?_)
      · have hw := hw.1 hc
        refine p_iconst (pc := 37) (v := 0) cx dX8_isDecimal_37 (by decide) ?_
        exact p_zret (pc := 38) cx hr hlk dX8_isDecimal_38 (by decide) hT hw
      · have hw := hw.2 hc
        refine p_aload_n (pc := 26) cx dX8_isDecimal_26 rfl 0 rfl ?_
        refine gf_7_1 (pc := 27) cx hv0 t2_44 dX8_isDecimal_27 ?_
        have hr_3 : Is G 11 (mR M v0 1) := TYR.at hT hv0 1 11 rfl (by decide)
        refine p_iload_n (pc := 30) cx dX8_isDecimal_30 rfl 2 rfl ?_
        refine p_bald (pc := 31) cx hr_3 hw.1 dX8_isDecimal_31 ?_
        have hw := hw.2
        refine p_bipush (pc := 32) (v := 57) cx dX8_isDecimal_32 (by decide) ?_
        refine p_icmp_le (pc := 34) (tgt := 39) cx dX8_isDecimal_34 (by decide) (fun hc => ?_) (fun hc => ?_)
        · have hw := hw.1 hc
          obtain ⟨x2_4, ex2_4⟩ : ∃ y : Int32, y = v2 + 1 := ⟨_, rfl⟩
          have hw := hw x2_4 ex2_4
          refine p_iinc (pc := 39) (v := x2_4) (lv' := [(0, .ref v0), (1, .int v1), (2, .int x2_4)]) cx dX8_isDecimal_39 2 rfl (by rw [ex2_4]; rfl) (by decide) [1, 2, 0] rfl ?_
          refine p_goto (pc := 42) (tgt := 7) cx dX8_isDecimal_42 (by decide) ?_
          exact ih v0 v1 x2_4 M hT hv0 hw
        · have hw := hw.2 hc
          refine p_iconst (pc := 37) (v := 0) cx dX8_isDecimal_37 (by decide) ?_
          exact p_zret (pc := 38) cx hr hlk dX8_isDecimal_38 (by decide) hT hw
set_option maxHeartbeats 4000000 in
set_option maxRecDepth 100000 in
theorem c_X8_isDecimal {l : Launch} {D : va_G} {G : SH} (hND : ND G) {a0 : Nat} {M : MS} {Qp : Int32 → MS → Prop} (hT : TYR G M.2.2.1) (ha0 : Is G 7 a0) (hw : w_X8_isDecimal G a0 M Qp) : MeI l D G yX8_isDecimal (Cond.code yX8_isDecimal cX8_isDecimal 3 (some .boolean) :: GW) rm_X8_isDecimal [.ref a0] M Qp := by
  unfold MeI
  refine p_method (by decide) rfl (Nat.le_of_ble_eq_true rfl) hND ?_
  intro p e s m args below meth c cx hr hlk
  have cx : CX p s m args c D G cX8_isDecimal 3 RX8 := cx
  unfold w_X8_isDecimal at hw
  refine p_aload_n (pc := 0) cx dX8_isDecimal_0 rfl 0 rfl ?_
  refine p_callVi (pc := 1) [] cx (c_X8_firstDigit cx.2.2.2.2.2.2 hT ha0 hw) cf_X8_firstDigit cv_X8_firstDigit t4_1 ha0 ⟨by decide, rfl, rfl⟩ ⟨rfl, rfl⟩ ⟨Nat.le_of_ble_eq_true rfl, Nat.le_of_ble_eq_true rfl⟩ rfl rfl (Nat.le_of_ble_eq_true rfl) dX8_isDecimal_1 (fun r1 M1 hw hM1 => ?_)
  refine p_istore_n (pc := 4) (lv' := [(0, .ref a0), (1, .int r1)]) cx dX8_isDecimal_4 rfl (by decide) [1, 0] rfl ?_
  refine p_iload_n (pc := 5) cx dX8_isDecimal_5 rfl 1 rfl ?_
  refine p_istore_n (pc := 6) (lv' := [(0, .ref a0), (1, .int r1), (2, .int r1)]) cx dX8_isDecimal_6 rfl (by decide) [1, 2, 0] rfl ?_
  obtain ⟨n1, hw⟩ := hw
  exact x_X8_isDecimal_7 cx hr hlk n1 a0 r1 r1 M1 hM1 ha0 hw
set_option maxHeartbeats 4000000 in
set_option maxRecDepth 100000 in
theorem x_X8_foldIn_12 {p : Program} {l : Launch} {e : Env} {s : State} {m : MethodId} {args : Array Value} {below : List Frame} {meth : Method} {c : Code} {D : va_G} {G : SH} {Qp : MS → Prop}  (cx : CX p s m args c D G cX8_foldIn 7 RX8) (hr : meth.sig.returnType = none) (hlk : meth.locks = false)  : ∀ (n : Nat) (v0 : Nat) (v1 : Int32) (v3 : Int64) (v5 : Int32) (v6 : Int32) (M : MS), TYR G M.2.2.1 → Is G 8 v0 → w_X8_foldIn_12 G Qp n v0 v1 v3 v5 v6 M → PW p l e rm_X8_foldIn s m args below meth c D G 7 (MQ below (va_Qv Qp (POST D G) (AG G)) args s 0 0 (AG G)) 12 [(0, .ref v0), (1, .int v1), (3, .long v3), (5, .int v5), (6, .int v6)] [] M := by
  intro n
  induction n with
  | zero =>
    intro v0 v1 v3 v5 v6 M hT hv0 hw
    exact hw.elim
  | succ n ih =>
    intro v0 v1 v3 v5 v6 M hT hv0 hw
    rw [w_X8_foldIn_12] at hw
    refine p_iload (pc := 12) cx dX8_foldIn_12 4 rfl ?_
    refine p_iload (pc := 14) cx dX8_foldIn_14 3 rfl ?_
    refine p_icmp_ge (pc := 16) (tgt := 51) cx dX8_foldIn_16 (by decide) (fun hc => ?_) (fun hc => ?_)
    · have hw := hw.1 hc
      refine p_iload (pc := 51) cx dX8_foldIn_51 3 rfl ?_
      refine p_aload_n (pc := 53) cx dX8_foldIn_53 rfl 0 rfl ?_
      refine gf_8_0 (pc := 54) cx hv0 t1_48 dX8_foldIn_54 ?_
      have hr_2 : Is G 12 (mR M v0 0) := TYR.at hT hv0 0 12 rfl (by decide)
      refine p_alenI (pc := 57) cx hr_2 dX8_foldIn_57 ?_
      refine p_icmp_ge (pc := 58) (tgt := 78) cx dX8_foldIn_58 (by decide) (fun hc => ?_) (fun hc => ?_)
      · have hw := hw.1 hc
        exact p_vret (pc := 78) cx hr hlk dX8_foldIn_78 hT hw
      · have hw := hw.2 hc
        refine p_aload_n (pc := 61) cx dX8_foldIn_61 rfl 0 rfl ?_
        refine gf_8_0 (pc := 62) cx hv0 t1_48 dX8_foldIn_62 ?_
        have hr_3 : Is G 12 (mR M v0 0) := TYR.at hT hv0 0 12 rfl (by decide)
        refine p_iload (pc := 65) cx dX8_foldIn_65 3 rfl ?_
        refine p_lload_n (pc := 67) cx dX8_foldIn_67 rfl 2 rfl ?_
        refine p_l2i (pc := 68) cx dX8_foldIn_68 ?_
        refine p_iast (pc := 69) cx hr_3 hw.1 dX8_foldIn_69 ?_
        have hw := hw.2
        refine p_mem (fun M4 eM4 => ?_)
        have hw := hw M4 eM4
        have hM4 : TYR G M4.2.2.1 := by rw [eM4]; exact hT
        refine p_aload_n (pc := 70) cx dX8_foldIn_70 rfl 0 rfl ?_
        refine p_iload (pc := 71) cx dX8_foldIn_71 3 rfl ?_
        refine p_iconst (pc := 73) (v := 1) cx dX8_foldIn_73 (by decide) ?_
        refine p_iadd (pc := 74) cx dX8_foldIn_74 ?_
        refine p_callVv (pc := 75) [.int (v5 + 1)] cx (c_X9_keep cx.2.2.2.2.2.2 hM4 hv0 hw) cf_X9_keep cv_X9_keep t4_19 hv0 ⟨by decide, rfl, rfl⟩ ⟨rfl, rfl⟩ ⟨Nat.le_of_ble_eq_true rfl, Nat.le_of_ble_eq_true rfl⟩ rfl rfl (Nat.le_of_ble_eq_true rfl) dX8_foldIn_75 (fun M5 hw hM5 => ?_)
        exact p_vret (pc := 78) cx hr hlk dX8_foldIn_78 hM5 hw
    · have hw := hw.2 hc
      refine p_lload_n (pc := 19) cx dX8_foldIn_19 rfl 2 rfl ?_
      refine p_iload_n (pc := 20) cx dX8_foldIn_20 rfl 1 rfl ?_
      refine p_i2l (pc := 21) cx dX8_foldIn_21 ?_
      refine p_aload_n (pc := 22) cx dX8_foldIn_22 rfl 0 rfl ?_
      refine p_iload (pc := 23) cx dX8_foldIn_23 4 rfl ?_
      refine p_callVl (pc := 25) [.int v6] cx (c_X9_limb cx.2.2.2.2.2.2 hT hv0 hw) cf_X9_limb cv_X9_limb t4_18 hv0 ⟨by decide, rfl, rfl⟩ ⟨rfl, rfl⟩ ⟨Nat.le_of_ble_eq_true rfl, Nat.le_of_ble_eq_true rfl⟩ rfl rfl (Nat.le_of_ble_eq_true rfl) dX8_foldIn_25 (fun r6 M6 hw hM6 => ?_)
      refine p_lmul (pc := 28) cx dX8_foldIn_28 ?_
      refine p_ladd (pc := 29) cx dX8_foldIn_29 ?_
      refine p_topl (fun x3_7 ex3_7 => ?_)
      have hw := hw x3_7 ex3_7
      refine p_lstore_n (pc := 30) (lv' := [(0, .ref v0), (1, .int v1), (3, .long x3_7), (5, .int v5), (6, .int v6)]) cx dX8_foldIn_30 rfl (by decide) [1, 2, 0, 3, 4] rfl ?_
      refine p_aload_n (pc := 31) cx dX8_foldIn_31 rfl 0 rfl ?_
      refine gf_8_0 (pc := 32) cx hv0 t1_48 dX8_foldIn_32 ?_
      have hr_8 : Is G 12 (mR M6 v0 0) := TYR.at hM6 hv0 0 12 rfl (by decide)
      refine p_iload (pc := 35) cx dX8_foldIn_35 4 rfl ?_
      refine p_lload_n (pc := 37) cx dX8_foldIn_37 rfl 2 rfl ?_
      refine p_l2i (pc := 38) cx dX8_foldIn_38 ?_
      refine p_iast (pc := 39) cx hr_8 hw.1 dX8_foldIn_39 ?_
      have hw := hw.2
      refine p_mem (fun M9 eM9 => ?_)
      have hw := hw M9 eM9
      have hM9 : TYR G M9.2.2.1 := by rw [eM9]; exact hM6
      refine p_lload_n (pc := 40) cx dX8_foldIn_40 rfl 2 rfl ?_
      refine p_bipush (pc := 41) (v := 32) cx dX8_foldIn_41 (by decide) ?_
      refine p_lushr (pc := 43) cx dX8_foldIn_43 ?_
      refine p_topl (fun x3_10 ex3_10 => ?_)
      have hw := hw x3_10 ex3_10
      refine p_lstore_n (pc := 44) (lv' := [(0, .ref v0), (1, .int v1), (3, .long x3_10), (5, .int v5), (6, .int v6)]) cx dX8_foldIn_44 rfl (by decide) [1, 2, 0, 3, 4] rfl ?_
      obtain ⟨x6_11, ex6_11⟩ : ∃ y : Int32, y = v6 + 1 := ⟨_, rfl⟩
      have hw := hw x6_11 ex6_11
      refine p_iinc (pc := 45) (v := x6_11) (lv' := [(0, .ref v0), (1, .int v1), (3, .long x3_10), (5, .int v5), (6, .int x6_11)]) cx dX8_foldIn_45 4 rfl (by rw [ex6_11]; rfl) (by decide) [1, 2, 3, 4, 0] rfl ?_
      refine p_goto (pc := 48) (tgt := 12) cx dX8_foldIn_48 (by decide) ?_
      exact ih v0 v1 x3_10 v5 x6_11 M9 hM9 hv0 hw
set_option maxHeartbeats 4000000 in
set_option maxRecDepth 100000 in
theorem c_X8_foldIn {l : Launch} {D : va_G} {G : SH} (hND : ND G) {a0 : Nat} {a1 : Int32} {a2 : Int32} {M : MS} {Qp : MS → Prop} (hT : TYR G M.2.2.1) (ha0 : Is G 8 a0) (hw : w_X8_foldIn G a0 a1 a2 M Qp) : MeV l D G yX8_foldIn (Cond.code yX8_foldIn cX8_foldIn 7 none :: GW) rm_X8_foldIn [.ref a0, .int a1, .int a2] M Qp := by
  unfold MeV
  refine p_method (by decide) rfl (Nat.le_of_ble_eq_true rfl) hND ?_
  intro p e s m args below meth c cx hr hlk
  have cx : CX p s m args c D G cX8_foldIn 7 RX8 := cx
  unfold w_X8_foldIn at hw
  refine p_iload_n (pc := 0) cx dX8_foldIn_0 rfl 2 rfl ?_
  refine p_i2l (pc := 1) cx dX8_foldIn_1 ?_
  refine p_lstore_n (pc := 2) (lv' := [(0, .ref a0), (1, .int a1), (3, .long a2.toInt64)]) cx dX8_foldIn_2 rfl (by decide) [1, 2, 0] rfl ?_
  refine p_aload_n (pc := 3) cx dX8_foldIn_3 rfl 0 rfl ?_
  refine gf_8_1 (pc := 4) cx ha0 t1_58 dX8_foldIn_4 ?_
  refine p_topi (fun x5_1 ex5_1 => ?_)
  have hw := hw x5_1 ex5_1
  refine p_istore (pc := 7) (lv' := [(0, .ref a0), (1, .int a1), (3, .long a2.toInt64), (5, .int x5_1)]) cx dX8_foldIn_7 (by decide) [1, 2, 3, 0] rfl ?_
  refine p_iconst (pc := 9) (v := 0) cx dX8_foldIn_9 (by decide) ?_
  refine p_istore (pc := 10) (lv' := [(0, .ref a0), (1, .int a1), (3, .long a2.toInt64), (5, .int x5_1), (6, .int (0 : Int32))]) cx dX8_foldIn_10 (by decide) [1, 2, 3, 4, 0] rfl ?_
  obtain ⟨n1, hw⟩ := hw
  exact x_X8_foldIn_12 cx hr hlk n1 a0 a1 a2.toInt64 x5_1 0 M hT ha0 hw
set_option maxHeartbeats 4000000 in
set_option maxRecDepth 100000 in
theorem x_X8_parse_78 {p : Program} {l : Launch} {e : Env} {s : State} {m : MethodId} {args : Array Value} {below : List Frame} {meth : Method} {c : Code} {D : va_G} {G : SH} {Qp : Int32 → MS → Prop} {K16 : Nat → Nat → Int32 → Int32 → Int32 → Int32 → MS → Prop} (cx : CX p s m args c D G cX8_parse 6 RX8) (hr : meth.sig.returnType = (some .boolean)) (hlk : meth.locks = false) (hK16 : ∀ (v0 : Nat) (v1 : Nat) (v2 : Int32) (v3 : Int32) (v4 : Int32) (v5 : Int32) (M : MS), TYR G M.2.2.1 → Is G 7 v0 → Is G 8 v1 → K16 v0 v1 v2 v3 v4 v5 M → PW p l e rm_X8_parse s m args below meth c D G 6 (MQ below (va_Qi Qp (POST D G) (AG G)) args s 0 0 (AG G)) 16 [(0, .ref v0), (1, .ref v1), (2, .int v2), (3, .int v3), (4, .int v4), (5, .int v5)] [] M) (v0 : Nat) (v1 : Nat) (v2 : Int32) (v3 : Int32) (v4 : Int32) (v5 : Int32) (M : MS) (hT : TYR G M.2.2.1) (hv0 : Is G 7 v0) (hv1 : Is G 8 v1) (hw : w_X8_parse_78 G K16 Qp v0 v1 v2 v3 v4 v5 M) : PW p l e rm_X8_parse s m args below meth c D G 6 (MQ below (va_Qi Qp (POST D G) (AG G)) args s 0 0 (AG G)) 78 [(0, .ref v0), (1, .ref v1), (2, .int v2), (3, .int v3), (4, .int v4), (5, .int v5)] [] M := by
  unfold w_X8_parse_78 at hw
  refine p_aload_n (pc := 78) cx dX8_parse_78 rfl 1 rfl ?_
  refine gf_8_1 (pc := 79) cx hv1 t1_58 dX8_parse_79 ?_
  refine p_iload_n (pc := 82) cx dX8_parse_82 rfl 2 rfl ?_
  refine p_icmp_le (pc := 83) (tgt := 88) cx dX8_parse_83 (by decide) (fun hc => ?_) (fun hc => ?_)
  · have hw := hw.1 hc
    obtain ⟨x5_9, ex5_9⟩ : ∃ y : Int32, y = v5 + 1 := ⟨_, rfl⟩
    have hw := hw x5_9 ex5_9
    refine p_iinc (pc := 88) (v := x5_9) (lv' := [(0, .ref v0), (1, .ref v1), (2, .int v2), (3, .int v3), (4, .int v4), (5, .int x5_9)]) cx dX8_parse_88 5 rfl (by rw [ex5_9]; rfl) (by decide) [1, 2, 3, 4, 5, 0] rfl ?_
    refine p_goto (pc := 91) (tgt := 16) cx dX8_parse_91 (by decide) ?_
    exact hK16 v0 v1 v2 v3 v4 x5_9 M hT hv0 hv1 hw
  · have hw := hw.2 hc
    refine p_iconst (pc := 86) (v := 0) cx dX8_parse_86 (by decide) ?_
    exact p_zret (pc := 87) cx hr hlk dX8_parse_87 (by decide) hT hw
set_option maxHeartbeats 4000000 in
set_option maxRecDepth 100000 in
theorem x_X8_parse_66 {p : Program} {l : Launch} {e : Env} {s : State} {m : MethodId} {args : Array Value} {below : List Frame} {meth : Method} {c : Code} {D : va_G} {G : SH} {Qp : Int32 → MS → Prop} {K16 : Nat → Nat → Int32 → Int32 → Int32 → Int32 → MS → Prop} (cx : CX p s m args c D G cX8_parse 6 RX8) (hr : meth.sig.returnType = (some .boolean)) (hlk : meth.locks = false) (hK16 : ∀ (v0 : Nat) (v1 : Nat) (v2 : Int32) (v3 : Int32) (v4 : Int32) (v5 : Int32) (M : MS), TYR G M.2.2.1 → Is G 7 v0 → Is G 8 v1 → K16 v0 v1 v2 v3 v4 v5 M → PW p l e rm_X8_parse s m args below meth c D G 6 (MQ below (va_Qi Qp (POST D G) (AG G)) args s 0 0 (AG G)) 16 [(0, .ref v0), (1, .ref v1), (2, .int v2), (3, .int v3), (4, .int v4), (5, .int v5)] [] M) (v0 : Nat) (v1 : Nat) (v2 : Int32) (v3 : Int32) (v4 : Int32) (v5 : Int32) (M : MS) (hT : TYR G M.2.2.1) (hv0 : Is G 7 v0) (hv1 : Is G 8 v1) (hw : w_X8_parse_66 G K16 Qp v0 v1 v2 v3 v4 v5 M) : PW p l e rm_X8_parse s m args below meth c D G 6 (MQ below (va_Qi Qp (POST D G) (AG G)) args s 0 0 (AG G)) 66 [(0, .ref v0), (1, .ref v1), (2, .int v2), (3, .int v3), (4, .int v4), (5, .int v5)] [] M := by
  unfold w_X8_parse_66 at hw
  refine p_aload_n (pc := 66) cx dX8_parse_66 rfl 1 rfl ?_
  refine p_iload (pc := 67) cx dX8_parse_67 4 rfl ?_
  refine p_iload_n (pc := 69) cx dX8_parse_69 rfl 3 rfl ?_
  refine p_callSv (pc := 70) [.ref v1, .int v4, .int v3] cx (c_X8_foldIn cx.2.2.2.2.2.2 hT hv1 hw) cf_X8_foldIn cv_X8_foldIn t4_15 ⟨rfl, rfl⟩ ⟨Nat.le_of_ble_eq_true rfl, Nat.le_of_ble_eq_true rfl⟩ rfl rfl (Nat.le_of_ble_eq_true rfl) dX8_parse_70 (fun M8 hw hM8 => ?_)
  refine p_iconst (pc := 73) (v := 0) cx dX8_parse_73 (by decide) ?_
  refine p_istore_n (pc := 74) (lv' := [(0, .ref v0), (1, .ref v1), (2, .int v2), (3, .int (0 : Int32)), (5, .int v5)]) cx dX8_parse_74 rfl (by decide) [1, 2, 3, 0, 5] rfl ?_
  refine p_iconst (pc := 75) (v := 1) cx dX8_parse_75 (by decide) ?_
  refine p_istore (pc := 76) (lv' := [(0, .ref v0), (1, .ref v1), (2, .int v2), (3, .int (0 : Int32)), (4, .int (1 : Int32)), (5, .int v5)]) cx dX8_parse_76 (by decide) [1, 2, 3, 4, 0, 5] rfl ?_
  exact x_X8_parse_78 cx hr hlk hK16 v0 v1 v2 0 1 v5 M8 hM8 hv0 hv1 hw
set_option maxHeartbeats 4000000 in
set_option maxRecDepth 100000 in
theorem x_X8_parse_16 {p : Program} {l : Launch} {e : Env} {s : State} {m : MethodId} {args : Array Value} {below : List Frame} {meth : Method} {c : Code} {D : va_G} {G : SH} {Qp : Int32 → MS → Prop}  (cx : CX p s m args c D G cX8_parse 6 RX8) (hr : meth.sig.returnType = (some .boolean)) (hlk : meth.locks = false)  : ∀ (n : Nat) (v0 : Nat) (v1 : Nat) (v2 : Int32) (v3 : Int32) (v4 : Int32) (v5 : Int32) (M : MS), TYR G M.2.2.1 → Is G 7 v0 → Is G 8 v1 → w_X8_parse_16 G Qp n v0 v1 v2 v3 v4 v5 M → PW p l e rm_X8_parse s m args below meth c D G 6 (MQ below (va_Qi Qp (POST D G) (AG G)) args s 0 0 (AG G)) 16 [(0, .ref v0), (1, .ref v1), (2, .int v2), (3, .int v3), (4, .int v4), (5, .int v5)] [] M := by
  intro n
  induction n with
  | zero =>
    intro v0 v1 v2 v3 v4 v5 M hT hv0 hv1 hw
    exact hw.elim
  | succ n ih =>
    intro v0 v1 v2 v3 v4 v5 M hT hv0 hv1 hw
    rw [w_X8_parse_16] at hw
    refine p_iload (pc := 16) cx dX8_parse_16 5 rfl ?_
    refine p_aload_n (pc := 18) cx dX8_parse_18 rfl 0 rfl ?_
    refine gf_7_0 (pc := 19) cx hv0 t2_42 dX8_parse_19 ?_
    refine p_icmp_ge (pc := 22) (tgt := 94) cx dX8_parse_22 (by decide) (fun hc => ?_) (fun hc => ?_)
    · have hw := hw.1 hc
      refine p_aload_n (pc := 94) cx dX8_parse_94 rfl 1 rfl ?_
      refine p_aload_n (pc := 95) cx dX8_parse_95 rfl 0 rfl ?_
      refine p_callVi (pc := 96) [] cx (c_X8_hasMinus cx.2.2.2.2.2.2 hT hv0 hw) cf_X8_hasMinus cv_X8_hasMinus t4_5 hv0 ⟨by decide, rfl, rfl⟩ ⟨rfl, rfl⟩ ⟨Nat.le_of_ble_eq_true rfl, Nat.le_of_ble_eq_true rfl⟩ rfl rfl (Nat.le_of_ble_eq_true rfl) dX8_parse_96 (fun r3 M3 hw hM3 => ?_)
      refine p_callVv (pc := 99) [.int r3] cx (c_X9_takeSign cx.2.2.2.2.2.2 hM3 hv1 hw) cf_X9_takeSign cv_X9_takeSign t4_20 hv1 ⟨by decide, rfl, rfl⟩ ⟨rfl, rfl⟩ ⟨Nat.le_of_ble_eq_true rfl, Nat.le_of_ble_eq_true rfl⟩ rfl rfl (Nat.le_of_ble_eq_true rfl) dX8_parse_99 (fun M4 hw hM4 => ?_)
      refine p_iconst (pc := 102) (v := 1) cx dX8_parse_102 (by decide) ?_
      exact p_zret (pc := 103) cx hr hlk dX8_parse_103 (by decide) hM4 hw
    · have hw := hw.2 hc
      refine p_bipush (pc := 25) (v := 10) cx dX8_parse_25 (by decide) ?_
      refine p_iload_n (pc := 27) cx dX8_parse_27 rfl 3 rfl ?_
      refine p_imul (pc := 28) cx dX8_parse_28 ?_
      refine p_aload_n (pc := 29) cx dX8_parse_29 rfl 0 rfl ?_
      refine gf_7_1 (pc := 30) cx hv0 t2_44 dX8_parse_30 ?_
      have hr_5 : Is G 11 (mR M v0 1) := TYR.at hT hv0 1 11 rfl (by decide)
      refine p_iload (pc := 33) cx dX8_parse_33 5 rfl ?_
      refine p_bald (pc := 35) cx hr_5 hw.1 dX8_parse_35 ?_
      have hw := hw.2
      refine p_iadd (pc := 36) cx dX8_parse_36 ?_
      refine p_bipush (pc := 37) (v := 48) cx dX8_parse_37 (by decide) ?_
      refine p_isub (pc := 39) cx dX8_parse_39 ?_
      refine p_topi (fun x3_6 ex3_6 => ?_)
      have hw := hw x3_6 ex3_6
      refine p_istore_n (pc := 40) (lv' := [(0, .ref v0), (1, .ref v1), (2, .int v2), (3, .int x3_6), (4, .int v4), (5, .int v5)]) cx dX8_parse_40 rfl (by decide) [1, 2, 3, 0, 4, 5] rfl ?_
      refine p_bipush (pc := 41) (v := 10) cx dX8_parse_41 (by decide) ?_
      refine p_iload (pc := 43) cx dX8_parse_43 4 rfl ?_
      refine p_imul (pc := 45) cx dX8_parse_45 ?_
      refine p_topi (fun x4_7 ex4_7 => ?_)
      have hw := hw x4_7 ex4_7
      refine p_istore (pc := 46) (lv' := [(0, .ref v0), (1, .ref v1), (2, .int v2), (3, .int x3_6), (4, .int x4_7), (5, .int v5)]) cx dX8_parse_46 (by decide) [1, 2, 3, 4, 0, 5] rfl ?_
      refine p_iload (pc := 48) cx dX8_parse_48 4 rfl ?_
      refine p_ldc (pc := 50) cx dX8_parse_50 t4_14 ?_
      refine p_icmp_eq (pc := 52) (tgt := 66) cx dX8_parse_52 (by decide) (fun hc => ?_) (fun hc => ?_)
      · have hw := hw.1 hc
        exact x_X8_parse_66 cx hr hlk ih v0 v1 v2 x3_6 x4_7 v5 M hT hv0 hv1 hw
      · have hw := hw.2 hc
        refine p_iload (pc := 55) cx dX8_parse_55 5 rfl ?_
        refine p_aload_n (pc := 57) cx dX8_parse_57 rfl 0 rfl ?_
        refine gf_7_0 (pc := 58) cx hv0 t2_42 dX8_parse_58 ?_
        refine p_iconst (pc := 61) (v := 1) cx dX8_parse_61 (by decide) ?_
        refine p_isub (pc := 62) cx dX8_parse_62 ?_
        refine p_icmp_ne (pc := 63) (tgt := 78) cx dX8_parse_63 (by decide) (fun hc => ?_) (fun hc => ?_)
        · have hw := hw.1 hc
          exact x_X8_parse_78 cx hr hlk ih v0 v1 v2 x3_6 x4_7 v5 M hT hv0 hv1 hw
        · have hw := hw.2 hc
          exact x_X8_parse_66 cx hr hlk ih v0 v1 v2 x3_6 x4_7 v5 M hT hv0 hv1 hw
set_option maxHeartbeats 4000000 in
set_option maxRecDepth 100000 in
theorem c_X8_parse {l : Launch} {D : va_G} {G : SH} (hND : ND G) {a0 : Nat} {a1 : Nat} {a2 : Int32} {M : MS} {Qp : Int32 → MS → Prop} (hT : TYR G M.2.2.1) (ha0 : Is G 7 a0) (ha1 : Is G 8 a1) (hw : w_X8_parse G a0 a1 a2 M Qp) : MeI l D G yX8_parse (Cond.code yX8_parse cX8_parse 6 (some .boolean) :: GW) rm_X8_parse [.ref a0, .ref a1, .int a2] M Qp := by
  unfold MeI
  refine p_method (by decide) rfl (Nat.le_of_ble_eq_true rfl) hND ?_
  intro p e s m args below meth c cx hr hlk
  have cx : CX p s m args c D G cX8_parse 6 RX8 := cx
  unfold w_X8_parse at hw
  refine p_aload_n (pc := 0) cx dX8_parse_0 rfl 1 rfl ?_
  refine p_iconst (pc := 1) (v := 0) cx dX8_parse_1 (by decide) ?_
  refine p_callVv (pc := 2) [.int (0 : Int32)] cx (c_X9_become cx.2.2.2.2.2.2 hT ha1 hw) cf_X9_become cv_X9_become t4_13 ha1 ⟨by decide, rfl, rfl⟩ ⟨rfl, rfl⟩ ⟨Nat.le_of_ble_eq_true rfl, Nat.le_of_ble_eq_true rfl⟩ rfl rfl (Nat.le_of_ble_eq_true rfl) dX8_parse_2 (fun M1 hw hM1 => ?_)
  refine p_iconst (pc := 5) (v := 0) cx dX8_parse_5 (by decide) ?_
  refine p_istore_n (pc := 6) (lv' := [(0, .ref a0), (1, .ref a1), (2, .int a2), (3, .int (0 : Int32))]) cx dX8_parse_6 rfl (by decide) [1, 2, 3, 0] rfl ?_
  refine p_iconst (pc := 7) (v := 1) cx dX8_parse_7 (by decide) ?_
  refine p_istore (pc := 8) (lv' := [(0, .ref a0), (1, .ref a1), (2, .int a2), (3, .int (0 : Int32)), (4, .int (1 : Int32))]) cx dX8_parse_8 (by decide) [1, 2, 3, 4, 0] rfl ?_
  refine p_aload_n (pc := 10) cx dX8_parse_10 rfl 0 rfl ?_
  refine p_callVi (pc := 11) [] cx (c_X8_firstDigit cx.2.2.2.2.2.2 hM1 ha0 hw) cf_X8_firstDigit cv_X8_firstDigit t4_1 ha0 ⟨by decide, rfl, rfl⟩ ⟨rfl, rfl⟩ ⟨Nat.le_of_ble_eq_true rfl, Nat.le_of_ble_eq_true rfl⟩ rfl rfl (Nat.le_of_ble_eq_true rfl) dX8_parse_11 (fun r2 M2 hw hM2 => ?_)
  refine p_istore (pc := 14) (lv' := [(0, .ref a0), (1, .ref a1), (2, .int a2), (3, .int (0 : Int32)), (4, .int (1 : Int32)), (5, .int r2)]) cx dX8_parse_14 (by decide) [1, 2, 3, 4, 5, 0] rfl ?_
  obtain ⟨n1, hw⟩ := hw
  exact x_X8_parse_16 cx hr hlk n1 a0 a1 a2 0 1 r2 M2 hM2 ha0 ha1 hw
