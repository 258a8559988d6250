set_option maxHeartbeats 4000000 in
set_option maxRecDepth 100000 in
theorem c_X11_thrown {l : Launch} {D : va_G} {G : SH} (hND : ND G) {a0 : Nat} {M : MS} {Qp : Int32 → MS → Prop} (hT : TYR G M.2.2.1) (ha0 : Is G 10 a0) (hw : w_X11_thrown G a0 M Qp) : MeI l D G yX11_thrown (Cond.code yX11_thrown cX11_thrown 1 (some .int) :: GW) rm_X11_thrown [.ref a0] M Qp := by
  unfold MeI
  refine p_method (by decide) rfl (Nat.le_of_ble_eq_true rfl) hND ?_
  intro p e s m args below meth c cx hr hlk
  have cx : CX p s m args c D G cX11_thrown 1 RX11 := cx
  unfold w_X11_thrown at hw
  refine p_aload_n (pc := 0) cx dX11_thrown_0 rfl 0 rfl ?_
  refine gf_10_5 (pc := 1) cx ha0 t4_166 dX11_thrown_1 ?_
  exact p_iret (pc := 4) cx hr hlk dX11_thrown_4 hT hw
set_option maxHeartbeats 4000000 in
set_option maxRecDepth 100000 in
theorem x_X11_copy_2 {p : Program} {l : Launch} {e : Env} {s : State} {m : MethodId} {args : Array Value} {below : List Frame} {meth : Method} {c : Code} {D : va_G} {G : SH} {Qp : MS → Prop}  (cx : CX p s m args c D G cX11_copy 4 RX11) (hr : meth.sig.returnType = none) (hlk : meth.locks = false)  : ∀ (n : Nat) (v0 : Nat) (v1 : Int32) (v2 : Int32) (v3 : Int32) (M : MS), TYR G M.2.2.1 → Is G 10 v0 → w_X11_copy_2 G Qp n v0 v1 v2 v3 M → PW p l e rm_X11_copy s m args below meth c D G 4 (MQ below (va_Qv Qp (POST D G) (AG G)) args s 0 0 (AG G)) 2 [(0, .ref v0), (1, .int v1), (2, .int v2), (3, .int v3)] [] M := by
  intro n
  induction n with
  | zero =>
    intro v0 v1 v2 v3 M hT hv0 hw
    exact hw.elim
  | succ n ih =>
    intro v0 v1 v2 v3 M hT hv0 hw
    rw [w_X11_copy_2] at hw
    refine p_iload_n (pc := 2) cx dX11_copy_2 rfl 3 rfl ?_
    refine p_aload_n (pc := 3) cx dX11_copy_3 rfl 0 rfl ?_
    refine gf_10_1 (pc := 4) cx hv0 t4_162 dX11_copy_4 ?_
    have hr_1 : Is G 12 (mR M v0 1) := TYR.at hT hv0 1 12 rfl (by decide)
    refine p_iload_n (pc := 7) cx dX11_copy_7 rfl 2 rfl ?_
    refine p_iald (pc := 8) cx hr_1 hw.1 dX11_copy_8 ?_
    have hw := hw.2
    refine p_icmp_ge (pc := 9) (tgt := 42) cx dX11_copy_9 (by decide) (fun hc => ?_) (fun hc => ?_)
    · have hw := hw.1 hc
      refine p_aload_n (pc := 42) cx dX11_copy_42 rfl 0 rfl ?_
      refine gf_10_1 (pc := 43) cx hv0 t4_162 dX11_copy_43 ?_
      have hr_2 : Is G 12 (mR M v0 1) := TYR.at hT hv0 1 12 rfl (by decide)
      refine p_iload_n (pc := 46) cx dX11_copy_46 rfl 1 rfl ?_
      refine p_aload_n (pc := 47) cx dX11_copy_47 rfl 0 rfl ?_
      refine gf_10_1 (pc := 48) cx hv0 t4_162 dX11_copy_48 ?_
      have hr_3 : Is G 12 (mR M v0 1) := TYR.at hT hv0 1 12 rfl (by decide)
      refine p_iload_n (pc := 51) cx dX11_copy_51 rfl 2 rfl ?_
      refine p_iald (pc := 52) cx hr_3 hw.1 dX11_copy_52 ?_
      have hw := hw.2
      refine p_iast (pc := 53) cx hr_2 hw.1 dX11_copy_53 ?_
      have hw := hw.2
      refine p_mem (fun M4 eM4 => ?_)
      have hw := hw M4 eM4
      have hM4 : TYR G M4.2.2.1 := by rw [eM4]; exact hT
      refine p_aload_n (pc := 54) cx dX11_copy_54 rfl 0 rfl ?_
      refine gf_10_2 (pc := 55) cx hv0 t4_163 dX11_copy_55 ?_
      have hr_5 : Is G 12 (mR M4 v0 2) := TYR.at hM4 hv0 2 12 rfl (by decide)
      refine p_iload_n (pc := 58) cx dX11_copy_58 rfl 1 rfl ?_
      refine p_aload_n (pc := 59) cx dX11_copy_59 rfl 0 rfl ?_
      refine gf_10_2 (pc := 60) cx hv0 t4_163 dX11_copy_60 ?_
      have hr_6 : Is G 12 (mR M4 v0 2) := TYR.at hM4 hv0 2 12 rfl (by decide)
      refine p_iload_n (pc := 63) cx dX11_copy_63 rfl 2 rfl ?_
      refine p_iald (pc := 64) cx hr_6 hw.1 dX11_copy_64 ?_
      have hw := hw.2
      refine p_iast (pc := 65) cx hr_5 hw.1 dX11_copy_65 ?_
      have hw := hw.2
      refine p_mem (fun M7 eM7 => ?_)
      have hw := hw M7 eM7
      have hM7 : TYR G M7.2.2.1 := by rw [eM7]; exact hM4
      exact p_vret (pc := 66) cx hr hlk dX11_copy_66 hM7 hw
    · have hw := hw.2 hc
      refine p_aload_n (pc := 12) cx dX11_copy_12 rfl 0 rfl ?_
      refine gf_10_0 (pc := 13) cx hv0 t4_161 dX11_copy_13 ?_
      have hr_8 : Is G 12 (mR M v0 0) := TYR.at hT hv0 0 12 rfl (by decide)
      refine p_sipush (pc := 16) (v := 260) cx dX11_copy_16 (by decide) ?_
      refine p_iload_n (pc := 19) cx dX11_copy_19 rfl 1 rfl ?_
      refine p_imul (pc := 20) cx dX11_copy_20 ?_
      refine p_iload_n (pc := 21) cx dX11_copy_21 rfl 3 rfl ?_
      refine p_iadd (pc := 22) cx dX11_copy_22 ?_
      refine p_aload_n (pc := 23) cx dX11_copy_23 rfl 0 rfl ?_
      refine gf_10_0 (pc := 24) cx hv0 t4_161 dX11_copy_24 ?_
      have hr_9 : Is G 12 (mR M v0 0) := TYR.at hT hv0 0 12 rfl (by decide)
      refine p_sipush (pc := 27) (v := 260) cx dX11_copy_27 (by decide) ?_
      refine p_iload_n (pc := 30) cx dX11_copy_30 rfl 2 rfl ?_
      refine p_imul (pc := 31) cx dX11_copy_31 ?_
      refine p_iload_n (pc := 32) cx dX11_copy_32 rfl 3 rfl ?_
      refine p_iadd (pc := 33) cx dX11_copy_33 ?_
      refine p_iald (pc := 34) cx hr_9 hw.1 dX11_copy_34 ?_
      have hw := hw.2
      refine p_iast (pc := 35) cx hr_8 hw.1 dX11_copy_35 ?_
      have hw := hw.2
      refine p_mem (fun M10 eM10 => ?_)
      have hw := hw M10 eM10
      have hM10 : TYR G M10.2.2.1 := by rw [eM10]; exact hT
      obtain ⟨x3_11, ex3_11⟩ : ∃ y : Int32, y = v3 + 1 := ⟨_, rfl⟩
      have hw := hw x3_11 ex3_11
      refine p_iinc (pc := 36) (v := x3_11) (lv' := [(0, .ref v0), (1, .int v1), (2, .int v2), (3, .int x3_11)]) cx dX11_copy_36 3 rfl (by rw [ex3_11]; rfl) (by decide) [1, 2, 3, 0] rfl ?_
      refine p_goto (pc := 39) (tgt := 2) cx dX11_copy_39 (by decide) ?_
      exact ih v0 v1 v2 x3_11 M10 hM10 hv0 hw
set_option maxHeartbeats 4000000 in
set_option maxRecDepth 100000 in
theorem c_X11_copy {l : Launch} {D : va_G} {G : SH} (hND : ND G) {a0 : Nat} {a1 : Int32} {a2 : Int32} {M : MS} {Qp : MS → Prop} (hT : TYR G M.2.2.1) (ha0 : Is G 10 a0) (hw : w_X11_copy G a0 a1 a2 M Qp) : MeV l D G yX11_copy (Cond.code yX11_copy cX11_copy 4 none :: GW) rm_X11_copy [.ref a0, .int a1, .int a2] M Qp := by
  unfold MeV
  refine p_method (by decide) rfl (Nat.le_of_ble_eq_true rfl) hND ?_
  intro p e s m args below meth c cx hr hlk
  have cx : CX p s m args c D G cX11_copy 4 RX11 := cx
  unfold w_X11_copy at hw
  refine p_iconst (pc := 0) (v := 0) cx dX11_copy_0 (by decide) ?_
  refine p_istore_n (pc := 1) (lv' := [(0, .ref a0), (1, .int a1), (2, .int a2), (3, .int (0 : Int32))]) cx dX11_copy_1 rfl (by decide) [1, 2, 3, 0] rfl ?_
  obtain ⟨n1, hw⟩ := hw
  exact x_X11_copy_2 cx hr hlk n1 a0 a1 a2 0 M hT ha0 hw
set_option maxHeartbeats 4000000 in
set_option maxRecDepth 100000 in
theorem x_X11_small_14 {p : Program} {l : Launch} {e : Env} {s : State} {m : MethodId} {args : Array Value} {below : List Frame} {meth : Method} {c : Code} {D : va_G} {G : SH} {Qp : MS → Prop}  (cx : CX p s m args c D G cX11_small 3 RX11) (hr : meth.sig.returnType = none) (hlk : meth.locks = false)  (v0 : Nat) (v1 : Int32) (v2 : Int32) (s0 : Int32) (s1 : Int32) (s2 : Nat) (M : MS) (hT : TYR G M.2.2.1) (hv0 : Is G 10 v0) (hs2 : Is G 12 s2) (hw : w_X11_small_14 G Qp v0 v1 v2 s0 s1 s2 M) : PW p l e rm_X11_small s m args below meth c D G 3 (MQ below (va_Qv Qp (POST D G) (AG G)) args s 0 0 (AG G)) 14 [(0, .ref v0), (1, .int v1), (2, .int v2)] [.int s0, .int s1, .ref s2] M := by
  unfold w_X11_small_14 at hw
  refine p_iast (pc := 14) cx hs2 hw.1 dX11_small_14 ?_
  have hw := hw.2
  refine p_mem (fun M2 eM2 => ?_)
  have hw := hw M2 eM2
  have hM2 : TYR G M2.2.2.1 := by rw [eM2]; exact hT
  refine p_aload_n (pc := 15) cx dX11_small_15 rfl 0 rfl ?_
  refine gf_10_0 (pc := 16) cx hv0 t4_161 dX11_small_16 ?_
  have hr_3 : Is G 12 (mR M2 v0 0) := TYR.at hM2 hv0 0 12 rfl (by decide)
  refine p_sipush (pc := 19) (v := 260) cx dX11_small_19 (by decide) ?_
  refine p_iload_n (pc := 22) cx dX11_small_22 rfl 1 rfl ?_
  refine p_imul (pc := 23) cx dX11_small_23 ?_
  refine p_iload_n (pc := 24) cx dX11_small_24 rfl 2 rfl ?_
  refine p_iast (pc := 25) cx hr_3 hw.1 dX11_small_25 ?_
  have hw := hw.2
  refine p_mem (fun M4 eM4 => ?_)
  have hw := hw M4 eM4
  have hM4 : TYR G M4.2.2.1 := by rw [eM4]; exact hM2
  refine p_aload_n (pc := 26) cx dX11_small_26 rfl 0 rfl ?_
  refine gf_10_2 (pc := 27) cx hv0 t4_163 dX11_small_27 ?_
  have hr_5 : Is G 12 (mR M4 v0 2) := TYR.at hM4 hv0 2 12 rfl (by decide)
  refine p_iload_n (pc := 30) cx dX11_small_30 rfl 1 rfl ?_
  refine p_iload_n (pc := 31) cx dX11_small_31 rfl 2 rfl ?_
  refine p_if_ne (pc := 32) (tgt := 39) cx dX11_small_32 (by decide) (fun hc => ?_) (fun hc => ?_)
  · have hw := hw.1 hc
    refine p_iconst (pc := 39) (v := 1) cx dX11_small_39 (by decide) ?_
    refine p_iast (pc := 40) cx hr_5 hw.1 dX11_small_40 ?_
    have hw := hw.2
    refine p_mem (fun M6 eM6 => ?_)
    have hw := hw M6 eM6
    have hM6 : TYR G M6.2.2.1 := by rw [eM6]; exact hM4
    exact p_vret (pc := 41) cx hr hlk dX11_small_41 hM6 hw
  · have hw := hw.2 hc
    refine p_iconst (pc := 35) (v := 0) cx dX11_small_35 (by decide) ?_
    refine p_goto (pc := 36) (tgt := 40) cx dX11_small_36 (by decide) ?_
    refine p_iast (pc := 40) cx hr_5 hw.1 dX11_small_40 ?_
    have hw := hw.2
    refine p_mem (fun M7 eM7 => ?_)
    have hw := hw M7 eM7
    have hM7 : TYR G M7.2.2.1 := by rw [eM7]; exact hM4
    exact p_vret (pc := 41) cx hr hlk dX11_small_41 hM7 hw
set_option maxHeartbeats 4000000 in
set_option maxRecDepth 100000 in
theorem c_X11_small {l : Launch} {D : va_G} {G : SH} (hND : ND G) {a0 : Nat} {a1 : Int32} {a2 : Int32} {M : MS} {Qp : MS → Prop} (hT : TYR G M.2.2.1) (ha0 : Is G 10 a0) (hw : w_X11_small G a0 a1 a2 M Qp) : MeV l D G yX11_small (Cond.code yX11_small cX11_small 3 none :: GW) rm_X11_small [.ref a0, .int a1, .int a2] M Qp := by
  unfold MeV
  refine p_method (by decide) rfl (Nat.le_of_ble_eq_true rfl) hND ?_
  intro p e s m args below meth c cx hr hlk
  have cx : CX p s m args c D G cX11_small 3 RX11 := cx
  unfold w_X11_small at hw
  refine p_aload_n (pc := 0) cx dX11_small_0 rfl 0 rfl ?_
  refine gf_10_1 (pc := 1) cx ha0 t4_162 dX11_small_1 ?_
  have hr_1 : Is G 12 (mR M a0 1) := TYR.at hT ha0 1 12 rfl (by decide)
  refine p_iload_n (pc := 4) cx dX11_small_4 rfl 1 rfl ?_
  refine p_iload_n (pc := 5) cx dX11_small_5 rfl 2 rfl ?_
  refine p_if_ne (pc := 6) (tgt := 13) cx dX11_small_6 (by decide) (fun hc => ?_) (fun hc => ?_)
  · have hw := hw.1 hc
    refine p_iconst (pc := 13) (v := 1) cx dX11_small_13 (by decide) ?_
    exact x_X11_small_14 cx hr hlk a0 a1 a2 1 a1 (mR M a0 1) M hT ha0 hr_1 hw
  · have hw := hw.2 hc
    refine p_iconst (pc := 9) (v := 0) cx dX11_small_9 (by decide) ?_
    refine p_goto (pc := 10) (tgt := 14) cx dX11_small_10 (by decide) ?_
    exact x_X11_small_14 cx hr hlk a0 a1 a2 0 a1 (mR M a0 1) M hT ha0 hr_1 hw
set_option maxHeartbeats 4000000 in
set_option maxRecDepth 100000 in
theorem x_X11_trim_32 {p : Program} {l : Launch} {e : Env} {s : State} {m : MethodId} {args : Array Value} {below : List Frame} {meth : Method} {c : Code} {D : va_G} {G : SH} {Qp : MS → Prop}  (cx : CX p s m args c D G cX11_trim 5 RX11) (hr : meth.sig.returnType = none) (hlk : meth.locks = false)  (v0 : Nat) (v1 : Int32) (v3 : Int32) (v4 : Int32) (M : MS) (hT : TYR G M.2.2.1) (hv0 : Is G 10 v0) (hw : w_X11_trim_32 G Qp v0 v1 v3 v4 M) : PW p l e rm_X11_trim s m args below meth c D G 5 (MQ below (va_Qv Qp (POST D G) (AG G)) args s 0 0 (AG G)) 32 [(0, .ref v0), (1, .int v1), (3, .int v3), (4, .int v4)] [] M := by
  unfold w_X11_trim_32 at hw
  refine p_aload_n (pc := 32) cx dX11_trim_32 rfl 0 rfl ?_
  refine gf_10_1 (pc := 33) cx hv0 t4_162 dX11_trim_33 ?_
  have hr_1 : Is G 12 (mR M v0 1) := TYR.at hT hv0 1 12 rfl (by decide)
  refine p_iload_n (pc := 36) cx dX11_trim_36 rfl 1 rfl ?_
  refine p_iload (pc := 37) cx dX11_trim_37 3 rfl ?_
  refine p_iast (pc := 39) cx hr_1 hw.1 dX11_trim_39 ?_
  have hw := hw.2
  refine p_mem (fun M2 eM2 => ?_)
  have hw := hw M2 eM2
  have hM2 : TYR G M2.2.2.1 := by rw [eM2]; exact hT
  refine p_aload_n (pc := 40) cx dX11_trim_40 rfl 0 rfl ?_
  refine gf_10_2 (pc := 41) cx hv0 t4_163 dX11_trim_41 ?_
  have hr_3 : Is G 12 (mR M2 v0 2) := TYR.at hM2 hv0 2 12 rfl (by decide)
  refine p_iload_n (pc := 44) cx dX11_trim_44 rfl 1 rfl ?_
  refine p_iload (pc := 45) cx dX11_trim_45 3 rfl ?_
  refine p_if_ne (pc := 47) (tgt := 54) cx dX11_trim_47 (by decide) (fun hc => ?_) (fun hc => ?_)
  · have hw := hw.1 hc
    refine p_iload_n (pc := 54) cx dX11_trim_54 rfl 2 rfl ?_
    refine p_iast (pc := 55) cx hr_3 hw.1 dX11_trim_55 ?_
    have hw := hw.2
    refine p_mem (fun M4 eM4 => ?_)
    have hw := hw M4 eM4
    have hM4 : TYR G M4.2.2.1 := by rw [eM4]; exact hM2
    exact p_vret (pc := 56) cx hr hlk dX11_trim_56 hM4 hw
  · have hw := hw.2 hc
    refine p_iconst (pc := 50) (v := 0) cx dX11_trim_50 (by decide) ?_
    refine p_goto (pc := 51) (tgt := 55) cx dX11_trim_51 (by decide) ?_
    refine p_iast (pc := 55) cx hr_3 hw.1 dX11_trim_55 ?_
    have hw := hw.2
    refine p_mem (fun M5 eM5 => ?_)
    have hw := hw M5 eM5
    have hM5 : TYR G M5.2.2.1 := by rw [eM5]; exact hM2
    exact p_vret (pc := 56) cx hr hlk dX11_trim_56 hM5 hw
set_option maxHeartbeats 4000000 in
set_option maxRecDepth 100000 in
theorem x_X11_trim_3 {p : Program} {l : Launch} {e : Env} {s : State} {m : MethodId} {args : Array Value} {below : List Frame} {meth : Method} {c : Code} {D : va_G} {G : SH} {Qp : MS → Prop}  (cx : CX p s m args c D G cX11_trim 5 RX11) (hr : meth.sig.returnType = none) (hlk : meth.locks = false)  : ∀ (n : Nat) (v0 : Nat) (v1 : Int32) (v3 : Int32) (v4 : Int32) (M : MS), TYR G M.2.2.1 → Is G 10 v0 → w_X11_trim_3 G Qp n v0 v1 v3 v4 M → PW p l e rm_X11_trim s m args below meth c D G 5 (MQ below (va_Qv Qp (POST D G) (AG G)) args s 0 0 (AG G)) 3 [(0, .ref v0), (1, .int v1), (3, .int v3), (4, .int v4)] [] M := by
  intro n
  induction n with
  | zero =>
    intro v0 v1 v3 v4 M hT hv0 hw
    exact hw.elim
  | succ n ih =>
    intro v0 v1 v3 v4 M hT hv0 hw
    rw [w_X11_trim_3] at hw
    refine p_iload (pc := 3) cx dX11_trim_3 3 rfl ?_
    refine p_if_le (pc := 5) (tgt := 32) cx dX11_trim_5 (by decide) (fun hc => ?_) (fun hc => ?_)
    · have hw := hw.1 hc
      exact x_X11_trim_32 cx hr hlk v0 v1 v3 v4 M hT hv0 hw
    · have hw := hw.2 hc
      refine p_aload_n (pc := 8) cx dX11_trim_8 rfl 0 rfl ?_
      refine gf_10_0 (pc := 9) cx hv0 t4_161 dX11_trim_9 ?_
      have hr_6 : Is G 12 (mR M v0 0) := TYR.at hT hv0 0 12 rfl (by decide)
      refine p_sipush (pc := 12) (v := 260) cx dX11_trim_12 (by decide) ?_
      refine p_iload_n (pc := 15) cx dX11_trim_15 rfl 1 rfl ?_
      refine p_imul (pc := 16) cx dX11_trim_16 ?_
      refine p_iload (pc := 17) cx dX11_trim_17 3 rfl ?_
      refine p_iadd (pc := 19) cx dX11_trim_19 ?_
      refine p_iconst (pc := 20) (v := 1) cx dX11_trim_20 (by decide) ?_
      refine p_isub (pc := 21) cx dX11_trim_21 ?_
      refine p_iald (pc := 22) cx hr_6 hw.1 dX11_trim_22 ?_
      have hw := hw.2
      refine p_if_ne (pc := 23) (tgt := 32) cx dX11_trim_23 (by decide) (fun hc => ?_) (fun hc => ?_)
      · have hw := hw.1 hc
        exact x_X11_trim_32 cx hr hlk v0 v1 v3 v4 M hT hv0 hw
      · have hw := hw.2 hc
        obtain ⟨x4_7, ex4_7⟩ : ∃ y : Int32, y = v4 + (-1) := ⟨_, rfl⟩
        have hw := hw x4_7 ex4_7
        refine p_iinc (pc := 26) (v := x4_7) (lv' := [(0, .ref v0), (1, .int v1), (3, .int v3), (4, .int x4_7)]) cx dX11_trim_26 3 rfl (by rw [ex4_7]; rfl) (by decide) [1, 2, 3, 0] rfl ?_
        refine p_goto (pc := 29) (tgt := 3) cx dX11_trim_29 (by decide) ?_
        exact ih v0 v1 v3 x4_7 M hT hv0 hw
set_option maxHeartbeats 4000000 in
set_option maxRecDepth 100000 in
theorem c_X11_trim {l : Launch} {D : va_G} {G : SH} (hND : ND G) {a0 : Nat} {a1 : Int32} {a2 : Int32} {a3 : Int32} {M : MS} {Qp : MS → Prop} (hT : TYR G M.2.2.1) (ha0 : Is G 10 a0) (hw : w_X11_trim G a0 a1 a2 a3 M Qp) : MeV l D G yX11_trim (Cond.code yX11_trim cX11_trim 5 none :: GW) rm_X11_trim [.ref a0, .int a1, .int a2, .int a3] M Qp := by
  unfold MeV
  refine p_method (by decide) rfl (Nat.le_of_ble_eq_true rfl) hND ?_
  intro p e s m args below meth c cx hr hlk
  have cx : CX p s m args c D G cX11_trim 5 RX11 := cx
  unfold w_X11_trim at hw
  refine p_iload_n (pc := 0) cx dX11_trim_0 rfl 2 rfl ?_
  refine p_istore (pc := 1) (lv' := [(0, .ref a0), (1, .int a1), (3, .int a3), (4, .int a2)]) cx dX11_trim_1 (by decide) [1, 2, 4, 0] rfl ?_
  obtain ⟨n1, hw⟩ := hw
  exact x_X11_trim_3 cx hr hlk n1 a0 a1 a3 a2 M hT ha0 hw
set_option maxHeartbeats 4000000 in
set_option maxRecDepth 100000 in
theorem c_X11_get {l : Launch} {D : va_G} {G : SH} (hND : ND G) {a0 : Nat} {a1 : Int32} {a2 : Int32} {M : MS} {Qp : Int32 → MS → Prop} (hT : TYR G M.2.2.1) (ha0 : Is G 10 a0) (hw : w_X11_get G a0 a1 a2 M Qp) : MeI l D G yX11_get (Cond.code yX11_get cX11_get 3 (some .int) :: GW) rm_X11_get [.ref a0, .int a1, .int a2] M Qp := by
  unfold MeI
  refine p_method (by decide) rfl (Nat.le_of_ble_eq_true rfl) hND ?_
  intro p e s m args below meth c cx hr hlk
  have cx : CX p s m args c D G cX11_get 3 RX11 := cx
  unfold w_X11_get at hw
  refine p_iload_n (pc := 0) cx dX11_get_0 rfl 2 rfl ?_
  refine p_aload_n (pc := 1) cx dX11_get_1 rfl 0 rfl ?_
  refine gf_10_1 (pc := 2) cx ha0 t4_162 dX11_get_2 ?_
  have hr_1 : Is G 12 (mR M a0 1) := TYR.at hT ha0 1 12 rfl (by decide)
  refine p_iload_n (pc := 5) cx dX11_get_5 rfl 1 rfl ?_
  refine p_iald (pc := 6) cx hr_1 hw.1 dX11_get_6 ?_
  have hw := hw.2
  refine p_icmp_ge (pc := 7) (tgt := 25) cx dX11_get_7 (by decide) (fun hc => ?_) (fun hc => ?_)
  · have hw := hw.1 hc
    refine p_iconst (pc := 25) (v := 0) cx dX11_get_25 (by decide) ?_
    exact p_iret (pc := 26) cx hr hlk dX11_get_26 hT hw
  · have hw := hw.2 hc
    refine p_aload_n (pc := 10) cx dX11_get_10 rfl 0 rfl ?_
    refine gf_10_0 (pc := 11) cx ha0 t4_161 dX11_get_11 ?_
    have hr_2 : Is G 12 (mR M a0 0) := TYR.at hT ha0 0 12 rfl (by decide)
    refine p_sipush (pc := 14) (v := 260) cx dX11_get_14 (by decide) ?_
    refine p_iload_n (pc := 17) cx dX11_get_17 rfl 1 rfl ?_
    refine p_imul (pc := 18) cx dX11_get_18 ?_
    refine p_iload_n (pc := 19) cx dX11_get_19 rfl 2 rfl ?_
    refine p_iadd (pc := 20) cx dX11_get_20 ?_
    refine p_iald (pc := 21) cx hr_2 hw.1 dX11_get_21 ?_
    have hw := hw.2
    refine p_goto (pc := 22) (tgt := 26) cx dX11_get_22 (by decide) ?_
    exact p_iret (pc := 26) cx hr hlk dX11_get_26 hT hw
set_option maxHeartbeats 4000000 in
set_option maxRecDepth 100000 in
theorem x_X11_sizes_45 {p : Program} {l : Launch} {e : Env} {s : State} {m : MethodId} {args : Array Value} {below : List Frame} {meth : Method} {c : Code} {D : va_G} {G : SH} {Qp : Int32 → MS → Prop}  (cx : CX p s m args c D G cX11_sizes 4 RX11) (hr : meth.sig.returnType = (some .int)) (hlk : meth.locks = false)  : ∀ (n : Nat) (v0 : Nat) (v1 : Int32) (v2 : Int32) (v3 : Int32) (M : MS), TYR G M.2.2.1 → Is G 10 v0 → w_X11_sizes_45 G Qp n v0 v1 v2 v3 M → PW p l e rm_X11_sizes s m args below meth c D G 4 (MQ below (va_Qi Qp (POST D G) (AG G)) args s 0 0 (AG G)) 45 [(0, .ref v0), (1, .int v1), (2, .int v2), (3, .int v3)] [] M := by
  intro n
  induction n with
  | zero =>
    intro v0 v1 v2 v3 M hT hv0 hw
    exact hw.elim
  | succ n ih =>
    intro v0 v1 v2 v3 M hT hv0 hw
    rw [w_X11_sizes_45] at hw
    refine p_iload_n (pc := 45) cx dX11_sizes_45 rfl 3 rfl ?_
    refine p_if_lt (pc := 46) (tgt := 115) cx dX11_sizes_46 (by decide) (fun hc => ?_) (fun hc => ?_)
    · have hw := hw.1 hc
      refine p_iconst (pc := 115) (v := 0) cx dX11_sizes_115 (by decide) ?_
      exact p_iret (pc := 116) cx hr hlk dX11_sizes_116 hT hw
    · have hw := hw.2 hc
      refine p_aload_n (pc := 49) cx dX11_sizes_49 rfl 0 rfl ?_
      refine gf_10_0 (pc := 50) cx hv0 t4_161 dX11_sizes_50 ?_
      have hr_5 : Is G 12 (mR M v0 0) := TYR.at hT hv0 0 12 rfl (by decide)
      refine p_sipush (pc := 53) (v := 260) cx dX11_sizes_53 (by decide) ?_
      refine p_iload_n (pc := 56) cx dX11_sizes_56 rfl 1 rfl ?_
      refine p_imul (pc := 57) cx dX11_sizes_57 ?_
      refine p_iload_n (pc := 58) cx dX11_sizes_58 rfl 3 rfl ?_
      refine p_iadd (pc := 59) cx dX11_sizes_59 ?_
      refine p_iald (pc := 60) cx hr_5 hw.1 dX11_sizes_60 ?_
      have hw := hw.2
      refine p_aload_n (pc := 61) cx dX11_sizes_61 rfl 0 rfl ?_
      refine gf_10_0 (pc := 62) cx hv0 t4_161 dX11_sizes_62 ?_
      have hr_6 : Is G 12 (mR M v0 0) := TYR.at hT hv0 0 12 rfl (by decide)
      refine p_sipush (pc := 65) (v := 260) cx dX11_sizes_65 (by decide) ?_
      refine p_iload_n (pc := 68) cx dX11_sizes_68 rfl 2 rfl ?_
      refine p_imul (pc := 69) cx dX11_sizes_69 ?_
      refine p_iload_n (pc := 70) cx dX11_sizes_70 rfl 3 rfl ?_
      refine p_iadd (pc := 71) cx dX11_sizes_71 ?_
      refine p_iald (pc := 72) cx hr_6 hw.1 dX11_sizes_72 ?_
      have hw := hw.2
      refine p_icmp_eq (pc := 73) (tgt := 109) cx dX11_sizes_73 (by decide) (fun hc => ?_) (fun hc => ?_)
      · have hw := hw.1 hc
        obtain ⟨x3_7, ex3_7⟩ : ∃ y : Int32, y = v3 + (-1) := ⟨_, rfl⟩
        have hw := hw x3_7 ex3_7
        refine p_iinc (pc := 109) (v := x3_7) (lv' := [(0, .ref v0), (1, .int v1), (2, .int v2), (3, .int x3_7)]) cx dX11_sizes_109 3 rfl (by rw [ex3_7]; rfl) (by decide) [1, 2, 3, 0] rfl ?_
        refine p_goto (pc := 112) (tgt := 45) cx dX11_sizes_112 (by decide) ?_
        exact ih v0 v1 v2 x3_7 M hT hv0 hw
      · have hw := hw.2 hc
        refine p_aload_n (pc := 76) cx dX11_sizes_76 rfl 0 rfl ?_
        refine gf_10_0 (pc := 77) cx hv0 t4_161 dX11_sizes_77 ?_
        have hr_8 : Is G 12 (mR M v0 0) := TYR.at hT hv0 0 12 rfl (by decide)
        refine p_sipush (pc := 80) (v := 260) cx dX11_sizes_80 (by decide) ?_
        refine p_iload_n (pc := 83) cx dX11_sizes_83 rfl 1 rfl ?_
        refine p_imul (pc := 84) cx dX11_sizes_84 ?_
        refine p_iload_n (pc := 85) cx dX11_sizes_85 rfl 3 rfl ?_
        refine p_iadd (pc := 86) cx dX11_sizes_86 ?_
        refine p_iald (pc := 87) cx hr_8 hw.1 dX11_sizes_87 ?_
        have hw := hw.2
        refine p_aload_n (pc := 88) cx dX11_sizes_88 rfl 0 rfl ?_
        refine gf_10_0 (pc := 89) cx hv0 t4_161 dX11_sizes_89 ?_
        have hr_9 : Is G 12 (mR M v0 0) := TYR.at hT hv0 0 12 rfl (by decide)
        refine p_sipush (pc := 92) (v := 260) cx dX11_sizes_92 (by decide) ?_
        refine p_iload_n (pc := 95) cx dX11_sizes_95 rfl 2 rfl ?_
        refine p_imul (pc := 96) cx dX11_sizes_96 ?_
        refine p_iload_n (pc := 97) cx dX11_sizes_97 rfl 3 rfl ?_
        refine p_iadd (pc := 98) cx dX11_sizes_98 ?_
        refine p_iald (pc := 99) cx hr_9 hw.1 dX11_sizes_99 ?_
        have hw := hw.2
        refine p_icmp_le (pc := 100) (tgt := 107) cx dX11_sizes_100 (by decide) (fun hc => ?_) (fun hc => ?_)
        · have hw := hw.1 hc
          refine p_iconst (pc := 107) (v := (-1)) cx dX11_sizes_107 (by decide) ?_
          exact p_iret (pc := 108) cx hr hlk dX11_sizes_108 hT hw
        · have hw := hw.2 hc
          refine p_iconst (pc := 103) (v := 1) cx dX11_sizes_103 (by decide) ?_
          refine p_goto (pc := 104) (tgt := 108) cx dX11_sizes_104 (by decide) ?_
          exact p_iret (pc := 108) cx hr hlk dX11_sizes_108 hT hw
set_option maxHeartbeats 4000000 in
set_option maxRecDepth 100000 in
theorem c_X11_sizes {l : Launch} {D : va_G} {G : SH} (hND : ND G) {a0 : Nat} {a1 : Int32} {a2 : Int32} {M : MS} {Qp : Int32 → MS → Prop} (hT : TYR G M.2.2.1) (ha0 : Is G 10 a0) (hw : w_X11_sizes G a0 a1 a2 M Qp) : MeI l D G yX11_sizes (Cond.code yX11_sizes cX11_sizes 4 (some .int) :: GW) rm_X11_sizes [.ref a0, .int a1, .int a2] M Qp := by
  unfold MeI
  refine p_method (by decide) rfl (Nat.le_of_ble_eq_true rfl) hND ?_
  intro p e s m args below meth c cx hr hlk
  have cx : CX p s m args c D G cX11_sizes 4 RX11 := cx
  unfold w_X11_sizes at hw
  refine p_aload_n (pc := 0) cx dX11_sizes_0 rfl 0 rfl ?_
  refine gf_10_1 (pc := 1) cx ha0 t4_162 dX11_sizes_1 ?_
  have hr_1 : Is G 12 (mR M a0 1) := TYR.at hT ha0 1 12 rfl (by decide)
  refine p_iload_n (pc := 4) cx dX11_sizes_4 rfl 1 rfl ?_
  refine p_iald (pc := 5) cx hr_1 hw.1 dX11_sizes_5 ?_
  have hw := hw.2
  refine p_aload_n (pc := 6) cx dX11_sizes_6 rfl 0 rfl ?_
  refine gf_10_1 (pc := 7) cx ha0 t4_162 dX11_sizes_7 ?_
  have hr_2 : Is G 12 (mR M a0 1) := TYR.at hT ha0 1 12 rfl (by decide)
  refine p_iload_n (pc := 10) cx dX11_sizes_10 rfl 2 rfl ?_
  refine p_iald (pc := 11) cx hr_2 hw.1 dX11_sizes_11 ?_
  have hw := hw.2
  refine p_icmp_eq (pc := 12) (tgt := 36) cx dX11_sizes_12 (by decide) (fun hc => ?_) (fun hc => ?_)
  · have hw := hw.1 hc
    refine p_aload_n (pc := 36) cx dX11_sizes_36 rfl 0 rfl ?_
    refine gf_10_1 (pc := 37) cx ha0 t4_162 dX11_sizes_37 ?_
    have hr_3 : Is G 12 (mR M a0 1) := TYR.at hT ha0 1 12 rfl (by decide)
    refine p_iload_n (pc := 40) cx dX11_sizes_40 rfl 1 rfl ?_
    refine p_iald (pc := 41) cx hr_3 hw.1 dX11_sizes_41 ?_
    have hw := hw.2
    refine p_iconst (pc := 42) (v := 1) cx dX11_sizes_42 (by decide) ?_
    refine p_isub (pc := 43) cx dX11_sizes_43 ?_
    refine p_topi (fun x3_4 ex3_4 => ?_)
    have hw := hw x3_4 ex3_4
    refine p_istore_n (pc := 44) (lv' := [(0, .ref a0), (1, .int a1), (2, .int a2), (3, .int x3_4)]) cx dX11_sizes_44 rfl (by decide) [1, 2, 3, 0] rfl ?_
    obtain ⟨n1, hw⟩ := hw
    exact x_X11_sizes_45 cx hr hlk n1 a0 a1 a2 x3_4 M hT ha0 hw
  · have hw := hw.2 hc
    refine p_aload_n (pc := 15) cx dX11_sizes_15 rfl 0 rfl ?_
    refine gf_10_1 (pc := 16) cx ha0 t4_162 dX11_sizes_16 ?_
    have hr_10 : Is G 12 (mR M a0 1) := TYR.at hT ha0 1 12 rfl (by decide)
    refine p_iload_n (pc := 19) cx dX11_sizes_19 rfl 1 rfl ?_
    refine p_iald (pc := 20) cx hr_10 hw.1 dX11_sizes_20 ?_
    have hw := hw.2
    refine p_aload_n (pc := 21) cx dX11_sizes_21 rfl 0 rfl ?_
    refine gf_10_1 (pc := 22) cx ha0 t4_162 dX11_sizes_22 ?_
    have hr_11 : Is G 12 (mR M a0 1) := TYR.at hT ha0 1 12 rfl (by decide)
    refine p_iload_n (pc := 25) cx dX11_sizes_25 rfl 2 rfl ?_
    refine p_iald (pc := 26) cx hr_11 hw.1 dX11_sizes_26 ?_
    have hw := hw.2
    refine p_icmp_le (pc := 27) (tgt := 34) cx dX11_sizes_27 (by decide) (fun hc => ?_) (fun hc => ?_)
    · have hw := hw.1 hc
      refine p_iconst (pc := 34) (v := (-1)) cx dX11_sizes_34 (by decide) ?_
      exact p_iret (pc := 35) cx hr hlk dX11_sizes_35 hT hw
    · have hw := hw.2 hc
      refine p_iconst (pc := 30) (v := 1) cx dX11_sizes_30 (by decide) ?_
      refine p_goto (pc := 31) (tgt := 35) cx dX11_sizes_31 (by decide) ?_
      exact p_iret (pc := 35) cx hr hlk dX11_sizes_35 hT hw
set_option maxHeartbeats 4000000 in
set_option maxRecDepth 100000 in
theorem x_X11_sizeSum_38 {p : Program} {l : Launch} {e : Env} {s : State} {m : MethodId} {args : Array Value} {below : List Frame} {meth : Method} {c : Code} {D : va_G} {G : SH} {Qp : MS → Prop}  (cx : CX p s m args c D G cX11_sizeSum 8 RX11) (hr : meth.sig.returnType = none) (hlk : meth.locks = false)  : ∀ (n : Nat) (v0 : Nat) (v1 : Int32) (v2 : Int32) (v3 : Int32) (v4 : Int32) (v5 : Int32) (v6 : Int32) (v7 : Int32) (M : MS), TYR G M.2.2.1 → Is G 10 v0 → w_X11_sizeSum_38 G Qp n v0 v1 v2 v3 v4 v5 v6 v7 M → PW p l e rm_X11_sizeSum s m args below meth c D G 8 (MQ below (va_Qv Qp (POST D G) (AG G)) args s 0 0 (AG G)) 38 [(0, .ref v0), (1, .int v1), (2, .int v2), (3, .int v3), (4, .int v4), (5, .int v5), (6, .int v6), (7, .int v7)] [] M := by
  intro n
  induction n with
  | zero =>
    intro v0 v1 v2 v3 v4 v5 v6 v7 M hT hv0 hw
    exact hw.elim
  | succ n ih =>
    intro v0 v1 v2 v3 v4 v5 v6 v7 M hT hv0 hw
    rw [w_X11_sizeSum_38] at hw
    refine p_iload (pc := 38) cx dX11_sizeSum_38 7 rfl ?_
    refine p_iload (pc := 40) cx dX11_sizeSum_40 5 rfl ?_
    refine p_icmp_ge (pc := 42) (tgt := 96) cx dX11_sizeSum_42 (by decide) (fun hc => ?_) (fun hc => ?_)
    · have hw := hw.1 hc
      refine p_aload_n (pc := 96) cx dX11_sizeSum_96 rfl 0 rfl ?_
      refine gf_10_0 (pc := 97) cx hv0 t4_161 dX11_sizeSum_97 ?_
      have hr_5 : Is G 12 (mR M v0 0) := TYR.at hT hv0 0 12 rfl (by decide)
      refine p_sipush (pc := 100) (v := 260) cx dX11_sizeSum_100 (by decide) ?_
      refine p_iload_n (pc := 103) cx dX11_sizeSum_103 rfl 1 rfl ?_
      refine p_imul (pc := 104) cx dX11_sizeSum_104 ?_
      refine p_iload (pc := 105) cx dX11_sizeSum_105 5 rfl ?_
      refine p_iadd (pc := 107) cx dX11_sizeSum_107 ?_
      refine p_iload (pc := 108) cx dX11_sizeSum_108 6 rfl ?_
      refine p_iast (pc := 110) cx hr_5 hw.1 dX11_sizeSum_110 ?_
      have hw := hw.2
      refine p_mem (fun M6 eM6 => ?_)
      have hw := hw M6 eM6
      have hM6 : TYR G M6.2.2.1 := by rw [eM6]; exact hT
      refine p_aload_n (pc := 111) cx dX11_sizeSum_111 rfl 0 rfl ?_
      refine p_iload_n (pc := 112) cx dX11_sizeSum_112 rfl 1 rfl ?_
      refine p_iload (pc := 113) cx dX11_sizeSum_113 5 rfl ?_
      refine p_iconst (pc := 115) (v := 1) cx dX11_sizeSum_115 (by decide) ?_
      refine p_iadd (pc := 116) cx dX11_sizeSum_116 ?_
      refine p_iload (pc := 117) cx dX11_sizeSum_117 4 rfl ?_
      refine p_callVv (pc := 119) [.int v1, .int (v5 + 1), .int v4] cx (c_X11_trim cx.2.2.2.2.2.2 hM6 hv0 hw) cf_X11_trim cv_X11_trim t4_208 hv0 ⟨by decide, rfl, rfl⟩ ⟨rfl, rfl⟩ ⟨Nat.le_of_ble_eq_true rfl, Nat.le_of_ble_eq_true rfl⟩ rfl rfl (Nat.le_of_ble_eq_true rfl) dX11_sizeSum_119 (fun M7 hw hM7 => ?_)
      exact p_vret (pc := 122) cx hr hlk dX11_sizeSum_122 hM7 hw
    · have hw := hw.2 hc
      refine p_iload (pc := 45) cx dX11_sizeSum_45 6 rfl ?_
      refine p_aload_n (pc := 47) cx dX11_sizeSum_47 rfl 0 rfl ?_
      refine p_iload_n (pc := 48) cx dX11_sizeSum_48 rfl 2 rfl ?_
      refine p_iload (pc := 49) cx dX11_sizeSum_49 7 rfl ?_
      refine p_callVi (pc := 51) [.int v2, .int v7] cx (c_X11_get cx.2.2.2.2.2.2 hT hv0 hw) cf_X11_get cv_X11_get t5_8 hv0 ⟨by decide, rfl, rfl⟩ ⟨rfl, rfl⟩ ⟨Nat.le_of_ble_eq_true rfl, Nat.le_of_ble_eq_true rfl⟩ rfl rfl (Nat.le_of_ble_eq_true rfl) dX11_sizeSum_51 (fun r8 M8 hw hM8 => ?_)
      refine p_aload_n (pc := 54) cx dX11_sizeSum_54 rfl 0 rfl ?_
      refine p_iload_n (pc := 55) cx dX11_sizeSum_55 rfl 3 rfl ?_
      refine p_iload (pc := 56) cx dX11_sizeSum_56 7 rfl ?_
      refine p_callVi (pc := 58) [.int v3, .int v7] cx (c_X11_get cx.2.2.2.2.2.2 hM8 hv0 hw) cf_X11_get cv_X11_get t5_8 hv0 ⟨by decide, rfl, rfl⟩ ⟨rfl, rfl⟩ ⟨Nat.le_of_ble_eq_true rfl, Nat.le_of_ble_eq_true rfl⟩ rfl rfl (Nat.le_of_ble_eq_true rfl) dX11_sizeSum_58 (fun r9 M9 hw hM9 => ?_)
      refine p_iadd (pc := 61) cx dX11_sizeSum_61 ?_
      refine p_iadd (pc := 62) cx dX11_sizeSum_62 ?_
      refine p_topi (fun x6_10 ex6_10 => ?_)
      have hw := hw x6_10 ex6_10
      refine p_istore (pc := 63) (lv' := [(0, .ref v0), (1, .int v1), (2, .int v2), (3, .int v3), (4, .int v4), (5, .int v5), (6, .int x6_10), (7, .int v7)]) cx dX11_sizeSum_63 (by decide) [1, 2, 3, 4, 5, 6, 0, 7] rfl ?_
      refine p_aload_n (pc := 65) cx dX11_sizeSum_65 rfl 0 rfl ?_
      refine gf_10_0 (pc := 66) cx hv0 t4_161 dX11_sizeSum_66 ?_
      have hr_11 : Is G 12 (mR M9 v0 0) := TYR.at hM9 hv0 0 12 rfl (by decide)
      refine p_sipush (pc := 69) (v := 260) cx dX11_sizeSum_69 (by decide) ?_
      refine p_iload_n (pc := 72) cx dX11_sizeSum_72 rfl 1 rfl ?_
      refine p_imul (pc := 73) cx dX11_sizeSum_73 ?_
      refine p_iload (pc := 74) cx dX11_sizeSum_74 7 rfl ?_
      refine p_iadd (pc := 76) cx dX11_sizeSum_76 ?_
      refine p_iload (pc := 77) cx dX11_sizeSum_77 6 rfl ?_
      refine p_ldc (pc := 79) cx dX11_sizeSum_79 t4_207 ?_
      refine p_iand (pc := 81) cx dX11_sizeSum_81 ?_
      refine p_iast (pc := 82) cx hr_11 hw.1 dX11_sizeSum_82 ?_
      have hw := hw.2
      refine p_mem (fun M12 eM12 => ?_)
      have hw := hw M12 eM12
      have hM12 : TYR G M12.2.2.1 := by rw [eM12]; exact hM9
      refine p_iload (pc := 83) cx dX11_sizeSum_83 6 rfl ?_
      refine p_bipush (pc := 85) (v := 16) cx dX11_sizeSum_85 (by decide) ?_
      refine p_ishr (pc := 87) cx dX11_sizeSum_87 ?_
      refine p_topi (fun x6_13 ex6_13 => ?_)
      have hw := hw x6_13 ex6_13
      refine p_istore (pc := 88) (lv' := [(0, .ref v0), (1, .int v1), (2, .int v2), (3, .int v3), (4, .int v4), (5, .int v5), (6, .int x6_13), (7, .int v7)]) cx dX11_sizeSum_88 (by decide) [1, 2, 3, 4, 5, 6, 0, 7] rfl ?_
      obtain ⟨x7_14, ex7_14⟩ : ∃ y : Int32, y = v7 + 1 := ⟨_, rfl⟩
      have hw := hw x7_14 ex7_14
      refine p_iinc (pc := 90) (v := x7_14) (lv' := [(0, .ref v0), (1, .int v1), (2, .int v2), (3, .int v3), (4, .int v4), (5, .int v5), (6, .int x6_13), (7, .int x7_14)]) cx dX11_sizeSum_90 7 rfl (by rw [ex7_14]; rfl) (by decide) [1, 2, 3, 4, 5, 6, 7, 0] rfl ?_
      refine p_goto (pc := 93) (tgt := 38) cx dX11_sizeSum_93 (by decide) ?_
      exact ih v0 v1 v2 v3 v4 v5 x6_13 x7_14 M12 hM12 hv0 hw
set_option maxHeartbeats 4000000 in
set_option maxRecDepth 100000 in
theorem c_X11_sizeSum {l : Launch} {D : va_G} {G : SH} (hND : ND G) {a0 : Nat} {a1 : Int32} {a2 : Int32} {a3 : Int32} {a4 : Int32} {M : MS} {Qp : MS → Prop} (hT : TYR G M.2.2.1) (ha0 : Is G 10 a0) (hw : w_X11_sizeSum G a0 a1 a2 a3 a4 M Qp) : MeV l D G yX11_sizeSum (Cond.code yX11_sizeSum cX11_sizeSum 8 none :: GW) rm_X11_sizeSum [.ref a0, .int a1, .int a2, .int a3, .int a4] M Qp := by
  unfold MeV
  refine p_method (by decide) rfl (Nat.le_of_ble_eq_true rfl) hND ?_
  intro p e s m args below meth c cx hr hlk
  have cx : CX p s m args c D G cX11_sizeSum 8 RX11 := cx
  unfold w_X11_sizeSum at hw
  refine p_aload_n (pc := 0) cx dX11_sizeSum_0 rfl 0 rfl ?_
  refine gf_10_1 (pc := 1) cx ha0 t4_162 dX11_sizeSum_1 ?_
  have hr_1 : Is G 12 (mR M a0 1) := TYR.at hT ha0 1 12 rfl (by decide)
  refine p_iload_n (pc := 4) cx dX11_sizeSum_4 rfl 2 rfl ?_
  refine p_iald (pc := 5) cx hr_1 hw.1 dX11_sizeSum_5 ?_
  have hw := hw.2
  refine p_aload_n (pc := 6) cx dX11_sizeSum_6 rfl 0 rfl ?_
  refine gf_10_1 (pc := 7) cx ha0 t4_162 dX11_sizeSum_7 ?_
  have hr_2 : Is G 12 (mR M a0 1) := TYR.at hT ha0 1 12 rfl (by decide)
  refine p_iload_n (pc := 10) cx dX11_sizeSum_10 rfl 3 rfl ?_
  refine p_iald (pc := 11) cx hr_2 hw.1 dX11_sizeSum_11 ?_
  have hw := hw.2
  refine p_icmp_le (pc := 12) (tgt := 24) cx dX11_sizeSum_12 (by decide) (fun hc => ?_) (fun hc => ?_)
  · have hw := hw.1 hc
    refine p_aload_n (pc := 24) cx dX11_sizeSum_24 rfl 0 rfl ?_
    refine gf_10_1 (pc := 25) cx ha0 t4_162 dX11_sizeSum_25 ?_
    have hr_3 : Is G 12 (mR M a0 1) := TYR.at hT ha0 1 12 rfl (by decide)
    refine p_iload_n (pc := 28) cx dX11_sizeSum_28 rfl 3 rfl ?_
    refine p_iald (pc := 29) cx hr_3 hw.1 dX11_sizeSum_29 ?_
    have hw := hw.2
    refine p_topi (fun x5_4 ex5_4 => ?_)
    have hw := hw x5_4 ex5_4
    refine p_istore (pc := 30) (lv' := [(0, .ref a0), (1, .int a1), (2, .int a2), (3, .int a3), (4, .int a4), (5, .int x5_4)]) cx dX11_sizeSum_30 (by decide) [1, 2, 3, 4, 5, 0] rfl ?_
    refine p_iconst (pc := 32) (v := 0) cx dX11_sizeSum_32 (by decide) ?_
    refine p_istore (pc := 33) (lv' := [(0, .ref a0), (1, .int a1), (2, .int a2), (3, .int a3), (4, .int a4), (5, .int x5_4), (6, .int (0 : Int32))]) cx dX11_sizeSum_33 (by decide) [1, 2, 3, 4, 5, 6, 0] rfl ?_
    refine p_iconst (pc := 35) (v := 0) cx dX11_sizeSum_35 (by decide) ?_
    refine p_istore (pc := 36) (lv' := [(0, .ref a0), (1, .int a1), (2, .int a2), (3, .int a3), (4, .int a4), (5, .int x5_4), (6, .int (0 : Int32)), (7, .int (0 : Int32))]) cx dX11_sizeSum_36 (by decide) [1, 2, 3, 4, 5, 6, 7, 0] rfl ?_
    obtain ⟨n1, hw⟩ := hw
    exact x_X11_sizeSum_38 cx hr hlk n1 a0 a1 a2 a3 a4 x5_4 0 0 M hT ha0 hw
  · have hw := hw.2 hc
    refine p_aload_n (pc := 15) cx dX11_sizeSum_15 rfl 0 rfl ?_
    refine gf_10_1 (pc := 16) cx ha0 t4_162 dX11_sizeSum_16 ?_
    have hr_15 : Is G 12 (mR M a0 1) := TYR.at hT ha0 1 12 rfl (by decide)
    refine p_iload_n (pc := 19) cx dX11_sizeSum_19 rfl 2 rfl ?_
    refine p_iald (pc := 20) cx hr_15 hw.1 dX11_sizeSum_20 ?_
    have hw := hw.2
    refine p_goto (pc := 21) (tgt := 30) cx dX11_sizeSum_21 (by decide) ?_
    refine p_topi (fun x5_16 ex5_16 => ?_)
    have hw := hw x5_16 ex5_16
    refine p_istore (pc := 30) (lv' := [(0, .ref a0), (1, .int a1), (2, .int a2), (3, .int a3), (4, .int a4), (5, .int x5_16)]) cx dX11_sizeSum_30 (by decide) [1, 2, 3, 4, 5, 0] rfl ?_
    refine p_iconst (pc := 32) (v := 0) cx dX11_sizeSum_32 (by decide) ?_
    refine p_istore (pc := 33) (lv' := [(0, .ref a0), (1, .int a1), (2, .int a2), (3, .int a3), (4, .int a4), (5, .int x5_16), (6, .int (0 : Int32))]) cx dX11_sizeSum_33 (by decide) [1, 2, 3, 4, 5, 6, 0] rfl ?_
    refine p_iconst (pc := 35) (v := 0) cx dX11_sizeSum_35 (by decide) ?_
    refine p_istore (pc := 36) (lv' := [(0, .ref a0), (1, .int a1), (2, .int a2), (3, .int a3), (4, .int a4), (5, .int x5_16), (6, .int (0 : Int32)), (7, .int (0 : Int32))]) cx dX11_sizeSum_36 (by decide) [1, 2, 3, 4, 5, 6, 7, 0] rfl ?_
    obtain ⟨n1, hw⟩ := hw
    exact x_X11_sizeSum_38 cx hr hlk n1 a0 a1 a2 a3 a4 x5_16 0 0 M hT ha0 hw
set_option maxHeartbeats 4000000 in
set_option maxRecDepth 100000 in
theorem x_X11_sizeLess_51 {p : Program} {l : Launch} {e : Env} {s : State} {m : MethodId} {args : Array Value} {below : List Frame} {meth : Method} {c : Code} {D : va_G} {G : SH} {Qp : MS → Prop} {K14 : Nat → Int32 → Int32 → Int32 → Int32 → Int32 → Int32 → Int32 → MS → Prop} (cx : CX p s m args c D G cX11_sizeLess 9 RX11) (hr : meth.sig.returnType = none) (hlk : meth.locks = false) (hK14 : ∀ (v0 : Nat) (v1 : Int32) (v2 : Int32) (v3 : Int32) (v4 : Int32) (v5 : Int32) (v6 : Int32) (v7 : Int32) (M : MS), TYR G M.2.2.1 → Is G 10 v0 → K14 v0 v1 v2 v3 v4 v5 v6 v7 M → PW p l e rm_X11_sizeLess s m args below meth c D G 9 (MQ below (va_Qv Qp (POST D G) (AG G)) args s 0 0 (AG G)) 14 [(0, .ref v0), (1, .int v1), (2, .int v2), (3, .int v3), (4, .int v4), (5, .int v5), (6, .int v6), (7, .int v7)] [] M) (v0 : Nat) (v1 : Int32) (v2 : Int32) (v3 : Int32) (v4 : Int32) (v5 : Int32) (v7 : Int32) (v8 : Int32) (s0 : Int32) (M : MS) (hT : TYR G M.2.2.1) (hv0 : Is G 10 v0) (hw : w_X11_sizeLess_51 G K14 Qp v0 v1 v2 v3 v4 v5 v7 v8 s0 M) : PW p l e rm_X11_sizeLess s m args below meth c D G 9 (MQ below (va_Qv Qp (POST D G) (AG G)) args s 0 0 (AG G)) 51 [(0, .ref v0), (1, .int v1), (2, .int v2), (3, .int v3), (4, .int v4), (5, .int v5), (7, .int v7), (8, .int v8)] [.int s0] M := by
  unfold w_X11_sizeLess_51 at hw
  refine p_istore (pc := 51) (lv' := [(0, .ref v0), (1, .int v1), (2, .int v2), (3, .int v3), (4, .int v4), (5, .int v5), (6, .int s0), (7, .int v7), (8, .int v8)]) cx dX11_sizeLess_51 (by decide) [1, 2, 3, 4, 5, 6, 0, 7, 8] rfl ?_
  refine p_aload_n (pc := 53) cx dX11_sizeLess_53 rfl 0 rfl ?_
  refine gf_10_0 (pc := 54) cx hv0 t4_161 dX11_sizeLess_54 ?_
  have hr_7 : Is G 12 (mR M v0 0) := TYR.at hT hv0 0 12 rfl (by decide)
  refine p_sipush (pc := 57) (v := 260) cx dX11_sizeLess_57 (by decide) ?_
  refine p_iload_n (pc := 60) cx dX11_sizeLess_60 rfl 1 rfl ?_
  refine p_imul (pc := 61) cx dX11_sizeLess_61 ?_
  refine p_iload (pc := 62) cx dX11_sizeLess_62 7 rfl ?_
  refine p_iadd (pc := 64) cx dX11_sizeLess_64 ?_
  refine p_iload (pc := 65) cx dX11_sizeLess_65 8 rfl ?_
  refine p_ldc (pc := 67) cx dX11_sizeLess_67 t4_207 ?_
  refine p_iand (pc := 69) cx dX11_sizeLess_69 ?_
  refine p_iast (pc := 70) cx hr_7 hw.1 dX11_sizeLess_70 ?_
  have hw := hw.2
  refine p_mem (fun M8 eM8 => ?_)
  have hw := hw M8 eM8
  have hM8 : TYR G M8.2.2.1 := by rw [eM8]; exact hT
  obtain ⟨x7_9, ex7_9⟩ : ∃ y : Int32, y = v7 + 1 := ⟨_, rfl⟩
  have hw := hw x7_9 ex7_9
  refine p_iinc (pc := 71) (v := x7_9) (lv' := [(0, .ref v0), (1, .int v1), (2, .int v2), (3, .int v3), (4, .int v4), (5, .int v5), (6, .int s0), (7, .int x7_9)]) cx dX11_sizeLess_71 7 rfl (by rw [ex7_9]; rfl) (by decide) [1, 2, 3, 4, 5, 6, 7, 0] rfl ?_
  refine p_goto (pc := 74) (tgt := 14) cx dX11_sizeLess_74 (by decide) ?_
  exact hK14 v0 v1 v2 v3 v4 v5 s0 x7_9 M8 hM8 hv0 hw
set_option maxHeartbeats 4000000 in
set_option maxRecDepth 100000 in
theorem x_X11_sizeLess_14 {p : Program} {l : Launch} {e : Env} {s : State} {m : MethodId} {args : Array Value} {below : List Frame} {meth : Method} {c : Code} {D : va_G} {G : SH} {Qp : MS → Prop}  (cx : CX p s m args c D G cX11_sizeLess 9 RX11) (hr : meth.sig.returnType = none) (hlk : meth.locks = false)  : ∀ (n : Nat) (v0 : Nat) (v1 : Int32) (v2 : Int32) (v3 : Int32) (v4 : Int32) (v5 : Int32) (v6 : Int32) (v7 : Int32) (M : MS), TYR G M.2.2.1 → Is G 10 v0 → w_X11_sizeLess_14 G Qp n v0 v1 v2 v3 v4 v5 v6 v7 M → PW p l e rm_X11_sizeLess s m args below meth c D G 9 (MQ below (va_Qv Qp (POST D G) (AG G)) args s 0 0 (AG G)) 14 [(0, .ref v0), (1, .int v1), (2, .int v2), (3, .int v3), (4, .int v4), (5, .int v5), (6, .int v6), (7, .int v7)] [] M := by
  intro n
  induction n with
  | zero =>
    intro v0 v1 v2 v3 v4 v5 v6 v7 M hT hv0 hw
    exact hw.elim
  | succ n ih =>
    intro v0 v1 v2 v3 v4 v5 v6 v7 M hT hv0 hw
    rw [w_X11_sizeLess_14] at hw
    refine p_iload (pc := 14) cx dX11_sizeLess_14 7 rfl ?_
    refine p_iload (pc := 16) cx dX11_sizeLess_16 5 rfl ?_
    refine p_icmp_ge (pc := 18) (tgt := 77) cx dX11_sizeLess_18 (by decide) (fun hc => ?_) (fun hc => ?_)
    · have hw := hw.1 hc
      refine p_aload_n (pc := 77) cx dX11_sizeLess_77 rfl 0 rfl ?_
      refine p_iload_n (pc := 78) cx dX11_sizeLess_78 rfl 1 rfl ?_
      refine p_iload (pc := 79) cx dX11_sizeLess_79 5 rfl ?_
      refine p_iload (pc := 81) cx dX11_sizeLess_81 4 rfl ?_
      refine p_callVv (pc := 83) [.int v1, .int v5, .int v4] cx (c_X11_trim cx.2.2.2.2.2.2 hT hv0 hw) cf_X11_trim cv_X11_trim t4_208 hv0 ⟨by decide, rfl, rfl⟩ ⟨rfl, rfl⟩ ⟨Nat.le_of_ble_eq_true rfl, Nat.le_of_ble_eq_true rfl⟩ rfl rfl (Nat.le_of_ble_eq_true rfl) dX11_sizeLess_83 (fun M3 hw hM3 => ?_)
      exact p_vret (pc := 86) cx hr hlk dX11_sizeLess_86 hM3 hw
    · have hw := hw.2 hc
      refine p_aload_n (pc := 21) cx dX11_sizeLess_21 rfl 0 rfl ?_
      refine p_iload_n (pc := 22) cx dX11_sizeLess_22 rfl 2 rfl ?_
      refine p_iload (pc := 23) cx dX11_sizeLess_23 7 rfl ?_
      refine p_callVi (pc := 25) [.int v2, .int v7] cx (c_X11_get cx.2.2.2.2.2.2 hT hv0 hw) cf_X11_get cv_X11_get t5_8 hv0 ⟨by decide, rfl, rfl⟩ ⟨rfl, rfl⟩ ⟨Nat.le_of_ble_eq_true rfl, Nat.le_of_ble_eq_true rfl⟩ rfl rfl (Nat.le_of_ble_eq_true rfl) dX11_sizeLess_25 (fun r4 M4 hw hM4 => ?_)
      refine p_aload_n (pc := 28) cx dX11_sizeLess_28 rfl 0 rfl ?_
      refine p_iload_n (pc := 29) cx dX11_sizeLess_29 rfl 3 rfl ?_
      refine p_iload (pc := 30) cx dX11_sizeLess_30 7 rfl ?_
      refine p_callVi (pc := 32) [.int v3, .int v7] cx (c_X11_get cx.2.2.2.2.2.2 hM4 hv0 hw) cf_X11_get cv_X11_get t5_8 hv0 ⟨by decide, rfl, rfl⟩ ⟨rfl, rfl⟩ ⟨Nat.le_of_ble_eq_true rfl, Nat.le_of_ble_eq_true rfl⟩ rfl rfl (Nat.le_of_ble_eq_true rfl) dX11_sizeLess_32 (fun r5 M5 hw hM5 => ?_)
      refine p_isub (pc := 35) cx dX11_sizeLess_35 ?_
      refine p_iload (pc := 36) cx dX11_sizeLess_36 6 rfl ?_
      refine p_isub (pc := 38) cx dX11_sizeLess_38 ?_
      refine p_topi (fun x8_6 ex8_6 => ?_)
      have hw := hw x8_6 ex8_6
      refine p_istore (pc := 39) (lv' := [(0, .ref v0), (1, .int v1), (2, .int v2), (3, .int v3), (4, .int v4), (5, .int v5), (7, .int v7), (8, .int x8_6)]) cx dX11_sizeLess_39 (by decide) [1, 2, 3, 4, 5, 6, 8, 0] rfl ?_
      refine p_iload (pc := 41) cx dX11_sizeLess_41 7 rfl ?_
      refine p_if_ge (pc := 43) (tgt := 50) cx dX11_sizeLess_43 (by decide) (fun hc => ?_) (fun hc => ?_)
      · have hw := hw.1 hc
        refine p_iconst (pc := 50) (v := 0) cx dX11_sizeLess_50 (by decide) ?_
        exact x_X11_sizeLess_51 cx hr hlk ih v0 v1 v2 v3 v4 v5 v7 x8_6 0 M5 hM5 hv0 hw
      · have hw := hw.2 hc
        refine p_iconst (pc := 46) (v := 1) cx dX11_sizeLess_46 (by decide) ?_
        refine p_goto (pc := 47) (tgt := 51) cx dX11_sizeLess_47 (by decide) ?_
        exact x_X11_sizeLess_51 cx hr hlk ih v0 v1 v2 v3 v4 v5 v7 x8_6 1 M5 hM5 hv0 hw
set_option maxHeartbeats 4000000 in
set_option maxRecDepth 100000 in
theorem c_X11_sizeLess {l : Launch} {D : va_G} {G : SH} (hND : ND G) {a0 : Nat} {a1 : Int32} {a2 : Int32} {a3 : Int32} {a4 : Int32} {M : MS} {Qp : MS → Prop} (hT : TYR G M.2.2.1) (ha0 : Is G 10 a0) (hw : w_X11_sizeLess G a0 a1 a2 a3 a4 M Qp) : MeV l D G yX11_sizeLess (Cond.code yX11_sizeLess cX11_sizeLess 9 none :: GW) rm_X11_sizeLess [.ref a0, .int a1, .int a2, .int a3, .int a4] M Qp := by
  unfold MeV
  refine p_method (by decide) rfl (Nat.le_of_ble_eq_true rfl) hND ?_
  intro p e s m args below meth c cx hr hlk
  have cx : CX p s m args c D G cX11_sizeLess 9 RX11 := cx
  unfold w_X11_sizeLess at hw
  refine p_aload_n (pc := 0) cx dX11_sizeLess_0 rfl 0 rfl ?_
  refine gf_10_1 (pc := 1) cx ha0 t4_162 dX11_sizeLess_1 ?_
  have hr_1 : Is G 12 (mR M a0 1) := TYR.at hT ha0 1 12 rfl (by decide)
  refine p_iload_n (pc := 4) cx dX11_sizeLess_4 rfl 2 rfl ?_
  refine p_iald (pc := 5) cx hr_1 hw.1 dX11_sizeLess_5 ?_
  have hw := hw.2
  refine p_topi (fun x5_2 ex5_2 => ?_)
  have hw := hw x5_2 ex5_2
  refine p_istore (pc := 6) (lv' := [(0, .ref a0), (1, .int a1), (2, .int a2), (3, .int a3), (4, .int a4), (5, .int x5_2)]) cx dX11_sizeLess_6 (by decide) [1, 2, 3, 4, 5, 0] rfl ?_
  refine p_iconst (pc := 8) (v := 0) cx dX11_sizeLess_8 (by decide) ?_
  refine p_istore (pc := 9) (lv' := [(0, .ref a0), (1, .int a1), (2, .int a2), (3, .int a3), (4, .int a4), (5, .int x5_2), (6, .int (0 : Int32))]) cx dX11_sizeLess_9 (by decide) [1, 2, 3, 4, 5, 6, 0] rfl ?_
  refine p_iconst (pc := 11) (v := 0) cx dX11_sizeLess_11 (by decide) ?_
  refine p_istore (pc := 12) (lv' := [(0, .ref a0), (1, .int a1), (2, .int a2), (3, .int a3), (4, .int a4), (5, .int x5_2), (6, .int (0 : Int32)), (7, .int (0 : Int32))]) cx dX11_sizeLess_12 (by decide) [1, 2, 3, 4, 5, 6, 7, 0] rfl ?_
  obtain ⟨n1, hw⟩ := hw
  exact x_X11_sizeLess_14 cx hr hlk n1 a0 a1 a2 a3 a4 x5_2 0 0 M hT ha0 hw
set_option maxHeartbeats 4000000 in
set_option maxRecDepth 100000 in
theorem c_X11_sum {l : Launch} {D : va_G} {G : SH} (hND : ND G) {a0 : Nat} {a1 : Int32} {a2 : Int32} {a3 : Int32} {a4 : Int32} {M : MS} {Qp : MS → Prop} (hT : TYR G M.2.2.1) (ha0 : Is G 10 a0) (hw : w_X11_sum G a0 a1 a2 a3 a4 M Qp) : MeV l D G yX11_sum (Cond.code yX11_sum cX11_sum 7 none :: GW) rm_X11_sum [.ref a0, .int a1, .int a2, .int a3, .int a4] M Qp := by
  unfold MeV
  refine p_method (by decide) rfl (Nat.le_of_ble_eq_true rfl) hND ?_
  intro p e s m args below meth c cx hr hlk
  have cx : CX p s m args c D G cX11_sum 7 RX11 := cx
  unfold w_X11_sum at hw
  refine p_aload_n (pc := 0) cx dX11_sum_0 rfl 0 rfl ?_
  refine gf_10_2 (pc := 1) cx ha0 t4_163 dX11_sum_1 ?_
  have hr_1 : Is G 12 (mR M a0 2) := TYR.at hT ha0 2 12 rfl (by decide)
  refine p_iload_n (pc := 4) cx dX11_sum_4 rfl 3 rfl ?_
  refine p_iald (pc := 5) cx hr_1 hw.1 dX11_sum_5 ?_
  have hw := hw.2
  refine p_iload (pc := 6) cx dX11_sum_6 4 rfl ?_
  refine p_imul (pc := 8) cx dX11_sum_8 ?_
  refine p_topi (fun x5_2 ex5_2 => ?_)
  have hw := hw x5_2 ex5_2
  refine p_istore (pc := 9) (lv' := [(0, .ref a0), (1, .int a1), (2, .int a2), (3, .int a3), (5, .int x5_2)]) cx dX11_sum_9 (by decide) [1, 2, 3, 4, 0] rfl ?_
  refine p_iload (pc := 11) cx dX11_sum_11 4 rfl ?_
  refine p_if_ne (pc := 13) (tgt := 25) cx dX11_sum_13 (by decide) (fun hc => ?_) (fun hc => ?_)
  · have hw := hw.1 hc
    refine p_aload_n (pc := 25) cx dX11_sum_25 rfl 0 rfl ?_
    refine gf_10_2 (pc := 26) cx ha0 t4_163 dX11_sum_26 ?_
    have hr_3 : Is G 12 (mR M a0 2) := TYR.at hT ha0 2 12 rfl (by decide)
    refine p_iload_n (pc := 29) cx dX11_sum_29 rfl 2 rfl ?_
    refine p_iald (pc := 30) cx hr_3 hw.1 dX11_sum_30 ?_
    have hw := hw.2
    refine p_if_ne (pc := 31) (tgt := 51) cx dX11_sum_31 (by decide) (fun hc => ?_) (fun hc => ?_)
    · have hw := hw.1 hc
      refine p_aload_n (pc := 51) cx dX11_sum_51 rfl 0 rfl ?_
      refine gf_10_2 (pc := 52) cx ha0 t4_163 dX11_sum_52 ?_
      have hr_4 : Is G 12 (mR M a0 2) := TYR.at hT ha0 2 12 rfl (by decide)
      refine p_iload_n (pc := 55) cx dX11_sum_55 rfl 2 rfl ?_
      refine p_iald (pc := 56) cx hr_4 hw.1 dX11_sum_56 ?_
      have hw := hw.2
      refine p_iload (pc := 57) cx dX11_sum_57 4 rfl ?_
      refine p_icmp_ne (pc := 59) (tgt := 74) cx dX11_sum_59 (by decide) (fun hc => ?_) (fun hc => ?_)
      · have hw := hw.1 hc
        refine p_aload_n (pc := 74) cx dX11_sum_74 rfl 0 rfl ?_
        refine p_iload_n (pc := 75) cx dX11_sum_75 rfl 2 rfl ?_
        refine p_iload_n (pc := 76) cx dX11_sum_76 rfl 3 rfl ?_
        refine p_callVi (pc := 77) [.int a2, .int a3] cx (c_X11_sizes cx.2.2.2.2.2.2 hT ha0 hw) cf_X11_sizes cv_X11_sizes t5_12 ha0 ⟨by decide, rfl, rfl⟩ ⟨rfl, rfl⟩ ⟨Nat.le_of_ble_eq_true rfl, Nat.le_of_ble_eq_true rfl⟩ rfl rfl (Nat.le_of_ble_eq_true rfl) dX11_sum_77 (fun r5 M5 hw hM5 => ?_)
        refine p_istore (pc := 80) (lv' := [(0, .ref a0), (1, .int a1), (2, .int a2), (3, .int a3), (5, .int x5_2), (6, .int r5)]) cx dX11_sum_80 (by decide) [1, 2, 3, 4, 5, 0] rfl ?_
        refine p_iload (pc := 82) cx dX11_sum_82 5 rfl ?_
        refine p_if_ne (pc := 84) (tgt := 96) cx dX11_sum_84 (by decide) (fun hc => ?_) (fun hc => ?_)
        · have hw := hw.1 hc
          refine p_iload (pc := 96) cx dX11_sum_96 5 rfl ?_
          refine p_if_le (pc := 98) (tgt := 117) cx dX11_sum_98 (by decide) (fun hc => ?_) (fun hc => ?_)
          · have hw := hw.1 hc
            refine p_aload_n (pc := 117) cx dX11_sum_117 rfl 0 rfl ?_
            refine p_iload_n (pc := 118) cx dX11_sum_118 rfl 1 rfl ?_
            refine p_iload_n (pc := 119) cx dX11_sum_119 rfl 3 rfl ?_
            refine p_iload_n (pc := 120) cx dX11_sum_120 rfl 2 rfl ?_
            refine p_iload (pc := 121) cx dX11_sum_121 4 rfl ?_
            refine p_callVv (pc := 123) [.int a1, .int a3, .int a2, .int x5_2] cx (c_X11_sizeLess cx.2.2.2.2.2.2 hM5 ha0 hw) cf_X11_sizeLess cv_X11_sizeLess t5_16 ha0 ⟨by decide, rfl, rfl⟩ ⟨rfl, rfl⟩ ⟨Nat.le_of_ble_eq_true rfl, Nat.le_of_ble_eq_true rfl⟩ rfl rfl (Nat.le_of_ble_eq_true rfl) dX11_sum_123 (fun M6 hw hM6 => ?_)
            exact p_vret (pc := 126) cx hr hlk dX11_sum_126 hM6 hw
          · have hw := hw.2 hc
            refine p_aload_n (pc := 101) cx dX11_sum_101 rfl 0 rfl ?_
            refine p_iload_n (pc := 102) cx dX11_sum_102 rfl 1 rfl ?_
            refine p_iload_n (pc := 103) cx dX11_sum_103 rfl 2 rfl ?_
            refine p_iload_n (pc := 104) cx dX11_sum_104 rfl 3 rfl ?_
            refine p_aload_n (pc := 105) cx dX11_sum_105 rfl 0 rfl ?_
            refine gf_10_2 (pc := 106) cx ha0 t4_163 dX11_sum_106 ?_
            have hr_7 : Is G 12 (mR M5 a0 2) := TYR.at hM5 ha0 2 12 rfl (by decide)
            refine p_iload_n (pc := 109) cx dX11_sum_109 rfl 2 rfl ?_
            refine p_iald (pc := 110) cx hr_7 hw.1 dX11_sum_110 ?_
            have hw := hw.2
            refine p_callVv (pc := 111) [.int a1, .int a2, .int a3, .int (mA M5 (mR M5 a0 2) a2.toNatClampNeg)] cx (c_X11_sizeLess cx.2.2.2.2.2.2 hM5 ha0 hw) cf_X11_sizeLess cv_X11_sizeLess t5_16 ha0 ⟨by decide, rfl, rfl⟩ ⟨rfl, rfl⟩ ⟨Nat.le_of_ble_eq_true rfl, Nat.le_of_ble_eq_true rfl⟩ rfl rfl (Nat.le_of_ble_eq_true rfl) dX11_sum_111 (fun M8 hw hM8 => ?_)
            refine p_goto (pc := 114) (tgt := 126) cx dX11_sum_114 (by decide) ?_
            exact p_vret (pc := 126) cx hr hlk dX11_sum_126 hM8 hw
        · have hw := hw.2 hc
          refine p_aload_n (pc := 87) cx dX11_sum_87 rfl 0 rfl ?_
          refine p_iload_n (pc := 88) cx dX11_sum_88 rfl 1 rfl ?_
          refine p_iconst (pc := 89) (v := 0) cx dX11_sum_89 (by decide) ?_
          refine p_callVv (pc := 90) [.int a1, .int (0 : Int32)] cx (c_X11_small cx.2.2.2.2.2.2 hM5 ha0 hw) cf_X11_small cv_X11_small t4_228 ha0 ⟨by decide, rfl, rfl⟩ ⟨rfl, rfl⟩ ⟨Nat.le_of_ble_eq_true rfl, Nat.le_of_ble_eq_true rfl⟩ rfl rfl (Nat.le_of_ble_eq_true rfl) dX11_sum_90 (fun M9 hw hM9 => ?_)
          refine p_goto (pc := 93) (tgt := 126) cx dX11_sum_93 (by decide) ?_
          exact p_vret (pc := 126) cx hr hlk dX11_sum_126 hM9 hw
      · have hw := hw.2 hc
        refine p_aload_n (pc := 62) cx dX11_sum_62 rfl 0 rfl ?_
        refine p_iload_n (pc := 63) cx dX11_sum_63 rfl 1 rfl ?_
        refine p_iload_n (pc := 64) cx dX11_sum_64 rfl 2 rfl ?_
        refine p_iload_n (pc := 65) cx dX11_sum_65 rfl 3 rfl ?_
        refine p_iload (pc := 66) cx dX11_sum_66 4 rfl ?_
        refine p_callVv (pc := 68) [.int a1, .int a2, .int a3, .int x5_2] cx (c_X11_sizeSum cx.2.2.2.2.2.2 hT ha0 hw) cf_X11_sizeSum cv_X11_sizeSum t5_4 ha0 ⟨by decide, rfl, rfl⟩ ⟨rfl, rfl⟩ ⟨Nat.le_of_ble_eq_true rfl, Nat.le_of_ble_eq_true rfl⟩ rfl rfl (Nat.le_of_ble_eq_true rfl) dX11_sum_68 (fun M10 hw hM10 => ?_)
        refine p_goto (pc := 71) (tgt := 126) cx dX11_sum_71 (by decide) ?_
        exact p_vret (pc := 126) cx hr hlk dX11_sum_126 hM10 hw
    · have hw := hw.2 hc
      refine p_aload_n (pc := 34) cx dX11_sum_34 rfl 0 rfl ?_
      refine p_iload_n (pc := 35) cx dX11_sum_35 rfl 1 rfl ?_
      refine p_iload_n (pc := 36) cx dX11_sum_36 rfl 3 rfl ?_
      refine p_callVv (pc := 37) [.int a1, .int a3] cx (c_X11_copy cx.2.2.2.2.2.2 hT ha0 hw) cf_X11_copy cv_X11_copy t4_220 ha0 ⟨by decide, rfl, rfl⟩ ⟨rfl, rfl⟩ ⟨Nat.le_of_ble_eq_true rfl, Nat.le_of_ble_eq_true rfl⟩ rfl rfl (Nat.le_of_ble_eq_true rfl) dX11_sum_37 (fun M11 hw hM11 => ?_)
      refine p_aload_n (pc := 40) cx dX11_sum_40 rfl 0 rfl ?_
      refine gf_10_2 (pc := 41) cx ha0 t4_163 dX11_sum_41 ?_
      have hr_12 : Is G 12 (mR M11 a0 2) := TYR.at hM11 ha0 2 12 rfl (by decide)
      refine p_iload_n (pc := 44) cx dX11_sum_44 rfl 1 rfl ?_
      refine p_iload (pc := 45) cx dX11_sum_45 4 rfl ?_
      refine p_iast (pc := 47) cx hr_12 hw.1 dX11_sum_47 ?_
      have hw := hw.2
      refine p_mem (fun M13 eM13 => ?_)
      have hw := hw M13 eM13
      have hM13 : TYR G M13.2.2.1 := by rw [eM13]; exact hM11
      refine p_goto (pc := 48) (tgt := 126) cx dX11_sum_48 (by decide) ?_
      exact p_vret (pc := 126) cx hr hlk dX11_sum_126 hM13 hw
  · have hw := hw.2 hc
    refine p_aload_n (pc := 16) cx dX11_sum_16 rfl 0 rfl ?_
    refine p_iload_n (pc := 17) cx dX11_sum_17 rfl 1 rfl ?_
    refine p_iload_n (pc := 18) cx dX11_sum_18 rfl 2 rfl ?_
    refine p_callVv (pc := 19) [.int a1, .int a2] cx (c_X11_copy cx.2.2.2.2.2.2 hT ha0 hw) cf_X11_copy cv_X11_copy t4_220 ha0 ⟨by decide, rfl, rfl⟩ ⟨rfl, rfl⟩ ⟨Nat.le_of_ble_eq_true rfl, Nat.le_of_ble_eq_true rfl⟩ rfl rfl (Nat.le_of_ble_eq_true rfl) dX11_sum_19 (fun M14 hw hM14 => ?_)
    refine p_goto (pc := 22) (tgt := 126) cx dX11_sum_22 (by decide) ?_
    exact p_vret (pc := 126) cx hr hlk dX11_sum_126 hM14 hw
set_option maxHeartbeats 4000000 in
set_option maxRecDepth 100000 in
theorem x_X11_product_65 {p : Program} {l : Launch} {e : Env} {s : State} {m : MethodId} {args : Array Value} {below : List Frame} {meth : Method} {c : Code} {D : va_G} {G : SH} {Qp : MS → Prop} {K48 : Nat → Int32 → Int32 → Int32 → Int32 → Int32 → MS → Prop} (cx : CX p s m args c D G cX11_product 9 RX11) (hr : meth.sig.returnType = none) (hlk : meth.locks = false) (hK48 : ∀ (v0 : Nat) (v1 : Int32) (v2 : Int32) (v3 : Int32) (v4 : Int32) (v5 : Int32) (M : MS), TYR G M.2.2.1 → Is G 10 v0 → K48 v0 v1 v2 v3 v4 v5 M → PW p l e rm_X11_product s m args below meth c D G 9 (MQ below (va_Qv Qp (POST D G) (AG G)) args s 0 0 (AG G)) 48 [(0, .ref v0), (1, .int v1), (2, .int v2), (3, .int v3), (4, .int v4), (5, .int v5)] [] M) : ∀ (n : Nat) (v0 : Nat) (v1 : Int32) (v2 : Int32) (v3 : Int32) (v4 : Int32) (v5 : Int32) (v6 : Int64) (v8 : Int32) (M : MS), TYR G M.2.2.1 → Is G 10 v0 → w_X11_product_65 G K48 Qp n v0 v1 v2 v3 v4 v5 v6 v8 M → PW p l e rm_X11_product s m args below meth c D G 9 (MQ below (va_Qv Qp (POST D G) (AG G)) args s 0 0 (AG G)) 65 [(0, .ref v0), (1, .int v1), (2, .int v2), (3, .int v3), (4, .int v4), (5, .int v5), (6, .long v6), (8, .int v8)] [] M := by
  intro n
  induction n with
  | zero =>
    intro v0 v1 v2 v3 v4 v5 v6 v8 M hT hv0 hw
    exact hw.elim
  | succ n ih =>
    intro v0 v1 v2 v3 v4 v5 v6 v8 M hT hv0 hw
    rw [w_X11_product_65] at hw
    refine p_iload (pc := 65) cx dX11_product_65 7 rfl ?_
    refine p_aload_n (pc := 67) cx dX11_product_67 rfl 0 rfl ?_
    refine gf_10_1 (pc := 68) cx hv0 t4_162 dX11_product_68 ?_
    have hr_8 : Is G 12 (mR M v0 1) := TYR.at hT hv0 1 12 rfl (by decide)
    refine p_iload_n (pc := 71) cx dX11_product_71 rfl 3 rfl ?_
    refine p_iald (pc := 72) cx hr_8 hw.1 dX11_product_72 ?_
    have hw := hw.2
    refine p_icmp_ge (pc := 73) (tgt := 164) cx dX11_product_73 (by decide) (fun hc => ?_) (fun hc => ?_)
    · have hw := hw.1 hc
      refine p_aload_n (pc := 164) cx dX11_product_164 rfl 0 rfl ?_
      refine gf_10_0 (pc := 165) cx hv0 t4_161 dX11_product_165 ?_
      have hr_9 : Is G 12 (mR M v0 0) := TYR.at hT hv0 0 12 rfl (by decide)
      refine p_sipush (pc := 168) (v := 260) cx dX11_product_168 (by decide) ?_
      refine p_iload_n (pc := 171) cx dX11_product_171 rfl 1 rfl ?_
      refine p_imul (pc := 172) cx dX11_product_172 ?_
      refine p_iload (pc := 173) cx dX11_product_173 5 rfl ?_
      refine p_iadd (pc := 175) cx dX11_product_175 ?_
      refine p_aload_n (pc := 176) cx dX11_product_176 rfl 0 rfl ?_
      refine gf_10_1 (pc := 177) cx hv0 t4_162 dX11_product_177 ?_
      have hr_10 : Is G 12 (mR M v0 1) := TYR.at hT hv0 1 12 rfl (by decide)
      refine p_iload_n (pc := 180) cx dX11_product_180 rfl 3 rfl ?_
      refine p_iald (pc := 181) cx hr_10 hw.1 dX11_product_181 ?_
      have hw := hw.2
      refine p_iadd (pc := 182) cx dX11_product_182 ?_
      refine p_lload (pc := 183) cx dX11_product_183 6 rfl ?_
      refine p_l2i (pc := 185) cx dX11_product_185 ?_
      refine p_iast (pc := 186) cx hr_9 hw.1 dX11_product_186 ?_
      have hw := hw.2
      refine p_mem (fun M11 eM11 => ?_)
      have hw := hw M11 eM11
      have hM11 : TYR G M11.2.2.1 := by rw [eM11]; exact hT
      obtain ⟨x5_12, ex5_12⟩ : ∃ y : Int32, y = v5 + 1 := ⟨_, rfl⟩
      have hw := hw x5_12 ex5_12
      refine p_iinc (pc := 187) (v := x5_12) (lv' := [(0, .ref v0), (1, .int v1), (2, .int v2), (3, .int v3), (4, .int v4), (5, .int x5_12)]) cx dX11_product_187 5 rfl (by rw [ex5_12]; rfl) (by decide) [1, 2, 3, 4, 5, 0] rfl ?_
      refine p_goto (pc := 190) (tgt := 48) cx dX11_product_190 (by decide) ?_
      exact hK48 v0 v1 v2 v3 v4 x5_12 M11 hM11 hv0 hw
    · have hw := hw.2 hc
      refine p_lload (pc := 76) cx dX11_product_76 6 rfl ?_
      refine p_aload_n (pc := 78) cx dX11_product_78 rfl 0 rfl ?_
      refine gf_10_0 (pc := 79) cx hv0 t4_161 dX11_product_79 ?_
      have hr_13 : Is G 12 (mR M v0 0) := TYR.at hT hv0 0 12 rfl (by decide)
      refine p_sipush (pc := 82) (v := 260) cx dX11_product_82 (by decide) ?_
      refine p_iload_n (pc := 85) cx dX11_product_85 rfl 2 rfl ?_
      refine p_imul (pc := 86) cx dX11_product_86 ?_
      refine p_iload (pc := 87) cx dX11_product_87 5 rfl ?_
      refine p_iadd (pc := 89) cx dX11_product_89 ?_
      refine p_iald (pc := 90) cx hr_13 hw.1 dX11_product_90 ?_
      have hw := hw.2
      refine p_i2l (pc := 91) cx dX11_product_91 ?_
      refine p_aload_n (pc := 92) cx dX11_product_92 rfl 0 rfl ?_
      refine gf_10_0 (pc := 93) cx hv0 t4_161 dX11_product_93 ?_
      have hr_14 : Is G 12 (mR M v0 0) := TYR.at hT hv0 0 12 rfl (by decide)
      refine p_sipush (pc := 96) (v := 260) cx dX11_product_96 (by decide) ?_
      refine p_iload_n (pc := 99) cx dX11_product_99 rfl 3 rfl ?_
      refine p_imul (pc := 100) cx dX11_product_100 ?_
      refine p_iload (pc := 101) cx dX11_product_101 7 rfl ?_
      refine p_iadd (pc := 103) cx dX11_product_103 ?_
      refine p_iald (pc := 104) cx hr_14 hw.1 dX11_product_104 ?_
      have hw := hw.2
      refine p_i2l (pc := 105) cx dX11_product_105 ?_
      refine p_lmul (pc := 106) cx dX11_product_106 ?_
      refine p_aload_n (pc := 107) cx dX11_product_107 rfl 0 rfl ?_
      refine gf_10_0 (pc := 108) cx hv0 t4_161 dX11_product_108 ?_
      have hr_15 : Is G 12 (mR M v0 0) := TYR.at hT hv0 0 12 rfl (by decide)
      refine p_sipush (pc := 111) (v := 260) cx dX11_product_111 (by decide) ?_
      refine p_iload_n (pc := 114) cx dX11_product_114 rfl 1 rfl ?_
      refine p_imul (pc := 115) cx dX11_product_115 ?_
      refine p_iload (pc := 116) cx dX11_product_116 5 rfl ?_
      refine p_iadd (pc := 118) cx dX11_product_118 ?_
      refine p_iload (pc := 119) cx dX11_product_119 7 rfl ?_
      refine p_iadd (pc := 121) cx dX11_product_121 ?_
      refine p_iald (pc := 122) cx hr_15 hw.1 dX11_product_122 ?_
      have hw := hw.2
      refine p_i2l (pc := 123) cx dX11_product_123 ?_
      refine p_ladd (pc := 124) cx dX11_product_124 ?_
      refine p_ladd (pc := 125) cx dX11_product_125 ?_
      refine p_topl (fun x6_16 ex6_16 => ?_)
      have hw := hw x6_16 ex6_16
      refine p_lstore (pc := 126) (lv' := [(0, .ref v0), (1, .int v1), (2, .int v2), (3, .int v3), (4, .int v4), (5, .int v5), (6, .long x6_16), (8, .int v8)]) cx dX11_product_126 (by decide) [1, 2, 3, 4, 5, 6, 0, 7] rfl ?_
      refine p_aload_n (pc := 128) cx dX11_product_128 rfl 0 rfl ?_
      refine gf_10_0 (pc := 129) cx hv0 t4_161 dX11_product_129 ?_
      have hr_17 : Is G 12 (mR M v0 0) := TYR.at hT hv0 0 12 rfl (by decide)
      refine p_sipush (pc := 132) (v := 260) cx dX11_product_132 (by decide) ?_
      refine p_iload_n (pc := 135) cx dX11_product_135 rfl 1 rfl ?_
      refine p_imul (pc := 136) cx dX11_product_136 ?_
      refine p_iload (pc := 137) cx dX11_product_137 5 rfl ?_
      refine p_iadd (pc := 139) cx dX11_product_139 ?_
      refine p_iload (pc := 140) cx dX11_product_140 7 rfl ?_
      refine p_iadd (pc := 142) cx dX11_product_142 ?_
      refine p_lload (pc := 143) cx dX11_product_143 6 rfl ?_
      refine p_ldc2 (pc := 145) cx dX11_product_145 t5_32 ?_
      refine p_land (pc := 148) cx dX11_product_148 ?_
      refine p_l2i (pc := 149) cx dX11_product_149 ?_
      refine p_iast (pc := 150) cx hr_17 hw.1 dX11_product_150 ?_
      have hw := hw.2
      refine p_mem (fun M18 eM18 => ?_)
      have hw := hw M18 eM18
      have hM18 : TYR G M18.2.2.1 := by rw [eM18]; exact hT
      refine p_lload (pc := 151) cx dX11_product_151 6 rfl ?_
      refine p_bipush (pc := 153) (v := 16) cx dX11_product_153 (by decide) ?_
      refine p_lshr (pc := 155) cx dX11_product_155 ?_
      refine p_topl (fun x6_19 ex6_19 => ?_)
      have hw := hw x6_19 ex6_19
      refine p_lstore (pc := 156) (lv' := [(0, .ref v0), (1, .int v1), (2, .int v2), (3, .int v3), (4, .int v4), (5, .int v5), (6, .long x6_19), (8, .int v8)]) cx dX11_product_156 (by decide) [1, 2, 3, 4, 5, 6, 0, 7] rfl ?_
      obtain ⟨x8_20, ex8_20⟩ : ∃ y : Int32, y = v8 + 1 := ⟨_, rfl⟩
      have hw := hw x8_20 ex8_20
      refine p_iinc (pc := 158) (v := x8_20) (lv' := [(0, .ref v0), (1, .int v1), (2, .int v2), (3, .int v3), (4, .int v4), (5, .int v5), (6, .long x6_19), (8, .int x8_20)]) cx dX11_product_158 7 rfl (by rw [ex8_20]; rfl) (by decide) [1, 2, 3, 4, 5, 6, 7, 0] rfl ?_
      refine p_goto (pc := 161) (tgt := 65) cx dX11_product_161 (by decide) ?_
      exact ih v0 v1 v2 v3 v4 v5 x6_19 x8_20 M18 hM18 hv0 hw
set_option maxHeartbeats 4000000 in
set_option maxRecDepth 100000 in
theorem x_X11_product_48 {p : Program} {l : Launch} {e : Env} {s : State} {m : MethodId} {args : Array Value} {below : List Frame} {meth : Method} {c : Code} {D : va_G} {G : SH} {Qp : MS → Prop}  (cx : CX p s m args c D G cX11_product 9 RX11) (hr : meth.sig.returnType = none) (hlk : meth.locks = false)  : ∀ (n : Nat) (v0 : Nat) (v1 : Int32) (v2 : Int32) (v3 : Int32) (v4 : Int32) (v5 : Int32) (M : MS), TYR G M.2.2.1 → Is G 10 v0 → w_X11_product_48 G Qp n v0 v1 v2 v3 v4 v5 M → PW p l e rm_X11_product s m args below meth c D G 9 (MQ below (va_Qv Qp (POST D G) (AG G)) args s 0 0 (AG G)) 48 [(0, .ref v0), (1, .int v1), (2, .int v2), (3, .int v3), (4, .int v4), (5, .int v5)] [] M := by
  intro n
  induction n with
  | zero =>
    intro v0 v1 v2 v3 v4 v5 M hT hv0 hw
    exact hw.elim
  | succ n ih =>
    intro v0 v1 v2 v3 v4 v5 M hT hv0 hw
    rw [w_X11_product_48] at hw
    refine p_iload (pc := 48) cx dX11_product_48 5 rfl ?_
    refine p_aload_n (pc := 50) cx dX11_product_50 rfl 0 rfl ?_
    refine gf_10_1 (pc := 51) cx hv0 t4_162 dX11_product_51 ?_
    have hr_4 : Is G 12 (mR M v0 1) := TYR.at hT hv0 1 12 rfl (by decide)
    refine p_iload_n (pc := 54) cx dX11_product_54 rfl 2 rfl ?_
    refine p_iald (pc := 55) cx hr_4 hw.1 dX11_product_55 ?_
    have hw := hw.2
    refine p_icmp_ge (pc := 56) (tgt := 193) cx dX11_product_56 (by decide) (fun hc => ?_) (fun hc => ?_)
    · have hw := hw.1 hc
      refine p_aload_n (pc := 193) cx dX11_product_193 rfl 0 rfl ?_
      refine p_iload_n (pc := 194) cx dX11_product_194 rfl 1 rfl ?_
      refine p_iload (pc := 195) cx dX11_product_195 4 rfl ?_
      refine p_aload_n (pc := 197) cx dX11_product_197 rfl 0 rfl ?_
      refine gf_10_2 (pc := 198) cx hv0 t4_163 dX11_product_198 ?_
      have hr_5 : Is G 12 (mR M v0 2) := TYR.at hT hv0 2 12 rfl (by decide)
      refine p_iload_n (pc := 201) cx dX11_product_201 rfl 2 rfl ?_
      refine p_iald (pc := 202) cx hr_5 hw.1 dX11_product_202 ?_
      have hw := hw.2
      refine p_aload_n (pc := 203) cx dX11_product_203 rfl 0 rfl ?_
      refine gf_10_2 (pc := 204) cx hv0 t4_163 dX11_product_204 ?_
      have hr_6 : Is G 12 (mR M v0 2) := TYR.at hT hv0 2 12 rfl (by decide)
      refine p_iload_n (pc := 207) cx dX11_product_207 rfl 3 rfl ?_
      refine p_iald (pc := 208) cx hr_6 hw.1 dX11_product_208 ?_
      have hw := hw.2
      refine p_imul (pc := 209) cx dX11_product_209 ?_
      refine p_callVv (pc := 210) [.int v1, .int v4, .int ((mA M (mR M v0 2) v2.toNatClampNeg) * (mA M (mR M v0 2) v3.toNatClampNeg))] cx (c_X11_trim cx.2.2.2.2.2.2 hT hv0 hw) cf_X11_trim cv_X11_trim t4_208 hv0 ⟨by decide, rfl, rfl⟩ ⟨rfl, rfl⟩ ⟨Nat.le_of_ble_eq_true rfl, Nat.le_of_ble_eq_true rfl⟩ rfl rfl (Nat.le_of_ble_eq_true rfl) dX11_product_210 (fun M7 hw hM7 => ?_)
      exact p_vret (pc := 213) cx hr hlk dX11_product_213 hM7 hw
    · have hw := hw.2 hc
      refine p_lconst (pc := 59) (v := 0) cx dX11_product_59 (by decide) ?_
      refine p_lstore (pc := 60) (lv' := [(0, .ref v0), (1, .int v1), (2, .int v2), (3, .int v3), (4, .int v4), (5, .int v5), (6, .long (0 : Int64))]) cx dX11_product_60 (by decide) [1, 2, 3, 4, 5, 6, 0] rfl ?_
      refine p_iconst (pc := 62) (v := 0) cx dX11_product_62 (by decide) ?_
      refine p_istore (pc := 63) (lv' := [(0, .ref v0), (1, .int v1), (2, .int v2), (3, .int v3), (4, .int v4), (5, .int v5), (6, .long (0 : Int64)), (8, .int (0 : Int32))]) cx dX11_product_63 (by decide) [1, 2, 3, 4, 5, 6, 7, 0] rfl ?_
      obtain ⟨n1, hw⟩ := hw
      exact x_X11_product_65 cx hr hlk ih n1 v0 v1 v2 v3 v4 v5 0 0 M hT hv0 hw
set_option maxHeartbeats 4000000 in
set_option maxRecDepth 100000 in
theorem x_X11_product_18 {p : Program} {l : Launch} {e : Env} {s : State} {m : MethodId} {args : Array Value} {below : List Frame} {meth : Method} {c : Code} {D : va_G} {G : SH} {Qp : MS → Prop}  (cx : CX p s m args c D G cX11_product 9 RX11) (hr : meth.sig.returnType = none) (hlk : meth.locks = false)  : ∀ (n : Nat) (v0 : Nat) (v1 : Int32) (v2 : Int32) (v3 : Int32) (v4 : Int32) (v5 : Int32) (M : MS), TYR G M.2.2.1 → Is G 10 v0 → w_X11_product_18 G Qp n v0 v1 v2 v3 v4 v5 M → PW p l e rm_X11_product s m args below meth c D G 9 (MQ below (va_Qv Qp (POST D G) (AG G)) args s 0 0 (AG G)) 18 [(0, .ref v0), (1, .int v1), (2, .int v2), (3, .int v3), (4, .int v4), (5, .int v5)] [] M := by
  intro n
  induction n with
  | zero =>
    intro v0 v1 v2 v3 v4 v5 M hT hv0 hw
    exact hw.elim
  | succ n ih =>
    intro v0 v1 v2 v3 v4 v5 M hT hv0 hw
    rw [w_X11_product_18] at hw
    refine p_iload (pc := 18) cx dX11_product_18 5 rfl ?_
    refine p_iload (pc := 20) cx dX11_product_20 4 rfl ?_
    refine p_icmp_ge (pc := 22) (tgt := 45) cx dX11_product_22 (by decide) (fun hc => ?_) (fun hc => ?_)
    · have hw := hw.1 hc
      refine p_iconst (pc := 45) (v := 0) cx dX11_product_45 (by decide) ?_
      refine p_istore (pc := 46) (lv' := [(0, .ref v0), (1, .int v1), (2, .int v2), (3, .int v3), (4, .int v4), (5, .int (0 : Int32))]) cx dX11_product_46 (by decide) [1, 2, 3, 4, 5, 0] rfl ?_
      obtain ⟨n1, hw⟩ := hw
      exact x_X11_product_48 cx hr hlk n1 v0 v1 v2 v3 v4 0 M hT hv0 hw
    · have hw := hw.2 hc
      refine p_aload_n (pc := 25) cx dX11_product_25 rfl 0 rfl ?_
      refine gf_10_0 (pc := 26) cx hv0 t4_161 dX11_product_26 ?_
      have hr_21 : Is G 12 (mR M v0 0) := TYR.at hT hv0 0 12 rfl (by decide)
      refine p_sipush (pc := 29) (v := 260) cx dX11_product_29 (by decide) ?_
      refine p_iload_n (pc := 32) cx dX11_product_32 rfl 1 rfl ?_
      refine p_imul (pc := 33) cx dX11_product_33 ?_
      refine p_iload (pc := 34) cx dX11_product_34 5 rfl ?_
      refine p_iadd (pc := 36) cx dX11_product_36 ?_
      refine p_iconst (pc := 37) (v := 0) cx dX11_product_37 (by decide) ?_
      refine p_iast (pc := 38) cx hr_21 hw.1 dX11_product_38 ?_
      have hw := hw.2
      refine p_mem (fun M22 eM22 => ?_)
      have hw := hw M22 eM22
      have hM22 : TYR G M22.2.2.1 := by rw [eM22]; exact hT
      obtain ⟨x5_23, ex5_23⟩ : ∃ y : Int32, y = v5 + 1 := ⟨_, rfl⟩
      have hw := hw x5_23 ex5_23
      refine p_iinc (pc := 39) (v := x5_23) (lv' := [(0, .ref v0), (1, .int v1), (2, .int v2), (3, .int v3), (4, .int v4), (5, .int x5_23)]) cx dX11_product_39 5 rfl (by rw [ex5_23]; rfl) (by decide) [1, 2, 3, 4, 5, 0] rfl ?_
      refine p_goto (pc := 42) (tgt := 18) cx dX11_product_42 (by decide) ?_
      exact ih v0 v1 v2 v3 v4 x5_23 M22 hM22 hv0 hw
set_option maxHeartbeats 4000000 in
set_option maxRecDepth 100000 in
theorem c_X11_product {l : Launch} {D : va_G} {G : SH} (hND : ND G) {a0 : Nat} {a1 : Int32} {a2 : Int32} {a3 : Int32} {M : MS} {Qp : MS → Prop} (hT : TYR G M.2.2.1) (ha0 : Is G 10 a0) (hw : w_X11_product G a0 a1 a2 a3 M Qp) : MeV l D G yX11_product (Cond.code yX11_product cX11_product 9 none :: GW) rm_X11_product [.ref a0, .int a1, .int a2, .int a3] M Qp := by
  unfold MeV
  refine p_method (by decide) rfl (Nat.le_of_ble_eq_true rfl) hND ?_
  intro p e s m args below meth c cx hr hlk
  have cx : CX p s m args c D G cX11_product 9 RX11 := cx
  unfold w_X11_product at hw
  refine p_aload_n (pc := 0) cx dX11_product_0 rfl 0 rfl ?_
  refine gf_10_1 (pc := 1) cx ha0 t4_162 dX11_product_1 ?_
  have hr_1 : Is G 12 (mR M a0 1) := TYR.at hT ha0 1 12 rfl (by decide)
  refine p_iload_n (pc := 4) cx dX11_product_4 rfl 2 rfl ?_
  refine p_iald (pc := 5) cx hr_1 hw.1 dX11_product_5 ?_
  have hw := hw.2
  refine p_aload_n (pc := 6) cx dX11_product_6 rfl 0 rfl ?_
  refine gf_10_1 (pc := 7) cx ha0 t4_162 dX11_product_7 ?_
  have hr_2 : Is G 12 (mR M a0 1) := TYR.at hT ha0 1 12 rfl (by decide)
  refine p_iload_n (pc := 10) cx dX11_product_10 rfl 3 rfl ?_
  refine p_iald (pc := 11) cx hr_2 hw.1 dX11_product_11 ?_
  have hw := hw.2
  refine p_iadd (pc := 12) cx dX11_product_12 ?_
  refine p_topi (fun x4_3 ex4_3 => ?_)
  have hw := hw x4_3 ex4_3
  refine p_istore (pc := 13) (lv' := [(0, .ref a0), (1, .int a1), (2, .int a2), (3, .int a3), (4, .int x4_3)]) cx dX11_product_13 (by decide) [1, 2, 3, 4, 0] rfl ?_
  refine p_iconst (pc := 15) (v := 0) cx dX11_product_15 (by decide) ?_
  refine p_istore (pc := 16) (lv' := [(0, .ref a0), (1, .int a1), (2, .int a2), (3, .int a3), (4, .int x4_3), (5, .int (0 : Int32))]) cx dX11_product_16 (by decide) [1, 2, 3, 4, 5, 0] rfl ?_
  obtain ⟨n1, hw⟩ := hw
  exact x_X11_product_18 cx hr hlk n1 a0 a1 a2 a3 x4_3 0 M hT ha0 hw
set_option maxHeartbeats 4000000 in
set_option maxRecDepth 100000 in
theorem x_X11_top_6 {p : Program} {l : Launch} {e : Env} {s : State} {m : MethodId} {args : Array Value} {below : List Frame} {meth : Method} {c : Code} {D : va_G} {G : SH} {Qp : Int64 → MS → Prop}  (cx : CX p s m args c D G cX11_top 7 RX11) (hr : meth.sig.returnType = (some .long)) (hlk : meth.locks = false)  : ∀ (n : Nat) (v0 : Nat) (v1 : Int32) (v2 : Int32) (v3 : Int32) (v4 : Int64) (v6 : Int32) (M : MS), TYR G M.2.2.1 → Is G 10 v0 → w_X11_top_6 G Qp n v0 v1 v2 v3 v4 v6 M → PW p l e rm_X11_top s m args below meth c D G 7 (MQ below (va_Ql Qp (POST D G) (AG G)) args s 0 0 (AG G)) 6 [(0, .ref v0), (1, .int v1), (2, .int v2), (3, .int v3), (4, .long v4), (6, .int v6)] [] M := by
  intro n
  induction n with
  | zero =>
    intro v0 v1 v2 v3 v4 v6 M hT hv0 hw
    exact hw.elim
  | succ n ih =>
    intro v0 v1 v2 v3 v4 v6 M hT hv0 hw
    rw [w_X11_top_6] at hw
    refine p_iload (pc := 6) cx dX11_top_6 5 rfl ?_
    refine p_iload_n (pc := 8) cx dX11_top_8 rfl 3 rfl ?_
    refine p_icmp_ge (pc := 9) (tgt := 53) cx dX11_top_9 (by decide) (fun hc => ?_) (fun hc => ?_)
    · have hw := hw.1 hc
      refine p_lload (pc := 53) cx dX11_top_53 4 rfl ?_
      exact p_lret (pc := 55) cx hr hlk dX11_top_55 hT hw
    · have hw := hw.2 hc
      refine p_lload (pc := 12) cx dX11_top_12 4 rfl ?_
      refine p_bipush (pc := 14) (v := 16) cx dX11_top_14 (by decide) ?_
      refine p_lshl (pc := 16) cx dX11_top_16 ?_
      refine p_iload_n (pc := 17) cx dX11_top_17 rfl 2 rfl ?_
      refine p_iload (pc := 18) cx dX11_top_18 5 rfl ?_
      refine p_isub (pc := 20) cx dX11_top_20 ?_
      refine p_if_lt (pc := 21) (tgt := 42) cx dX11_top_21 (by decide) (fun hc => ?_) (fun hc => ?_)
      · have hw := hw.1 hc
        refine p_iconst (pc := 42) (v := 0) cx dX11_top_42 (by decide) ?_
        refine p_i2l (pc := 43) cx dX11_top_43 ?_
        refine p_lor (pc := 44) cx dX11_top_44 ?_
        refine p_topl (fun x4_1 ex4_1 => ?_)
        have hw := hw x4_1 ex4_1
        refine p_lstore (pc := 45) (lv' := [(0, .ref v0), (1, .int v1), (2, .int v2), (3, .int v3), (4, .long x4_1), (6, .int v6)]) cx dX11_top_45 (by decide) [1, 2, 3, 4, 0, 5] rfl ?_
        obtain ⟨x6_2, ex6_2⟩ : ∃ y : Int32, y = v6 + 1 := ⟨_, rfl⟩
        have hw := hw x6_2 ex6_2
        refine p_iinc (pc := 47) (v := x6_2) (lv' := [(0, .ref v0), (1, .int v1), (2, .int v2), (3, .int v3), (4, .long x4_1), (6, .int x6_2)]) cx dX11_top_47 5 rfl (by rw [ex6_2]; rfl) (by decide) [1, 2, 3, 4, 5, 0] rfl ?_
        refine p_goto (pc := 50) (tgt := 6) cx dX11_top_50 (by decide) ?_
        exact ih v0 v1 v2 v3 x4_1 x6_2 M hT hv0 hw
      · have hw := hw.2 hc
        refine p_aload_n (pc := 24) cx dX11_top_24 rfl 0 rfl ?_
        refine gf_10_0 (pc := 25) cx hv0 t4_161 dX11_top_25 ?_
        have hr_3 : Is G 12 (mR M v0 0) := TYR.at hT hv0 0 12 rfl (by decide)
        refine p_sipush (pc := 28) (v := 260) cx dX11_top_28 (by decide) ?_
        refine p_iload_n (pc := 31) cx dX11_top_31 rfl 1 rfl ?_
        refine p_imul (pc := 32) cx dX11_top_32 ?_
        refine p_iload_n (pc := 33) cx dX11_top_33 rfl 2 rfl ?_
        refine p_iadd (pc := 34) cx dX11_top_34 ?_
        refine p_iload (pc := 35) cx dX11_top_35 5 rfl ?_
        refine p_isub (pc := 37) cx dX11_top_37 ?_
        refine p_iald (pc := 38) cx hr_3 hw.1 dX11_top_38 ?_
        have hw := hw.2
        refine p_goto (pc := 39) (tgt := 43) cx dX11_top_39 (by decide) ?_
        refine p_i2l (pc := 43) cx dX11_top_43 ?_
        refine p_lor (pc := 44) cx dX11_top_44 ?_
        refine p_topl (fun x4_4 ex4_4 => ?_)
        have hw := hw x4_4 ex4_4
        refine p_lstore (pc := 45) (lv' := [(0, .ref v0), (1, .int v1), (2, .int v2), (3, .int v3), (4, .long x4_4), (6, .int v6)]) cx dX11_top_45 (by decide) [1, 2, 3, 4, 0, 5] rfl ?_
        obtain ⟨x6_5, ex6_5⟩ : ∃ y : Int32, y = v6 + 1 := ⟨_, rfl⟩
        have hw := hw x6_5 ex6_5
        refine p_iinc (pc := 47) (v := x6_5) (lv' := [(0, .ref v0), (1, .int v1), (2, .int v2), (3, .int v3), (4, .long x4_4), (6, .int x6_5)]) cx dX11_top_47 5 rfl (by rw [ex6_5]; rfl) (by decide) [1, 2, 3, 4, 5, 0] rfl ?_
        refine p_goto (pc := 50) (tgt := 6) cx dX11_top_50 (by decide) ?_
        exact ih v0 v1 v2 v3 x4_4 x6_5 M hT hv0 hw
set_option maxHeartbeats 4000000 in
set_option maxRecDepth 100000 in
theorem c_X11_top {l : Launch} {D : va_G} {G : SH} (hND : ND G) {a0 : Nat} {a1 : Int32} {a2 : Int32} {a3 : Int32} {M : MS} {Qp : Int64 → MS → Prop} (hT : TYR G M.2.2.1) (ha0 : Is G 10 a0) (hw : w_X11_top G a0 a1 a2 a3 M Qp) : MeL l D G yX11_top (Cond.code yX11_top cX11_top 7 (some .long) :: GW) rm_X11_top [.ref a0, .int a1, .int a2, .int a3] M Qp := by
  unfold MeL
  refine p_method (by decide) rfl (Nat.le_of_ble_eq_true rfl) hND ?_
  intro p e s m args below meth c cx hr hlk
  have cx : CX p s m args c D G cX11_top 7 RX11 := cx
  unfold w_X11_top at hw
  refine p_lconst (pc := 0) (v := 0) cx dX11_top_0 (by decide) ?_
  refine p_lstore (pc := 1) (lv' := [(0, .ref a0), (1, .int a1), (2, .int a2), (3, .int a3), (4, .long (0 : Int64))]) cx dX11_top_1 (by decide) [1, 2, 3, 4, 0] rfl ?_
  refine p_iconst (pc := 3) (v := 0) cx dX11_top_3 (by decide) ?_
  refine p_istore (pc := 4) (lv' := [(0, .ref a0), (1, .int a1), (2, .int a2), (3, .int a3), (4, .long (0 : Int64)), (6, .int (0 : Int32))]) cx dX11_top_4 (by decide) [1, 2, 3, 4, 5, 0] rfl ?_
  obtain ⟨n1, hw⟩ := hw
  exact x_X11_top_6 cx hr hlk n1 a0 a1 a2 a3 0 0 M hT ha0 hw
set_option maxHeartbeats 4000000 in
set_option maxRecDepth 100000 in
theorem x_X11_quotient_342 {p : Program} {l : Launch} {e : Env} {s : State} {m : MethodId} {args : Array Value} {below : List Frame} {meth : Method} {c : Code} {D : va_G} {G : SH} {Qp : MS → Prop} {K108 : Nat → Int32 → Int32 → Int32 → Int32 → Int32 → Int64 → Int32 → MS → Prop} {K273 : Nat → Int32 → Int32 → Int32 → Int32 → Int32 → Int64 → Int32 → Int64 → Int64 → MS → Prop} {K292 : Nat → Int32 → Int32 → Int32 → Int32 → Int32 → Int64 → Int32 → Int64 → Int64 → Int32 → Int32 → MS → Prop} (cx : CX p s m args c D G cX11_quotient 19 RX11) (hr : meth.sig.returnType = none) (hlk : meth.locks = false) (hK108 : ∀ (v0 : Nat) (v1 : Int32) (v2 : Int32) (v4 : Int32) (v5 : Int32) (v6 : Int32) (v7 : Int64) (v9 : Int32) (M : MS), TYR G M.2.2.1 → Is G 10 v0 → K108 v0 v1 v2 v4 v5 v6 v7 v9 M → PW p l e rm_X11_quotient s m args below meth c D G 19 (MQ below (va_Qv Qp (POST D G) (AG G)) args s 0 0 (AG G)) 108 [(0, .ref v0), (1, .int v1), (2, .int v2), (4, .int v4), (5, .int v5), (6, .int v6), (7, .long v7), (9, .int v9)] [] M) (hK273 : ∀ (v0 : Nat) (v1 : Int32) (v2 : Int32) (v4 : Int32) (v5 : Int32) (v6 : Int32) (v7 : Int64) (v9 : Int32) (v12 : Int64) (v14 : Int64) (M : MS), TYR G M.2.2.1 → Is G 10 v0 → K273 v0 v1 v2 v4 v5 v6 v7 v9 v12 v14 M → PW p l e rm_X11_quotient s m args below meth c D G 19 (MQ below (va_Qv Qp (POST D G) (AG G)) args s 0 0 (AG G)) 273 [(0, .ref v0), (1, .int v1), (2, .int v2), (4, .int v4), (5, .int v5), (6, .int v6), (7, .long v7), (9, .int v9), (12, .long v12), (14, .long v14)] [] M) (hK292 : ∀ (v0 : Nat) (v1 : Int32) (v2 : Int32) (v4 : Int32) (v5 : Int32) (v6 : Int32) (v7 : Int64) (v9 : Int32) (v12 : Int64) (v14 : Int64) (v16 : Int32) (v17 : Int32) (M : MS), TYR G M.2.2.1 → Is G 10 v0 → K292 v0 v1 v2 v4 v5 v6 v7 v9 v12 v14 v16 v17 M → PW p l e rm_X11_quotient s m args below meth c D G 19 (MQ below (va_Qv Qp (POST D G) (AG G)) args s 0 0 (AG G)) 292 [(0, .ref v0), (1, .int v1), (2, .int v2), (4, .int v4), (5, .int v5), (6, .int v6), (7, .long v7), (9, .int v9), (12, .long v12), (14, .long v14), (16, .int v16), (17, .int v17)] [] M) (v0 : Nat) (v1 : Int32) (v2 : Int32) (v4 : Int32) (v5 : Int32) (v6 : Int32) (v7 : Int64) (v9 : Int32) (v12 : Int64) (v14 : Int64) (v17 : Int32) (s0 : Int32) (s1 : Int32) (s2 : Int32) (M : MS) (hT : TYR G M.2.2.1) (hv0 : Is G 10 v0) (hw : w_X11_quotient_342 G K108 K273 K292 Qp v0 v1 v2 v4 v5 v6 v7 v9 v12 v14 v17 s0 s1 s2 M) : PW p l e rm_X11_quotient s m args below meth c D G 19 (MQ below (va_Qv Qp (POST D G) (AG G)) args s 0 0 (AG G)) 342 [(0, .ref v0), (1, .int v1), (2, .int v2), (4, .int v4), (5, .int v5), (6, .int v6), (7, .long v7), (9, .int v9), (12, .long v12), (14, .long v14), (17, .int v17)] [.int s0, .int s1, .int s2] M := by
  unfold w_X11_quotient_342 at hw
  refine p_iadd (pc := 342) cx dX11_quotient_342 ?_
  refine p_iadd (pc := 343) cx dX11_quotient_343 ?_
  refine p_topi (fun x16_21 ex16_21 => ?_)
  have hw := hw x16_21 ex16_21
  refine p_istore (pc := 344) (lv' := [(0, .ref v0), (1, .int v1), (2, .int v2), (4, .int v4), (5, .int v5), (6, .int v6), (7, .long v7), (9, .int v9), (12, .long v12), (14, .long v14), (16, .int x16_21), (17, .int v17)]) cx dX11_quotient_344 (by decide) [1, 2, 3, 4, 5, 6, 7, 8, 9, 10, 0, 11] rfl ?_
  refine p_aload_n (pc := 346) cx dX11_quotient_346 rfl 0 rfl ?_
  refine gf_10_0 (pc := 347) cx hv0 t4_161 dX11_quotient_347 ?_
  have hr_22 : Is G 12 (mR M v0 0) := TYR.at hT hv0 0 12 rfl (by decide)
  refine p_sipush (pc := 350) (v := 260) cx dX11_quotient_350 (by decide) ?_
  refine p_iload_n (pc := 353) cx dX11_quotient_353 rfl 2 rfl ?_
  refine p_imul (pc := 354) cx dX11_quotient_354 ?_
  refine p_iload (pc := 355) cx dX11_quotient_355 7 rfl ?_
  refine p_iadd (pc := 357) cx dX11_quotient_357 ?_
  refine p_iload (pc := 358) cx dX11_quotient_358 11 rfl ?_
  refine p_iadd (pc := 360) cx dX11_quotient_360 ?_
  refine p_iload (pc := 361) cx dX11_quotient_361 10 rfl ?_
  refine p_ldc (pc := 363) cx dX11_quotient_363 t4_207 ?_
  refine p_iand (pc := 365) cx dX11_quotient_365 ?_
  refine p_iast (pc := 366) cx hr_22 hw.1 dX11_quotient_366 ?_
  have hw := hw.2
  refine p_mem (fun M23 eM23 => ?_)
  have hw := hw M23 eM23
  have hM23 : TYR G M23.2.2.1 := by rw [eM23]; exact hT
  refine p_iload (pc := 367) cx dX11_quotient_367 10 rfl ?_
  refine p_bipush (pc := 369) (v := 16) cx dX11_quotient_369 (by decide) ?_
  refine p_ishr (pc := 371) cx dX11_quotient_371 ?_
  refine p_topi (fun x16_24 ex16_24 => ?_)
  have hw := hw x16_24 ex16_24
  refine p_istore (pc := 372) (lv' := [(0, .ref v0), (1, .int v1), (2, .int v2), (4, .int v4), (5, .int v5), (6, .int v6), (7, .long v7), (9, .int v9), (12, .long v12), (14, .long v14), (16, .int x16_24), (17, .int v17)]) cx dX11_quotient_372 (by decide) [1, 2, 3, 4, 5, 6, 7, 8, 9, 10, 0, 11] rfl ?_
  obtain ⟨x17_25, ex17_25⟩ : ∃ y : Int32, y = v17 + 1 := ⟨_, rfl⟩
  have hw := hw x17_25 ex17_25
  refine p_iinc (pc := 374) (v := x17_25) (lv' := [(0, .ref v0), (1, .int v1), (2, .int v2), (4, .int v4), (5, .int v5), (6, .int v6), (7, .long v7), (9, .int v9), (12, .long v12), (14, .long v14), (16, .int x16_24), (17, .int x17_25)]) cx dX11_quotient_374 11 rfl (by rw [ex17_25]; rfl) (by decide) [1, 2, 3, 4, 5, 6, 7, 8, 9, 10, 11, 0] rfl ?_
  refine p_goto (pc := 377) (tgt := 292) cx dX11_quotient_377 (by decide) ?_
  exact hK292 v0 v1 v2 v4 v5 v6 v7 v9 v12 v14 x16_24 x17_25 M23 hM23 hv0 hw
set_option maxHeartbeats 4000000 in
set_option maxRecDepth 100000 in
theorem x_X11_quotient_292 {p : Program} {l : Launch} {e : Env} {s : State} {m : MethodId} {args : Array Value} {below : List Frame} {meth : Method} {c : Code} {D : va_G} {G : SH} {Qp : MS → Prop} {K108 : Nat → Int32 → Int32 → Int32 → Int32 → Int32 → Int64 → Int32 → MS → Prop} {K273 : Nat → Int32 → Int32 → Int32 → Int32 → Int32 → Int64 → Int32 → Int64 → Int64 → MS → Prop} (cx : CX p s m args c D G cX11_quotient 19 RX11) (hr : meth.sig.returnType = none) (hlk : meth.locks = false) (hK108 : ∀ (v0 : Nat) (v1 : Int32) (v2 : Int32) (v4 : Int32) (v5 : Int32) (v6 : Int32) (v7 : Int64) (v9 : Int32) (M : MS), TYR G M.2.2.1 → Is G 10 v0 → K108 v0 v1 v2 v4 v5 v6 v7 v9 M → PW p l e rm_X11_quotient s m args below meth c D G 19 (MQ below (va_Qv Qp (POST D G) (AG G)) args s 0 0 (AG G)) 108 [(0, .ref v0), (1, .int v1), (2, .int v2), (4, .int v4), (5, .int v5), (6, .int v6), (7, .long v7), (9, .int v9)] [] M) (hK273 : ∀ (v0 : Nat) (v1 : Int32) (v2 : Int32) (v4 : Int32) (v5 : Int32) (v6 : Int32) (v7 : Int64) (v9 : Int32) (v12 : Int64) (v14 : Int64) (M : MS), TYR G M.2.2.1 → Is G 10 v0 → K273 v0 v1 v2 v4 v5 v6 v7 v9 v12 v14 M → PW p l e rm_X11_quotient s m args below meth c D G 19 (MQ below (va_Qv Qp (POST D G) (AG G)) args s 0 0 (AG G)) 273 [(0, .ref v0), (1, .int v1), (2, .int v2), (4, .int v4), (5, .int v5), (6, .int v6), (7, .long v7), (9, .int v9), (12, .long v12), (14, .long v14)] [] M) : ∀ (n : Nat) (v0 : Nat) (v1 : Int32) (v2 : Int32) (v4 : Int32) (v5 : Int32) (v6 : Int32) (v7 : Int64) (v9 : Int32) (v12 : Int64) (v14 : Int64) (v16 : Int32) (v17 : Int32) (M : MS), TYR G M.2.2.1 → Is G 10 v0 → w_X11_quotient_292 G K108 K273 Qp n v0 v1 v2 v4 v5 v6 v7 v9 v12 v14 v16 v17 M → PW p l e rm_X11_quotient s m args below meth c D G 19 (MQ below (va_Qv Qp (POST D G) (AG G)) args s 0 0 (AG G)) 292 [(0, .ref v0), (1, .int v1), (2, .int v2), (4, .int v4), (5, .int v5), (6, .int v6), (7, .long v7), (9, .int v9), (12, .long v12), (14, .long v14), (16, .int v16), (17, .int v17)] [] M := by
  intro n
  induction n with
  | zero =>
    intro v0 v1 v2 v4 v5 v6 v7 v9 v12 v14 v16 v17 M hT hv0 hw
    exact hw.elim
  | succ n ih =>
    intro v0 v1 v2 v4 v5 v6 v7 v9 v12 v14 v16 v17 M hT hv0 hw
    rw [w_X11_quotient_292] at hw
    refine p_iload (pc := 292) cx dX11_quotient_292 11 rfl ?_
    refine p_iload (pc := 294) cx dX11_quotient_294 5 rfl ?_
    refine p_icmp_gt (pc := 296) (tgt := 380) cx dX11_quotient_296 (by decide) (fun hc => ?_) (fun hc => ?_)
    · have hw := hw.1 hc
      refine p_lload (pc := 380) cx dX11_quotient_380 9 rfl ?_
      refine p_iload (pc := 382) cx dX11_quotient_382 10 rfl ?_
      refine p_i2l (pc := 384) cx dX11_quotient_384 ?_
      refine p_ladd (pc := 385) cx dX11_quotient_385 ?_
      refine p_topl (fun x14_19 ex14_19 => ?_)
      have hw := hw x14_19 ex14_19
      refine p_lstore (pc := 386) (lv' := [(0, .ref v0), (1, .int v1), (2, .int v2), (4, .int v4), (5, .int v5), (6, .int v6), (7, .long v7), (9, .int v9), (12, .long v12), (14, .long x14_19)]) cx dX11_quotient_386 (by decide) [1, 2, 3, 4, 5, 6, 7, 8, 9, 0] rfl ?_
      refine p_goto (pc := 388) (tgt := 273) cx dX11_quotient_388 (by decide) ?_
      exact hK273 v0 v1 v2 v4 v5 v6 v7 v9 v12 x14_19 M hT hv0 hw
    · have hw := hw.2 hc
      refine p_iload (pc := 299) cx dX11_quotient_299 10 rfl ?_
      refine p_aload_n (pc := 301) cx dX11_quotient_301 rfl 0 rfl ?_
      refine gf_10_0 (pc := 302) cx hv0 t4_161 dX11_quotient_302 ?_
      have hr_20 : Is G 12 (mR M v0 0) := TYR.at hT hv0 0 12 rfl (by decide)
      refine p_sipush (pc := 305) (v := 260) cx dX11_quotient_305 (by decide) ?_
      refine p_iload_n (pc := 308) cx dX11_quotient_308 rfl 2 rfl ?_
      refine p_imul (pc := 309) cx dX11_quotient_309 ?_
      refine p_iload (pc := 310) cx dX11_quotient_310 7 rfl ?_
      refine p_iadd (pc := 312) cx dX11_quotient_312 ?_
      refine p_iload (pc := 313) cx dX11_quotient_313 11 rfl ?_
      refine p_iadd (pc := 315) cx dX11_quotient_315 ?_
      refine p_iald (pc := 316) cx hr_20 hw.1 dX11_quotient_316 ?_
      have hw := hw.2
      refine p_iload (pc := 317) cx dX11_quotient_317 11 rfl ?_
      refine p_iload (pc := 319) cx dX11_quotient_319 5 rfl ?_
      refine p_icmp_ge (pc := 321) (tgt := 341) cx dX11_quotient_321 (by decide) (fun hc => ?_) (fun hc => ?_)
      · have hw := hw.1 hc
        refine p_iconst (pc := 341) (v := 0) cx dX11_quotient_341 (by decide) ?_
        refine p_perm (lv' := [(0, .ref v0), (1, .int v1), (2, .int v2), (4, .int v4), (5, .int v5), (6, .int v6), (7, .long v7), (9, .int v9), (12, .long v12), (14, .long v14), (17, .int v17)]) [0, 1, 2, 3, 4, 5, 6, 7, 8, 9, 11] rfl ?_
        exact x_X11_quotient_342 cx hr hlk hK108 hK273 ih v0 v1 v2 v4 v5 v6 v7 v9 v12 v14 v17 0 (mA M (mR M v0 0) ((((260 : Int32) * v2) + v9) + v17).toNatClampNeg) v16 M hT hv0 hw
      · have hw := hw.2 hc
        refine p_aload_n (pc := 324) cx dX11_quotient_324 rfl 0 rfl ?_
        refine gf_10_0 (pc := 325) cx hv0 t4_161 dX11_quotient_325 ?_
        have hr_26 : Is G 12 (mR M v0 0) := TYR.at hT hv0 0 12 rfl (by decide)
        refine p_sipush (pc := 328) (v := 260) cx dX11_quotient_328 (by decide) ?_
        refine p_iload (pc := 331) cx dX11_quotient_331 3 rfl ?_
        refine p_imul (pc := 333) cx dX11_quotient_333 ?_
        refine p_iload (pc := 334) cx dX11_quotient_334 11 rfl ?_
        refine p_iadd (pc := 336) cx dX11_quotient_336 ?_
        refine p_iald (pc := 337) cx hr_26 hw.1 dX11_quotient_337 ?_
        have hw := hw.2
        refine p_goto (pc := 338) (tgt := 342) cx dX11_quotient_338 (by decide) ?_
        refine p_perm (lv' := [(0, .ref v0), (1, .int v1), (2, .int v2), (4, .int v4), (5, .int v5), (6, .int v6), (7, .long v7), (9, .int v9), (12, .long v12), (14, .long v14), (17, .int v17)]) [0, 1, 2, 3, 4, 5, 6, 7, 8, 9, 11] rfl ?_
        exact x_X11_quotient_342 cx hr hlk hK108 hK273 ih v0 v1 v2 v4 v5 v6 v7 v9 v12 v14 v17 (mA M (mR M v0 0) (((260 : Int32) * v4) + v17).toNatClampNeg) (mA M (mR M v0 0) ((((260 : Int32) * v2) + v9) + v17).toNatClampNeg) v16 M hT hv0 hw
set_option maxHeartbeats 4000000 in
set_option maxRecDepth 100000 in
theorem x_X11_quotient_273 {p : Program} {l : Launch} {e : Env} {s : State} {m : MethodId} {args : Array Value} {below : List Frame} {meth : Method} {c : Code} {D : va_G} {G : SH} {Qp : MS → Prop} {K108 : Nat → Int32 → Int32 → Int32 → Int32 → Int32 → Int64 → Int32 → MS → Prop} (cx : CX p s m args c D G cX11_quotient 19 RX11) (hr : meth.sig.returnType = none) (hlk : meth.locks = false) (hK108 : ∀ (v0 : Nat) (v1 : Int32) (v2 : Int32) (v4 : Int32) (v5 : Int32) (v6 : Int32) (v7 : Int64) (v9 : Int32) (M : MS), TYR G M.2.2.1 → Is G 10 v0 → K108 v0 v1 v2 v4 v5 v6 v7 v9 M → PW p l e rm_X11_quotient s m args below meth c D G 19 (MQ below (va_Qv Qp (POST D G) (AG G)) args s 0 0 (AG G)) 108 [(0, .ref v0), (1, .int v1), (2, .int v2), (4, .int v4), (5, .int v5), (6, .int v6), (7, .long v7), (9, .int v9)] [] M) : ∀ (n : Nat) (v0 : Nat) (v1 : Int32) (v2 : Int32) (v4 : Int32) (v5 : Int32) (v6 : Int32) (v7 : Int64) (v9 : Int32) (v12 : Int64) (v14 : Int64) (M : MS), TYR G M.2.2.1 → Is G 10 v0 → w_X11_quotient_273 G K108 Qp n v0 v1 v2 v4 v5 v6 v7 v9 v12 v14 M → PW p l e rm_X11_quotient s m args below meth c D G 19 (MQ below (va_Qv Qp (POST D G) (AG G)) args s 0 0 (AG G)) 273 [(0, .ref v0), (1, .int v1), (2, .int v2), (4, .int v4), (5, .int v5), (6, .int v6), (7, .long v7), (9, .int v9), (12, .long v12), (14, .long v14)] [] M := by
  intro n
  induction n with
  | zero =>
    intro v0 v1 v2 v4 v5 v6 v7 v9 v12 v14 M hT hv0 hw
    exact hw.elim
  | succ n ih =>
    intro v0 v1 v2 v4 v5 v6 v7 v9 v12 v14 M hT hv0 hw
    rw [w_X11_quotient_273] at hw
    refine p_lload (pc := 273) cx dX11_quotient_273 9 rfl ?_
    refine p_lconst (pc := 275) (v := 0) cx dX11_quotient_275 (by decide) ?_
    refine p_lcmp (pc := 276) cx dX11_quotient_276 ?_
    refine p_if_ge (pc := 277) (tgt := 391) cx dX11_quotient_277 (by decide) (fun hc => ?_) (fun hc => ?_)
    · have hw := hw.1 ((lg_cmp_ge _ _).mp hc)
      refine p_aload_n (pc := 391) cx dX11_quotient_391 rfl 0 rfl ?_
      refine gf_10_0 (pc := 392) cx hv0 t4_161 dX11_quotient_392 ?_
      have hr_15 : Is G 12 (mR M v0 0) := TYR.at hT hv0 0 12 rfl (by decide)
      refine p_sipush (pc := 395) (v := 260) cx dX11_quotient_395 (by decide) ?_
      refine p_iload_n (pc := 398) cx dX11_quotient_398 rfl 1 rfl ?_
      refine p_imul (pc := 399) cx dX11_quotient_399 ?_
      refine p_iload (pc := 400) cx dX11_quotient_400 7 rfl ?_
      refine p_iadd (pc := 402) cx dX11_quotient_402 ?_
      refine p_lload (pc := 403) cx dX11_quotient_403 8 rfl ?_
      refine p_l2i (pc := 405) cx dX11_quotient_405 ?_
      refine p_iast (pc := 406) cx hr_15 hw.1 dX11_quotient_406 ?_
      have hw := hw.2
      refine p_mem (fun M16 eM16 => ?_)
      have hw := hw M16 eM16
      have hM16 : TYR G M16.2.2.1 := by rw [eM16]; exact hT
      obtain ⟨x9_17, ex9_17⟩ : ∃ y : Int32, y = v9 + (-1) := ⟨_, rfl⟩
      have hw := hw x9_17 ex9_17
      refine p_iinc (pc := 407) (v := x9_17) (lv' := [(0, .ref v0), (1, .int v1), (2, .int v2), (4, .int v4), (5, .int v5), (6, .int v6), (7, .long v7), (9, .int x9_17)]) cx dX11_quotient_407 7 rfl (by rw [ex9_17]; rfl) (by decide) [1, 2, 3, 4, 5, 6, 7, 0] rfl ?_
      refine p_goto (pc := 410) (tgt := 108) cx dX11_quotient_410 (by decide) ?_
      exact hK108 v0 v1 v2 v4 v5 v6 v7 x9_17 M16 hM16 hv0 hw
    · have hw := hw.2 (fun q => hc ((lg_cmp_ge _ _).mpr q))
      refine p_lload (pc := 280) cx dX11_quotient_280 8 rfl ?_
      refine p_lconst (pc := 282) (v := 1) cx dX11_quotient_282 (by decide) ?_
      refine p_lsub (pc := 283) cx dX11_quotient_283 ?_
      refine p_topl (fun x12_18 ex12_18 => ?_)
      have hw := hw x12_18 ex12_18
      refine p_lstore (pc := 284) (lv' := [(0, .ref v0), (1, .int v1), (2, .int v2), (4, .int v4), (5, .int v5), (6, .int v6), (7, .long v7), (9, .int v9), (12, .long x12_18), (14, .long v14)]) cx dX11_quotient_284 (by decide) [1, 2, 3, 4, 5, 6, 7, 8, 0, 9] rfl ?_
      refine p_iconst (pc := 286) (v := 0) cx dX11_quotient_286 (by decide) ?_
      refine p_istore (pc := 287) (lv' := [(0, .ref v0), (1, .int v1), (2, .int v2), (4, .int v4), (5, .int v5), (6, .int v6), (7, .long v7), (9, .int v9), (12, .long x12_18), (14, .long v14), (16, .int (0 : Int32))]) cx dX11_quotient_287 (by decide) [1, 2, 3, 4, 5, 6, 7, 8, 9, 10, 0] rfl ?_
      refine p_iconst (pc := 289) (v := 0) cx dX11_quotient_289 (by decide) ?_
      refine p_istore (pc := 290) (lv' := [(0, .ref v0), (1, .int v1), (2, .int v2), (4, .int v4), (5, .int v5), (6, .int v6), (7, .long v7), (9, .int v9), (12, .long x12_18), (14, .long v14), (16, .int (0 : Int32)), (17, .int (0 : Int32))]) cx dX11_quotient_290 (by decide) [1, 2, 3, 4, 5, 6, 7, 8, 9, 10, 11, 0] rfl ?_
      obtain ⟨n1, hw⟩ := hw
      exact x_X11_quotient_292 cx hr hlk hK108 ih n1 v0 v1 v2 v4 v5 v6 v7 v9 x12_18 v14 0 0 M hT hv0 hw
set_option maxHeartbeats 4000000 in
set_option maxRecDepth 100000 in
theorem x_X11_quotient_229 {p : Program} {l : Launch} {e : Env} {s : State} {m : MethodId} {args : Array Value} {below : List Frame} {meth : Method} {c : Code} {D : va_G} {G : SH} {Qp : MS → Prop} {K108 : Nat → Int32 → Int32 → Int32 → Int32 → Int32 → Int64 → Int32 → MS → Prop} {K178 : Nat → Int32 → Int32 → Int32 → Int32 → Int32 → Int64 → Int32 → Int64 → Int64 → Int32 → MS → Prop} (cx : CX p s m args c D G cX11_quotient 19 RX11) (hr : meth.sig.returnType = none) (hlk : meth.locks = false) (hK108 : ∀ (v0 : Nat) (v1 : Int32) (v2 : Int32) (v4 : Int32) (v5 : Int32) (v6 : Int32) (v7 : Int64) (v9 : Int32) (M : MS), TYR G M.2.2.1 → Is G 10 v0 → K108 v0 v1 v2 v4 v5 v6 v7 v9 M → PW p l e rm_X11_quotient s m args below meth c D G 19 (MQ below (va_Qv Qp (POST D G) (AG G)) args s 0 0 (AG G)) 108 [(0, .ref v0), (1, .int v1), (2, .int v2), (4, .int v4), (5, .int v5), (6, .int v6), (7, .long v7), (9, .int v9)] [] M) (hK178 : ∀ (v0 : Nat) (v1 : Int32) (v2 : Int32) (v4 : Int32) (v5 : Int32) (v6 : Int32) (v7 : Int64) (v9 : Int32) (v12 : Int64) (v14 : Int64) (v16 : Int32) (M : MS), TYR G M.2.2.1 → Is G 10 v0 → K178 v0 v1 v2 v4 v5 v6 v7 v9 v12 v14 v16 M → PW p l e rm_X11_quotient s m args below meth c D G 19 (MQ below (va_Qv Qp (POST D G) (AG G)) args s 0 0 (AG G)) 178 [(0, .ref v0), (1, .int v1), (2, .int v2), (4, .int v4), (5, .int v5), (6, .int v6), (7, .long v7), (9, .int v9), (12, .long v12), (14, .long v14), (16, .int v16)] [] M) (v0 : Nat) (v1 : Int32) (v2 : Int32) (v4 : Int32) (v5 : Int32) (v6 : Int32) (v7 : Int64) (v9 : Int32) (v12 : Int64) (v14 : Int64) (v16 : Int32) (s0 : Int32) (s1 : Int64) (s2 : Int64) (M : MS) (hT : TYR G M.2.2.1) (hv0 : Is G 10 v0) (hw : w_X11_quotient_229 G K108 K178 Qp v0 v1 v2 v4 v5 v6 v7 v9 v12 v14 v16 s0 s1 s2 M) : PW p l e rm_X11_quotient s m args below meth c D G 19 (MQ below (va_Qv Qp (POST D G) (AG G)) args s 0 0 (AG G)) 229 [(0, .ref v0), (1, .int v1), (2, .int v2), (4, .int v4), (5, .int v5), (6, .int v6), (7, .long v7), (9, .int v9), (12, .long v12), (14, .long v14), (16, .int v16)] [.int s0, .long s1, .long s2] M := by
  unfold w_X11_quotient_229 at hw
  refine p_i2l (pc := 229) cx dX11_quotient_229 ?_
  refine p_lmul (pc := 230) cx dX11_quotient_230 ?_
  refine p_lsub (pc := 231) cx dX11_quotient_231 ?_
  refine p_lload (pc := 232) cx dX11_quotient_232 9 rfl ?_
  refine p_ladd (pc := 234) cx dX11_quotient_234 ?_
  refine p_topl (fun x17_28 ex17_28 => ?_)
  have hw := hw x17_28 ex17_28
  refine p_lstore (pc := 235) (lv' := [(0, .ref v0), (1, .int v1), (2, .int v2), (4, .int v4), (5, .int v5), (6, .int v6), (7, .long v7), (9, .int v9), (12, .long v12), (16, .int v16), (17, .long x17_28)]) cx dX11_quotient_235 (by decide) [1, 2, 3, 4, 5, 6, 7, 8, 9, 11, 0] rfl ?_
  refine p_aload_n (pc := 237) cx dX11_quotient_237 rfl 0 rfl ?_
  refine gf_10_0 (pc := 238) cx hv0 t4_161 dX11_quotient_238 ?_
  have hr_29 : Is G 12 (mR M v0 0) := TYR.at hT hv0 0 12 rfl (by decide)
  refine p_sipush (pc := 241) (v := 260) cx dX11_quotient_241 (by decide) ?_
  refine p_iload_n (pc := 244) cx dX11_quotient_244 rfl 2 rfl ?_
  refine p_imul (pc := 245) cx dX11_quotient_245 ?_
  refine p_iload (pc := 246) cx dX11_quotient_246 7 rfl ?_
  refine p_iadd (pc := 248) cx dX11_quotient_248 ?_
  refine p_iload (pc := 249) cx dX11_quotient_249 9 rfl ?_
  refine p_iadd (pc := 251) cx dX11_quotient_251 ?_
  refine p_lload (pc := 252) cx dX11_quotient_252 10 rfl ?_
  refine p_ldc2 (pc := 254) cx dX11_quotient_254 t5_32 ?_
  refine p_land (pc := 257) cx dX11_quotient_257 ?_
  refine p_l2i (pc := 258) cx dX11_quotient_258 ?_
  refine p_iast (pc := 259) cx hr_29 hw.1 dX11_quotient_259 ?_
  have hw := hw.2
  refine p_mem (fun M30 eM30 => ?_)
  have hw := hw M30 eM30
  have hM30 : TYR G M30.2.2.1 := by rw [eM30]; exact hT
  refine p_lload (pc := 260) cx dX11_quotient_260 10 rfl ?_
  refine p_bipush (pc := 262) (v := 16) cx dX11_quotient_262 (by decide) ?_
  refine p_lshr (pc := 264) cx dX11_quotient_264 ?_
  refine p_topl (fun x14_31 ex14_31 => ?_)
  have hw := hw x14_31 ex14_31
  refine p_lstore (pc := 265) (lv' := [(0, .ref v0), (1, .int v1), (2, .int v2), (4, .int v4), (5, .int v5), (6, .int v6), (7, .long v7), (9, .int v9), (12, .long v12), (14, .long x14_31), (16, .int v16)]) cx dX11_quotient_265 (by decide) [1, 2, 3, 4, 5, 6, 7, 8, 9, 0, 10] rfl ?_
  obtain ⟨x16_32, ex16_32⟩ : ∃ y : Int32, y = v16 + 1 := ⟨_, rfl⟩
  have hw := hw x16_32 ex16_32
  refine p_iinc (pc := 267) (v := x16_32) (lv' := [(0, .ref v0), (1, .int v1), (2, .int v2), (4, .int v4), (5, .int v5), (6, .int v6), (7, .long v7), (9, .int v9), (12, .long v12), (14, .long x14_31), (16, .int x16_32)]) cx dX11_quotient_267 10 rfl (by rw [ex16_32]; rfl) (by decide) [1, 2, 3, 4, 5, 6, 7, 8, 9, 10, 0] rfl ?_
  refine p_goto (pc := 270) (tgt := 178) cx dX11_quotient_270 (by decide) ?_
  exact hK178 v0 v1 v2 v4 v5 v6 v7 v9 v12 x14_31 x16_32 M30 hM30 hv0 hw
set_option maxHeartbeats 4000000 in
set_option maxRecDepth 100000 in
theorem x_X11_quotient_178 {p : Program} {l : Launch} {e : Env} {s : State} {m : MethodId} {args : Array Value} {below : List Frame} {meth : Method} {c : Code} {D : va_G} {G : SH} {Qp : MS → Prop} {K108 : Nat → Int32 → Int32 → Int32 → Int32 → Int32 → Int64 → Int32 → MS → Prop} (cx : CX p s m args c D G cX11_quotient 19 RX11) (hr : meth.sig.returnType = none) (hlk : meth.locks = false) (hK108 : ∀ (v0 : Nat) (v1 : Int32) (v2 : Int32) (v4 : Int32) (v5 : Int32) (v6 : Int32) (v7 : Int64) (v9 : Int32) (M : MS), TYR G M.2.2.1 → Is G 10 v0 → K108 v0 v1 v2 v4 v5 v6 v7 v9 M → PW p l e rm_X11_quotient s m args below meth c D G 19 (MQ below (va_Qv Qp (POST D G) (AG G)) args s 0 0 (AG G)) 108 [(0, .ref v0), (1, .int v1), (2, .int v2), (4, .int v4), (5, .int v5), (6, .int v6), (7, .long v7), (9, .int v9)] [] M) : ∀ (n : Nat) (v0 : Nat) (v1 : Int32) (v2 : Int32) (v4 : Int32) (v5 : Int32) (v6 : Int32) (v7 : Int64) (v9 : Int32) (v12 : Int64) (v14 : Int64) (v16 : Int32) (M : MS), TYR G M.2.2.1 → Is G 10 v0 → w_X11_quotient_178 G K108 Qp n v0 v1 v2 v4 v5 v6 v7 v9 v12 v14 v16 M → PW p l e rm_X11_quotient s m args below meth c D G 19 (MQ below (va_Qv Qp (POST D G) (AG G)) args s 0 0 (AG G)) 178 [(0, .ref v0), (1, .int v1), (2, .int v2), (4, .int v4), (5, .int v5), (6, .int v6), (7, .long v7), (9, .int v9), (12, .long v12), (14, .long v14), (16, .int v16)] [] M := by
  intro n
  induction n with
  | zero =>
    intro v0 v1 v2 v4 v5 v6 v7 v9 v12 v14 v16 M hT hv0 hw
    exact hw.elim
  | succ n ih =>
    intro v0 v1 v2 v4 v5 v6 v7 v9 v12 v14 v16 M hT hv0 hw
    rw [w_X11_quotient_178] at hw
    refine p_iload (pc := 178) cx dX11_quotient_178 10 rfl ?_
    refine p_iload (pc := 180) cx dX11_quotient_180 5 rfl ?_
    refine p_icmp_gt (pc := 182) (tgt := 273) cx dX11_quotient_182 (by decide) (fun hc => ?_) (fun hc => ?_)
    · have hw := hw.1 hc
      obtain ⟨n1, hw⟩ := hw
      refine p_perm (lv' := [(0, .ref v0), (1, .int v1), (2, .int v2), (4, .int v4), (5, .int v5), (6, .int v6), (7, .long v7), (9, .int v9), (12, .long v12), (14, .long v14)]) [0, 1, 2, 3, 4, 5, 6, 7, 8, 9] rfl ?_
      exact x_X11_quotient_273 cx hr hlk hK108 n1 v0 v1 v2 v4 v5 v6 v7 v9 v12 v14 M hT hv0 hw
    · have hw := hw.2 hc
      refine p_aload_n (pc := 185) cx dX11_quotient_185 rfl 0 rfl ?_
      refine gf_10_0 (pc := 186) cx hv0 t4_161 dX11_quotient_186 ?_
      have hr_27 : Is G 12 (mR M v0 0) := TYR.at hT hv0 0 12 rfl (by decide)
      refine p_sipush (pc := 189) (v := 260) cx dX11_quotient_189 (by decide) ?_
      refine p_iload_n (pc := 192) cx dX11_quotient_192 rfl 2 rfl ?_
      refine p_imul (pc := 193) cx dX11_quotient_193 ?_
      refine p_iload (pc := 194) cx dX11_quotient_194 7 rfl ?_
      refine p_iadd (pc := 196) cx dX11_quotient_196 ?_
      refine p_iload (pc := 197) cx dX11_quotient_197 10 rfl ?_
      refine p_iadd (pc := 199) cx dX11_quotient_199 ?_
      refine p_iald (pc := 200) cx hr_27 hw.1 dX11_quotient_200 ?_
      have hw := hw.2
      refine p_i2l (pc := 201) cx dX11_quotient_201 ?_
      refine p_lload (pc := 202) cx dX11_quotient_202 8 rfl ?_
      refine p_iload (pc := 204) cx dX11_quotient_204 10 rfl ?_
      refine p_iload (pc := 206) cx dX11_quotient_206 5 rfl ?_
      refine p_icmp_ge (pc := 208) (tgt := 228) cx dX11_quotient_208 (by decide) (fun hc => ?_) (fun hc => ?_)
      · have hw := hw.1 hc
        refine p_iconst (pc := 228) (v := 0) cx dX11_quotient_228 (by decide) ?_
        exact x_X11_quotient_229 cx hr hlk hK108 ih v0 v1 v2 v4 v5 v6 v7 v9 v12 v14 v16 0 v12 ((mA M (mR M v0 0) ((((260 : Int32) * v2) + v9) + v16).toNatClampNeg).toInt64) M hT hv0 hw
      · have hw := hw.2 hc
        refine p_aload_n (pc := 211) cx dX11_quotient_211 rfl 0 rfl ?_
        refine gf_10_0 (pc := 212) cx hv0 t4_161 dX11_quotient_212 ?_
        have hr_33 : Is G 12 (mR M v0 0) := TYR.at hT hv0 0 12 rfl (by decide)
        refine p_sipush (pc := 215) (v := 260) cx dX11_quotient_215 (by decide) ?_
        refine p_iload (pc := 218) cx dX11_quotient_218 3 rfl ?_
        refine p_imul (pc := 220) cx dX11_quotient_220 ?_
        refine p_iload (pc := 221) cx dX11_quotient_221 10 rfl ?_
        refine p_iadd (pc := 223) cx dX11_quotient_223 ?_
        refine p_iald (pc := 224) cx hr_33 hw.1 dX11_quotient_224 ?_
        have hw := hw.2
        refine p_goto (pc := 225) (tgt := 229) cx dX11_quotient_225 (by decide) ?_
        exact x_X11_quotient_229 cx hr hlk hK108 ih v0 v1 v2 v4 v5 v6 v7 v9 v12 v14 v16 (mA M (mR M v0 0) (((260 : Int32) * v4) + v16).toNatClampNeg) v12 ((mA M (mR M v0 0) ((((260 : Int32) * v2) + v9) + v16).toNatClampNeg).toInt64) M hT hv0 hw
set_option maxHeartbeats 4000000 in
set_option maxRecDepth 100000 in
theorem x_X11_quotient_144 {p : Program} {l : Launch} {e : Env} {s : State} {m : MethodId} {args : Array Value} {below : List Frame} {meth : Method} {c : Code} {D : va_G} {G : SH} {Qp : MS → Prop} {K108 : Nat → Int32 → Int32 → Int32 → Int32 → Int32 → Int64 → Int32 → MS → Prop} (cx : CX p s m args c D G cX11_quotient 19 RX11) (hr : meth.sig.returnType = none) (hlk : meth.locks = false) (hK108 : ∀ (v0 : Nat) (v1 : Int32) (v2 : Int32) (v4 : Int32) (v5 : Int32) (v6 : Int32) (v7 : Int64) (v9 : Int32) (M : MS), TYR G M.2.2.1 → Is G 10 v0 → K108 v0 v1 v2 v4 v5 v6 v7 v9 M → PW p l e rm_X11_quotient s m args below meth c D G 19 (MQ below (va_Qv Qp (POST D G) (AG G)) args s 0 0 (AG G)) 108 [(0, .ref v0), (1, .int v1), (2, .int v2), (4, .int v4), (5, .int v5), (6, .int v6), (7, .long v7), (9, .int v9)] [] M) (v0 : Nat) (v1 : Int32) (v2 : Int32) (v4 : Int32) (v5 : Int32) (v6 : Int32) (v7 : Int64) (v9 : Int32) (s0 : Int64) (M : MS) (hT : TYR G M.2.2.1) (hv0 : Is G 10 v0) (hw : w_X11_quotient_144 G K108 Qp v0 v1 v2 v4 v5 v6 v7 v9 s0 M) : PW p l e rm_X11_quotient s m args below meth c D G 19 (MQ below (va_Qv Qp (POST D G) (AG G)) args s 0 0 (AG G)) 144 [(0, .ref v0), (1, .int v1), (2, .int v2), (4, .int v4), (5, .int v5), (6, .int v6), (7, .long v7), (9, .int v9)] [.long s0] M := by
  unfold w_X11_quotient_144 at hw
  refine p_lstore (pc := 144) (lv' := [(0, .ref v0), (1, .int v1), (2, .int v2), (4, .int v4), (5, .int v5), (6, .int v6), (7, .long v7), (9, .int v9), (10, .long s0)]) cx dX11_quotient_144 (by decide) [1, 2, 3, 4, 5, 6, 7, 8, 0] rfl ?_
  refine p_lload (pc := 146) cx dX11_quotient_146 8 rfl ?_
  refine p_lload (pc := 148) cx dX11_quotient_148 6 rfl ?_
  refine p_ldiv (pc := 150) cx dX11_quotient_150 hw.1 ?_
  have hw := hw.2
  refine p_topl (fun x12_14 ex12_14 => ?_)
  have hw := hw x12_14 ex12_14
  refine p_lstore (pc := 151) (lv' := [(0, .ref v0), (1, .int v1), (2, .int v2), (4, .int v4), (5, .int v5), (6, .int v6), (7, .long v7), (9, .int v9), (12, .long x12_14)]) cx dX11_quotient_151 (by decide) [1, 2, 3, 4, 5, 6, 7, 8, 0] rfl ?_
  refine p_lload (pc := 153) cx dX11_quotient_153 8 rfl ?_
  refine p_ldc2 (pc := 155) cx dX11_quotient_155 t5_32 ?_
  refine p_lcmp (pc := 158) cx dX11_quotient_158 ?_
  refine p_if_le (pc := 159) (tgt := 168) cx dX11_quotient_159 (by decide) (fun hc => ?_) (fun hc => ?_)
  · have hw := hw.1 ((lg_cmp_le _ _).mp hc)
    refine p_lload (pc := 168) cx dX11_quotient_168 8 rfl ?_
    refine p_lstore (pc := 170) (lv' := [(0, .ref v0), (1, .int v1), (2, .int v2), (4, .int v4), (5, .int v5), (6, .int v6), (7, .long v7), (9, .int v9), (12, .long x12_14)]) cx dX11_quotient_170 (by decide) [1, 2, 3, 4, 5, 6, 7, 8, 0] rfl ?_
    refine p_lconst (pc := 172) (v := 0) cx dX11_quotient_172 (by decide) ?_
    refine p_lstore (pc := 173) (lv' := [(0, .ref v0), (1, .int v1), (2, .int v2), (4, .int v4), (5, .int v5), (6, .int v6), (7, .long v7), (9, .int v9), (12, .long x12_14), (14, .long (0 : Int64))]) cx dX11_quotient_173 (by decide) [1, 2, 3, 4, 5, 6, 7, 8, 9, 0] rfl ?_
    refine p_iconst (pc := 175) (v := 0) cx dX11_quotient_175 (by decide) ?_
    refine p_istore (pc := 176) (lv' := [(0, .ref v0), (1, .int v1), (2, .int v2), (4, .int v4), (5, .int v5), (6, .int v6), (7, .long v7), (9, .int v9), (12, .long x12_14), (14, .long (0 : Int64)), (16, .int (0 : Int32))]) cx dX11_quotient_176 (by decide) [1, 2, 3, 4, 5, 6, 7, 8, 9, 10, 0] rfl ?_
    obtain ⟨n1, hw⟩ := hw
    exact x_X11_quotient_178 cx hr hlk hK108 n1 v0 v1 v2 v4 v5 v6 v7 v9 x12_14 0 0 M hT hv0 hw
  · have hw := hw.2 (fun q => hc ((lg_cmp_le _ _).mpr q))
    refine p_ldc2 (pc := 162) cx dX11_quotient_162 t5_32 ?_
    refine p_goto (pc := 165) (tgt := 170) cx dX11_quotient_165 (by decide) ?_
    refine p_lstore (pc := 170) (lv' := [(0, .ref v0), (1, .int v1), (2, .int v2), (4, .int v4), (5, .int v5), (6, .int v6), (7, .long v7), (9, .int v9), (12, .long (65535 : Int64))]) cx dX11_quotient_170 (by decide) [1, 2, 3, 4, 5, 6, 7, 8, 0] rfl ?_
    refine p_lconst (pc := 172) (v := 0) cx dX11_quotient_172 (by decide) ?_
    refine p_lstore (pc := 173) (lv' := [(0, .ref v0), (1, .int v1), (2, .int v2), (4, .int v4), (5, .int v5), (6, .int v6), (7, .long v7), (9, .int v9), (12, .long (65535 : Int64)), (14, .long (0 : Int64))]) cx dX11_quotient_173 (by decide) [1, 2, 3, 4, 5, 6, 7, 8, 9, 0] rfl ?_
    refine p_iconst (pc := 175) (v := 0) cx dX11_quotient_175 (by decide) ?_
    refine p_istore (pc := 176) (lv' := [(0, .ref v0), (1, .int v1), (2, .int v2), (4, .int v4), (5, .int v5), (6, .int v6), (7, .long v7), (9, .int v9), (12, .long (65535 : Int64)), (14, .long (0 : Int64)), (16, .int (0 : Int32))]) cx dX11_quotient_176 (by decide) [1, 2, 3, 4, 5, 6, 7, 8, 9, 10, 0] rfl ?_
    obtain ⟨n1, hw⟩ := hw
    exact x_X11_quotient_178 cx hr hlk hK108 n1 v0 v1 v2 v4 v5 v6 v7 v9 65535 0 0 M hT hv0 hw
set_option maxHeartbeats 4000000 in
set_option maxRecDepth 100000 in
theorem x_X11_quotient_108 {p : Program} {l : Launch} {e : Env} {s : State} {m : MethodId} {args : Array Value} {below : List Frame} {meth : Method} {c : Code} {D : va_G} {G : SH} {Qp : MS → Prop}  (cx : CX p s m args c D G cX11_quotient 19 RX11) (hr : meth.sig.returnType = none) (hlk : meth.locks = false)  : ∀ (n : Nat) (v0 : Nat) (v1 : Int32) (v2 : Int32) (v4 : Int32) (v5 : Int32) (v6 : Int32) (v7 : Int64) (v9 : Int32) (M : MS), TYR G M.2.2.1 → Is G 10 v0 → w_X11_quotient_108 G Qp n v0 v1 v2 v4 v5 v6 v7 v9 M → PW p l e rm_X11_quotient s m args below meth c D G 19 (MQ below (va_Qv Qp (POST D G) (AG G)) args s 0 0 (AG G)) 108 [(0, .ref v0), (1, .int v1), (2, .int v2), (4, .int v4), (5, .int v5), (6, .int v6), (7, .long v7), (9, .int v9)] [] M := by
  intro n
  induction n with
  | zero =>
    intro v0 v1 v2 v4 v5 v6 v7 v9 M hT hv0 hw
    exact hw.elim
  | succ n ih =>
    intro v0 v1 v2 v4 v5 v6 v7 v9 M hT hv0 hw
    rw [w_X11_quotient_108] at hw
    refine p_iload (pc := 108) cx dX11_quotient_108 7 rfl ?_
    refine p_if_lt (pc := 110) (tgt := 413) cx dX11_quotient_110 (by decide) (fun hc => ?_) (fun hc => ?_)
    · have hw := hw.1 hc
      refine p_aload_n (pc := 413) cx dX11_quotient_413 rfl 0 rfl ?_
      refine p_iload_n (pc := 414) cx dX11_quotient_414 rfl 1 rfl ?_
      refine p_iload (pc := 415) cx dX11_quotient_415 4 rfl ?_
      refine p_iload (pc := 417) cx dX11_quotient_417 5 rfl ?_
      refine p_isub (pc := 419) cx dX11_quotient_419 ?_
      refine p_iconst (pc := 420) (v := 1) cx dX11_quotient_420 (by decide) ?_
      refine p_iadd (pc := 421) cx dX11_quotient_421 ?_
      refine p_iconst (pc := 422) (v := 1) cx dX11_quotient_422 (by decide) ?_
      refine p_callVv (pc := 423) [.int v1, .int ((v5 - v6) + 1), .int (1 : Int32)] cx (c_X11_trim cx.2.2.2.2.2.2 hT hv0 hw) cf_X11_trim cv_X11_trim t4_208 hv0 ⟨by decide, rfl, rfl⟩ ⟨rfl, rfl⟩ ⟨Nat.le_of_ble_eq_true rfl, Nat.le_of_ble_eq_true rfl⟩ rfl rfl (Nat.le_of_ble_eq_true rfl) dX11_quotient_423 (fun M11 hw hM11 => ?_)
      refine p_aload_n (pc := 426) cx dX11_quotient_426 rfl 0 rfl ?_
      refine p_iload_n (pc := 427) cx dX11_quotient_427 rfl 2 rfl ?_
      refine p_iload (pc := 428) cx dX11_quotient_428 4 rfl ?_
      refine p_iconst (pc := 430) (v := 1) cx dX11_quotient_430 (by decide) ?_
      refine p_iadd (pc := 431) cx dX11_quotient_431 ?_
      refine p_iconst (pc := 432) (v := 1) cx dX11_quotient_432 (by decide) ?_
      refine p_callVv (pc := 433) [.int v2, .int (v5 + 1), .int (1 : Int32)] cx (c_X11_trim cx.2.2.2.2.2.2 hM11 hv0 hw) cf_X11_trim cv_X11_trim t4_208 hv0 ⟨by decide, rfl, rfl⟩ ⟨rfl, rfl⟩ ⟨Nat.le_of_ble_eq_true rfl, Nat.le_of_ble_eq_true rfl⟩ rfl rfl (Nat.le_of_ble_eq_true rfl) dX11_quotient_433 (fun M12 hw hM12 => ?_)
      exact p_vret (pc := 436) cx hr hlk dX11_quotient_436 hM12 hw
    · have hw := hw.2 hc
      refine p_iload (pc := 113) cx dX11_quotient_113 5 rfl ?_
      refine p_iconst (pc := 115) (v := 1) cx dX11_quotient_115 (by decide) ?_
      refine p_icmp_le (pc := 116) (tgt := 133) cx dX11_quotient_116 (by decide) (fun hc => ?_) (fun hc => ?_)
      · have hw := hw.1 hc
        refine p_aload_n (pc := 133) cx dX11_quotient_133 rfl 0 rfl ?_
        refine p_iload_n (pc := 134) cx dX11_quotient_134 rfl 2 rfl ?_
        refine p_iload (pc := 135) cx dX11_quotient_135 7 rfl ?_
        refine p_iload (pc := 137) cx dX11_quotient_137 5 rfl ?_
        refine p_iadd (pc := 139) cx dX11_quotient_139 ?_
        refine p_iconst (pc := 140) (v := 2) cx dX11_quotient_140 (by decide) ?_
        refine p_callVl (pc := 141) [.int v2, .int (v9 + v6), .int (2 : Int32)] cx (c_X11_top cx.2.2.2.2.2.2 hT hv0 hw) cf_X11_top cv_X11_top t5_45 hv0 ⟨by decide, rfl, rfl⟩ ⟨rfl, rfl⟩ ⟨Nat.le_of_ble_eq_true rfl, Nat.le_of_ble_eq_true rfl⟩ rfl rfl (Nat.le_of_ble_eq_true rfl) dX11_quotient_141 (fun r13 M13 hw hM13 => ?_)
        exact x_X11_quotient_144 cx hr hlk ih v0 v1 v2 v4 v5 v6 v7 v9 r13 M13 hM13 hv0 hw
      · have hw := hw.2 hc
        refine p_aload_n (pc := 119) cx dX11_quotient_119 rfl 0 rfl ?_
        refine p_iload_n (pc := 120) cx dX11_quotient_120 rfl 2 rfl ?_
        refine p_iload (pc := 121) cx dX11_quotient_121 7 rfl ?_
        refine p_iload (pc := 123) cx dX11_quotient_123 5 rfl ?_
        refine p_iadd (pc := 125) cx dX11_quotient_125 ?_
        refine p_iconst (pc := 126) (v := 3) cx dX11_quotient_126 (by decide) ?_
        refine p_callVl (pc := 127) [.int v2, .int (v9 + v6), .int (3 : Int32)] cx (c_X11_top cx.2.2.2.2.2.2 hT hv0 hw) cf_X11_top cv_X11_top t5_45 hv0 ⟨by decide, rfl, rfl⟩ ⟨rfl, rfl⟩ ⟨Nat.le_of_ble_eq_true rfl, Nat.le_of_ble_eq_true rfl⟩ rfl rfl (Nat.le_of_ble_eq_true rfl) dX11_quotient_127 (fun r34 M34 hw hM34 => ?_)
        refine p_goto (pc := 130) (tgt := 144) cx dX11_quotient_130 (by decide) ?_
        exact x_X11_quotient_144 cx hr hlk ih v0 v1 v2 v4 v5 v6 v7 v9 r34 M34 hM34 hv0 hw
set_option maxHeartbeats 4000000 in
set_option maxRecDepth 100000 in
theorem c_X11_quotient {l : Launch} {D : va_G} {G : SH} (hND : ND G) {a0 : Nat} {a1 : Int32} {a2 : Int32} {a3 : Int32} {a4 : Int32} {M : MS} {Qp : MS → Prop} (hT : TYR G M.2.2.1) (ha0 : Is G 10 a0) (hw : w_X11_quotient G a0 a1 a2 a3 a4 M Qp) : MeV l D G yX11_quotient (Cond.code yX11_quotient cX11_quotient 19 none :: GW) rm_X11_quotient [.ref a0, .int a1, .int a2, .int a3, .int a4] M Qp := by
  unfold MeV
  refine p_method (by decide) rfl (Nat.le_of_ble_eq_true rfl) hND ?_
  intro p e s m args below meth c cx hr hlk
  have cx : CX p s m args c D G cX11_quotient 19 RX11 := cx
  unfold w_X11_quotient at hw
  refine p_aload_n (pc := 0) cx dX11_quotient_0 rfl 0 rfl ?_
  refine gf_10_1 (pc := 1) cx ha0 t4_162 dX11_quotient_1 ?_
  have hr_1 : Is G 12 (mR M a0 1) := TYR.at hT ha0 1 12 rfl (by decide)
  refine p_iload_n (pc := 4) cx dX11_quotient_4 rfl 3 rfl ?_
  refine p_iald (pc := 5) cx hr_1 hw.1 dX11_quotient_5 ?_
  have hw := hw.2
  refine p_topi (fun x5_2 ex5_2 => ?_)
  have hw := hw x5_2 ex5_2
  refine p_istore (pc := 6) (lv' := [(0, .ref a0), (1, .int a1), (2, .int a2), (3, .int a3), (4, .int a4), (5, .int x5_2)]) cx dX11_quotient_6 (by decide) [1, 2, 3, 4, 5, 0] rfl ?_
  refine p_aload_n (pc := 8) cx dX11_quotient_8 rfl 0 rfl ?_
  refine gf_10_1 (pc := 9) cx ha0 t4_162 dX11_quotient_9 ?_
  have hr_3 : Is G 12 (mR M a0 1) := TYR.at hT ha0 1 12 rfl (by decide)
  refine p_iload (pc := 12) cx dX11_quotient_12 4 rfl ?_
  refine p_iald (pc := 14) cx hr_3 hw.1 dX11_quotient_14 ?_
  have hw := hw.2
  refine p_topi (fun x6_4 ex6_4 => ?_)
  have hw := hw x6_4 ex6_4
  refine p_istore (pc := 15) (lv' := [(0, .ref a0), (1, .int a1), (2, .int a2), (3, .int a3), (4, .int a4), (5, .int x5_2), (6, .int x6_4)]) cx dX11_quotient_15 (by decide) [1, 2, 3, 4, 5, 6, 0] rfl ?_
  refine p_aload_n (pc := 17) cx dX11_quotient_17 rfl 0 rfl ?_
  refine p_iload_n (pc := 18) cx dX11_quotient_18 rfl 2 rfl ?_
  refine p_iload_n (pc := 19) cx dX11_quotient_19 rfl 3 rfl ?_
  refine p_callVv (pc := 20) [.int a2, .int a3] cx (c_X11_copy cx.2.2.2.2.2.2 hT ha0 hw) cf_X11_copy cv_X11_copy t4_220 ha0 ⟨by decide, rfl, rfl⟩ ⟨rfl, rfl⟩ ⟨Nat.le_of_ble_eq_true rfl, Nat.le_of_ble_eq_true rfl⟩ rfl rfl (Nat.le_of_ble_eq_true rfl) dX11_quotient_20 (fun M5 hw hM5 => ?_)
  refine p_aload_n (pc := 23) cx dX11_quotient_23 rfl 0 rfl ?_
  refine gf_10_0 (pc := 24) cx ha0 t4_161 dX11_quotient_24 ?_
  have hr_6 : Is G 12 (mR M5 a0 0) := TYR.at hM5 ha0 0 12 rfl (by decide)
  refine p_sipush (pc := 27) (v := 260) cx dX11_quotient_27 (by decide) ?_
  refine p_iload_n (pc := 30) cx dX11_quotient_30 rfl 2 rfl ?_
  refine p_imul (pc := 31) cx dX11_quotient_31 ?_
  refine p_iload (pc := 32) cx dX11_quotient_32 5 rfl ?_
  refine p_iadd (pc := 34) cx dX11_quotient_34 ?_
  refine p_iconst (pc := 35) (v := 0) cx dX11_quotient_35 (by decide) ?_
  refine p_iast (pc := 36) cx hr_6 hw.1 dX11_quotient_36 ?_
  have hw := hw.2
  refine p_mem (fun M7 eM7 => ?_)
  have hw := hw M7 eM7
  have hM7 : TYR G M7.2.2.1 := by rw [eM7]; exact hM5
  refine p_iload (pc := 37) cx dX11_quotient_37 5 rfl ?_
  refine p_iload (pc := 39) cx dX11_quotient_39 6 rfl ?_
  refine p_icmp_ge (pc := 41) (tgt := 67) cx dX11_quotient_41 (by decide) (fun hc => ?_) (fun hc => ?_)
  · have hw := hw.1 hc
    refine p_iload (pc := 67) cx dX11_quotient_67 6 rfl ?_
    refine p_iconst (pc := 69) (v := 1) cx dX11_quotient_69 (by decide) ?_
    refine p_icmp_le (pc := 70) (tgt := 87) cx dX11_quotient_70 (by decide) (fun hc => ?_) (fun hc => ?_)
    · have hw := hw.1 hc
      refine p_aload_n (pc := 87) cx dX11_quotient_87 rfl 0 rfl ?_
      refine gf_10_0 (pc := 88) cx ha0 t4_161 dX11_quotient_88 ?_
      have hr_8 : Is G 12 (mR M7 a0 0) := TYR.at hM7 ha0 0 12 rfl (by decide)
      refine p_sipush (pc := 91) (v := 260) cx dX11_quotient_91 (by decide) ?_
      refine p_iload (pc := 94) cx dX11_quotient_94 4 rfl ?_
      refine p_imul (pc := 96) cx dX11_quotient_96 ?_
      refine p_iald (pc := 97) cx hr_8 hw.1 dX11_quotient_97 ?_
      have hw := hw.2
      refine p_i2l (pc := 98) cx dX11_quotient_98 ?_
      refine p_topl (fun x7_9 ex7_9 => ?_)
      have hw := hw x7_9 ex7_9
      refine p_lstore (pc := 99) (lv' := [(0, .ref a0), (1, .int a1), (2, .int a2), (4, .int a4), (5, .int x5_2), (6, .int x6_4), (7, .long x7_9)]) cx dX11_quotient_99 (by decide) [1, 2, 3, 5, 6, 7, 0] rfl ?_
      refine p_iload (pc := 101) cx dX11_quotient_101 4 rfl ?_
      refine p_iload (pc := 103) cx dX11_quotient_103 5 rfl ?_
      refine p_isub (pc := 105) cx dX11_quotient_105 ?_
      refine p_topi (fun x9_10 ex9_10 => ?_)
      have hw := hw x9_10 ex9_10
      refine p_istore (pc := 106) (lv' := [(0, .ref a0), (1, .int a1), (2, .int a2), (4, .int a4), (5, .int x5_2), (6, .int x6_4), (7, .long x7_9), (9, .int x9_10)]) cx dX11_quotient_106 (by decide) [1, 2, 3, 4, 5, 6, 7, 0] rfl ?_
      obtain ⟨n1, hw⟩ := hw
      exact x_X11_quotient_108 cx hr hlk n1 a0 a1 a2 a4 x5_2 x6_4 x7_9 x9_10 M7 hM7 ha0 hw
    · have hw := hw.2 hc
      refine p_aload_n (pc := 73) cx dX11_quotient_73 rfl 0 rfl ?_
      refine p_iload (pc := 74) cx dX11_quotient_74 4 rfl ?_
      refine p_iload (pc := 76) cx dX11_quotient_76 6 rfl ?_
      refine p_iconst (pc := 78) (v := 1) cx dX11_quotient_78 (by decide) ?_
      refine p_isub (pc := 79) cx dX11_quotient_79 ?_
      refine p_iconst (pc := 80) (v := 2) cx dX11_quotient_80 (by decide) ?_
      refine p_callVl (pc := 81) [.int a4, .int (x6_4 - 1), .int (2 : Int32)] cx (c_X11_top cx.2.2.2.2.2.2 hM7 ha0 hw) cf_X11_top cv_X11_top t5_45 ha0 ⟨by decide, rfl, rfl⟩ ⟨rfl, rfl⟩ ⟨Nat.le_of_ble_eq_true rfl, Nat.le_of_ble_eq_true rfl⟩ rfl rfl (Nat.le_of_ble_eq_true rfl) dX11_quotient_81 (fun r35 M35 hw hM35 => ?_)
      refine p_goto (pc := 84) (tgt := 99) cx dX11_quotient_84 (by decide) ?_
      refine p_lstore (pc := 99) (lv' := [(0, .ref a0), (1, .int a1), (2, .int a2), (4, .int a4), (5, .int x5_2), (6, .int x6_4), (7, .long r35)]) cx dX11_quotient_99 (by decide) [1, 2, 3, 5, 6, 7, 0] rfl ?_
      refine p_iload (pc := 101) cx dX11_quotient_101 4 rfl ?_
      refine p_iload (pc := 103) cx dX11_quotient_103 5 rfl ?_
      refine p_isub (pc := 105) cx dX11_quotient_105 ?_
      refine p_topi (fun x9_36 ex9_36 => ?_)
      have hw := hw x9_36 ex9_36
      refine p_istore (pc := 106) (lv' := [(0, .ref a0), (1, .int a1), (2, .int a2), (4, .int a4), (5, .int x5_2), (6, .int x6_4), (7, .long r35), (9, .int x9_36)]) cx dX11_quotient_106 (by decide) [1, 2, 3, 4, 5, 6, 7, 0] rfl ?_
      obtain ⟨n1, hw⟩ := hw
      exact x_X11_quotient_108 cx hr hlk n1 a0 a1 a2 a4 x5_2 x6_4 r35 x9_36 M35 hM35 ha0 hw
  · have hw := hw.2 hc
    refine p_aload_n (pc := 44) cx dX11_quotient_44 rfl 0 rfl ?_
    refine p_iload_n (pc := 45) cx dX11_quotient_45 rfl 1 rfl ?_
    refine p_iconst (pc := 46) (v := 0) cx dX11_quotient_46 (by decide) ?_
    refine p_callVv (pc := 47) [.int a1, .int (0 : Int32)] cx (c_X11_small cx.2.2.2.2.2.2 hM7 ha0 hw) cf_X11_small cv_X11_small t4_228 ha0 ⟨by decide, rfl, rfl⟩ ⟨rfl, rfl⟩ ⟨Nat.le_of_ble_eq_true rfl, Nat.le_of_ble_eq_true rfl⟩ rfl rfl (Nat.le_of_ble_eq_true rfl) dX11_quotient_47 (fun M37 hw hM37 => ?_)
    refine p_aload_n (pc := 50) cx dX11_quotient_50 rfl 0 rfl ?_
    refine gf_10_2 (pc := 51) cx ha0 t4_163 dX11_quotient_51 ?_
    have hr_38 : Is G 12 (mR M37 a0 2) := TYR.at hM37 ha0 2 12 rfl (by decide)
    refine p_iload_n (pc := 54) cx dX11_quotient_54 rfl 2 rfl ?_
    refine p_iload (pc := 55) cx dX11_quotient_55 5 rfl ?_
    refine p_if_ne (pc := 57) (tgt := 64) cx dX11_quotient_57 (by decide) (fun hc => ?_) (fun hc => ?_)
    · have hw := hw.1 hc
      refine p_iconst (pc := 64) (v := 1) cx dX11_quotient_64 (by decide) ?_
      refine p_iast (pc := 65) cx hr_38 hw.1 dX11_quotient_65 ?_
      have hw := hw.2
      refine p_mem (fun M39 eM39 => ?_)
      have hw := hw M39 eM39
      have hM39 : TYR G M39.2.2.1 := by rw [eM39]; exact hM37
      exact p_vret (pc := 66) cx hr hlk dX11_quotient_66 hM39 hw
    · have hw := hw.2 hc
      refine p_iconst (pc := 60) (v := 0) cx dX11_quotient_60 (by decide) ?_
      refine p_goto (pc := 61) (tgt := 65) cx dX11_quotient_61 (by decide) ?_
      refine p_iast (pc := 65) cx hr_38 hw.1 dX11_quotient_65 ?_
      have hw := hw.2
      refine p_mem (fun M40 eM40 => ?_)
      have hw := hw M40 eM40
      have hM40 : TYR G M40.2.2.1 := by rw [eM40]; exact hM37
      exact p_vret (pc := 66) cx hr hlk dX11_quotient_66 hM40 hw
set_option maxHeartbeats 4000000 in
set_option maxRecDepth 100000 in
theorem x_X11_divided_65 {p : Program} {l : Launch} {e : Env} {s : State} {m : MethodId} {args : Array Value} {below : List Frame} {meth : Method} {c : Code} {D : va_G} {G : SH} {Qp : MS → Prop}  (cx : CX p s m args c D G cX11_divided 7 RX11) (hr : meth.sig.returnType = none) (hlk : meth.locks = false)  (v0 : Nat) (v1 : Int32) (v5 : Int32) (v6 : Int32) (M : MS) (hT : TYR G M.2.2.1) (hv0 : Is G 10 v0) (hw : w_X11_divided_65 G Qp v0 v1 v5 v6 M) : PW p l e rm_X11_divided s m args below meth c D G 7 (MQ below (va_Qv Qp (POST D G) (AG G)) args s 0 0 (AG G)) 65 [(0, .ref v0), (1, .int v1), (5, .int v5), (6, .int v6)] [] M := by
  unfold w_X11_divided_65 at hw
  refine p_aload_n (pc := 65) cx dX11_divided_65 rfl 0 rfl ?_
  refine gf_10_2 (pc := 66) cx hv0 t4_163 dX11_divided_66 ?_
  have hr_7 : Is G 12 (mR M v0 2) := TYR.at hT hv0 2 12 rfl (by decide)
  refine p_iload_n (pc := 69) cx dX11_divided_69 rfl 1 rfl ?_
  refine p_iald (pc := 70) cx hr_7 hw.1 dX11_divided_70 ?_
  have hw := hw.2
  refine p_if_eq (pc := 71) (tgt := 85) cx dX11_divided_71 (by decide) (fun hc => ?_) (fun hc => ?_)
  · have hw := hw.1 hc
    exact p_vret (pc := 85) cx hr hlk dX11_divided_85 hT hw
  · have hw := hw.2 hc
    refine p_aload_n (pc := 74) cx dX11_divided_74 rfl 0 rfl ?_
    refine gf_10_2 (pc := 75) cx hv0 t4_163 dX11_divided_75 ?_
    have hr_8 : Is G 12 (mR M v0 2) := TYR.at hT hv0 2 12 rfl (by decide)
    refine p_iload_n (pc := 78) cx dX11_divided_78 rfl 1 rfl ?_
    refine p_iload (pc := 79) cx dX11_divided_79 2 rfl ?_
    refine p_iload (pc := 81) cx dX11_divided_81 3 rfl ?_
    refine p_imul (pc := 83) cx dX11_divided_83 ?_
    refine p_iast (pc := 84) cx hr_8 hw.1 dX11_divided_84 ?_
    have hw := hw.2
    refine p_mem (fun M9 eM9 => ?_)
    have hw := hw M9 eM9
    have hM9 : TYR G M9.2.2.1 := by rw [eM9]; exact hT
    exact p_vret (pc := 85) cx hr hlk dX11_divided_85 hM9 hw
set_option maxHeartbeats 4000000 in
set_option maxRecDepth 100000 in
theorem c_X11_divided {l : Launch} {D : va_G} {G : SH} (hND : ND G) {a0 : Nat} {a1 : Int32} {a2 : Int32} {a3 : Int32} {a4 : Int32} {M : MS} {Qp : MS → Prop} (hT : TYR G M.2.2.1) (ha0 : Is G 10 a0) (hw : w_X11_divided G a0 a1 a2 a3 a4 M Qp) : MeV l D G yX11_divided (Cond.code yX11_divided cX11_divided 7 none :: GW) rm_X11_divided [.ref a0, .int a1, .int a2, .int a3, .int a4] M Qp := by
  unfold MeV
  refine p_method (by decide) rfl (Nat.le_of_ble_eq_true rfl) hND ?_
  intro p e s m args below meth c cx hr hlk
  have cx : CX p s m args c D G cX11_divided 7 RX11 := cx
  unfold w_X11_divided at hw
  refine p_aload_n (pc := 0) cx dX11_divided_0 rfl 0 rfl ?_
  refine gf_10_2 (pc := 1) cx ha0 t4_163 dX11_divided_1 ?_
  have hr_1 : Is G 12 (mR M a0 2) := TYR.at hT ha0 2 12 rfl (by decide)
  refine p_iload_n (pc := 4) cx dX11_divided_4 rfl 3 rfl ?_
  refine p_iald (pc := 5) cx hr_1 hw.1 dX11_divided_5 ?_
  have hw := hw.2
  refine p_topi (fun x5_2 ex5_2 => ?_)
  have hw := hw x5_2 ex5_2
  refine p_istore (pc := 6) (lv' := [(0, .ref a0), (1, .int a1), (2, .int a2), (3, .int a3), (4, .int a4), (5, .int x5_2)]) cx dX11_divided_6 (by decide) [1, 2, 3, 4, 5, 0] rfl ?_
  refine p_aload_n (pc := 8) cx dX11_divided_8 rfl 0 rfl ?_
  refine gf_10_2 (pc := 9) cx ha0 t4_163 dX11_divided_9 ?_
  have hr_3 : Is G 12 (mR M a0 2) := TYR.at hT ha0 2 12 rfl (by decide)
  refine p_iload (pc := 12) cx dX11_divided_12 4 rfl ?_
  refine p_iald (pc := 14) cx hr_3 hw.1 dX11_divided_14 ?_
  have hw := hw.2
  refine p_topi (fun x6_4 ex6_4 => ?_)
  have hw := hw x6_4 ex6_4
  refine p_istore (pc := 15) (lv' := [(0, .ref a0), (1, .int a1), (2, .int a2), (3, .int a3), (4, .int a4), (5, .int x5_2), (6, .int x6_4)]) cx dX11_divided_15 (by decide) [1, 2, 3, 4, 5, 6, 0] rfl ?_
  refine p_aload_n (pc := 17) cx dX11_divided_17 rfl 0 rfl ?_
  refine p_iload_n (pc := 18) cx dX11_divided_18 rfl 1 rfl ?_
  refine p_iload_n (pc := 19) cx dX11_divided_19 rfl 2 rfl ?_
  refine p_iload_n (pc := 20) cx dX11_divided_20 rfl 3 rfl ?_
  refine p_iload (pc := 21) cx dX11_divided_21 4 rfl ?_
  refine p_callVv (pc := 23) [.int a1, .int a2, .int a3, .int a4] cx (c_X11_quotient cx.2.2.2.2.2.2 hT ha0 hw) cf_X11_quotient cv_X11_quotient t5_41 ha0 ⟨by decide, rfl, rfl⟩ ⟨rfl, rfl⟩ ⟨Nat.le_of_ble_eq_true rfl, Nat.le_of_ble_eq_true rfl⟩ rfl rfl (Nat.le_of_ble_eq_true rfl) dX11_divided_23 (fun M5 hw hM5 => ?_)
  refine p_aload_n (pc := 26) cx dX11_divided_26 rfl 0 rfl ?_
  refine p_bipush (pc := 27) (v := 16) cx dX11_divided_27 (by decide) ?_
  refine p_iconst (pc := 29) (v := 1) cx dX11_divided_29 (by decide) ?_
  refine p_callVv (pc := 30) [.int (16 : Int32), .int (1 : Int32)] cx (c_X11_small cx.2.2.2.2.2.2 hM5 ha0 hw) cf_X11_small cv_X11_small t4_228 ha0 ⟨by decide, rfl, rfl⟩ ⟨rfl, rfl⟩ ⟨Nat.le_of_ble_eq_true rfl, Nat.le_of_ble_eq_true rfl⟩ rfl rfl (Nat.le_of_ble_eq_true rfl) dX11_divided_30 (fun M6 hw hM6 => ?_)
  refine p_iload (pc := 33) cx dX11_divided_33 5 rfl ?_
  refine p_if_ge (pc := 35) (tgt := 65) cx dX11_divided_35 (by decide) (fun hc => ?_) (fun hc => ?_)
  · have hw := hw.1 hc
    refine p_perm (lv' := [(0, .ref a0), (1, .int a1), (5, .int x5_2), (6, .int x6_4)]) [0, 1, 5, 6] rfl ?_
    exact x_X11_divided_65 cx hr hlk a0 a1 x5_2 x6_4 M6 hM6 ha0 hw
  · have hw := hw.2 hc
    refine p_aload_n (pc := 38) cx dX11_divided_38 rfl 0 rfl ?_
    refine gf_10_2 (pc := 39) cx ha0 t4_163 dX11_divided_39 ?_
    have hr_10 : Is G 12 (mR M6 a0 2) := TYR.at hM6 ha0 2 12 rfl (by decide)
    refine p_iload_n (pc := 42) cx dX11_divided_42 rfl 2 rfl ?_
    refine p_iald (pc := 43) cx hr_10 hw.1 dX11_divided_43 ?_
    have hw := hw.2
    refine p_if_eq (pc := 44) (tgt := 65) cx dX11_divided_44 (by decide) (fun hc => ?_) (fun hc => ?_)
    · have hw := hw.1 hc
      refine p_perm (lv' := [(0, .ref a0), (1, .int a1), (5, .int x5_2), (6, .int x6_4)]) [0, 1, 5, 6] rfl ?_
      exact x_X11_divided_65 cx hr hlk a0 a1 x5_2 x6_4 M6 hM6 ha0 hw
    · have hw := hw.2 hc
      refine p_aload_n (pc := 47) cx dX11_divided_47 rfl 0 rfl ?_
      refine p_iload_n (pc := 48) cx dX11_divided_48 rfl 1 rfl ?_
      refine p_iload_n (pc := 49) cx dX11_divided_49 rfl 1 rfl ?_
      refine p_bipush (pc := 50) (v := 16) cx dX11_divided_50 (by decide) ?_
      refine p_iconst (pc := 52) (v := 1) cx dX11_divided_52 (by decide) ?_
      refine p_callVv (pc := 53) [.int a1, .int a1, .int (16 : Int32), .int (1 : Int32)] cx (c_X11_sum cx.2.2.2.2.2.2 hM6 ha0 hw) cf_X11_sum cv_X11_sum t5_0 ha0 ⟨by decide, rfl, rfl⟩ ⟨rfl, rfl⟩ ⟨Nat.le_of_ble_eq_true rfl, Nat.le_of_ble_eq_true rfl⟩ rfl rfl (Nat.le_of_ble_eq_true rfl) dX11_divided_53 (fun M11 hw hM11 => ?_)
      refine p_aload_n (pc := 56) cx dX11_divided_56 rfl 0 rfl ?_
      refine p_iload_n (pc := 57) cx dX11_divided_57 rfl 2 rfl ?_
      refine p_iload (pc := 58) cx dX11_divided_58 4 rfl ?_
      refine p_iload_n (pc := 60) cx dX11_divided_60 rfl 2 rfl ?_
      refine p_iconst (pc := 61) (v := 1) cx dX11_divided_61 (by decide) ?_
      refine p_callVv (pc := 62) [.int a2, .int a4, .int a2, .int (1 : Int32)] cx (c_X11_sizeLess cx.2.2.2.2.2.2 hM11 ha0 hw) cf_X11_sizeLess cv_X11_sizeLess t5_16 ha0 ⟨by decide, rfl, rfl⟩ ⟨rfl, rfl⟩ ⟨Nat.le_of_ble_eq_true rfl, Nat.le_of_ble_eq_true rfl⟩ rfl rfl (Nat.le_of_ble_eq_true rfl) dX11_divided_62 (fun M12 hw hM12 => ?_)
      refine p_perm (lv' := [(0, .ref a0), (1, .int a1), (5, .int x5_2), (6, .int x6_4)]) [0, 1, 5, 6] rfl ?_
      exact x_X11_divided_65 cx hr hlk a0 a1 x5_2 x6_4 M12 hM12 ha0 hw
set_option maxHeartbeats 4000000 in
set_option maxRecDepth 100000 in
theorem x_X11_bits_43 {p : Program} {l : Launch} {e : Env} {s : State} {m : MethodId} {args : Array Value} {below : List Frame} {meth : Method} {c : Code} {D : va_G} {G : SH} {Qp : Int32 → MS → Prop}  (cx : CX p s m args c D G cX11_bits 4 RX11) (hr : meth.sig.returnType = (some .int)) (hlk : meth.locks = false)  : ∀ (n : Nat) (v2 : Int32) (v3 : Int32) (M : MS), TYR G M.2.2.1 → w_X11_bits_43 G Qp n v2 v3 M → PW p l e rm_X11_bits s m args below meth c D G 4 (MQ below (va_Qi Qp (POST D G) (AG G)) args s 0 0 (AG G)) 43 [(2, .int v2), (3, .int v3)] [] M := by
  intro n
  induction n with
  | zero =>
    intro v2 v3 M hT hw
    exact hw.elim
  | succ n ih =>
    intro v2 v3 M hT hw
    rw [w_X11_bits_43] at hw
    refine p_iload_n (pc := 43) cx dX11_bits_43 rfl 0 rfl ?_
    refine p_if_le (pc := 44) (tgt := 57) cx dX11_bits_44 (by decide) (fun hc => ?_) (fun hc => ?_)
    · have hw := hw.1 hc
      refine p_iload_n (pc := 57) cx dX11_bits_57 rfl 1 rfl ?_
      exact p_iret (pc := 58) cx hr hlk dX11_bits_58 hT hw
    · have hw := hw.2 hc
      obtain ⟨x3_7, ex3_7⟩ : ∃ y : Int32, y = v3 + 1 := ⟨_, rfl⟩
      have hw := hw x3_7 ex3_7
      refine p_iinc (pc := 47) (v := x3_7) (lv' := [(2, .int v2), (3, .int x3_7)]) cx dX11_bits_47 1 rfl (by rw [ex3_7]; rfl) (by decide) [1, 0] rfl ?_
      refine p_iload_n (pc := 50) cx dX11_bits_50 rfl 0 rfl ?_
      refine p_iconst (pc := 51) (v := 1) cx dX11_bits_51 (by decide) ?_
      refine p_ishr (pc := 52) cx dX11_bits_52 ?_
      refine p_topi (fun x2_8 ex2_8 => ?_)
      have hw := hw x2_8 ex2_8
      refine p_istore_n (pc := 53) (lv' := [(2, .int x2_8), (3, .int x3_7)]) cx dX11_bits_53 rfl (by decide) [0, 1] rfl ?_
      refine p_goto (pc := 54) (tgt := 43) cx dX11_bits_54 (by decide) ?_
      exact ih x2_8 x3_7 M hT hw
set_option maxHeartbeats 4000000 in
set_option maxRecDepth 100000 in
theorem c_X11_bits {l : Launch} {D : va_G} {G : SH} (hND : ND G) {a0 : Nat} {a1 : Int32} {M : MS} {Qp : Int32 → MS → Prop} (hT : TYR G M.2.2.1) (ha0 : Is G 10 a0) (hw : w_X11_bits G a0 a1 M Qp) : MeI l D G yX11_bits (Cond.code yX11_bits cX11_bits 4 (some .int) :: GW) rm_X11_bits [.ref a0, .int a1] M Qp := by
  unfold MeI
  refine p_method (by decide) rfl (Nat.le_of_ble_eq_true rfl) hND ?_
  intro p e s m args below meth c cx hr hlk
  have cx : CX p s m args c D G cX11_bits 4 RX11 := cx
  unfold w_X11_bits at hw
  refine p_aload_n (pc := 0) cx dX11_bits_0 rfl 0 rfl ?_
  refine gf_10_1 (pc := 1) cx ha0 t4_162 dX11_bits_1 ?_
  have hr_1 : Is G 12 (mR M a0 1) := TYR.at hT ha0 1 12 rfl (by decide)
  refine p_iload_n (pc := 4) cx dX11_bits_4 rfl 1 rfl ?_
  refine p_iald (pc := 5) cx hr_1 hw.1 dX11_bits_5 ?_
  have hw := hw.2
  refine p_if_ne (pc := 6) (tgt := 11) cx dX11_bits_6 (by decide) (fun hc => ?_) (fun hc => ?_)
  · have hw := hw.1 hc
    refine p_aload_n (pc := 11) cx dX11_bits_11 rfl 0 rfl ?_
    refine gf_10_0 (pc := 12) cx ha0 t4_161 dX11_bits_12 ?_
    have hr_2 : Is G 12 (mR M a0 0) := TYR.at hT ha0 0 12 rfl (by decide)
    refine p_sipush (pc := 15) (v := 260) cx dX11_bits_15 (by decide) ?_
    refine p_iload_n (pc := 18) cx dX11_bits_18 rfl 1 rfl ?_
    refine p_imul (pc := 19) cx dX11_bits_19 ?_
    refine p_aload_n (pc := 20) cx dX11_bits_20 rfl 0 rfl ?_
    refine gf_10_1 (pc := 21) cx ha0 t4_162 dX11_bits_21 ?_
    have hr_3 : Is G 12 (mR M a0 1) := TYR.at hT ha0 1 12 rfl (by decide)
    refine p_iload_n (pc := 24) cx dX11_bits_24 rfl 1 rfl ?_
    refine p_iald (pc := 25) cx hr_3 hw.1 dX11_bits_25 ?_
    have hw := hw.2
    refine p_iadd (pc := 26) cx dX11_bits_26 ?_
    refine p_iconst (pc := 27) (v := 1) cx dX11_bits_27 (by decide) ?_
    refine p_isub (pc := 28) cx dX11_bits_28 ?_
    refine p_iald (pc := 29) cx hr_2 hw.1 dX11_bits_29 ?_
    have hw := hw.2
    refine p_topi (fun x2_4 ex2_4 => ?_)
    have hw := hw x2_4 ex2_4
    refine p_istore_n (pc := 30) (lv' := [(0, .ref a0), (1, .int a1), (2, .int x2_4)]) cx dX11_bits_30 rfl (by decide) [1, 2, 0] rfl ?_
    refine p_bipush (pc := 31) (v := 16) cx dX11_bits_31 (by decide) ?_
    refine p_aload_n (pc := 33) cx dX11_bits_33 rfl 0 rfl ?_
    refine gf_10_1 (pc := 34) cx ha0 t4_162 dX11_bits_34 ?_
    have hr_5 : Is G 12 (mR M a0 1) := TYR.at hT ha0 1 12 rfl (by decide)
    refine p_iload_n (pc := 37) cx dX11_bits_37 rfl 1 rfl ?_
    refine p_iald (pc := 38) cx hr_5 hw.1 dX11_bits_38 ?_
    have hw := hw.2
    refine p_iconst (pc := 39) (v := 1) cx dX11_bits_39 (by decide) ?_
    refine p_isub (pc := 40) cx dX11_bits_40 ?_
    refine p_imul (pc := 41) cx dX11_bits_41 ?_
    refine p_topi (fun x3_6 ex3_6 => ?_)
    have hw := hw x3_6 ex3_6
    refine p_istore_n (pc := 42) (lv' := [(2, .int x2_4), (3, .int x3_6)]) cx dX11_bits_42 rfl (by decide) [3, 0] rfl ?_
    obtain ⟨n1, hw⟩ := hw
    exact x_X11_bits_43 cx hr hlk n1 x2_4 x3_6 M hT hw
  · have hw := hw.2 hc
    refine p_iconst (pc := 9) (v := 0) cx dX11_bits_9 (by decide) ?_
    exact p_iret (pc := 10) cx hr hlk dX11_bits_10 hT hw
set_option maxHeartbeats 4000000 in
set_option maxRecDepth 100000 in
theorem c_X11_bit {l : Launch} {D : va_G} {G : SH} (hND : ND G) {a0 : Nat} {a1 : Int32} {a2 : Int32} {M : MS} {Qp : Int32 → MS → Prop} (hT : TYR G M.2.2.1) (ha0 : Is G 10 a0) (hw : w_X11_bit G a0 a1 a2 M Qp) : MeI l D G yX11_bit (Cond.code yX11_bit cX11_bit 3 (some .boolean) :: GW) rm_X11_bit [.ref a0, .int a1, .int a2] M Qp := by
  unfold MeI
  refine p_method (by decide) rfl (Nat.le_of_ble_eq_true rfl) hND ?_
  intro p e s m args below meth c cx hr hlk
  have cx : CX p s m args c D G cX11_bit 3 RX11 := cx
  unfold w_X11_bit at hw
  refine p_aload_n (pc := 0) cx dX11_bit_0 rfl 0 rfl ?_
  refine p_iload_n (pc := 1) cx dX11_bit_1 rfl 1 rfl ?_
  refine p_iload_n (pc := 2) cx dX11_bit_2 rfl 2 rfl ?_
  refine p_iconst (pc := 3) (v := 4) cx dX11_bit_3 (by decide) ?_
  refine p_ishr (pc := 4) cx dX11_bit_4 ?_
  refine p_callVi (pc := 5) [.int a1, .int (a2 >>> ((4 : Int32) &&& 31))] cx (c_X11_get cx.2.2.2.2.2.2 hT ha0 hw) cf_X11_get cv_X11_get t5_8 ha0 ⟨by decide, rfl, rfl⟩ ⟨rfl, rfl⟩ ⟨Nat.le_of_ble_eq_true rfl, Nat.le_of_ble_eq_true rfl⟩ rfl rfl (Nat.le_of_ble_eq_true rfl) dX11_bit_5 (fun r1 M1 hw hM1 => ?_)
  refine p_iload_n (pc := 8) cx dX11_bit_8 rfl 2 rfl ?_
  refine p_bipush (pc := 9) (v := 15) cx dX11_bit_9 (by decide) ?_
  refine p_iand (pc := 11) cx dX11_bit_11 ?_
  refine p_ishr (pc := 12) cx dX11_bit_12 ?_
  refine p_iconst (pc := 13) (v := 1) cx dX11_bit_13 (by decide) ?_
  refine p_iand (pc := 14) cx dX11_bit_14 ?_
  refine p_iconst (pc := 15) (v := 1) cx dX11_bit_15 (by decide) ?_
  refine p_icmp_ne (pc := 16) (tgt := 23) cx dX11_bit_16 (by decide) (fun hc => ?_) (fun hc => ?_)
  · have hw := hw.1 hc
    refine p_iconst (pc := 23) (v := 0) cx dX11_bit_23 (by decide) ?_
    exact p_zret (pc := 24) cx hr hlk dX11_bit_24 (by decide) hM1 hw
  · have hw := hw.2 hc
    refine p_iconst (pc := 19) (v := 1) cx dX11_bit_19 (by decide) ?_
    refine p_goto (pc := 20) (tgt := 24) cx dX11_bit_20 (by decide) ?_
    exact p_zret (pc := 24) cx hr hlk dX11_bit_24 (by decide) hM1 hw
set_option maxHeartbeats 4000000 in
set_option maxRecDepth 100000 in
theorem x_X11_halved_22 {p : Program} {l : Launch} {e : Env} {s : State} {m : MethodId} {args : Array Value} {below : List Frame} {meth : Method} {c : Code} {D : va_G} {G : SH} {Qp : MS → Prop}  (cx : CX p s m args c D G cX11_halved 8 RX11) (hr : meth.sig.returnType = none) (hlk : meth.locks = false)  : ∀ (n : Nat) (v0 : Nat) (v1 : Int32) (v2 : Int32) (v4 : Int32) (v5 : Int32) (v6 : Int32) (v7 : Int32) (M : MS), TYR G M.2.2.1 → Is G 10 v0 → w_X11_halved_22 G Qp n v0 v1 v2 v4 v5 v6 v7 M → PW p l e rm_X11_halved s m args below meth c D G 8 (MQ below (va_Qv Qp (POST D G) (AG G)) args s 0 0 (AG G)) 22 [(0, .ref v0), (1, .int v1), (2, .int v2), (4, .int v4), (5, .int v5), (6, .int v6), (7, .int v7)] [] M := by
  intro n
  induction n with
  | zero =>
    intro v0 v1 v2 v4 v5 v6 v7 M hT hv0 hw
    exact hw.elim
  | succ n ih =>
    intro v0 v1 v2 v4 v5 v6 v7 M hT hv0 hw
    rw [w_X11_halved_22] at hw
    refine p_iload (pc := 22) cx dX11_halved_22 6 rfl ?_
    refine p_iload (pc := 24) cx dX11_halved_24 3 rfl ?_
    refine p_iadd (pc := 26) cx dX11_halved_26 ?_
    refine p_iload (pc := 27) cx dX11_halved_27 5 rfl ?_
    refine p_icmp_ge (pc := 29) (tgt := 83) cx dX11_halved_29 (by decide) (fun hc => ?_) (fun hc => ?_)
    · have hw := hw.1 hc
      refine p_aload_n (pc := 83) cx dX11_halved_83 rfl 0 rfl ?_
      refine p_iload_n (pc := 84) cx dX11_halved_84 rfl 1 rfl ?_
      refine p_iload (pc := 85) cx dX11_halved_85 5 rfl ?_
      refine p_iload (pc := 87) cx dX11_halved_87 3 rfl ?_
      refine p_icmp_le (pc := 89) (tgt := 100) cx dX11_halved_89 (by decide) (fun hc => ?_) (fun hc => ?_)
      · have hw := hw.1 hc
        refine p_iconst (pc := 100) (v := 0) cx dX11_halved_100 (by decide) ?_
        refine p_aload_n (pc := 101) cx dX11_halved_101 rfl 0 rfl ?_
        refine gf_10_2 (pc := 102) cx hv0 t4_163 dX11_halved_102 ?_
        have hr_5 : Is G 12 (mR M v0 2) := TYR.at hT hv0 2 12 rfl (by decide)
        refine p_iload_n (pc := 105) cx dX11_halved_105 rfl 2 rfl ?_
        refine p_iald (pc := 106) cx hr_5 hw.1 dX11_halved_106 ?_
        have hw := hw.2
        refine p_callVv (pc := 107) [.int v1, .int (0 : Int32), .int (mA M (mR M v0 2) v2.toNatClampNeg)] cx (c_X11_trim cx.2.2.2.2.2.2 hT hv0 hw) cf_X11_trim cv_X11_trim t4_208 hv0 ⟨by decide, rfl, rfl⟩ ⟨rfl, rfl⟩ ⟨Nat.le_of_ble_eq_true rfl, Nat.le_of_ble_eq_true rfl⟩ rfl rfl (Nat.le_of_ble_eq_true rfl) dX11_halved_107 (fun M6 hw hM6 => ?_)
        exact p_vret (pc := 110) cx hr hlk dX11_halved_110 hM6 hw
      · have hw := hw.2 hc
        refine p_iload (pc := 92) cx dX11_halved_92 5 rfl ?_
        refine p_iload (pc := 94) cx dX11_halved_94 3 rfl ?_
        refine p_isub (pc := 96) cx dX11_halved_96 ?_
        refine p_goto (pc := 97) (tgt := 101) cx dX11_halved_97 (by decide) ?_
        refine p_aload_n (pc := 101) cx dX11_halved_101 rfl 0 rfl ?_
        refine gf_10_2 (pc := 102) cx hv0 t4_163 dX11_halved_102 ?_
        have hr_7 : Is G 12 (mR M v0 2) := TYR.at hT hv0 2 12 rfl (by decide)
        refine p_iload_n (pc := 105) cx dX11_halved_105 rfl 2 rfl ?_
        refine p_iald (pc := 106) cx hr_7 hw.1 dX11_halved_106 ?_
        have hw := hw.2
        refine p_callVv (pc := 107) [.int v1, .int (v6 - v4), .int (mA M (mR M v0 2) v2.toNatClampNeg)] cx (c_X11_trim cx.2.2.2.2.2.2 hT hv0 hw) cf_X11_trim cv_X11_trim t4_208 hv0 ⟨by decide, rfl, rfl⟩ ⟨rfl, rfl⟩ ⟨Nat.le_of_ble_eq_true rfl, Nat.le_of_ble_eq_true rfl⟩ rfl rfl (Nat.le_of_ble_eq_true rfl) dX11_halved_107 (fun M8 hw hM8 => ?_)
        exact p_vret (pc := 110) cx hr hlk dX11_halved_110 hM8 hw
    · have hw := hw.2 hc
      refine p_aload_n (pc := 32) cx dX11_halved_32 rfl 0 rfl ?_
      refine gf_10_0 (pc := 33) cx hv0 t4_161 dX11_halved_33 ?_
      have hr_9 : Is G 12 (mR M v0 0) := TYR.at hT hv0 0 12 rfl (by decide)
      refine p_sipush (pc := 36) (v := 260) cx dX11_halved_36 (by decide) ?_
      refine p_iload_n (pc := 39) cx dX11_halved_39 rfl 1 rfl ?_
      refine p_imul (pc := 40) cx dX11_halved_40 ?_
      refine p_iload (pc := 41) cx dX11_halved_41 6 rfl ?_
      refine p_iadd (pc := 43) cx dX11_halved_43 ?_
      refine p_aload_n (pc := 44) cx dX11_halved_44 rfl 0 rfl ?_
      refine p_iload_n (pc := 45) cx dX11_halved_45 rfl 2 rfl ?_
      refine p_iload (pc := 46) cx dX11_halved_46 6 rfl ?_
      refine p_iload (pc := 48) cx dX11_halved_48 3 rfl ?_
      refine p_iadd (pc := 50) cx dX11_halved_50 ?_
      refine p_callVi (pc := 51) [.int v2, .int (v7 + v4)] cx (c_X11_get cx.2.2.2.2.2.2 hT hv0 hw) cf_X11_get cv_X11_get t5_8 hv0 ⟨by decide, rfl, rfl⟩ ⟨rfl, rfl⟩ ⟨Nat.le_of_ble_eq_true rfl, Nat.le_of_ble_eq_true rfl⟩ rfl rfl (Nat.le_of_ble_eq_true rfl) dX11_halved_51 (fun r10 M10 hw hM10 => ?_)
      refine p_aload_n (pc := 54) cx dX11_halved_54 rfl 0 rfl ?_
      refine p_iload_n (pc := 55) cx dX11_halved_55 rfl 2 rfl ?_
      refine p_iload (pc := 56) cx dX11_halved_56 6 rfl ?_
      refine p_iload (pc := 58) cx dX11_halved_58 3 rfl ?_
      refine p_iadd (pc := 60) cx dX11_halved_60 ?_
      refine p_iconst (pc := 61) (v := 1) cx dX11_halved_61 (by decide) ?_
      refine p_iadd (pc := 62) cx dX11_halved_62 ?_
      refine p_callVi (pc := 63) [.int v2, .int ((v7 + v4) + 1)] cx (c_X11_get cx.2.2.2.2.2.2 hM10 hv0 hw) cf_X11_get cv_X11_get t5_8 hv0 ⟨by decide, rfl, rfl⟩ ⟨rfl, rfl⟩ ⟨Nat.le_of_ble_eq_true rfl, Nat.le_of_ble_eq_true rfl⟩ rfl rfl (Nat.le_of_ble_eq_true rfl) dX11_halved_63 (fun r11 M11 hw hM11 => ?_)
      refine p_bipush (pc := 66) (v := 16) cx dX11_halved_66 (by decide) ?_
      refine p_ishl (pc := 68) cx dX11_halved_68 ?_
      refine p_ior (pc := 69) cx dX11_halved_69 ?_
      refine p_iload (pc := 70) cx dX11_halved_70 4 rfl ?_
      refine p_ishr (pc := 72) cx dX11_halved_72 ?_
      refine p_ldc (pc := 73) cx dX11_halved_73 t4_207 ?_
      refine p_iand (pc := 75) cx dX11_halved_75 ?_
      refine p_iast (pc := 76) cx hr_9 hw.1 dX11_halved_76 ?_
      have hw := hw.2
      refine p_mem (fun M12 eM12 => ?_)
      have hw := hw M12 eM12
      have hM12 : TYR G M12.2.2.1 := by rw [eM12]; exact hM11
      obtain ⟨x7_13, ex7_13⟩ : ∃ y : Int32, y = v7 + 1 := ⟨_, rfl⟩
      have hw := hw x7_13 ex7_13
      refine p_iinc (pc := 77) (v := x7_13) (lv' := [(0, .ref v0), (1, .int v1), (2, .int v2), (4, .int v4), (5, .int v5), (6, .int v6), (7, .int x7_13)]) cx dX11_halved_77 6 rfl (by rw [ex7_13]; rfl) (by decide) [1, 2, 3, 4, 5, 6, 0] rfl ?_
      refine p_goto (pc := 80) (tgt := 22) cx dX11_halved_80 (by decide) ?_
      exact ih v0 v1 v2 v4 v5 v6 x7_13 M12 hM12 hv0 hw
set_option maxHeartbeats 4000000 in
set_option maxRecDepth 100000 in
theorem c_X11_halved {l : Launch} {D : va_G} {G : SH} (hND : ND G) {a0 : Nat} {a1 : Int32} {a2 : Int32} {a3 : Int32} {M : MS} {Qp : MS → Prop} (hT : TYR G M.2.2.1) (ha0 : Is G 10 a0) (hw : w_X11_halved G a0 a1 a2 a3 M Qp) : MeV l D G yX11_halved (Cond.code yX11_halved cX11_halved 8 none :: GW) rm_X11_halved [.ref a0, .int a1, .int a2, .int a3] M Qp := by
  unfold MeV
  refine p_method (by decide) rfl (Nat.le_of_ble_eq_true rfl) hND ?_
  intro p e s m args below meth c cx hr hlk
  have cx : CX p s m args c D G cX11_halved 8 RX11 := cx
  unfold w_X11_halved at hw
  refine p_iload_n (pc := 0) cx dX11_halved_0 rfl 3 rfl ?_
  refine p_iconst (pc := 1) (v := 4) cx dX11_halved_1 (by decide) ?_
  refine p_ishr (pc := 2) cx dX11_halved_2 ?_
  refine p_topi (fun x4_1 ex4_1 => ?_)
  have hw := hw x4_1 ex4_1
  refine p_istore (pc := 3) (lv' := [(0, .ref a0), (1, .int a1), (2, .int a2), (3, .int a3), (4, .int x4_1)]) cx dX11_halved_3 (by decide) [1, 2, 3, 4, 0] rfl ?_
  refine p_iload_n (pc := 5) cx dX11_halved_5 rfl 3 rfl ?_
  refine p_bipush (pc := 6) (v := 15) cx dX11_halved_6 (by decide) ?_
  refine p_iand (pc := 8) cx dX11_halved_8 ?_
  refine p_topi (fun x5_2 ex5_2 => ?_)
  have hw := hw x5_2 ex5_2
  refine p_istore (pc := 9) (lv' := [(0, .ref a0), (1, .int a1), (2, .int a2), (4, .int x4_1), (5, .int x5_2)]) cx dX11_halved_9 (by decide) [1, 2, 3, 5, 0] rfl ?_
  refine p_aload_n (pc := 11) cx dX11_halved_11 rfl 0 rfl ?_
  refine gf_10_1 (pc := 12) cx ha0 t4_162 dX11_halved_12 ?_
  have hr_3 : Is G 12 (mR M a0 1) := TYR.at hT ha0 1 12 rfl (by decide)
  refine p_iload_n (pc := 15) cx dX11_halved_15 rfl 2 rfl ?_
  refine p_iald (pc := 16) cx hr_3 hw.1 dX11_halved_16 ?_
  have hw := hw.2
  refine p_topi (fun x6_4 ex6_4 => ?_)
  have hw := hw x6_4 ex6_4
  refine p_istore (pc := 17) (lv' := [(0, .ref a0), (1, .int a1), (2, .int a2), (4, .int x4_1), (5, .int x5_2), (6, .int x6_4)]) cx dX11_halved_17 (by decide) [1, 2, 3, 4, 5, 0] rfl ?_
  refine p_iconst (pc := 19) (v := 0) cx dX11_halved_19 (by decide) ?_
  refine p_istore (pc := 20) (lv' := [(0, .ref a0), (1, .int a1), (2, .int a2), (4, .int x4_1), (5, .int x5_2), (6, .int x6_4), (7, .int (0 : Int32))]) cx dX11_halved_20 (by decide) [1, 2, 3, 4, 5, 6, 0] rfl ?_
  obtain ⟨n1, hw⟩ := hw
  exact x_X11_halved_22 cx hr hlk n1 a0 a1 a2 x4_1 x5_2 x6_4 0 M hT ha0 hw
set_option maxHeartbeats 4000000 in
set_option maxRecDepth 100000 in
theorem x_X11_doubled_105 {p : Program} {l : Launch} {e : Env} {s : State} {m : MethodId} {args : Array Value} {below : List Frame} {meth : Method} {c : Code} {D : va_G} {G : SH} {Qp : MS → Prop}  (cx : CX p s m args c D G cX11_doubled 9 RX11) (hr : meth.sig.returnType = none) (hlk : meth.locks = false)  : ∀ (n : Nat) (v0 : Nat) (v1 : Int32) (v4 : Int32) (v6 : Int32) (v7 : Int32) (v8 : Int32) (M : MS), TYR G M.2.2.1 → Is G 10 v0 → w_X11_doubled_105 G Qp n v0 v1 v4 v6 v7 v8 M → PW p l e rm_X11_doubled s m args below meth c D G 9 (MQ below (va_Qv Qp (POST D G) (AG G)) args s 0 0 (AG G)) 105 [(0, .ref v0), (1, .int v1), (4, .int v4), (6, .int v6), (7, .int v7), (8, .int v8)] [] M := by
  intro n
  induction n with
  | zero =>
    intro v0 v1 v4 v6 v7 v8 M hT hv0 hw
    exact hw.elim
  | succ n ih =>
    intro v0 v1 v4 v6 v7 v8 M hT hv0 hw
    rw [w_X11_doubled_105] at hw
    refine p_iload (pc := 105) cx dX11_doubled_105 5 rfl ?_
    refine p_iload (pc := 107) cx dX11_doubled_107 2 rfl ?_
    refine p_icmp_ge (pc := 109) (tgt := 132) cx dX11_doubled_109 (by decide) (fun hc => ?_) (fun hc => ?_)
    · have hw := hw.1 hc
      refine p_aload_n (pc := 132) cx dX11_doubled_132 rfl 0 rfl ?_
      refine p_iload_n (pc := 133) cx dX11_doubled_133 rfl 1 rfl ?_
      refine p_iload (pc := 134) cx dX11_doubled_134 3 rfl ?_
      refine p_iload (pc := 136) cx dX11_doubled_136 2 rfl ?_
      refine p_iadd (pc := 138) cx dX11_doubled_138 ?_
      refine p_iconst (pc := 139) (v := 1) cx dX11_doubled_139 (by decide) ?_
      refine p_iadd (pc := 140) cx dX11_doubled_140 ?_
      refine p_iload (pc := 141) cx dX11_doubled_141 4 rfl ?_
      refine p_callVv (pc := 143) [.int v1, .int ((v6 + v4) + 1), .int v7] cx (c_X11_trim cx.2.2.2.2.2.2 hT hv0 hw) cf_X11_trim cv_X11_trim t4_208 hv0 ⟨by decide, rfl, rfl⟩ ⟨rfl, rfl⟩ ⟨Nat.le_of_ble_eq_true rfl, Nat.le_of_ble_eq_true rfl⟩ rfl rfl (Nat.le_of_ble_eq_true rfl) dX11_doubled_143 (fun M7 hw hM7 => ?_)
      exact p_vret (pc := 146) cx hr hlk dX11_doubled_146 hM7 hw
    · have hw := hw.2 hc
      refine p_aload_n (pc := 112) cx dX11_doubled_112 rfl 0 rfl ?_
      refine gf_10_0 (pc := 113) cx hv0 t4_161 dX11_doubled_113 ?_
      have hr_8 : Is G 12 (mR M v0 0) := TYR.at hT hv0 0 12 rfl (by decide)
      refine p_sipush (pc := 116) (v := 260) cx dX11_doubled_116 (by decide) ?_
      refine p_iload_n (pc := 119) cx dX11_doubled_119 rfl 1 rfl ?_
      refine p_imul (pc := 120) cx dX11_doubled_120 ?_
      refine p_iload (pc := 121) cx dX11_doubled_121 5 rfl ?_
      refine p_iadd (pc := 123) cx dX11_doubled_123 ?_
      refine p_iconst (pc := 124) (v := 0) cx dX11_doubled_124 (by decide) ?_
      refine p_iast (pc := 125) cx hr_8 hw.1 dX11_doubled_125 ?_
      have hw := hw.2
      refine p_mem (fun M9 eM9 => ?_)
      have hw := hw M9 eM9
      have hM9 : TYR G M9.2.2.1 := by rw [eM9]; exact hT
      obtain ⟨x8_10, ex8_10⟩ : ∃ y : Int32, y = v8 + 1 := ⟨_, rfl⟩
      have hw := hw x8_10 ex8_10
      refine p_iinc (pc := 126) (v := x8_10) (lv' := [(0, .ref v0), (1, .int v1), (4, .int v4), (6, .int v6), (7, .int v7), (8, .int x8_10)]) cx dX11_doubled_126 5 rfl (by rw [ex8_10]; rfl) (by decide) [1, 2, 3, 4, 5, 0] rfl ?_
      refine p_goto (pc := 129) (tgt := 105) cx dX11_doubled_129 (by decide) ?_
      exact ih v0 v1 v4 v6 v7 x8_10 M9 hM9 hv0 hw
set_option maxHeartbeats 4000000 in
set_option maxRecDepth 100000 in
theorem x_X11_doubled_31 {p : Program} {l : Launch} {e : Env} {s : State} {m : MethodId} {args : Array Value} {below : List Frame} {meth : Method} {c : Code} {D : va_G} {G : SH} {Qp : MS → Prop}  (cx : CX p s m args c D G cX11_doubled 9 RX11) (hr : meth.sig.returnType = none) (hlk : meth.locks = false)  : ∀ (n : Nat) (v0 : Nat) (v1 : Int32) (v2 : Int32) (v4 : Int32) (v5 : Int32) (v6 : Int32) (v7 : Int32) (v8 : Int32) (M : MS), TYR G M.2.2.1 → Is G 10 v0 → w_X11_doubled_31 G Qp n v0 v1 v2 v4 v5 v6 v7 v8 M → PW p l e rm_X11_doubled s m args below meth c D G 9 (MQ below (va_Qv Qp (POST D G) (AG G)) args s 0 0 (AG G)) 31 [(0, .ref v0), (1, .int v1), (2, .int v2), (4, .int v4), (5, .int v5), (6, .int v6), (7, .int v7), (8, .int v8)] [] M := by
  intro n
  induction n with
  | zero =>
    intro v0 v1 v2 v4 v5 v6 v7 v8 M hT hv0 hw
    exact hw.elim
  | succ n ih =>
    intro v0 v1 v2 v4 v5 v6 v7 v8 M hT hv0 hw
    rw [w_X11_doubled_31] at hw
    refine p_iload (pc := 31) cx dX11_doubled_31 7 rfl ?_
    refine p_if_lt (pc := 33) (tgt := 102) cx dX11_doubled_33 (by decide) (fun hc => ?_) (fun hc => ?_)
    · have hw := hw.1 hc
      refine p_iconst (pc := 102) (v := 0) cx dX11_doubled_102 (by decide) ?_
      refine p_istore (pc := 103) (lv' := [(0, .ref v0), (1, .int v1), (4, .int v4), (6, .int v6), (7, .int v7), (8, .int (0 : Int32))]) cx dX11_doubled_103 (by decide) [1, 2, 4, 6, 7, 0] rfl ?_
      obtain ⟨n1, hw⟩ := hw
      exact x_X11_doubled_105 cx hr hlk n1 v0 v1 v4 v6 v7 0 M hT hv0 hw
    · have hw := hw.2 hc
      refine p_aload_n (pc := 36) cx dX11_doubled_36 rfl 0 rfl ?_
      refine gf_10_0 (pc := 37) cx hv0 t4_161 dX11_doubled_37 ?_
      have hr_11 : Is G 12 (mR M v0 0) := TYR.at hT hv0 0 12 rfl (by decide)
      refine p_sipush (pc := 40) (v := 260) cx dX11_doubled_40 (by decide) ?_
      refine p_iload_n (pc := 43) cx dX11_doubled_43 rfl 1 rfl ?_
      refine p_imul (pc := 44) cx dX11_doubled_44 ?_
      refine p_iload (pc := 45) cx dX11_doubled_45 7 rfl ?_
      refine p_iadd (pc := 47) cx dX11_doubled_47 ?_
      refine p_iload (pc := 48) cx dX11_doubled_48 3 rfl ?_
      refine p_iadd (pc := 50) cx dX11_doubled_50 ?_
      refine p_aload_n (pc := 51) cx dX11_doubled_51 rfl 0 rfl ?_
      refine p_iload_n (pc := 52) cx dX11_doubled_52 rfl 2 rfl ?_
      refine p_iload (pc := 53) cx dX11_doubled_53 7 rfl ?_
      refine p_callVi (pc := 55) [.int v2, .int v8] cx (c_X11_get cx.2.2.2.2.2.2 hT hv0 hw) cf_X11_get cv_X11_get t5_8 hv0 ⟨by decide, rfl, rfl⟩ ⟨rfl, rfl⟩ ⟨Nat.le_of_ble_eq_true rfl, Nat.le_of_ble_eq_true rfl⟩ rfl rfl (Nat.le_of_ble_eq_true rfl) dX11_doubled_55 (fun r12 M12 hw hM12 => ?_)
      refine p_iload (pc := 58) cx dX11_doubled_58 4 rfl ?_
      refine p_ishl (pc := 60) cx dX11_doubled_60 ?_
      refine p_iload (pc := 61) cx dX11_doubled_61 7 rfl ?_
      refine p_if_le (pc := 63) (tgt := 90) cx dX11_doubled_63 (by decide) (fun hc => ?_) (fun hc => ?_)
      · have hw := hw.1 hc
        refine p_iconst (pc := 90) (v := 0) cx dX11_doubled_90 (by decide) ?_
        refine p_ior (pc := 91) cx dX11_doubled_91 ?_
        refine p_ldc (pc := 92) cx dX11_doubled_92 t4_207 ?_
        refine p_iand (pc := 94) cx dX11_doubled_94 ?_
        refine p_iast (pc := 95) cx hr_11 hw.1 dX11_doubled_95 ?_
        have hw := hw.2
        refine p_mem (fun M13 eM13 => ?_)
        have hw := hw M13 eM13
        have hM13 : TYR G M13.2.2.1 := by rw [eM13]; exact hM12
        obtain ⟨x8_14, ex8_14⟩ : ∃ y : Int32, y = v8 + (-1) := ⟨_, rfl⟩
        have hw := hw x8_14 ex8_14
        refine p_iinc (pc := 96) (v := x8_14) (lv' := [(0, .ref v0), (1, .int v1), (2, .int v2), (4, .int v4), (5, .int v5), (6, .int v6), (7, .int v7), (8, .int x8_14)]) cx dX11_doubled_96 7 rfl (by rw [ex8_14]; rfl) (by decide) [1, 2, 3, 4, 5, 6, 7, 0] rfl ?_
        refine p_goto (pc := 99) (tgt := 31) cx dX11_doubled_99 (by decide) ?_
        exact ih v0 v1 v2 v4 v5 v6 v7 x8_14 M13 hM13 hv0 hw
      · have hw := hw.2 hc
        refine p_aload_n (pc := 66) cx dX11_doubled_66 rfl 0 rfl ?_
        refine gf_10_0 (pc := 67) cx hv0 t4_161 dX11_doubled_67 ?_
        have hr_15 : Is G 12 (mR M12 v0 0) := TYR.at hM12 hv0 0 12 rfl (by decide)
        refine p_sipush (pc := 70) (v := 260) cx dX11_doubled_70 (by decide) ?_
        refine p_iload_n (pc := 73) cx dX11_doubled_73 rfl 2 rfl ?_
        refine p_imul (pc := 74) cx dX11_doubled_74 ?_
        refine p_iload (pc := 75) cx dX11_doubled_75 7 rfl ?_
        refine p_iadd (pc := 77) cx dX11_doubled_77 ?_
        refine p_iconst (pc := 78) (v := 1) cx dX11_doubled_78 (by decide) ?_
        refine p_isub (pc := 79) cx dX11_doubled_79 ?_
        refine p_iald (pc := 80) cx hr_15 hw.1 dX11_doubled_80 ?_
        have hw := hw.2
        refine p_bipush (pc := 81) (v := 16) cx dX11_doubled_81 (by decide) ?_
        refine p_iload (pc := 83) cx dX11_doubled_83 4 rfl ?_
        refine p_isub (pc := 85) cx dX11_doubled_85 ?_
        refine p_ishr (pc := 86) cx dX11_doubled_86 ?_
        refine p_goto (pc := 87) (tgt := 91) cx dX11_doubled_87 (by decide) ?_
        refine p_ior (pc := 91) cx dX11_doubled_91 ?_
        refine p_ldc (pc := 92) cx dX11_doubled_92 t4_207 ?_
        refine p_iand (pc := 94) cx dX11_doubled_94 ?_
        refine p_iast (pc := 95) cx hr_11 hw.1 dX11_doubled_95 ?_
        have hw := hw.2
        refine p_mem (fun M16 eM16 => ?_)
        have hw := hw M16 eM16
        have hM16 : TYR G M16.2.2.1 := by rw [eM16]; exact hM12
        obtain ⟨x8_17, ex8_17⟩ : ∃ y : Int32, y = v8 + (-1) := ⟨_, rfl⟩
        have hw := hw x8_17 ex8_17
        refine p_iinc (pc := 96) (v := x8_17) (lv' := [(0, .ref v0), (1, .int v1), (2, .int v2), (4, .int v4), (5, .int v5), (6, .int v6), (7, .int v7), (8, .int x8_17)]) cx dX11_doubled_96 7 rfl (by rw [ex8_17]; rfl) (by decide) [1, 2, 3, 4, 5, 6, 7, 0] rfl ?_
        refine p_goto (pc := 99) (tgt := 31) cx dX11_doubled_99 (by decide) ?_
        exact ih v0 v1 v2 v4 v5 v6 v7 x8_17 M16 hM16 hv0 hw
set_option maxHeartbeats 4000000 in
set_option maxRecDepth 100000 in
theorem c_X11_doubled {l : Launch} {D : va_G} {G : SH} (hND : ND G) {a0 : Nat} {a1 : Int32} {a2 : Int32} {a3 : Int32} {M : MS} {Qp : MS → Prop} (hT : TYR G M.2.2.1) (ha0 : Is G 10 a0) (hw : w_X11_doubled G a0 a1 a2 a3 M Qp) : MeV l D G yX11_doubled (Cond.code yX11_doubled cX11_doubled 9 none :: GW) rm_X11_doubled [.ref a0, .int a1, .int a2, .int a3] M Qp := by
  unfold MeV
  refine p_method (by decide) rfl (Nat.le_of_ble_eq_true rfl) hND ?_
  intro p e s m args below meth c cx hr hlk
  have cx : CX p s m args c D G cX11_doubled 9 RX11 := cx
  unfold w_X11_doubled at hw
  refine p_iload_n (pc := 0) cx dX11_doubled_0 rfl 3 rfl ?_
  refine p_iconst (pc := 1) (v := 4) cx dX11_doubled_1 (by decide) ?_
  refine p_ishr (pc := 2) cx dX11_doubled_2 ?_
  refine p_topi (fun x4_1 ex4_1 => ?_)
  have hw := hw x4_1 ex4_1
  refine p_istore (pc := 3) (lv' := [(0, .ref a0), (1, .int a1), (2, .int a2), (3, .int a3), (4, .int x4_1)]) cx dX11_doubled_3 (by decide) [1, 2, 3, 4, 0] rfl ?_
  refine p_iload_n (pc := 5) cx dX11_doubled_5 rfl 3 rfl ?_
  refine p_bipush (pc := 6) (v := 15) cx dX11_doubled_6 (by decide) ?_
  refine p_iand (pc := 8) cx dX11_doubled_8 ?_
  refine p_topi (fun x5_2 ex5_2 => ?_)
  have hw := hw x5_2 ex5_2
  refine p_istore (pc := 9) (lv' := [(0, .ref a0), (1, .int a1), (2, .int a2), (4, .int x4_1), (5, .int x5_2)]) cx dX11_doubled_9 (by decide) [1, 2, 3, 5, 0] rfl ?_
  refine p_aload_n (pc := 11) cx dX11_doubled_11 rfl 0 rfl ?_
  refine gf_10_1 (pc := 12) cx ha0 t4_162 dX11_doubled_12 ?_
  have hr_3 : Is G 12 (mR M a0 1) := TYR.at hT ha0 1 12 rfl (by decide)
  refine p_iload_n (pc := 15) cx dX11_doubled_15 rfl 2 rfl ?_
  refine p_iald (pc := 16) cx hr_3 hw.1 dX11_doubled_16 ?_
  have hw := hw.2
  refine p_topi (fun x6_4 ex6_4 => ?_)
  have hw := hw x6_4 ex6_4
  refine p_istore (pc := 17) (lv' := [(0, .ref a0), (1, .int a1), (2, .int a2), (4, .int x4_1), (5, .int x5_2), (6, .int x6_4)]) cx dX11_doubled_17 (by decide) [1, 2, 3, 4, 5, 0] rfl ?_
  refine p_aload_n (pc := 19) cx dX11_doubled_19 rfl 0 rfl ?_
  refine gf_10_2 (pc := 20) cx ha0 t4_163 dX11_doubled_20 ?_
  have hr_5 : Is G 12 (mR M a0 2) := TYR.at hT ha0 2 12 rfl (by decide)
  refine p_iload_n (pc := 23) cx dX11_doubled_23 rfl 2 rfl ?_
  refine p_iald (pc := 24) cx hr_5 hw.1 dX11_doubled_24 ?_
  have hw := hw.2
  refine p_topi (fun x7_6 ex7_6 => ?_)
  have hw := hw x7_6 ex7_6
  refine p_istore (pc := 25) (lv' := [(0, .ref a0), (1, .int a1), (2, .int a2), (4, .int x4_1), (5, .int x5_2), (6, .int x6_4), (7, .int x7_6)]) cx dX11_doubled_25 (by decide) [1, 2, 3, 4, 5, 6, 0] rfl ?_
  refine p_iload (pc := 27) cx dX11_doubled_27 5 rfl ?_
  refine p_istore (pc := 29) (lv' := [(0, .ref a0), (1, .int a1), (2, .int a2), (4, .int x4_1), (5, .int x5_2), (6, .int x6_4), (7, .int x7_6), (8, .int x6_4)]) cx dX11_doubled_29 (by decide) [1, 2, 3, 4, 5, 6, 7, 0] rfl ?_
  obtain ⟨n1, hw⟩ := hw
  exact x_X11_doubled_31 cx hr hlk n1 a0 a1 a2 x4_1 x5_2 x6_4 x7_6 x6_4 M hT ha0 hw
set_option maxHeartbeats 4000000 in
set_option maxRecDepth 100000 in
theorem c_X11_no {l : Launch} {D : va_G} {G : SH} (hND : ND G) {a0 : Nat} {a1 : Int32} {M : MS} {Qp : Int32 → MS → Prop} (hT : TYR G M.2.2.1) (ha0 : Is G 10 a0) (hw : w_X11_no G a0 a1 M Qp) : MeI l D G yX11_no (Cond.code yX11_no cX11_no 2 (some .boolean) :: GW) rm_X11_no [.ref a0, .int a1] M Qp := by
  unfold MeI
  refine p_method (by decide) rfl (Nat.le_of_ble_eq_true rfl) hND ?_
  intro p e s m args below meth c cx hr hlk
  have cx : CX p s m args c D G cX11_no 2 RX11 := cx
  unfold w_X11_no at hw
  refine p_iload_n (pc := 0) cx dX11_no_0 rfl 1 rfl ?_
  refine p_if_lt (pc := 1) (tgt := 12) cx dX11_no_1 (by decide) (fun hc => ?_) (fun hc => ?_)
  · have hw := hw.1 hc
    refine p_iconst (pc := 12) (v := 1) cx dX11_no_12 (by decide) ?_
    refine p_goto (pc := 13) (tgt := 17) cx dX11_no_13 (by decide) ?_
    exact p_zret (pc := 17) cx hr hlk dX11_no_17 (by decide) hT hw
  · have hw := hw.2 hc
    refine p_iload_n (pc := 4) cx dX11_no_4 rfl 1 rfl ?_
    refine p_aload_n (pc := 5) cx dX11_no_5 rfl 0 rfl ?_
    refine gf_10_3 (pc := 6) cx ha0 t4_164 dX11_no_6 ?_
    refine p_icmp_lt (pc := 9) (tgt := 16) cx dX11_no_9 (by decide) (fun hc => ?_) (fun hc => ?_)
    · have hw := hw.1 hc
      refine p_iconst (pc := 16) (v := 0) cx dX11_no_16 (by decide) ?_
      exact p_zret (pc := 17) cx hr hlk dX11_no_17 (by decide) hT hw
    · have hw := hw.2 hc
      refine p_iconst (pc := 12) (v := 1) cx dX11_no_12 (by decide) ?_
      refine p_goto (pc := 13) (tgt := 17) cx dX11_no_13 (by decide) ?_
      exact p_zret (pc := 17) cx hr hlk dX11_no_17 (by decide) hT hw
set_option maxHeartbeats 4000000 in
set_option maxRecDepth 100000 in
theorem c_X11_fits {l : Launch} {D : va_G} {G : SH} (hND : ND G) {a0 : Nat} {a1 : Int32} {M : MS} {Qp : Int32 → MS → Prop} (hT : TYR G M.2.2.1) (ha0 : Is G 10 a0) (hw : w_X11_fits G a0 a1 M Qp) : MeI l D G yX11_fits (Cond.code yX11_fits cX11_fits 2 (some .boolean) :: GW) rm_X11_fits [.ref a0, .int a1] M Qp := by
  unfold MeI
  refine p_method (by decide) rfl (Nat.le_of_ble_eq_true rfl) hND ?_
  intro p e s m args below meth c cx hr hlk
  have cx : CX p s m args c D G cX11_fits 2 RX11 := cx
  unfold w_X11_fits at hw
  refine p_aload_n (pc := 0) cx dX11_fits_0 rfl 0 rfl ?_
  refine gf_10_1 (pc := 1) cx ha0 t4_162 dX11_fits_1 ?_
  have hr_1 : Is G 12 (mR M a0 1) := TYR.at hT ha0 1 12 rfl (by decide)
  refine p_iload_n (pc := 4) cx dX11_fits_4 rfl 1 rfl ?_
  refine p_iald (pc := 5) cx hr_1 hw.1 dX11_fits_5 ?_
  have hw := hw.2
  refine p_iconst (pc := 6) (v := 2) cx dX11_fits_6 (by decide) ?_
  refine p_aload_n (pc := 7) cx dX11_fits_7 rfl 0 rfl ?_
  refine gf_10_4 (pc := 8) cx ha0 t4_165 dX11_fits_8 ?_
  refine p_imul (pc := 11) cx dX11_fits_11 ?_
  refine p_icmp_gt (pc := 12) (tgt := 19) cx dX11_fits_12 (by decide) (fun hc => ?_) (fun hc => ?_)
  · have hw := hw.1 hc
    refine p_iconst (pc := 19) (v := 0) cx dX11_fits_19 (by decide) ?_
    exact p_zret (pc := 20) cx hr hlk dX11_fits_20 (by decide) hT hw
  · have hw := hw.2 hc
    refine p_iconst (pc := 15) (v := 1) cx dX11_fits_15 (by decide) ?_
    refine p_goto (pc := 16) (tgt := 20) cx dX11_fits_16 (by decide) ?_
    exact p_zret (pc := 20) cx hr hlk dX11_fits_20 (by decide) hT hw
set_option maxHeartbeats 4000000 in
set_option maxRecDepth 100000 in
theorem c_X11_put {l : Launch} {D : va_G} {G : SH} (hND : ND G) {a0 : Nat} {a1 : Int32} {a2 : Int32} {M : MS} {Qp : Int32 → MS → Prop} (hT : TYR G M.2.2.1) (ha0 : Is G 10 a0) (hw : w_X11_put G a0 a1 a2 M Qp) : MeI l D G yX11_put (Cond.code yX11_put cX11_put 3 (some .int) :: GW) rm_X11_put [.ref a0, .int a1, .int a2] M Qp := by
  unfold MeI
  refine p_method (by decide) rfl (Nat.le_of_ble_eq_true rfl) hND ?_
  intro p e s m args below meth c cx hr hlk
  have cx : CX p s m args c D G cX11_put 3 RX11 := cx
  unfold w_X11_put at hw
  refine p_aload_n (pc := 0) cx dX11_put_0 rfl 0 rfl ?_
  refine p_iload_n (pc := 1) cx dX11_put_1 rfl 2 rfl ?_
  refine p_callVi (pc := 2) [.int a2] cx (c_X11_fits cx.2.2.2.2.2.2 hT ha0 hw) cf_X11_fits cv_X11_fits t4_216 ha0 ⟨by decide, rfl, rfl⟩ ⟨rfl, rfl⟩ ⟨Nat.le_of_ble_eq_true rfl, Nat.le_of_ble_eq_true rfl⟩ rfl rfl (Nat.le_of_ble_eq_true rfl) dX11_put_2 (fun r1 M1 hw hM1 => ?_)
  refine p_if_ne (pc := 5) (tgt := 10) cx dX11_put_5 (by decide) (fun hc => ?_) (fun hc => ?_)
  · have hw := hw.1 hc
    refine p_aload_n (pc := 10) cx dX11_put_10 rfl 0 rfl ?_
    refine p_iload_n (pc := 11) cx dX11_put_11 rfl 1 rfl ?_
    refine p_iload_n (pc := 12) cx dX11_put_12 rfl 2 rfl ?_
    refine p_callVv (pc := 13) [.int a1, .int a2] cx (c_X11_copy cx.2.2.2.2.2.2 hM1 ha0 hw) cf_X11_copy cv_X11_copy t4_220 ha0 ⟨by decide, rfl, rfl⟩ ⟨rfl, rfl⟩ ⟨Nat.le_of_ble_eq_true rfl, Nat.le_of_ble_eq_true rfl⟩ rfl rfl (Nat.le_of_ble_eq_true rfl) dX11_put_13 (fun M2 hw hM2 => ?_)
    refine p_iconst (pc := 16) (v := 0) cx dX11_put_16 (by decide) ?_
    exact p_iret (pc := 17) cx hr hlk dX11_put_17 hM2 hw
  · have hw := hw.2 hc
    refine p_iconst (pc := 8) (v := 1) cx dX11_put_8 (by decide) ?_
    exact p_iret (pc := 9) cx hr hlk dX11_put_9 hM1 hw
set_option maxHeartbeats 4000000 in
set_option maxRecDepth 100000 in
theorem x_X11_pushLimb_33 {p : Program} {l : Launch} {e : Env} {s : State} {m : MethodId} {args : Array Value} {below : List Frame} {meth : Method} {c : Code} {D : va_G} {G : SH} {Qp : Int32 → MS → Prop}  (cx : CX p s m args c D G cX11_pushLimb 6 RX11) (hr : meth.sig.returnType = (some .int)) (hlk : meth.locks = false)  : ∀ (n : Nat) (v0 : Nat) (v1 : Int32) (v2 : Int32) (v3 : Int32) (v4 : Int32) (v5 : Int32) (M : MS), TYR G M.2.2.1 → Is G 10 v0 → w_X11_pushLimb_33 G Qp n v0 v1 v2 v3 v4 v5 M → PW p l e rm_X11_pushLimb s m args below meth c D G 6 (MQ below (va_Qi Qp (POST D G) (AG G)) args s 0 0 (AG G)) 33 [(0, .ref v0), (1, .int v1), (2, .int v2), (3, .int v3), (4, .int v4), (5, .int v5)] [] M := by
  intro n
  induction n with
  | zero =>
    intro v0 v1 v2 v3 v4 v5 M hT hv0 hw
    exact hw.elim
  | succ n ih =>
    intro v0 v1 v2 v3 v4 v5 M hT hv0 hw
    rw [w_X11_pushLimb_33] at hw
    refine p_iload (pc := 33) cx dX11_pushLimb_33 5 rfl ?_
    refine p_iload (pc := 35) cx dX11_pushLimb_35 4 rfl ?_
    refine p_icmp_ge (pc := 37) (tgt := 72) cx dX11_pushLimb_37 (by decide) (fun hc => ?_) (fun hc => ?_)
    · have hw := hw.1 hc
      refine p_aload_n (pc := 72) cx dX11_pushLimb_72 rfl 0 rfl ?_
      refine gf_10_0 (pc := 73) cx hv0 t4_161 dX11_pushLimb_73 ?_
      have hr_7 : Is G 12 (mR M v0 0) := TYR.at hT hv0 0 12 rfl (by decide)
      refine p_sipush (pc := 76) (v := 4940) cx dX11_pushLimb_76 (by decide) ?_
      refine p_iload_n (pc := 79) cx dX11_pushLimb_79 rfl 2 rfl ?_
      refine p_ldc (pc := 80) cx dX11_pushLimb_80 t4_207 ?_
      refine p_iand (pc := 82) cx dX11_pushLimb_82 ?_
      refine p_iast (pc := 83) cx hr_7 hw.1 dX11_pushLimb_83 ?_
      have hw := hw.2
      refine p_mem (fun M8 eM8 => ?_)
      have hw := hw M8 eM8
      have hM8 : TYR G M8.2.2.1 := by rw [eM8]; exact hT
      refine p_aload_n (pc := 84) cx dX11_pushLimb_84 rfl 0 rfl ?_
      refine gf_10_0 (pc := 85) cx hv0 t4_161 dX11_pushLimb_85 ?_
      have hr_9 : Is G 12 (mR M8 v0 0) := TYR.at hM8 hv0 0 12 rfl (by decide)
      refine p_sipush (pc := 88) (v := 4941) cx dX11_pushLimb_88 (by decide) ?_
      refine p_iload_n (pc := 91) cx dX11_pushLimb_91 rfl 2 rfl ?_
      refine p_bipush (pc := 92) (v := 16) cx dX11_pushLimb_92 (by decide) ?_
      refine p_iushr (pc := 94) cx dX11_pushLimb_94 ?_
      refine p_iast (pc := 95) cx hr_9 hw.1 dX11_pushLimb_95 ?_
      have hw := hw.2
      refine p_mem (fun M10 eM10 => ?_)
      have hw := hw M10 eM10
      have hM10 : TYR G M10.2.2.1 := by rw [eM10]; exact hM8
      refine p_aload_n (pc := 96) cx dX11_pushLimb_96 rfl 0 rfl ?_
      refine p_bipush (pc := 97) (v := 19) cx dX11_pushLimb_97 (by decide) ?_
      refine p_iload (pc := 99) cx dX11_pushLimb_99 4 rfl ?_
      refine p_iconst (pc := 101) (v := 2) cx dX11_pushLimb_101 (by decide) ?_
      refine p_iadd (pc := 102) cx dX11_pushLimb_102 ?_
      refine p_iload_n (pc := 103) cx dX11_pushLimb_103 rfl 3 rfl ?_
      refine p_if_ne (pc := 104) (tgt := 111) cx dX11_pushLimb_104 (by decide) (fun hc => ?_) (fun hc => ?_)
      · have hw := hw.1 hc
        refine p_iload_n (pc := 111) cx dX11_pushLimb_111 rfl 3 rfl ?_
        refine p_callVv (pc := 112) [.int (19 : Int32), .int (v4 + 2), .int v3] cx (c_X11_trim cx.2.2.2.2.2.2 hM10 hv0 hw) cf_X11_trim cv_X11_trim t4_208 hv0 ⟨by decide, rfl, rfl⟩ ⟨rfl, rfl⟩ ⟨Nat.le_of_ble_eq_true rfl, Nat.le_of_ble_eq_true rfl⟩ rfl rfl (Nat.le_of_ble_eq_true rfl) dX11_pushLimb_112 (fun M11 hw hM11 => ?_)
        refine p_aload_n (pc := 115) cx dX11_pushLimb_115 rfl 0 rfl ?_
        refine p_iload_n (pc := 116) cx dX11_pushLimb_116 rfl 1 rfl ?_
        refine p_bipush (pc := 117) (v := 19) cx dX11_pushLimb_117 (by decide) ?_
        refine p_callVi (pc := 119) [.int v1, .int (19 : Int32)] cx (c_X11_put cx.2.2.2.2.2.2 hM11 hv0 hw) cf_X11_put cv_X11_put t4_212 hv0 ⟨by decide, rfl, rfl⟩ ⟨rfl, rfl⟩ ⟨Nat.le_of_ble_eq_true rfl, Nat.le_of_ble_eq_true rfl⟩ rfl rfl (Nat.le_of_ble_eq_true rfl) dX11_pushLimb_119 (fun r12 M12 hw hM12 => ?_)
        exact p_iret (pc := 122) cx hr hlk dX11_pushLimb_122 hM12 hw
      · have hw := hw.2 hc
        refine p_iconst (pc := 107) (v := 1) cx dX11_pushLimb_107 (by decide) ?_
        refine p_goto (pc := 108) (tgt := 112) cx dX11_pushLimb_108 (by decide) ?_
        refine p_callVv (pc := 112) [.int (19 : Int32), .int (v4 + 2), .int (1 : Int32)] cx (c_X11_trim cx.2.2.2.2.2.2 hM10 hv0 hw) cf_X11_trim cv_X11_trim t4_208 hv0 ⟨by decide, rfl, rfl⟩ ⟨rfl, rfl⟩ ⟨Nat.le_of_ble_eq_true rfl, Nat.le_of_ble_eq_true rfl⟩ rfl rfl (Nat.le_of_ble_eq_true rfl) dX11_pushLimb_112 (fun M13 hw hM13 => ?_)
        refine p_aload_n (pc := 115) cx dX11_pushLimb_115 rfl 0 rfl ?_
        refine p_iload_n (pc := 116) cx dX11_pushLimb_116 rfl 1 rfl ?_
        refine p_bipush (pc := 117) (v := 19) cx dX11_pushLimb_117 (by decide) ?_
        refine p_callVi (pc := 119) [.int v1, .int (19 : Int32)] cx (c_X11_put cx.2.2.2.2.2.2 hM13 hv0 hw) cf_X11_put cv_X11_put t4_212 hv0 ⟨by decide, rfl, rfl⟩ ⟨rfl, rfl⟩ ⟨Nat.le_of_ble_eq_true rfl, Nat.le_of_ble_eq_true rfl⟩ rfl rfl (Nat.le_of_ble_eq_true rfl) dX11_pushLimb_119 (fun r14 M14 hw hM14 => ?_)
        exact p_iret (pc := 122) cx hr hlk dX11_pushLimb_122 hM14 hw
    · have hw := hw.2 hc
      refine p_aload_n (pc := 40) cx dX11_pushLimb_40 rfl 0 rfl ?_
      refine gf_10_0 (pc := 41) cx hv0 t4_161 dX11_pushLimb_41 ?_
      have hr_15 : Is G 12 (mR M v0 0) := TYR.at hT hv0 0 12 rfl (by decide)
      refine p_sipush (pc := 44) (v := 4940) cx dX11_pushLimb_44 (by decide) ?_
      refine p_iload (pc := 47) cx dX11_pushLimb_47 5 rfl ?_
      refine p_iadd (pc := 49) cx dX11_pushLimb_49 ?_
      refine p_iconst (pc := 50) (v := 2) cx dX11_pushLimb_50 (by decide) ?_
      refine p_iadd (pc := 51) cx dX11_pushLimb_51 ?_
      refine p_aload_n (pc := 52) cx dX11_pushLimb_52 rfl 0 rfl ?_
      refine gf_10_0 (pc := 53) cx hv0 t4_161 dX11_pushLimb_53 ?_
      have hr_16 : Is G 12 (mR M v0 0) := TYR.at hT hv0 0 12 rfl (by decide)
      refine p_sipush (pc := 56) (v := 260) cx dX11_pushLimb_56 (by decide) ?_
      refine p_iload_n (pc := 59) cx dX11_pushLimb_59 rfl 1 rfl ?_
      refine p_imul (pc := 60) cx dX11_pushLimb_60 ?_
      refine p_iload (pc := 61) cx dX11_pushLimb_61 5 rfl ?_
      refine p_iadd (pc := 63) cx dX11_pushLimb_63 ?_
      refine p_iald (pc := 64) cx hr_16 hw.1 dX11_pushLimb_64 ?_
      have hw := hw.2
      refine p_iast (pc := 65) cx hr_15 hw.1 dX11_pushLimb_65 ?_
      have hw := hw.2
      refine p_mem (fun M17 eM17 => ?_)
      have hw := hw M17 eM17
      have hM17 : TYR G M17.2.2.1 := by rw [eM17]; exact hT
      obtain ⟨x5_18, ex5_18⟩ : ∃ y : Int32, y = v5 + 1 := ⟨_, rfl⟩
      have hw := hw x5_18 ex5_18
      refine p_iinc (pc := 66) (v := x5_18) (lv' := [(0, .ref v0), (1, .int v1), (2, .int v2), (3, .int v3), (4, .int v4), (5, .int x5_18)]) cx dX11_pushLimb_66 5 rfl (by rw [ex5_18]; rfl) (by decide) [1, 2, 3, 4, 5, 0] rfl ?_
      refine p_goto (pc := 69) (tgt := 33) cx dX11_pushLimb_69 (by decide) ?_
      exact ih v0 v1 v2 v3 v4 x5_18 M17 hM17 hv0 hw
set_option maxHeartbeats 4000000 in
set_option maxRecDepth 100000 in
theorem c_X11_pushLimb {l : Launch} {D : va_G} {G : SH} (hND : ND G) {a0 : Nat} {a1 : Int32} {a2 : Int32} {M : MS} {Qp : Int32 → MS → Prop} (hT : TYR G M.2.2.1) (ha0 : Is G 10 a0) (hw : w_X11_pushLimb G a0 a1 a2 M Qp) : MeI l D G yX11_pushLimb (Cond.code yX11_pushLimb cX11_pushLimb 6 (some .int) :: GW) rm_X11_pushLimb [.ref a0, .int a1, .int a2] M Qp := by
  unfold MeI
  refine p_method (by decide) rfl (Nat.le_of_ble_eq_true rfl) hND ?_
  intro p e s m args below meth c cx hr hlk
  have cx : CX p s m args c D G cX11_pushLimb 6 RX11 := cx
  unfold w_X11_pushLimb at hw
  refine p_aload_n (pc := 0) cx dX11_pushLimb_0 rfl 0 rfl ?_
  refine p_iconst (pc := 1) (v := 0) cx dX11_pushLimb_1 (by decide) ?_
  refine pf_10_5 (pc := 2) cx ha0 t4_166 dX11_pushLimb_2 ?_
  refine p_mem (fun M1 eM1 => ?_)
  have hw := hw M1 eM1
  have hM1 : TYR G M1.2.2.1 := by rw [eM1]; exact hT
  refine p_aload_n (pc := 5) cx dX11_pushLimb_5 rfl 0 rfl ?_
  refine p_iload_n (pc := 6) cx dX11_pushLimb_6 rfl 1 rfl ?_
  refine p_callVi (pc := 7) [.int a1] cx (c_X11_no cx.2.2.2.2.2.2 hM1 ha0 hw) cf_X11_no cv_X11_no t4_203 ha0 ⟨by decide, rfl, rfl⟩ ⟨rfl, rfl⟩ ⟨Nat.le_of_ble_eq_true rfl, Nat.le_of_ble_eq_true rfl⟩ rfl rfl (Nat.le_of_ble_eq_true rfl) dX11_pushLimb_7 (fun r2 M2 hw hM2 => ?_)
  refine p_if_eq (pc := 10) (tgt := 15) cx dX11_pushLimb_10 (by decide) (fun hc => ?_) (fun hc => ?_)
  · have hw := hw.1 hc
    refine p_aload_n (pc := 15) cx dX11_pushLimb_15 rfl 0 rfl ?_
    refine gf_10_2 (pc := 16) cx ha0 t4_163 dX11_pushLimb_16 ?_
    have hr_3 : Is G 12 (mR M2 a0 2) := TYR.at hM2 ha0 2 12 rfl (by decide)
    refine p_iload_n (pc := 19) cx dX11_pushLimb_19 rfl 1 rfl ?_
    refine p_iald (pc := 20) cx hr_3 hw.1 dX11_pushLimb_20 ?_
    have hw := hw.2
    refine p_topi (fun x3_4 ex3_4 => ?_)
    have hw := hw x3_4 ex3_4
    refine p_istore_n (pc := 21) (lv' := [(0, .ref a0), (1, .int a1), (2, .int a2), (3, .int x3_4)]) cx dX11_pushLimb_21 rfl (by decide) [1, 2, 3, 0] rfl ?_
    refine p_aload_n (pc := 22) cx dX11_pushLimb_22 rfl 0 rfl ?_
    refine gf_10_1 (pc := 23) cx ha0 t4_162 dX11_pushLimb_23 ?_
    have hr_5 : Is G 12 (mR M2 a0 1) := TYR.at hM2 ha0 1 12 rfl (by decide)
    refine p_iload_n (pc := 26) cx dX11_pushLimb_26 rfl 1 rfl ?_
    refine p_iald (pc := 27) cx hr_5 hw.1 dX11_pushLimb_27 ?_
    have hw := hw.2
    refine p_topi (fun x4_6 ex4_6 => ?_)
    have hw := hw x4_6 ex4_6
    refine p_istore (pc := 28) (lv' := [(0, .ref a0), (1, .int a1), (2, .int a2), (3, .int x3_4), (4, .int x4_6)]) cx dX11_pushLimb_28 (by decide) [1, 2, 3, 4, 0] rfl ?_
    refine p_iconst (pc := 30) (v := 0) cx dX11_pushLimb_30 (by decide) ?_
    refine p_istore (pc := 31) (lv' := [(0, .ref a0), (1, .int a1), (2, .int a2), (3, .int x3_4), (4, .int x4_6), (5, .int (0 : Int32))]) cx dX11_pushLimb_31 (by decide) [1, 2, 3, 4, 5, 0] rfl ?_
    obtain ⟨n1, hw⟩ := hw
    exact x_X11_pushLimb_33 cx hr hlk n1 a0 a1 a2 x3_4 x4_6 0 M2 hM2 ha0 hw
  · have hw := hw.2 hc
    refine p_iconst (pc := 13) (v := 3) cx dX11_pushLimb_13 (by decide) ?_
    exact p_iret (pc := 14) cx hr hlk dX11_pushLimb_14 hM2 hw
set_option maxHeartbeats 4000000 in
set_option maxRecDepth 100000 in
theorem c_X11_clear {l : Launch} {D : va_G} {G : SH} (hND : ND G) {a0 : Nat} {a1 : Int32} {M : MS} {Qp : Int32 → MS → Prop} (hT : TYR G M.2.2.1) (ha0 : Is G 10 a0) (hw : w_X11_clear G a0 a1 M Qp) : MeI l D G yX11_clear (Cond.code yX11_clear cX11_clear 2 (some .boolean) :: GW) rm_X11_clear [.ref a0, .int a1] M Qp := by
  unfold MeI
  refine p_method (by decide) rfl (Nat.le_of_ble_eq_true rfl) hND ?_
  intro p e s m args below meth c cx hr hlk
  have cx : CX p s m args c D G cX11_clear 2 RX11 := cx
  unfold w_X11_clear at hw
  refine p_aload_n (pc := 0) cx dX11_clear_0 rfl 0 rfl ?_
  refine p_iconst (pc := 1) (v := 0) cx dX11_clear_1 (by decide) ?_
  refine pf_10_5 (pc := 2) cx ha0 t4_166 dX11_clear_2 ?_
  refine p_mem (fun M1 eM1 => ?_)
  have hw := hw M1 eM1
  have hM1 : TYR G M1.2.2.1 := by rw [eM1]; exact hT
  refine p_aload_n (pc := 5) cx dX11_clear_5 rfl 0 rfl ?_
  refine p_iload_n (pc := 6) cx dX11_clear_6 rfl 1 rfl ?_
  refine p_callVi (pc := 7) [.int a1] cx (c_X11_no cx.2.2.2.2.2.2 hM1 ha0 hw) cf_X11_no cv_X11_no t4_203 ha0 ⟨by decide, rfl, rfl⟩ ⟨rfl, rfl⟩ ⟨Nat.le_of_ble_eq_true rfl, Nat.le_of_ble_eq_true rfl⟩ rfl rfl (Nat.le_of_ble_eq_true rfl) dX11_clear_7 (fun r2 M2 hw hM2 => ?_)
  refine p_if_eq (pc := 10) (tgt := 15) cx dX11_clear_10 (by decide) (fun hc => ?_) (fun hc => ?_)
  · have hw := hw.1 hc
    refine p_aload_n (pc := 15) cx dX11_clear_15 rfl 0 rfl ?_
    refine p_iload_n (pc := 16) cx dX11_clear_16 rfl 1 rfl ?_
    refine p_iconst (pc := 17) (v := 0) cx dX11_clear_17 (by decide) ?_
    refine p_callVv (pc := 18) [.int a1, .int (0 : Int32)] cx (c_X11_small cx.2.2.2.2.2.2 hM2 ha0 hw) cf_X11_small cv_X11_small t4_228 ha0 ⟨by decide, rfl, rfl⟩ ⟨rfl, rfl⟩ ⟨Nat.le_of_ble_eq_true rfl, Nat.le_of_ble_eq_true rfl⟩ rfl rfl (Nat.le_of_ble_eq_true rfl) dX11_clear_18 (fun M3 hw hM3 => ?_)
    refine p_iconst (pc := 21) (v := 1) cx dX11_clear_21 (by decide) ?_
    exact p_zret (pc := 22) cx hr hlk dX11_clear_22 (by decide) hM3 hw
  · have hw := hw.2 hc
    refine p_iconst (pc := 13) (v := 0) cx dX11_clear_13 (by decide) ?_
    exact p_zret (pc := 14) cx hr hlk dX11_clear_14 (by decide) hM2 hw
set_option maxHeartbeats 4000000 in
set_option maxRecDepth 100000 in
theorem c_X11_negate {l : Launch} {D : va_G} {G : SH} (hND : ND G) {a0 : Nat} {a1 : Int32} {a2 : Int32} {M : MS} {Qp : Int32 → MS → Prop} (hT : TYR G M.2.2.1) (ha0 : Is G 10 a0) (hw : w_X11_negate G a0 a1 a2 M Qp) : MeI l D G yX11_negate (Cond.code yX11_negate cX11_negate 3 (some .int) :: GW) rm_X11_negate [.ref a0, .int a1, .int a2] M Qp := by
  unfold MeI
  refine p_method (by decide) rfl (Nat.le_of_ble_eq_true rfl) hND ?_
  intro p e s m args below meth c cx hr hlk
  have cx : CX p s m args c D G cX11_negate 3 RX11 := cx
  unfold w_X11_negate at hw
  refine p_aload_n (pc := 0) cx dX11_negate_0 rfl 0 rfl ?_
  refine p_iconst (pc := 1) (v := 0) cx dX11_negate_1 (by decide) ?_
  refine pf_10_5 (pc := 2) cx ha0 t4_166 dX11_negate_2 ?_
  refine p_mem (fun M1 eM1 => ?_)
  have hw := hw M1 eM1
  have hM1 : TYR G M1.2.2.1 := by rw [eM1]; exact hT
  refine p_aload_n (pc := 5) cx dX11_negate_5 rfl 0 rfl ?_
  refine p_iload_n (pc := 6) cx dX11_negate_6 rfl 1 rfl ?_
  refine p_callVi (pc := 7) [.int a1] cx (c_X11_no cx.2.2.2.2.2.2 hM1 ha0 hw) cf_X11_no cv_X11_no t4_203 ha0 ⟨by decide, rfl, rfl⟩ ⟨rfl, rfl⟩ ⟨Nat.le_of_ble_eq_true rfl, Nat.le_of_ble_eq_true rfl⟩ rfl rfl (Nat.le_of_ble_eq_true rfl) dX11_negate_7 (fun r2 M2 hw hM2 => ?_)
  refine p_if_ne (pc := 10) (tgt := 21) cx dX11_negate_10 (by decide) (fun hc => ?_) (fun hc => ?_)
  · have hw := hw.1 hc
    refine p_iconst (pc := 21) (v := 3) cx dX11_negate_21 (by decide) ?_
    exact p_iret (pc := 22) cx hr hlk dX11_negate_22 hM2 hw
  · have hw := hw.2 hc
    refine p_aload_n (pc := 13) cx dX11_negate_13 rfl 0 rfl ?_
    refine p_iload_n (pc := 14) cx dX11_negate_14 rfl 2 rfl ?_
    refine p_callVi (pc := 15) [.int a2] cx (c_X11_no cx.2.2.2.2.2.2 hM2 ha0 hw) cf_X11_no cv_X11_no t4_203 ha0 ⟨by decide, rfl, rfl⟩ ⟨rfl, rfl⟩ ⟨Nat.le_of_ble_eq_true rfl, Nat.le_of_ble_eq_true rfl⟩ rfl rfl (Nat.le_of_ble_eq_true rfl) dX11_negate_15 (fun r3 M3 hw hM3 => ?_)
    refine p_if_eq (pc := 18) (tgt := 23) cx dX11_negate_18 (by decide) (fun hc => ?_) (fun hc => ?_)
    · have hw := hw.1 hc
      refine p_aload_n (pc := 23) cx dX11_negate_23 rfl 0 rfl ?_
      refine p_iload_n (pc := 24) cx dX11_negate_24 rfl 1 rfl ?_
      refine p_iload_n (pc := 25) cx dX11_negate_25 rfl 2 rfl ?_
      refine p_callVv (pc := 26) [.int a1, .int a2] cx (c_X11_copy cx.2.2.2.2.2.2 hM3 ha0 hw) cf_X11_copy cv_X11_copy t4_220 ha0 ⟨by decide, rfl, rfl⟩ ⟨rfl, rfl⟩ ⟨Nat.le_of_ble_eq_true rfl, Nat.le_of_ble_eq_true rfl⟩ rfl rfl (Nat.le_of_ble_eq_true rfl) dX11_negate_26 (fun M4 hw hM4 => ?_)
      refine p_aload_n (pc := 29) cx dX11_negate_29 rfl 0 rfl ?_
      refine gf_10_2 (pc := 30) cx ha0 t4_163 dX11_negate_30 ?_
      have hr_5 : Is G 12 (mR M4 a0 2) := TYR.at hM4 ha0 2 12 rfl (by decide)
      refine p_iload_n (pc := 33) cx dX11_negate_33 rfl 1 rfl ?_
      refine p_aload_n (pc := 34) cx dX11_negate_34 rfl 0 rfl ?_
      refine gf_10_2 (pc := 35) cx ha0 t4_163 dX11_negate_35 ?_
      have hr_6 : Is G 12 (mR M4 a0 2) := TYR.at hM4 ha0 2 12 rfl (by decide)
      refine p_iload_n (pc := 38) cx dX11_negate_38 rfl 1 rfl ?_
      refine p_iald (pc := 39) cx hr_6 hw.1 dX11_negate_39 ?_
      have hw := hw.2
      refine p_ineg (pc := 40) cx dX11_negate_40 ?_
      refine p_iast (pc := 41) cx hr_5 hw.1 dX11_negate_41 ?_
      have hw := hw.2
      refine p_mem (fun M7 eM7 => ?_)
      have hw := hw M7 eM7
      have hM7 : TYR G M7.2.2.1 := by rw [eM7]; exact hM4
      refine p_iconst (pc := 42) (v := 0) cx dX11_negate_42 (by decide) ?_
      exact p_iret (pc := 43) cx hr hlk dX11_negate_43 hM7 hw
    · have hw := hw.2 hc
      refine p_iconst (pc := 21) (v := 3) cx dX11_negate_21 (by decide) ?_
      exact p_iret (pc := 22) cx hr hlk dX11_negate_22 hM3 hw
set_option maxHeartbeats 4000000 in
set_option maxRecDepth 100000 in
theorem c_X11_add {l : Launch} {D : va_G} {G : SH} (hND : ND G) {a0 : Nat} {a1 : Int32} {a2 : Int32} {a3 : Int32} {M : MS} {Qp : Int32 → MS → Prop} (hT : TYR G M.2.2.1) (ha0 : Is G 10 a0) (hw : w_X11_add G a0 a1 a2 a3 M Qp) : MeI l D G yX11_add (Cond.code yX11_add cX11_add 4 (some .int) :: GW) rm_X11_add [.ref a0, .int a1, .int a2, .int a3] M Qp := by
  unfold MeI
  refine p_method (by decide) rfl (Nat.le_of_ble_eq_true rfl) hND ?_
  intro p e s m args below meth c cx hr hlk
  have cx : CX p s m args c D G cX11_add 4 RX11 := cx
  unfold w_X11_add at hw
  refine p_aload_n (pc := 0) cx dX11_add_0 rfl 0 rfl ?_
  refine p_iconst (pc := 1) (v := 0) cx dX11_add_1 (by decide) ?_
  refine pf_10_5 (pc := 2) cx ha0 t4_166 dX11_add_2 ?_
  refine p_mem (fun M1 eM1 => ?_)
  have hw := hw M1 eM1
  have hM1 : TYR G M1.2.2.1 := by rw [eM1]; exact hT
  refine p_aload_n (pc := 5) cx dX11_add_5 rfl 0 rfl ?_
  refine p_iload_n (pc := 6) cx dX11_add_6 rfl 1 rfl ?_
  refine p_callVi (pc := 7) [.int a1] cx (c_X11_no cx.2.2.2.2.2.2 hM1 ha0 hw) cf_X11_no cv_X11_no t4_203 ha0 ⟨by decide, rfl, rfl⟩ ⟨rfl, rfl⟩ ⟨Nat.le_of_ble_eq_true rfl, Nat.le_of_ble_eq_true rfl⟩ rfl rfl (Nat.le_of_ble_eq_true rfl) dX11_add_7 (fun r2 M2 hw hM2 => ?_)
  refine p_if_ne (pc := 10) (tgt := 29) cx dX11_add_10 (by decide) (fun hc => ?_) (fun hc => ?_)
  · have hw := hw.1 hc
    refine p_iconst (pc := 29) (v := 3) cx dX11_add_29 (by decide) ?_
    exact p_iret (pc := 30) cx hr hlk dX11_add_30 hM2 hw
  · have hw := hw.2 hc
    refine p_aload_n (pc := 13) cx dX11_add_13 rfl 0 rfl ?_
    refine p_iload_n (pc := 14) cx dX11_add_14 rfl 2 rfl ?_
    refine p_callVi (pc := 15) [.int a2] cx (c_X11_no cx.2.2.2.2.2.2 hM2 ha0 hw) cf_X11_no cv_X11_no t4_203 ha0 ⟨by decide, rfl, rfl⟩ ⟨rfl, rfl⟩ ⟨Nat.le_of_ble_eq_true rfl, Nat.le_of_ble_eq_true rfl⟩ rfl rfl (Nat.le_of_ble_eq_true rfl) dX11_add_15 (fun r3 M3 hw hM3 => ?_)
    refine p_if_ne (pc := 18) (tgt := 29) cx dX11_add_18 (by decide) (fun hc => ?_) (fun hc => ?_)
    · have hw := hw.1 hc
      refine p_iconst (pc := 29) (v := 3) cx dX11_add_29 (by decide) ?_
      exact p_iret (pc := 30) cx hr hlk dX11_add_30 hM3 hw
    · have hw := hw.2 hc
      refine p_aload_n (pc := 21) cx dX11_add_21 rfl 0 rfl ?_
      refine p_iload_n (pc := 22) cx dX11_add_22 rfl 3 rfl ?_
      refine p_callVi (pc := 23) [.int a3] cx (c_X11_no cx.2.2.2.2.2.2 hM3 ha0 hw) cf_X11_no cv_X11_no t4_203 ha0 ⟨by decide, rfl, rfl⟩ ⟨rfl, rfl⟩ ⟨Nat.le_of_ble_eq_true rfl, Nat.le_of_ble_eq_true rfl⟩ rfl rfl (Nat.le_of_ble_eq_true rfl) dX11_add_23 (fun r4 M4 hw hM4 => ?_)
      refine p_if_eq (pc := 26) (tgt := 31) cx dX11_add_26 (by decide) (fun hc => ?_) (fun hc => ?_)
      · have hw := hw.1 hc
        refine p_aload_n (pc := 31) cx dX11_add_31 rfl 0 rfl ?_
        refine p_bipush (pc := 32) (v := 19) cx dX11_add_32 (by decide) ?_
        refine p_iload_n (pc := 34) cx dX11_add_34 rfl 2 rfl ?_
        refine p_iload_n (pc := 35) cx dX11_add_35 rfl 3 rfl ?_
        refine p_iconst (pc := 36) (v := 1) cx dX11_add_36 (by decide) ?_
        refine p_callVv (pc := 37) [.int (19 : Int32), .int a2, .int a3, .int (1 : Int32)] cx (c_X11_sum cx.2.2.2.2.2.2 hM4 ha0 hw) cf_X11_sum cv_X11_sum t5_0 ha0 ⟨by decide, rfl, rfl⟩ ⟨rfl, rfl⟩ ⟨Nat.le_of_ble_eq_true rfl, Nat.le_of_ble_eq_true rfl⟩ rfl rfl (Nat.le_of_ble_eq_true rfl) dX11_add_37 (fun M5 hw hM5 => ?_)
        refine p_aload_n (pc := 40) cx dX11_add_40 rfl 0 rfl ?_
        refine p_iload_n (pc := 41) cx dX11_add_41 rfl 1 rfl ?_
        refine p_bipush (pc := 42) (v := 19) cx dX11_add_42 (by decide) ?_
        refine p_callVi (pc := 44) [.int a1, .int (19 : Int32)] cx (c_X11_put cx.2.2.2.2.2.2 hM5 ha0 hw) cf_X11_put cv_X11_put t4_212 ha0 ⟨by decide, rfl, rfl⟩ ⟨rfl, rfl⟩ ⟨Nat.le_of_ble_eq_true rfl, Nat.le_of_ble_eq_true rfl⟩ rfl rfl (Nat.le_of_ble_eq_true rfl) dX11_add_44 (fun r6 M6 hw hM6 => ?_)
        exact p_iret (pc := 47) cx hr hlk dX11_add_47 hM6 hw
      · have hw := hw.2 hc
        refine p_iconst (pc := 29) (v := 3) cx dX11_add_29 (by decide) ?_
        exact p_iret (pc := 30) cx hr hlk dX11_add_30 hM4 hw
set_option maxHeartbeats 4000000 in
set_option maxRecDepth 100000 in
theorem c_X11_subtract {l : Launch} {D : va_G} {G : SH} (hND : ND G) {a0 : Nat} {a1 : Int32} {a2 : Int32} {a3 : Int32} {M : MS} {Qp : Int32 → MS → Prop} (hT : TYR G M.2.2.1) (ha0 : Is G 10 a0) (hw : w_X11_subtract G a0 a1 a2 a3 M Qp) : MeI l D G yX11_subtract (Cond.code yX11_subtract cX11_subtract 4 (some .int) :: GW) rm_X11_subtract [.ref a0, .int a1, .int a2, .int a3] M Qp := by
  unfold MeI
  refine p_method (by decide) rfl (Nat.le_of_ble_eq_true rfl) hND ?_
  intro p e s m args below meth c cx hr hlk
  have cx : CX p s m args c D G cX11_subtract 4 RX11 := cx
  unfold w_X11_subtract at hw
  refine p_aload_n (pc := 0) cx dX11_subtract_0 rfl 0 rfl ?_
  refine p_iconst (pc := 1) (v := 0) cx dX11_subtract_1 (by decide) ?_
  refine pf_10_5 (pc := 2) cx ha0 t4_166 dX11_subtract_2 ?_
  refine p_mem (fun M1 eM1 => ?_)
  have hw := hw M1 eM1
  have hM1 : TYR G M1.2.2.1 := by rw [eM1]; exact hT
  refine p_aload_n (pc := 5) cx dX11_subtract_5 rfl 0 rfl ?_
  refine p_iload_n (pc := 6) cx dX11_subtract_6 rfl 1 rfl ?_
  refine p_callVi (pc := 7) [.int a1] cx (c_X11_no cx.2.2.2.2.2.2 hM1 ha0 hw) cf_X11_no cv_X11_no t4_203 ha0 ⟨by decide, rfl, rfl⟩ ⟨rfl, rfl⟩ ⟨Nat.le_of_ble_eq_true rfl, Nat.le_of_ble_eq_true rfl⟩ rfl rfl (Nat.le_of_ble_eq_true rfl) dX11_subtract_7 (fun r2 M2 hw hM2 => ?_)
  refine p_if_ne (pc := 10) (tgt := 29) cx dX11_subtract_10 (by decide) (fun hc => ?_) (fun hc => ?_)
  · have hw := hw.1 hc
    refine p_iconst (pc := 29) (v := 3) cx dX11_subtract_29 (by decide) ?_
    exact p_iret (pc := 30) cx hr hlk dX11_subtract_30 hM2 hw
  · have hw := hw.2 hc
    refine p_aload_n (pc := 13) cx dX11_subtract_13 rfl 0 rfl ?_
    refine p_iload_n (pc := 14) cx dX11_subtract_14 rfl 2 rfl ?_
    refine p_callVi (pc := 15) [.int a2] cx (c_X11_no cx.2.2.2.2.2.2 hM2 ha0 hw) cf_X11_no cv_X11_no t4_203 ha0 ⟨by decide, rfl, rfl⟩ ⟨rfl, rfl⟩ ⟨Nat.le_of_ble_eq_true rfl, Nat.le_of_ble_eq_true rfl⟩ rfl rfl (Nat.le_of_ble_eq_true rfl) dX11_subtract_15 (fun r3 M3 hw hM3 => ?_)
    refine p_if_ne (pc := 18) (tgt := 29) cx dX11_subtract_18 (by decide) (fun hc => ?_) (fun hc => ?_)
    · have hw := hw.1 hc
      refine p_iconst (pc := 29) (v := 3) cx dX11_subtract_29 (by decide) ?_
      exact p_iret (pc := 30) cx hr hlk dX11_subtract_30 hM3 hw
    · have hw := hw.2 hc
      refine p_aload_n (pc := 21) cx dX11_subtract_21 rfl 0 rfl ?_
      refine p_iload_n (pc := 22) cx dX11_subtract_22 rfl 3 rfl ?_
      refine p_callVi (pc := 23) [.int a3] cx (c_X11_no cx.2.2.2.2.2.2 hM3 ha0 hw) cf_X11_no cv_X11_no t4_203 ha0 ⟨by decide, rfl, rfl⟩ ⟨rfl, rfl⟩ ⟨Nat.le_of_ble_eq_true rfl, Nat.le_of_ble_eq_true rfl⟩ rfl rfl (Nat.le_of_ble_eq_true rfl) dX11_subtract_23 (fun r4 M4 hw hM4 => ?_)
      refine p_if_eq (pc := 26) (tgt := 31) cx dX11_subtract_26 (by decide) (fun hc => ?_) (fun hc => ?_)
      · have hw := hw.1 hc
        refine p_aload_n (pc := 31) cx dX11_subtract_31 rfl 0 rfl ?_
        refine p_bipush (pc := 32) (v := 19) cx dX11_subtract_32 (by decide) ?_
        refine p_iload_n (pc := 34) cx dX11_subtract_34 rfl 2 rfl ?_
        refine p_iload_n (pc := 35) cx dX11_subtract_35 rfl 3 rfl ?_
        refine p_iconst (pc := 36) (v := (-1)) cx dX11_subtract_36 (by decide) ?_
        refine p_callVv (pc := 37) [.int (19 : Int32), .int a2, .int a3, .int ((-1) : Int32)] cx (c_X11_sum cx.2.2.2.2.2.2 hM4 ha0 hw) cf_X11_sum cv_X11_sum t5_0 ha0 ⟨by decide, rfl, rfl⟩ ⟨rfl, rfl⟩ ⟨Nat.le_of_ble_eq_true rfl, Nat.le_of_ble_eq_true rfl⟩ rfl rfl (Nat.le_of_ble_eq_true rfl) dX11_subtract_37 (fun M5 hw hM5 => ?_)
        refine p_aload_n (pc := 40) cx dX11_subtract_40 rfl 0 rfl ?_
        refine p_iload_n (pc := 41) cx dX11_subtract_41 rfl 1 rfl ?_
        refine p_bipush (pc := 42) (v := 19) cx dX11_subtract_42 (by decide) ?_
        refine p_callVi (pc := 44) [.int a1, .int (19 : Int32)] cx (c_X11_put cx.2.2.2.2.2.2 hM5 ha0 hw) cf_X11_put cv_X11_put t4_212 ha0 ⟨by decide, rfl, rfl⟩ ⟨rfl, rfl⟩ ⟨Nat.le_of_ble_eq_true rfl, Nat.le_of_ble_eq_true rfl⟩ rfl rfl (Nat.le_of_ble_eq_true rfl) dX11_subtract_44 (fun r6 M6 hw hM6 => ?_)
        exact p_iret (pc := 47) cx hr hlk dX11_subtract_47 hM6 hw
      · have hw := hw.2 hc
        refine p_iconst (pc := 29) (v := 3) cx dX11_subtract_29 (by decide) ?_
        exact p_iret (pc := 30) cx hr hlk dX11_subtract_30 hM4 hw
set_option maxHeartbeats 4000000 in
set_option maxRecDepth 100000 in
theorem c_X11_multiply {l : Launch} {D : va_G} {G : SH} (hND : ND G) {a0 : Nat} {a1 : Int32} {a2 : Int32} {a3 : Int32} {M : MS} {Qp : Int32 → MS → Prop} (hT : TYR G M.2.2.1) (ha0 : Is G 10 a0) (hw : w_X11_multiply G a0 a1 a2 a3 M Qp) : MeI l D G yX11_multiply (Cond.code yX11_multiply cX11_multiply 4 (some .int) :: GW) rm_X11_multiply [.ref a0, .int a1, .int a2, .int a3] M Qp := by
  unfold MeI
  refine p_method (by decide) rfl (Nat.le_of_ble_eq_true rfl) hND ?_
  intro p e s m args below meth c cx hr hlk
  have cx : CX p s m args c D G cX11_multiply 4 RX11 := cx
  unfold w_X11_multiply at hw
  refine p_aload_n (pc := 0) cx dX11_multiply_0 rfl 0 rfl ?_
  refine p_iconst (pc := 1) (v := 0) cx dX11_multiply_1 (by decide) ?_
  refine pf_10_5 (pc := 2) cx ha0 t4_166 dX11_multiply_2 ?_
  refine p_mem (fun M1 eM1 => ?_)
  have hw := hw M1 eM1
  have hM1 : TYR G M1.2.2.1 := by rw [eM1]; exact hT
  refine p_aload_n (pc := 5) cx dX11_multiply_5 rfl 0 rfl ?_
  refine p_iload_n (pc := 6) cx dX11_multiply_6 rfl 1 rfl ?_
  refine p_callVi (pc := 7) [.int a1] cx (c_X11_no cx.2.2.2.2.2.2 hM1 ha0 hw) cf_X11_no cv_X11_no t4_203 ha0 ⟨by decide, rfl, rfl⟩ ⟨rfl, rfl⟩ ⟨Nat.le_of_ble_eq_true rfl, Nat.le_of_ble_eq_true rfl⟩ rfl rfl (Nat.le_of_ble_eq_true rfl) dX11_multiply_7 (fun r2 M2 hw hM2 => ?_)
  refine p_if_ne (pc := 10) (tgt := 29) cx dX11_multiply_10 (by decide) (fun hc => ?_) (fun hc => ?_)
  · have hw := hw.1 hc
    refine p_iconst (pc := 29) (v := 3) cx dX11_multiply_29 (by decide) ?_
    exact p_iret (pc := 30) cx hr hlk dX11_multiply_30 hM2 hw
  · have hw := hw.2 hc
    refine p_aload_n (pc := 13) cx dX11_multiply_13 rfl 0 rfl ?_
    refine p_iload_n (pc := 14) cx dX11_multiply_14 rfl 2 rfl ?_
    refine p_callVi (pc := 15) [.int a2] cx (c_X11_no cx.2.2.2.2.2.2 hM2 ha0 hw) cf_X11_no cv_X11_no t4_203 ha0 ⟨by decide, rfl, rfl⟩ ⟨rfl, rfl⟩ ⟨Nat.le_of_ble_eq_true rfl, Nat.le_of_ble_eq_true rfl⟩ rfl rfl (Nat.le_of_ble_eq_true rfl) dX11_multiply_15 (fun r3 M3 hw hM3 => ?_)
    refine p_if_ne (pc := 18) (tgt := 29) cx dX11_multiply_18 (by decide) (fun hc => ?_) (fun hc => ?_)
    · have hw := hw.1 hc
      refine p_iconst (pc := 29) (v := 3) cx dX11_multiply_29 (by decide) ?_
      exact p_iret (pc := 30) cx hr hlk dX11_multiply_30 hM3 hw
    · have hw := hw.2 hc
      refine p_aload_n (pc := 21) cx dX11_multiply_21 rfl 0 rfl ?_
      refine p_iload_n (pc := 22) cx dX11_multiply_22 rfl 3 rfl ?_
      refine p_callVi (pc := 23) [.int a3] cx (c_X11_no cx.2.2.2.2.2.2 hM3 ha0 hw) cf_X11_no cv_X11_no t4_203 ha0 ⟨by decide, rfl, rfl⟩ ⟨rfl, rfl⟩ ⟨Nat.le_of_ble_eq_true rfl, Nat.le_of_ble_eq_true rfl⟩ rfl rfl (Nat.le_of_ble_eq_true rfl) dX11_multiply_23 (fun r4 M4 hw hM4 => ?_)
      refine p_if_eq (pc := 26) (tgt := 31) cx dX11_multiply_26 (by decide) (fun hc => ?_) (fun hc => ?_)
      · have hw := hw.1 hc
        refine p_aload_n (pc := 31) cx dX11_multiply_31 rfl 0 rfl ?_
        refine p_bipush (pc := 32) (v := 19) cx dX11_multiply_32 (by decide) ?_
        refine p_iload_n (pc := 34) cx dX11_multiply_34 rfl 2 rfl ?_
        refine p_iload_n (pc := 35) cx dX11_multiply_35 rfl 3 rfl ?_
        refine p_callVv (pc := 36) [.int (19 : Int32), .int a2, .int a3] cx (c_X11_product cx.2.2.2.2.2.2 hM4 ha0 hw) cf_X11_product cv_X11_product t5_28 ha0 ⟨by decide, rfl, rfl⟩ ⟨rfl, rfl⟩ ⟨Nat.le_of_ble_eq_true rfl, Nat.le_of_ble_eq_true rfl⟩ rfl rfl (Nat.le_of_ble_eq_true rfl) dX11_multiply_36 (fun M5 hw hM5 => ?_)
        refine p_aload_n (pc := 39) cx dX11_multiply_39 rfl 0 rfl ?_
        refine p_iload_n (pc := 40) cx dX11_multiply_40 rfl 1 rfl ?_
        refine p_bipush (pc := 41) (v := 19) cx dX11_multiply_41 (by decide) ?_
        refine p_callVi (pc := 43) [.int a1, .int (19 : Int32)] cx (c_X11_put cx.2.2.2.2.2.2 hM5 ha0 hw) cf_X11_put cv_X11_put t4_212 ha0 ⟨by decide, rfl, rfl⟩ ⟨rfl, rfl⟩ ⟨Nat.le_of_ble_eq_true rfl, Nat.le_of_ble_eq_true rfl⟩ rfl rfl (Nat.le_of_ble_eq_true rfl) dX11_multiply_43 (fun r6 M6 hw hM6 => ?_)
        exact p_iret (pc := 46) cx hr hlk dX11_multiply_46 hM6 hw
      · have hw := hw.2 hc
        refine p_iconst (pc := 29) (v := 3) cx dX11_multiply_29 (by decide) ?_
        exact p_iret (pc := 30) cx hr hlk dX11_multiply_30 hM4 hw
set_option maxHeartbeats 4000000 in
set_option maxRecDepth 100000 in
theorem c_X11_divide {l : Launch} {D : va_G} {G : SH} (hND : ND G) {a0 : Nat} {a1 : Int32} {a2 : Int32} {a3 : Int32} {a4 : Int32} {M : MS} {Qp : Int32 → MS → Prop} (hT : TYR G M.2.2.1) (ha0 : Is G 10 a0) (hw : w_X11_divide G a0 a1 a2 a3 a4 M Qp) : MeI l D G yX11_divide (Cond.code yX11_divide cX11_divide 5 (some .int) :: GW) rm_X11_divide [.ref a0, .int a1, .int a2, .int a3, .int a4] M Qp := by
  unfold MeI
  refine p_method (by decide) rfl (Nat.le_of_ble_eq_true rfl) hND ?_
  intro p e s m args below meth c cx hr hlk
  have cx : CX p s m args c D G cX11_divide 5 RX11 := cx
  unfold w_X11_divide at hw
  refine p_aload_n (pc := 0) cx dX11_divide_0 rfl 0 rfl ?_
  refine p_iconst (pc := 1) (v := 0) cx dX11_divide_1 (by decide) ?_
  refine pf_10_5 (pc := 2) cx ha0 t4_166 dX11_divide_2 ?_
  refine p_mem (fun M1 eM1 => ?_)
  have hw := hw M1 eM1
  have hM1 : TYR G M1.2.2.1 := by rw [eM1]; exact hT
  refine p_aload_n (pc := 5) cx dX11_divide_5 rfl 0 rfl ?_
  refine p_iload_n (pc := 6) cx dX11_divide_6 rfl 1 rfl ?_
  refine p_callVi (pc := 7) [.int a1] cx (c_X11_no cx.2.2.2.2.2.2 hM1 ha0 hw) cf_X11_no cv_X11_no t4_203 ha0 ⟨by decide, rfl, rfl⟩ ⟨rfl, rfl⟩ ⟨Nat.le_of_ble_eq_true rfl, Nat.le_of_ble_eq_true rfl⟩ rfl rfl (Nat.le_of_ble_eq_true rfl) dX11_divide_7 (fun r2 M2 hw hM2 => ?_)
  refine p_if_ne (pc := 10) (tgt := 43) cx dX11_divide_10 (by decide) (fun hc => ?_) (fun hc => ?_)
  · have hw := hw.1 hc
    refine p_iconst (pc := 43) (v := 3) cx dX11_divide_43 (by decide) ?_
    exact p_iret (pc := 44) cx hr hlk dX11_divide_44 hM2 hw
  · have hw := hw.2 hc
    refine p_aload_n (pc := 13) cx dX11_divide_13 rfl 0 rfl ?_
    refine p_iload_n (pc := 14) cx dX11_divide_14 rfl 2 rfl ?_
    refine p_callVi (pc := 15) [.int a2] cx (c_X11_no cx.2.2.2.2.2.2 hM2 ha0 hw) cf_X11_no cv_X11_no t4_203 ha0 ⟨by decide, rfl, rfl⟩ ⟨rfl, rfl⟩ ⟨Nat.le_of_ble_eq_true rfl, Nat.le_of_ble_eq_true rfl⟩ rfl rfl (Nat.le_of_ble_eq_true rfl) dX11_divide_15 (fun r3 M3 hw hM3 => ?_)
    refine p_if_ne (pc := 18) (tgt := 43) cx dX11_divide_18 (by decide) (fun hc => ?_) (fun hc => ?_)
    · have hw := hw.1 hc
      refine p_iconst (pc := 43) (v := 3) cx dX11_divide_43 (by decide) ?_
      exact p_iret (pc := 44) cx hr hlk dX11_divide_44 hM3 hw
    · have hw := hw.2 hc
      refine p_aload_n (pc := 21) cx dX11_divide_21 rfl 0 rfl ?_
      refine p_iload_n (pc := 22) cx dX11_divide_22 rfl 3 rfl ?_
      refine p_callVi (pc := 23) [.int a3] cx (c_X11_no cx.2.2.2.2.2.2 hM3 ha0 hw) cf_X11_no cv_X11_no t4_203 ha0 ⟨by decide, rfl, rfl⟩ ⟨rfl, rfl⟩ ⟨Nat.le_of_ble_eq_true rfl, Nat.le_of_ble_eq_true rfl⟩ rfl rfl (Nat.le_of_ble_eq_true rfl) dX11_divide_23 (fun r4 M4 hw hM4 => ?_)
      refine p_if_ne (pc := 26) (tgt := 43) cx dX11_divide_26 (by decide) (fun hc => ?_) (fun hc => ?_)
      · have hw := hw.1 hc
        refine p_iconst (pc := 43) (v := 3) cx dX11_divide_43 (by decide) ?_
        exact p_iret (pc := 44) cx hr hlk dX11_divide_44 hM4 hw
      · have hw := hw.2 hc
        refine p_aload_n (pc := 29) cx dX11_divide_29 rfl 0 rfl ?_
        refine p_iload (pc := 30) cx dX11_divide_30 4 rfl ?_
        refine p_callVi (pc := 32) [.int a4] cx (c_X11_no cx.2.2.2.2.2.2 hM4 ha0 hw) cf_X11_no cv_X11_no t4_203 ha0 ⟨by decide, rfl, rfl⟩ ⟨rfl, rfl⟩ ⟨Nat.le_of_ble_eq_true rfl, Nat.le_of_ble_eq_true rfl⟩ rfl rfl (Nat.le_of_ble_eq_true rfl) dX11_divide_32 (fun r5 M5 hw hM5 => ?_)
        refine p_if_ne (pc := 35) (tgt := 43) cx dX11_divide_35 (by decide) (fun hc => ?_) (fun hc => ?_)
        · have hw := hw.1 hc
          refine p_iconst (pc := 43) (v := 3) cx dX11_divide_43 (by decide) ?_
          exact p_iret (pc := 44) cx hr hlk dX11_divide_44 hM5 hw
        · have hw := hw.2 hc
          refine p_iload_n (pc := 38) cx dX11_divide_38 rfl 1 rfl ?_
          refine p_iload_n (pc := 39) cx dX11_divide_39 rfl 2 rfl ?_
          refine p_icmp_ne (pc := 40) (tgt := 45) cx dX11_divide_40 (by decide) (fun hc => ?_) (fun hc => ?_)
          · have hw := hw.1 hc
            refine p_aload_n (pc := 45) cx dX11_divide_45 rfl 0 rfl ?_
            refine gf_10_2 (pc := 46) cx ha0 t4_163 dX11_divide_46 ?_
            have hr_6 : Is G 12 (mR M5 a0 2) := TYR.at hM5 ha0 2 12 rfl (by decide)
            refine p_iload (pc := 49) cx dX11_divide_49 4 rfl ?_
            refine p_iald (pc := 51) cx hr_6 hw.1 dX11_divide_51 ?_
            have hw := hw.2
            refine p_if_ne (pc := 52) (tgt := 57) cx dX11_divide_52 (by decide) (fun hc => ?_) (fun hc => ?_)
            · have hw := hw.1 hc
              refine p_aload_n (pc := 57) cx dX11_divide_57 rfl 0 rfl ?_
              refine p_bipush (pc := 58) (v := 17) cx dX11_divide_58 (by decide) ?_
              refine p_bipush (pc := 60) (v := 18) cx dX11_divide_60 (by decide) ?_
              refine p_iload_n (pc := 62) cx dX11_divide_62 rfl 3 rfl ?_
              refine p_iload (pc := 63) cx dX11_divide_63 4 rfl ?_
              refine p_callVv (pc := 65) [.int (17 : Int32), .int (18 : Int32), .int a3, .int a4] cx (c_X11_divided cx.2.2.2.2.2.2 hM5 ha0 hw) cf_X11_divided cv_X11_divided t5_37 ha0 ⟨by decide, rfl, rfl⟩ ⟨rfl, rfl⟩ ⟨Nat.le_of_ble_eq_true rfl, Nat.le_of_ble_eq_true rfl⟩ rfl rfl (Nat.le_of_ble_eq_true rfl) dX11_divide_65 (fun M7 hw hM7 => ?_)
              refine p_aload_n (pc := 68) cx dX11_divide_68 rfl 0 rfl ?_
              refine p_bipush (pc := 69) (v := 17) cx dX11_divide_69 (by decide) ?_
              refine p_callVi (pc := 71) [.int (17 : Int32)] cx (c_X11_fits cx.2.2.2.2.2.2 hM7 ha0 hw) cf_X11_fits cv_X11_fits t4_216 ha0 ⟨by decide, rfl, rfl⟩ ⟨rfl, rfl⟩ ⟨Nat.le_of_ble_eq_true rfl, Nat.le_of_ble_eq_true rfl⟩ rfl rfl (Nat.le_of_ble_eq_true rfl) dX11_divide_71 (fun r8 M8 hw hM8 => ?_)
              refine p_if_ne (pc := 74) (tgt := 79) cx dX11_divide_74 (by decide) (fun hc => ?_) (fun hc => ?_)
              · have hw := hw.1 hc
                refine p_aload_n (pc := 79) cx dX11_divide_79 rfl 0 rfl ?_
                refine p_iload_n (pc := 80) cx dX11_divide_80 rfl 1 rfl ?_
                refine p_bipush (pc := 81) (v := 17) cx dX11_divide_81 (by decide) ?_
                refine p_callVv (pc := 83) [.int a1, .int (17 : Int32)] cx (c_X11_copy cx.2.2.2.2.2.2 hM8 ha0 hw) cf_X11_copy cv_X11_copy t4_220 ha0 ⟨by decide, rfl, rfl⟩ ⟨rfl, rfl⟩ ⟨Nat.le_of_ble_eq_true rfl, Nat.le_of_ble_eq_true rfl⟩ rfl rfl (Nat.le_of_ble_eq_true rfl) dX11_divide_83 (fun M9 hw hM9 => ?_)
                refine p_aload_n (pc := 86) cx dX11_divide_86 rfl 0 rfl ?_
                refine p_iload_n (pc := 87) cx dX11_divide_87 rfl 2 rfl ?_
                refine p_bipush (pc := 88) (v := 18) cx dX11_divide_88 (by decide) ?_
                refine p_callVv (pc := 90) [.int a2, .int (18 : Int32)] cx (c_X11_copy cx.2.2.2.2.2.2 hM9 ha0 hw) cf_X11_copy cv_X11_copy t4_220 ha0 ⟨by decide, rfl, rfl⟩ ⟨rfl, rfl⟩ ⟨Nat.le_of_ble_eq_true rfl, Nat.le_of_ble_eq_true rfl⟩ rfl rfl (Nat.le_of_ble_eq_true rfl) dX11_divide_90 (fun M10 hw hM10 => ?_)
                refine p_iconst (pc := 93) (v := 0) cx dX11_divide_93 (by decide) ?_
                exact p_iret (pc := 94) cx hr hlk dX11_divide_94 hM10 hw
              · have hw := hw.2 hc
                refine p_iconst (pc := 77) (v := 1) cx dX11_divide_77 (by decide) ?_
                exact p_iret (pc := 78) cx hr hlk dX11_divide_78 hM8 hw
            · have hw := hw.2 hc
              refine p_iconst (pc := 55) (v := 2) cx dX11_divide_55 (by decide) ?_
              exact p_iret (pc := 56) cx hr hlk dX11_divide_56 hM5 hw
          · have hw := hw.2 hc
            refine p_iconst (pc := 43) (v := 3) cx dX11_divide_43 (by decide) ?_
            exact p_iret (pc := 44) cx hr hlk dX11_divide_44 hM5 hw
set_option maxHeartbeats 4000000 in
set_option maxRecDepth 100000 in
theorem x_X11_shift_197 {p : Program} {l : Launch} {e : Env} {s : State} {m : MethodId} {args : Array Value} {below : List Frame} {meth : Method} {c : Code} {D : va_G} {G : SH} {Qp : Int32 → MS → Prop}  (cx : CX p s m args c D G cX11_shift 9 RX11) (hr : meth.sig.returnType = (some .int)) (hlk : meth.locks = false)  (v0 : Nat) (v1 : Int32) (v4 : Int32) (v6 : Int32) (M : MS) (hT : TYR G M.2.2.1) (hv0 : Is G 10 v0) (hw : w_X11_shift_197 G Qp v0 v1 v4 v6 M) : PW p l e rm_X11_shift s m args below meth c D G 9 (MQ below (va_Qi Qp (POST D G) (AG G)) args s 0 0 (AG G)) 197 [(0, .ref v0), (1, .int v1), (4, .int v4), (6, .int v6)] [] M := by
  unfold w_X11_shift_197 at hw
  refine p_iload (pc := 197) cx dX11_shift_197 2 rfl ?_
  refine p_if_ge (pc := 199) (tgt := 225) cx dX11_shift_199 (by decide) (fun hc => ?_) (fun hc => ?_)
  · have hw := hw.1 hc
    refine p_aload_n (pc := 225) cx dX11_shift_225 rfl 0 rfl ?_
    refine p_iload_n (pc := 226) cx dX11_shift_226 rfl 1 rfl ?_
    refine p_bipush (pc := 227) (v := 19) cx dX11_shift_227 (by decide) ?_
    refine p_callVi (pc := 229) [.int v1, .int (19 : Int32)] cx (c_X11_put cx.2.2.2.2.2.2 hT hv0 hw) cf_X11_put cv_X11_put t4_212 hv0 ⟨by decide, rfl, rfl⟩ ⟨rfl, rfl⟩ ⟨Nat.le_of_ble_eq_true rfl, Nat.le_of_ble_eq_true rfl⟩ rfl rfl (Nat.le_of_ble_eq_true rfl) dX11_shift_229 (fun r9 M9 hw hM9 => ?_)
    exact p_iret (pc := 232) cx hr hlk dX11_shift_232 hM9 hw
  · have hw := hw.2 hc
    refine p_iload (pc := 202) cx dX11_shift_202 3 rfl ?_
    refine p_if_eq (pc := 204) (tgt := 225) cx dX11_shift_204 (by decide) (fun hc => ?_) (fun hc => ?_)
    · have hw := hw.1 hc
      refine p_aload_n (pc := 225) cx dX11_shift_225 rfl 0 rfl ?_
      refine p_iload_n (pc := 226) cx dX11_shift_226 rfl 1 rfl ?_
      refine p_bipush (pc := 227) (v := 19) cx dX11_shift_227 (by decide) ?_
      refine p_callVi (pc := 229) [.int v1, .int (19 : Int32)] cx (c_X11_put cx.2.2.2.2.2.2 hT hv0 hw) cf_X11_put cv_X11_put t4_212 hv0 ⟨by decide, rfl, rfl⟩ ⟨rfl, rfl⟩ ⟨Nat.le_of_ble_eq_true rfl, Nat.le_of_ble_eq_true rfl⟩ rfl rfl (Nat.le_of_ble_eq_true rfl) dX11_shift_229 (fun r10 M10 hw hM10 => ?_)
      exact p_iret (pc := 232) cx hr hlk dX11_shift_232 hM10 hw
    · have hw := hw.2 hc
      refine p_aload_n (pc := 207) cx dX11_shift_207 rfl 0 rfl ?_
      refine p_bipush (pc := 208) (v := 16) cx dX11_shift_208 (by decide) ?_
      refine p_iconst (pc := 210) (v := 1) cx dX11_shift_210 (by decide) ?_
      refine p_callVv (pc := 211) [.int (16 : Int32), .int (1 : Int32)] cx (c_X11_small cx.2.2.2.2.2.2 hT hv0 hw) cf_X11_small cv_X11_small t4_228 hv0 ⟨by decide, rfl, rfl⟩ ⟨rfl, rfl⟩ ⟨Nat.le_of_ble_eq_true rfl, Nat.le_of_ble_eq_true rfl⟩ rfl rfl (Nat.le_of_ble_eq_true rfl) dX11_shift_211 (fun M11 hw hM11 => ?_)
      refine p_aload_n (pc := 214) cx dX11_shift_214 rfl 0 rfl ?_
      refine p_bipush (pc := 215) (v := 19) cx dX11_shift_215 (by decide) ?_
      refine p_bipush (pc := 217) (v := 19) cx dX11_shift_217 (by decide) ?_
      refine p_bipush (pc := 219) (v := 16) cx dX11_shift_219 (by decide) ?_
      refine p_iconst (pc := 221) (v := (-1)) cx dX11_shift_221 (by decide) ?_
      refine p_callVv (pc := 222) [.int (19 : Int32), .int (19 : Int32), .int (16 : Int32), .int ((-1) : Int32)] cx (c_X11_sum cx.2.2.2.2.2.2 hM11 hv0 hw) cf_X11_sum cv_X11_sum t5_0 hv0 ⟨by decide, rfl, rfl⟩ ⟨rfl, rfl⟩ ⟨Nat.le_of_ble_eq_true rfl, Nat.le_of_ble_eq_true rfl⟩ rfl rfl (Nat.le_of_ble_eq_true rfl) dX11_shift_222 (fun M12 hw hM12 => ?_)
      refine p_aload_n (pc := 225) cx dX11_shift_225 rfl 0 rfl ?_
      refine p_iload_n (pc := 226) cx dX11_shift_226 rfl 1 rfl ?_
      refine p_bipush (pc := 227) (v := 19) cx dX11_shift_227 (by decide) ?_
      refine p_callVi (pc := 229) [.int v1, .int (19 : Int32)] cx (c_X11_put cx.2.2.2.2.2.2 hM12 hv0 hw) cf_X11_put cv_X11_put t4_212 hv0 ⟨by decide, rfl, rfl⟩ ⟨rfl, rfl⟩ ⟨Nat.le_of_ble_eq_true rfl, Nat.le_of_ble_eq_true rfl⟩ rfl rfl (Nat.le_of_ble_eq_true rfl) dX11_shift_229 (fun r13 M13 hw hM13 => ?_)
      exact p_iret (pc := 232) cx hr hlk dX11_shift_232 hM13 hw
set_option maxHeartbeats 4000000 in
set_option maxRecDepth 100000 in
theorem x_X11_shift_138 {p : Program} {l : Launch} {e : Env} {s : State} {m : MethodId} {args : Array Value} {below : List Frame} {meth : Method} {c : Code} {D : va_G} {G : SH} {Qp : Int32 → MS → Prop}  (cx : CX p s m args c D G cX11_shift 9 RX11) (hr : meth.sig.returnType = (some .int)) (hlk : meth.locks = false)  : ∀ (n : Nat) (v0 : Nat) (v1 : Int32) (v2 : Int32) (v3 : Int32) (v4 : Int32) (v5 : Int32) (v6 : Int32) (v7 : Int32) (v8 : Int32) (M : MS), TYR G M.2.2.1 → Is G 10 v0 → w_X11_shift_138 G Qp n v0 v1 v2 v3 v4 v5 v6 v7 v8 M → PW p l e rm_X11_shift s m args below meth c D G 9 (MQ below (va_Qi Qp (POST D G) (AG G)) args s 0 0 (AG G)) 138 [(0, .ref v0), (1, .int v1), (2, .int v2), (3, .int v3), (4, .int v4), (5, .int v5), (6, .int v6), (7, .int v7), (8, .int v8)] [] M := by
  intro n
  induction n with
  | zero =>
    intro v0 v1 v2 v3 v4 v5 v6 v7 v8 M hT hv0 hw
    exact hw.elim
  | succ n ih =>
    intro v0 v1 v2 v3 v4 v5 v6 v7 v8 M hT hv0 hw
    rw [w_X11_shift_138] at hw
    refine p_iload (pc := 138) cx dX11_shift_138 8 rfl ?_
    refine p_iload (pc := 140) cx dX11_shift_140 7 rfl ?_
    refine p_icmp_ge (pc := 142) (tgt := 173) cx dX11_shift_142 (by decide) (fun hc => ?_) (fun hc => ?_)
    · have hw := hw.1 hc
      refine p_iload (pc := 173) cx dX11_shift_173 5 rfl ?_
      refine p_if_eq (pc := 175) (tgt := 188) cx dX11_shift_175 (by decide) (fun hc => ?_) (fun hc => ?_)
      · have hw := hw.1 hc
        refine p_aload_n (pc := 188) cx dX11_shift_188 rfl 0 rfl ?_
        refine p_bipush (pc := 189) (v := 19) cx dX11_shift_189 (by decide) ?_
        refine p_iload_n (pc := 191) cx dX11_shift_191 rfl 2 rfl ?_
        refine p_iload_n (pc := 192) cx dX11_shift_192 rfl 3 rfl ?_
        refine p_ineg (pc := 193) cx dX11_shift_193 ?_
        refine p_callVv (pc := 194) [.int (19 : Int32), .int v2, .int (-v3)] cx (c_X11_halved cx.2.2.2.2.2.2 hT hv0 hw) cf_X11_halved cv_X11_halved t5_67 hv0 ⟨by decide, rfl, rfl⟩ ⟨rfl, rfl⟩ ⟨Nat.le_of_ble_eq_true rfl, Nat.le_of_ble_eq_true rfl⟩ rfl rfl (Nat.le_of_ble_eq_true rfl) dX11_shift_194 (fun M8 hw hM8 => ?_)
        refine p_perm (lv' := [(0, .ref v0), (1, .int v1), (4, .int v4), (6, .int v6)]) [0, 1, 4, 6] rfl ?_
        exact x_X11_shift_197 cx hr hlk v0 v1 v4 v6 M8 hM8 hv0 hw
      · have hw := hw.2 hc
        refine p_aload_n (pc := 178) cx dX11_shift_178 rfl 0 rfl ?_
        refine p_bipush (pc := 179) (v := 19) cx dX11_shift_179 (by decide) ?_
        refine p_iconst (pc := 181) (v := 0) cx dX11_shift_181 (by decide) ?_
        refine p_callVv (pc := 182) [.int (19 : Int32), .int (0 : Int32)] cx (c_X11_small cx.2.2.2.2.2.2 hT hv0 hw) cf_X11_small cv_X11_small t4_228 hv0 ⟨by decide, rfl, rfl⟩ ⟨rfl, rfl⟩ ⟨Nat.le_of_ble_eq_true rfl, Nat.le_of_ble_eq_true rfl⟩ rfl rfl (Nat.le_of_ble_eq_true rfl) dX11_shift_182 (fun M14 hw hM14 => ?_)
        refine p_goto (pc := 185) (tgt := 197) cx dX11_shift_185 (by decide) ?_
        refine p_perm (lv' := [(0, .ref v0), (1, .int v1), (4, .int v4), (6, .int v6)]) [0, 1, 4, 6] rfl ?_
        exact x_X11_shift_197 cx hr hlk v0 v1 v4 v6 M14 hM14 hv0 hw
    · have hw := hw.2 hc
      refine p_iload (pc := 145) cx dX11_shift_145 6 rfl ?_
      refine p_if_ne (pc := 147) (tgt := 160) cx dX11_shift_147 (by decide) (fun hc => ?_) (fun hc => ?_)
      · have hw := hw.1 hc
        refine p_iconst (pc := 160) (v := 1) cx dX11_shift_160 (by decide) ?_
        refine p_goto (pc := 161) (tgt := 165) cx dX11_shift_161 (by decide) ?_
        refine p_istore (pc := 165) (lv' := [(0, .ref v0), (1, .int v1), (2, .int v2), (3, .int v3), (4, .int v4), (5, .int v5), (6, .int (1 : Int32)), (7, .int v7), (8, .int v8)]) cx dX11_shift_165 (by decide) [1, 2, 3, 4, 5, 6, 0, 7, 8] rfl ?_
        obtain ⟨x8_15, ex8_15⟩ : ∃ y : Int32, y = v8 + 1 := ⟨_, rfl⟩
        have hw := hw x8_15 ex8_15
        refine p_iinc (pc := 167) (v := x8_15) (lv' := [(0, .ref v0), (1, .int v1), (2, .int v2), (3, .int v3), (4, .int v4), (5, .int v5), (6, .int (1 : Int32)), (7, .int v7), (8, .int x8_15)]) cx dX11_shift_167 8 rfl (by rw [ex8_15]; rfl) (by decide) [1, 2, 3, 4, 5, 6, 7, 8, 0] rfl ?_
        refine p_goto (pc := 170) (tgt := 138) cx dX11_shift_170 (by decide) ?_
        exact ih v0 v1 v2 v3 v4 v5 1 v7 x8_15 M hT hv0 hw
      · have hw := hw.2 hc
        refine p_aload_n (pc := 150) cx dX11_shift_150 rfl 0 rfl ?_
        refine p_iload_n (pc := 151) cx dX11_shift_151 rfl 2 rfl ?_
        refine p_iload (pc := 152) cx dX11_shift_152 8 rfl ?_
        refine p_callVi (pc := 154) [.int v2, .int v8] cx (c_X11_bit cx.2.2.2.2.2.2 hT hv0 hw) cf_X11_bit cv_X11_bit t5_63 hv0 ⟨by decide, rfl, rfl⟩ ⟨rfl, rfl⟩ ⟨Nat.le_of_ble_eq_true rfl, Nat.le_of_ble_eq_true rfl⟩ rfl rfl (Nat.le_of_ble_eq_true rfl) dX11_shift_154 (fun r16 M16 hw hM16 => ?_)
        refine p_if_eq (pc := 157) (tgt := 164) cx dX11_shift_157 (by decide) (fun hc => ?_) (fun hc => ?_)
        · have hw := hw.1 hc
          refine p_iconst (pc := 164) (v := 0) cx dX11_shift_164 (by decide) ?_
          refine p_istore (pc := 165) (lv' := [(0, .ref v0), (1, .int v1), (2, .int v2), (3, .int v3), (4, .int v4), (5, .int v5), (6, .int (0 : Int32)), (7, .int v7), (8, .int v8)]) cx dX11_shift_165 (by decide) [1, 2, 3, 4, 5, 6, 0, 7, 8] rfl ?_
          obtain ⟨x8_17, ex8_17⟩ : ∃ y : Int32, y = v8 + 1 := ⟨_, rfl⟩
          have hw := hw x8_17 ex8_17
          refine p_iinc (pc := 167) (v := x8_17) (lv' := [(0, .ref v0), (1, .int v1), (2, .int v2), (3, .int v3), (4, .int v4), (5, .int v5), (6, .int (0 : Int32)), (7, .int v7), (8, .int x8_17)]) cx dX11_shift_167 8 rfl (by rw [ex8_17]; rfl) (by decide) [1, 2, 3, 4, 5, 6, 7, 8, 0] rfl ?_
          refine p_goto (pc := 170) (tgt := 138) cx dX11_shift_170 (by decide) ?_
          exact ih v0 v1 v2 v3 v4 v5 0 v7 x8_17 M16 hM16 hv0 hw
        · have hw := hw.2 hc
          refine p_iconst (pc := 160) (v := 1) cx dX11_shift_160 (by decide) ?_
          refine p_goto (pc := 161) (tgt := 165) cx dX11_shift_161 (by decide) ?_
          refine p_istore (pc := 165) (lv' := [(0, .ref v0), (1, .int v1), (2, .int v2), (3, .int v3), (4, .int v4), (5, .int v5), (6, .int (1 : Int32)), (7, .int v7), (8, .int v8)]) cx dX11_shift_165 (by decide) [1, 2, 3, 4, 5, 6, 0, 7, 8] rfl ?_
          obtain ⟨x8_18, ex8_18⟩ : ∃ y : Int32, y = v8 + 1 := ⟨_, rfl⟩
          have hw := hw x8_18 ex8_18
          refine p_iinc (pc := 167) (v := x8_18) (lv' := [(0, .ref v0), (1, .int v1), (2, .int v2), (3, .int v3), (4, .int v4), (5, .int v5), (6, .int (1 : Int32)), (7, .int v7), (8, .int x8_18)]) cx dX11_shift_167 8 rfl (by rw [ex8_18]; rfl) (by decide) [1, 2, 3, 4, 5, 6, 7, 8, 0] rfl ?_
          refine p_goto (pc := 170) (tgt := 138) cx dX11_shift_170 (by decide) ?_
          exact ih v0 v1 v2 v3 v4 v5 1 v7 x8_18 M16 hM16 hv0 hw
set_option maxHeartbeats 4000000 in
set_option maxRecDepth 100000 in
theorem x_X11_shift_113 {p : Program} {l : Launch} {e : Env} {s : State} {m : MethodId} {args : Array Value} {below : List Frame} {meth : Method} {c : Code} {D : va_G} {G : SH} {Qp : Int32 → MS → Prop}  (cx : CX p s m args c D G cX11_shift 9 RX11) (hr : meth.sig.returnType = (some .int)) (hlk : meth.locks = false)  (v0 : Nat) (v1 : Int32) (v2 : Int32) (v3 : Int32) (v4 : Int32) (s0 : Int32) (M : MS) (hT : TYR G M.2.2.1) (hv0 : Is G 10 v0) (hw : w_X11_shift_113 G Qp v0 v1 v2 v3 v4 s0 M) : PW p l e rm_X11_shift s m args below meth c D G 9 (MQ below (va_Qi Qp (POST D G) (AG G)) args s 0 0 (AG G)) 113 [(0, .ref v0), (1, .int v1), (2, .int v2), (3, .int v3), (4, .int v4)] [.int s0] M := by
  unfold w_X11_shift_113 at hw
  refine p_istore (pc := 113) (lv' := [(0, .ref v0), (1, .int v1), (2, .int v2), (3, .int v3), (4, .int v4), (5, .int s0)]) cx dX11_shift_113 (by decide) [1, 2, 3, 4, 5, 0] rfl ?_
  refine p_iconst (pc := 115) (v := 0) cx dX11_shift_115 (by decide) ?_
  refine p_istore (pc := 116) (lv' := [(0, .ref v0), (1, .int v1), (2, .int v2), (3, .int v3), (4, .int v4), (5, .int s0), (6, .int (0 : Int32))]) cx dX11_shift_116 (by decide) [1, 2, 3, 4, 5, 6, 0] rfl ?_
  refine p_iload (pc := 118) cx dX11_shift_118 5 rfl ?_
  refine p_if_eq (pc := 120) (tgt := 131) cx dX11_shift_120 (by decide) (fun hc => ?_) (fun hc => ?_)
  · have hw := hw.1 hc
    refine p_iload_n (pc := 131) cx dX11_shift_131 rfl 3 rfl ?_
    refine p_ineg (pc := 132) cx dX11_shift_132 ?_
    refine p_topi (fun x7_7 ex7_7 => ?_)
    have hw := hw x7_7 ex7_7
    refine p_istore (pc := 133) (lv' := [(0, .ref v0), (1, .int v1), (2, .int v2), (3, .int v3), (4, .int v4), (5, .int s0), (6, .int (0 : Int32)), (7, .int x7_7)]) cx dX11_shift_133 (by decide) [1, 2, 3, 4, 5, 6, 7, 0] rfl ?_
    refine p_iconst (pc := 135) (v := 0) cx dX11_shift_135 (by decide) ?_
    refine p_istore (pc := 136) (lv' := [(0, .ref v0), (1, .int v1), (2, .int v2), (3, .int v3), (4, .int v4), (5, .int s0), (6, .int (0 : Int32)), (7, .int x7_7), (8, .int (0 : Int32))]) cx dX11_shift_136 (by decide) [1, 2, 3, 4, 5, 6, 7, 8, 0] rfl ?_
    obtain ⟨n1, hw⟩ := hw
    exact x_X11_shift_138 cx hr hlk n1 v0 v1 v2 v3 v4 s0 0 x7_7 0 M hT hv0 hw
  · have hw := hw.2 hc
    refine p_aload_n (pc := 123) cx dX11_shift_123 rfl 0 rfl ?_
    refine p_iload_n (pc := 124) cx dX11_shift_124 rfl 2 rfl ?_
    refine p_callVi (pc := 125) [.int v2] cx (c_X11_bits cx.2.2.2.2.2.2 hT hv0 hw) cf_X11_bits cv_X11_bits t5_53 hv0 ⟨by decide, rfl, rfl⟩ ⟨rfl, rfl⟩ ⟨Nat.le_of_ble_eq_true rfl, Nat.le_of_ble_eq_true rfl⟩ rfl rfl (Nat.le_of_ble_eq_true rfl) dX11_shift_125 (fun r19 M19 hw hM19 => ?_)
    refine p_goto (pc := 128) (tgt := 133) cx dX11_shift_128 (by decide) ?_
    refine p_istore (pc := 133) (lv' := [(0, .ref v0), (1, .int v1), (2, .int v2), (3, .int v3), (4, .int v4), (5, .int s0), (6, .int (0 : Int32)), (7, .int r19)]) cx dX11_shift_133 (by decide) [1, 2, 3, 4, 5, 6, 7, 0] rfl ?_
    refine p_iconst (pc := 135) (v := 0) cx dX11_shift_135 (by decide) ?_
    refine p_istore (pc := 136) (lv' := [(0, .ref v0), (1, .int v1), (2, .int v2), (3, .int v3), (4, .int v4), (5, .int s0), (6, .int (0 : Int32)), (7, .int r19), (8, .int (0 : Int32))]) cx dX11_shift_136 (by decide) [1, 2, 3, 4, 5, 6, 7, 8, 0] rfl ?_
    obtain ⟨n1, hw⟩ := hw
    exact x_X11_shift_138 cx hr hlk n1 v0 v1 v2 v3 v4 s0 0 r19 0 M19 hM19 hv0 hw
set_option maxHeartbeats 4000000 in
set_option maxRecDepth 100000 in
theorem x_X11_shift_108 {p : Program} {l : Launch} {e : Env} {s : State} {m : MethodId} {args : Array Value} {below : List Frame} {meth : Method} {c : Code} {D : va_G} {G : SH} {Qp : Int32 → MS → Prop}  (cx : CX p s m args c D G cX11_shift 9 RX11) (hr : meth.sig.returnType = (some .int)) (hlk : meth.locks = false)  (v0 : Nat) (v1 : Int32) (v2 : Int32) (v3 : Int32) (v4 : Int32) (M : MS) (hT : TYR G M.2.2.1) (hv0 : Is G 10 v0) (hw : w_X11_shift_108 G Qp v0 v1 v2 v3 v4 M) : PW p l e rm_X11_shift s m args below meth c D G 9 (MQ below (va_Qi Qp (POST D G) (AG G)) args s 0 0 (AG G)) 108 [(0, .ref v0), (1, .int v1), (2, .int v2), (3, .int v3), (4, .int v4)] [] M := by
  unfold w_X11_shift_108 at hw
  refine p_iconst (pc := 108) (v := 1) cx dX11_shift_108 (by decide) ?_
  refine p_goto (pc := 109) (tgt := 113) cx dX11_shift_109 (by decide) ?_
  exact x_X11_shift_113 cx hr hlk v0 v1 v2 v3 v4 1 M hT hv0 hw
set_option maxHeartbeats 4000000 in
set_option maxRecDepth 100000 in
theorem c_X11_shift {l : Launch} {D : va_G} {G : SH} (hND : ND G) {a0 : Nat} {a1 : Int32} {a2 : Int32} {a3 : Int32} {M : MS} {Qp : Int32 → MS → Prop} (hT : TYR G M.2.2.1) (ha0 : Is G 10 a0) (hw : w_X11_shift G a0 a1 a2 a3 M Qp) : MeI l D G yX11_shift (Cond.code yX11_shift cX11_shift 9 (some .int) :: GW) rm_X11_shift [.ref a0, .int a1, .int a2, .int a3] M Qp := by
  unfold MeI
  refine p_method (by decide) rfl (Nat.le_of_ble_eq_true rfl) hND ?_
  intro p e s m args below meth c cx hr hlk
  have cx : CX p s m args c D G cX11_shift 9 RX11 := cx
  unfold w_X11_shift at hw
  refine p_aload_n (pc := 0) cx dX11_shift_0 rfl 0 rfl ?_
  refine p_iconst (pc := 1) (v := 0) cx dX11_shift_1 (by decide) ?_
  refine pf_10_5 (pc := 2) cx ha0 t4_166 dX11_shift_2 ?_
  refine p_mem (fun M1 eM1 => ?_)
  have hw := hw M1 eM1
  have hM1 : TYR G M1.2.2.1 := by rw [eM1]; exact hT
  refine p_aload_n (pc := 5) cx dX11_shift_5 rfl 0 rfl ?_
  refine p_iload_n (pc := 6) cx dX11_shift_6 rfl 1 rfl ?_
  refine p_callVi (pc := 7) [.int a1] cx (c_X11_no cx.2.2.2.2.2.2 hM1 ha0 hw) cf_X11_no cv_X11_no t4_203 ha0 ⟨by decide, rfl, rfl⟩ ⟨rfl, rfl⟩ ⟨Nat.le_of_ble_eq_true rfl, Nat.le_of_ble_eq_true rfl⟩ rfl rfl (Nat.le_of_ble_eq_true rfl) dX11_shift_7 (fun r2 M2 hw hM2 => ?_)
  refine p_if_ne (pc := 10) (tgt := 21) cx dX11_shift_10 (by decide) (fun hc => ?_) (fun hc => ?_)
  · have hw := hw.1 hc
    refine p_iconst (pc := 21) (v := 3) cx dX11_shift_21 (by decide) ?_
    exact p_iret (pc := 22) cx hr hlk dX11_shift_22 hM2 hw
  · have hw := hw.2 hc
    refine p_aload_n (pc := 13) cx dX11_shift_13 rfl 0 rfl ?_
    refine p_iload_n (pc := 14) cx dX11_shift_14 rfl 2 rfl ?_
    refine p_callVi (pc := 15) [.int a2] cx (c_X11_no cx.2.2.2.2.2.2 hM2 ha0 hw) cf_X11_no cv_X11_no t4_203 ha0 ⟨by decide, rfl, rfl⟩ ⟨rfl, rfl⟩ ⟨Nat.le_of_ble_eq_true rfl, Nat.le_of_ble_eq_true rfl⟩ rfl rfl (Nat.le_of_ble_eq_true rfl) dX11_shift_15 (fun r3 M3 hw hM3 => ?_)
    refine p_if_eq (pc := 18) (tgt := 23) cx dX11_shift_18 (by decide) (fun hc => ?_) (fun hc => ?_)
    · have hw := hw.1 hc
      refine p_aload_n (pc := 23) cx dX11_shift_23 rfl 0 rfl ?_
      refine gf_10_2 (pc := 24) cx ha0 t4_163 dX11_shift_24 ?_
      have hr_4 : Is G 12 (mR M3 a0 2) := TYR.at hM3 ha0 2 12 rfl (by decide)
      refine p_iload_n (pc := 27) cx dX11_shift_27 rfl 2 rfl ?_
      refine p_iald (pc := 28) cx hr_4 hw.1 dX11_shift_28 ?_
      have hw := hw.2
      refine p_if_ne (pc := 29) (tgt := 40) cx dX11_shift_29 (by decide) (fun hc => ?_) (fun hc => ?_)
      · have hw := hw.1 hc
        refine p_iload_n (pc := 40) cx dX11_shift_40 rfl 3 rfl ?_
        refine p_if_lt (pc := 41) (tgt := 84) cx dX11_shift_41 (by decide) (fun hc => ?_) (fun hc => ?_)
        · have hw := hw.1 hc
          refine p_aload_n (pc := 84) cx dX11_shift_84 rfl 0 rfl ?_
          refine gf_10_2 (pc := 85) cx ha0 t4_163 dX11_shift_85 ?_
          have hr_5 : Is G 12 (mR M3 a0 2) := TYR.at hM3 ha0 2 12 rfl (by decide)
          refine p_iload_n (pc := 88) cx dX11_shift_88 rfl 2 rfl ?_
          refine p_iald (pc := 89) cx hr_5 hw.1 dX11_shift_89 ?_
          have hw := hw.2
          refine p_topi (fun x4_6 ex4_6 => ?_)
          have hw := hw x4_6 ex4_6
          refine p_istore (pc := 90) (lv' := [(0, .ref a0), (1, .int a1), (2, .int a2), (3, .int a3), (4, .int x4_6)]) cx dX11_shift_90 (by decide) [1, 2, 3, 4, 0] rfl ?_
          refine p_iload_n (pc := 92) cx dX11_shift_92 rfl 3 rfl ?_
          refine p_ldc (pc := 93) cx dX11_shift_93 t5_62 ?_
          refine p_icmp_eq (pc := 95) (tgt := 108) cx dX11_shift_95 (by decide) (fun hc => ?_) (fun hc => ?_)
          · have hw := hw.1 hc
            exact x_X11_shift_108 cx hr hlk a0 a1 a2 a3 x4_6 M3 hM3 ha0 hw
          · have hw := hw.2 hc
            refine p_iload_n (pc := 98) cx dX11_shift_98 rfl 3 rfl ?_
            refine p_ineg (pc := 99) cx dX11_shift_99 ?_
            refine p_aload_n (pc := 100) cx dX11_shift_100 rfl 0 rfl ?_
            refine p_iload_n (pc := 101) cx dX11_shift_101 rfl 2 rfl ?_
            refine p_callVi (pc := 102) [.int a2] cx (c_X11_bits cx.2.2.2.2.2.2 hM3 ha0 hw) cf_X11_bits cv_X11_bits t5_53 ha0 ⟨by decide, rfl, rfl⟩ ⟨rfl, rfl⟩ ⟨Nat.le_of_ble_eq_true rfl, Nat.le_of_ble_eq_true rfl⟩ rfl rfl (Nat.le_of_ble_eq_true rfl) dX11_shift_102 (fun r20 M20 hw hM20 => ?_)
            refine p_icmp_lt (pc := 105) (tgt := 112) cx dX11_shift_105 (by decide) (fun hc => ?_) (fun hc => ?_)
            · have hw := hw.1 hc
              refine p_iconst (pc := 112) (v := 0) cx dX11_shift_112 (by decide) ?_
              exact x_X11_shift_113 cx hr hlk a0 a1 a2 a3 x4_6 0 M20 hM20 ha0 hw
            · have hw := hw.2 hc
              exact x_X11_shift_108 cx hr hlk a0 a1 a2 a3 x4_6 M20 hM20 ha0 hw
        · have hw := hw.2 hc
          refine p_aload_n (pc := 44) cx dX11_shift_44 rfl 0 rfl ?_
          refine p_iload_n (pc := 45) cx dX11_shift_45 rfl 2 rfl ?_
          refine p_callVi (pc := 46) [.int a2] cx (c_X11_bits cx.2.2.2.2.2.2 hM3 ha0 hw) cf_X11_bits cv_X11_bits t5_53 ha0 ⟨by decide, rfl, rfl⟩ ⟨rfl, rfl⟩ ⟨Nat.le_of_ble_eq_true rfl, Nat.le_of_ble_eq_true rfl⟩ rfl rfl (Nat.le_of_ble_eq_true rfl) dX11_shift_46 (fun r21 M21 hw hM21 => ?_)
          refine p_i2l (pc := 49) cx dX11_shift_49 ?_
          refine p_iload_n (pc := 50) cx dX11_shift_50 rfl 3 rfl ?_
          refine p_i2l (pc := 51) cx dX11_shift_51 ?_
          refine p_ladd (pc := 52) cx dX11_shift_52 ?_
          refine p_ldc2 (pc := 53) cx dX11_shift_53 t5_57 ?_
          refine p_aload_n (pc := 56) cx dX11_shift_56 rfl 0 rfl ?_
          refine gf_10_4 (pc := 57) cx ha0 t4_165 dX11_shift_57 ?_
          refine p_i2l (pc := 60) cx dX11_shift_60 ?_
          refine p_lmul (pc := 61) cx dX11_shift_61 ?_
          refine p_lcmp (pc := 62) cx dX11_shift_62 ?_
          refine p_if_le (pc := 63) (tgt := 68) cx dX11_shift_63 (by decide) (fun hc => ?_) (fun hc => ?_)
          · have hw := hw.1 ((lg_cmp_le _ _).mp hc)
            refine p_aload_n (pc := 68) cx dX11_shift_68 rfl 0 rfl ?_
            refine p_bipush (pc := 69) (v := 19) cx dX11_shift_69 (by decide) ?_
            refine p_iload_n (pc := 71) cx dX11_shift_71 rfl 2 rfl ?_
            refine p_iload_n (pc := 72) cx dX11_shift_72 rfl 3 rfl ?_
            refine p_callVv (pc := 73) [.int (19 : Int32), .int a2, .int a3] cx (c_X11_doubled cx.2.2.2.2.2.2 hM21 ha0 hw) cf_X11_doubled cv_X11_doubled t5_58 ha0 ⟨by decide, rfl, rfl⟩ ⟨rfl, rfl⟩ ⟨Nat.le_of_ble_eq_true rfl, Nat.le_of_ble_eq_true rfl⟩ rfl rfl (Nat.le_of_ble_eq_true rfl) dX11_shift_73 (fun M22 hw hM22 => ?_)
            refine p_aload_n (pc := 76) cx dX11_shift_76 rfl 0 rfl ?_
            refine p_iload_n (pc := 77) cx dX11_shift_77 rfl 1 rfl ?_
            refine p_bipush (pc := 78) (v := 19) cx dX11_shift_78 (by decide) ?_
            refine p_callVi (pc := 80) [.int a1, .int (19 : Int32)] cx (c_X11_put cx.2.2.2.2.2.2 hM22 ha0 hw) cf_X11_put cv_X11_put t4_212 ha0 ⟨by decide, rfl, rfl⟩ ⟨rfl, rfl⟩ ⟨Nat.le_of_ble_eq_true rfl, Nat.le_of_ble_eq_true rfl⟩ rfl rfl (Nat.le_of_ble_eq_true rfl) dX11_shift_80 (fun r23 M23 hw hM23 => ?_)
            exact p_iret (pc := 83) cx hr hlk dX11_shift_83 hM23 hw
          · have hw := hw.2 (fun q => hc ((lg_cmp_le _ _).mpr q))
            refine p_iconst (pc := 66) (v := 1) cx dX11_shift_66 (by decide) ?_
            exact p_iret (pc := 67) cx hr hlk dX11_shift_67 hM21 hw
      · have hw := hw.2 hc
        refine p_aload_n (pc := 32) cx dX11_shift_32 rfl 0 rfl ?_
        refine p_iload_n (pc := 33) cx dX11_shift_33 rfl 1 rfl ?_
        refine p_iconst (pc := 34) (v := 0) cx dX11_shift_34 (by decide) ?_
        refine p_callVv (pc := 35) [.int a1, .int (0 : Int32)] cx (c_X11_small cx.2.2.2.2.2.2 hM3 ha0 hw) cf_X11_small cv_X11_small t4_228 ha0 ⟨by decide, rfl, rfl⟩ ⟨rfl, rfl⟩ ⟨Nat.le_of_ble_eq_true rfl, Nat.le_of_ble_eq_true rfl⟩ rfl rfl (Nat.le_of_ble_eq_true rfl) dX11_shift_35 (fun M24 hw hM24 => ?_)
        refine p_iconst (pc := 38) (v := 0) cx dX11_shift_38 (by decide) ?_
        exact p_iret (pc := 39) cx hr hlk dX11_shift_39 hM24 hw
    · have hw := hw.2 hc
      refine p_iconst (pc := 21) (v := 3) cx dX11_shift_21 (by decide) ?_
      exact p_iret (pc := 22) cx hr hlk dX11_shift_22 hM3 hw
set_option maxHeartbeats 4000000 in
set_option maxRecDepth 100000 in
theorem c_X11_compare {l : Launch} {D : va_G} {G : SH} (hND : ND G) {a0 : Nat} {a1 : Int32} {a2 : Int32} {M : MS} {Qp : Int32 → MS → Prop} (hT : TYR G M.2.2.1) (ha0 : Is G 10 a0) (hw : w_X11_compare G a0 a1 a2 M Qp) : MeI l D G yX11_compare (Cond.code yX11_compare cX11_compare 3 (some .int) :: GW) rm_X11_compare [.ref a0, .int a1, .int a2] M Qp := by
  unfold MeI
  refine p_method (by decide) rfl (Nat.le_of_ble_eq_true rfl) hND ?_
  intro p e s m args below meth c cx hr hlk
  have cx : CX p s m args c D G cX11_compare 3 RX11 := cx
  unfold w_X11_compare at hw
  refine p_aload_n (pc := 0) cx dX11_compare_0 rfl 0 rfl ?_
  refine p_iconst (pc := 1) (v := 0) cx dX11_compare_1 (by decide) ?_
  refine pf_10_5 (pc := 2) cx ha0 t4_166 dX11_compare_2 ?_
  refine p_mem (fun M1 eM1 => ?_)
  have hw := hw M1 eM1
  have hM1 : TYR G M1.2.2.1 := by rw [eM1]; exact hT
  refine p_aload_n (pc := 5) cx dX11_compare_5 rfl 0 rfl ?_
  refine p_iload_n (pc := 6) cx dX11_compare_6 rfl 1 rfl ?_
  refine p_callVi (pc := 7) [.int a1] cx (c_X11_no cx.2.2.2.2.2.2 hM1 ha0 hw) cf_X11_no cv_X11_no t4_203 ha0 ⟨by decide, rfl, rfl⟩ ⟨rfl, rfl⟩ ⟨Nat.le_of_ble_eq_true rfl, Nat.le_of_ble_eq_true rfl⟩ rfl rfl (Nat.le_of_ble_eq_true rfl) dX11_compare_7 (fun r2 M2 hw hM2 => ?_)
  refine p_if_ne (pc := 10) (tgt := 21) cx dX11_compare_10 (by decide) (fun hc => ?_) (fun hc => ?_)
  · have hw := hw.1 hc
    refine p_iconst (pc := 21) (v := 3) cx dX11_compare_21 (by decide) ?_
    exact p_iret (pc := 22) cx hr hlk dX11_compare_22 hM2 hw
  · have hw := hw.2 hc
    refine p_aload_n (pc := 13) cx dX11_compare_13 rfl 0 rfl ?_
    refine p_iload_n (pc := 14) cx dX11_compare_14 rfl 2 rfl ?_
    refine p_callVi (pc := 15) [.int a2] cx (c_X11_no cx.2.2.2.2.2.2 hM2 ha0 hw) cf_X11_no cv_X11_no t4_203 ha0 ⟨by decide, rfl, rfl⟩ ⟨rfl, rfl⟩ ⟨Nat.le_of_ble_eq_true rfl, Nat.le_of_ble_eq_true rfl⟩ rfl rfl (Nat.le_of_ble_eq_true rfl) dX11_compare_15 (fun r3 M3 hw hM3 => ?_)
    refine p_if_eq (pc := 18) (tgt := 23) cx dX11_compare_18 (by decide) (fun hc => ?_) (fun hc => ?_)
    · have hw := hw.1 hc
      refine p_aload_n (pc := 23) cx dX11_compare_23 rfl 0 rfl ?_
      refine gf_10_2 (pc := 24) cx ha0 t4_163 dX11_compare_24 ?_
      have hr_4 : Is G 12 (mR M3 a0 2) := TYR.at hM3 ha0 2 12 rfl (by decide)
      refine p_iload_n (pc := 27) cx dX11_compare_27 rfl 1 rfl ?_
      refine p_iald (pc := 28) cx hr_4 hw.1 dX11_compare_28 ?_
      have hw := hw.2
      refine p_aload_n (pc := 29) cx dX11_compare_29 rfl 0 rfl ?_
      refine gf_10_2 (pc := 30) cx ha0 t4_163 dX11_compare_30 ?_
      have hr_5 : Is G 12 (mR M3 a0 2) := TYR.at hM3 ha0 2 12 rfl (by decide)
      refine p_iload_n (pc := 33) cx dX11_compare_33 rfl 2 rfl ?_
      refine p_iald (pc := 34) cx hr_5 hw.1 dX11_compare_34 ?_
      have hw := hw.2
      refine p_icmp_eq (pc := 35) (tgt := 59) cx dX11_compare_35 (by decide) (fun hc => ?_) (fun hc => ?_)
      · have hw := hw.1 hc
        refine p_aload_n (pc := 59) cx dX11_compare_59 rfl 0 rfl ?_
        refine gf_10_2 (pc := 60) cx ha0 t4_163 dX11_compare_60 ?_
        have hr_6 : Is G 12 (mR M3 a0 2) := TYR.at hM3 ha0 2 12 rfl (by decide)
        refine p_iload_n (pc := 63) cx dX11_compare_63 rfl 1 rfl ?_
        refine p_iald (pc := 64) cx hr_6 hw.1 dX11_compare_64 ?_
        have hw := hw.2
        refine p_aload_n (pc := 65) cx dX11_compare_65 rfl 0 rfl ?_
        refine p_iload_n (pc := 66) cx dX11_compare_66 rfl 1 rfl ?_
        refine p_iload_n (pc := 67) cx dX11_compare_67 rfl 2 rfl ?_
        refine p_callVi (pc := 68) [.int a1, .int a2] cx (c_X11_sizes cx.2.2.2.2.2.2 hM3 ha0 hw) cf_X11_sizes cv_X11_sizes t5_12 ha0 ⟨by decide, rfl, rfl⟩ ⟨rfl, rfl⟩ ⟨Nat.le_of_ble_eq_true rfl, Nat.le_of_ble_eq_true rfl⟩ rfl rfl (Nat.le_of_ble_eq_true rfl) dX11_compare_68 (fun r7 M7 hw hM7 => ?_)
        refine p_imul (pc := 71) cx dX11_compare_71 ?_
        exact p_iret (pc := 72) cx hr hlk dX11_compare_72 hM7 hw
      · have hw := hw.2 hc
        refine p_aload_n (pc := 38) cx dX11_compare_38 rfl 0 rfl ?_
        refine gf_10_2 (pc := 39) cx ha0 t4_163 dX11_compare_39 ?_
        have hr_8 : Is G 12 (mR M3 a0 2) := TYR.at hM3 ha0 2 12 rfl (by decide)
        refine p_iload_n (pc := 42) cx dX11_compare_42 rfl 1 rfl ?_
        refine p_iald (pc := 43) cx hr_8 hw.1 dX11_compare_43 ?_
        have hw := hw.2
        refine p_aload_n (pc := 44) cx dX11_compare_44 rfl 0 rfl ?_
        refine gf_10_2 (pc := 45) cx ha0 t4_163 dX11_compare_45 ?_
        have hr_9 : Is G 12 (mR M3 a0 2) := TYR.at hM3 ha0 2 12 rfl (by decide)
        refine p_iload_n (pc := 48) cx dX11_compare_48 rfl 2 rfl ?_
        refine p_iald (pc := 49) cx hr_9 hw.1 dX11_compare_49 ?_
        have hw := hw.2
        refine p_icmp_le (pc := 50) (tgt := 57) cx dX11_compare_50 (by decide) (fun hc => ?_) (fun hc => ?_)
        · have hw := hw.1 hc
          refine p_iconst (pc := 57) (v := (-1)) cx dX11_compare_57 (by decide) ?_
          exact p_iret (pc := 58) cx hr hlk dX11_compare_58 hM3 hw
        · have hw := hw.2 hc
          refine p_iconst (pc := 53) (v := 1) cx dX11_compare_53 (by decide) ?_
          refine p_goto (pc := 54) (tgt := 58) cx dX11_compare_54 (by decide) ?_
          exact p_iret (pc := 58) cx hr hlk dX11_compare_58 hM3 hw
    · have hw := hw.2 hc
      refine p_iconst (pc := 21) (v := 3) cx dX11_compare_21 (by decide) ?_
      exact p_iret (pc := 22) cx hr hlk dX11_compare_22 hM3 hw
set_option maxHeartbeats 4000000 in
set_option maxRecDepth 100000 in
theorem c_X11_sized {l : Launch} {D : va_G} {G : SH} (hND : ND G) {a0 : Nat} {a1 : Int32} {a2 : Int32} {M : MS} {Qp : MS → Prop} (hT : TYR G M.2.2.1) (ha0 : Is G 10 a0) (hw : w_X11_sized G a0 a1 a2 M Qp) : MeV l D G yX11_sized (Cond.code yX11_sized cX11_sized 3 none :: GW) rm_X11_sized [.ref a0, .int a1, .int a2] M Qp := by
  unfold MeV
  refine p_method (by decide) rfl (Nat.le_of_ble_eq_true rfl) hND ?_
  intro p e s m args below meth c cx hr hlk
  have cx : CX p s m args c D G cX11_sized 3 RX11 := cx
  unfold w_X11_sized at hw
  refine p_aload_n (pc := 0) cx dX11_sized_0 rfl 0 rfl ?_
  refine p_iload_n (pc := 1) cx dX11_sized_1 rfl 1 rfl ?_
  refine p_iload_n (pc := 2) cx dX11_sized_2 rfl 2 rfl ?_
  refine p_callVv (pc := 3) [.int a1, .int a2] cx (c_X11_copy cx.2.2.2.2.2.2 hT ha0 hw) cf_X11_copy cv_X11_copy t4_220 ha0 ⟨by decide, rfl, rfl⟩ ⟨rfl, rfl⟩ ⟨Nat.le_of_ble_eq_true rfl, Nat.le_of_ble_eq_true rfl⟩ rfl rfl (Nat.le_of_ble_eq_true rfl) dX11_sized_3 (fun M1 hw hM1 => ?_)
  refine p_aload_n (pc := 6) cx dX11_sized_6 rfl 0 rfl ?_
  refine gf_10_2 (pc := 7) cx ha0 t4_163 dX11_sized_7 ?_
  have hr_2 : Is G 12 (mR M1 a0 2) := TYR.at hM1 ha0 2 12 rfl (by decide)
  refine p_iload_n (pc := 10) cx dX11_sized_10 rfl 1 rfl ?_
  refine p_aload_n (pc := 11) cx dX11_sized_11 rfl 0 rfl ?_
  refine gf_10_1 (pc := 12) cx ha0 t4_162 dX11_sized_12 ?_
  have hr_3 : Is G 12 (mR M1 a0 1) := TYR.at hM1 ha0 1 12 rfl (by decide)
  refine p_iload_n (pc := 15) cx dX11_sized_15 rfl 1 rfl ?_
  refine p_iald (pc := 16) cx hr_3 hw.1 dX11_sized_16 ?_
  have hw := hw.2
  refine p_if_ne (pc := 17) (tgt := 24) cx dX11_sized_17 (by decide) (fun hc => ?_) (fun hc => ?_)
  · have hw := hw.1 hc
    refine p_iconst (pc := 24) (v := 1) cx dX11_sized_24 (by decide) ?_
    refine p_iast (pc := 25) cx hr_2 hw.1 dX11_sized_25 ?_
    have hw := hw.2
    refine p_mem (fun M4 eM4 => ?_)
    have hw := hw M4 eM4
    have hM4 : TYR G M4.2.2.1 := by rw [eM4]; exact hM1
    exact p_vret (pc := 26) cx hr hlk dX11_sized_26 hM4 hw
  · have hw := hw.2 hc
    refine p_iconst (pc := 20) (v := 0) cx dX11_sized_20 (by decide) ?_
    refine p_goto (pc := 21) (tgt := 25) cx dX11_sized_21 (by decide) ?_
    refine p_iast (pc := 25) cx hr_2 hw.1 dX11_sized_25 ?_
    have hw := hw.2
    refine p_mem (fun M5 eM5 => ?_)
    have hw := hw M5 eM5
    have hM5 : TYR G M5.2.2.1 := by rw [eM5]; exact hM1
    exact p_vret (pc := 26) cx hr hlk dX11_sized_26 hM5 hw
set_option maxHeartbeats 4000000 in
set_option maxRecDepth 100000 in
theorem x_X11_divisor_0 {p : Program} {l : Launch} {e : Env} {s : State} {m : MethodId} {args : Array Value} {below : List Frame} {meth : Method} {c : Code} {D : va_G} {G : SH} {Qp : MS → Prop}  (cx : CX p s m args c D G cX11_divisor 1 RX11) (hr : meth.sig.returnType = none) (hlk : meth.locks = false)  : ∀ (n : Nat) (v0 : Nat) (M : MS), TYR G M.2.2.1 → Is G 10 v0 → w_X11_divisor_0 G Qp n v0 M → PW p l e rm_X11_divisor s m args below meth c D G 1 (MQ below (va_Qv Qp (POST D G) (AG G)) args s 0 0 (AG G)) 0 [(0, .ref v0)] [] M := by
  intro n
  induction n with
  | zero =>
    intro v0 M hT hv0 hw
    exact hw.elim
  | succ n ih =>
    intro v0 M hT hv0 hw
    rw [w_X11_divisor_0] at hw
    refine p_aload_n (pc := 0) cx dX11_divisor_0 rfl 0 rfl ?_
    refine gf_10_1 (pc := 1) cx hv0 t4_162 dX11_divisor_1 ?_
    have hr_1 : Is G 12 (mR M v0 1) := TYR.at hT hv0 1 12 rfl (by decide)
    refine p_bipush (pc := 4) (v := 21) cx dX11_divisor_4 (by decide) ?_
    refine p_iald (pc := 6) cx hr_1 hw.1 dX11_divisor_6 ?_
    have hw := hw.2
    refine p_if_le (pc := 7) (tgt := 41) cx dX11_divisor_7 (by decide) (fun hc => ?_) (fun hc => ?_)
    · have hw := hw.1 hc
      exact p_vret (pc := 41) cx hr hlk dX11_divisor_41 hT hw
    · have hw := hw.2 hc
      refine p_aload_n (pc := 10) cx dX11_divisor_10 rfl 0 rfl ?_
      refine p_bipush (pc := 11) (v := 17) cx dX11_divisor_11 (by decide) ?_
      refine p_bipush (pc := 13) (v := 18) cx dX11_divisor_13 (by decide) ?_
      refine p_bipush (pc := 15) (v := 20) cx dX11_divisor_15 (by decide) ?_
      refine p_bipush (pc := 17) (v := 21) cx dX11_divisor_17 (by decide) ?_
      refine p_callVv (pc := 19) [.int (17 : Int32), .int (18 : Int32), .int (20 : Int32), .int (21 : Int32)] cx (c_X11_quotient cx.2.2.2.2.2.2 hT hv0 hw) cf_X11_quotient cv_X11_quotient t5_41 hv0 ⟨by decide, rfl, rfl⟩ ⟨rfl, rfl⟩ ⟨Nat.le_of_ble_eq_true rfl, Nat.le_of_ble_eq_true rfl⟩ rfl rfl (Nat.le_of_ble_eq_true rfl) dX11_divisor_19 (fun M2 hw hM2 => ?_)
      refine p_aload_n (pc := 22) cx dX11_divisor_22 rfl 0 rfl ?_
      refine p_bipush (pc := 23) (v := 20) cx dX11_divisor_23 (by decide) ?_
      refine p_bipush (pc := 25) (v := 21) cx dX11_divisor_25 (by decide) ?_
      refine p_callVv (pc := 27) [.int (20 : Int32), .int (21 : Int32)] cx (c_X11_copy cx.2.2.2.2.2.2 hM2 hv0 hw) cf_X11_copy cv_X11_copy t4_220 hv0 ⟨by decide, rfl, rfl⟩ ⟨rfl, rfl⟩ ⟨Nat.le_of_ble_eq_true rfl, Nat.le_of_ble_eq_true rfl⟩ rfl rfl (Nat.le_of_ble_eq_true rfl) dX11_divisor_27 (fun M3 hw hM3 => ?_)
      refine p_aload_n (pc := 30) cx dX11_divisor_30 rfl 0 rfl ?_
      refine p_bipush (pc := 31) (v := 21) cx dX11_divisor_31 (by decide) ?_
      refine p_bipush (pc := 33) (v := 18) cx dX11_divisor_33 (by decide) ?_
      refine p_callVv (pc := 35) [.int (21 : Int32), .int (18 : Int32)] cx (c_X11_copy cx.2.2.2.2.2.2 hM3 hv0 hw) cf_X11_copy cv_X11_copy t4_220 hv0 ⟨by decide, rfl, rfl⟩ ⟨rfl, rfl⟩ ⟨Nat.le_of_ble_eq_true rfl, Nat.le_of_ble_eq_true rfl⟩ rfl rfl (Nat.le_of_ble_eq_true rfl) dX11_divisor_35 (fun M4 hw hM4 => ?_)
      refine p_goto (pc := 38) (tgt := 0) cx dX11_divisor_38 (by decide) ?_
      exact ih v0 M4 hM4 hv0 hw
set_option maxHeartbeats 4000000 in
set_option maxRecDepth 100000 in
theorem c_X11_divisor {l : Launch} {D : va_G} {G : SH} (hND : ND G) {a0 : Nat} {M : MS} {Qp : MS → Prop} (hT : TYR G M.2.2.1) (ha0 : Is G 10 a0) (hw : w_X11_divisor G a0 M Qp) : MeV l D G yX11_divisor (Cond.code yX11_divisor cX11_divisor 1 none :: GW) rm_X11_divisor [.ref a0] M Qp := by
  unfold MeV
  refine p_method (by decide) rfl (Nat.le_of_ble_eq_true rfl) hND ?_
  intro p e s m args below meth c cx hr hlk
  have cx : CX p s m args c D G cX11_divisor 1 RX11 := cx
  unfold w_X11_divisor at hw
  obtain ⟨n1, hw⟩ := hw
  exact x_X11_divisor_0 cx hr hlk n1 a0 M hT ha0 hw
set_option maxHeartbeats 4000000 in
set_option maxRecDepth 100000 in
theorem c_X11_simple {l : Launch} {D : va_G} {G : SH} (hND : ND G) {a0 : Nat} {a1 : Int32} {a2 : Int32} {a3 : Int32} {M : MS} {Qp : Int32 → MS → Prop} (hT : TYR G M.2.2.1) (ha0 : Is G 10 a0) (hw : w_X11_simple G a0 a1 a2 a3 M Qp) : MeI l D G yX11_simple (Cond.code yX11_simple cX11_simple 4 (some .int) :: GW) rm_X11_simple [.ref a0, .int a1, .int a2, .int a3] M Qp := by
  unfold MeI
  refine p_method (by decide) rfl (Nat.le_of_ble_eq_true rfl) hND ?_
  intro p e s m args below meth c cx hr hlk
  have cx : CX p s m args c D G cX11_simple 4 RX11 := cx
  unfold w_X11_simple at hw
  refine p_aload_n (pc := 0) cx dX11_simple_0 rfl 0 rfl ?_
  refine p_iconst (pc := 1) (v := 0) cx dX11_simple_1 (by decide) ?_
  refine pf_10_5 (pc := 2) cx ha0 t4_166 dX11_simple_2 ?_
  refine p_mem (fun M1 eM1 => ?_)
  have hw := hw M1 eM1
  have hM1 : TYR G M1.2.2.1 := by rw [eM1]; exact hT
  refine p_aload_n (pc := 5) cx dX11_simple_5 rfl 0 rfl ?_
  refine p_iload_n (pc := 6) cx dX11_simple_6 rfl 1 rfl ?_
  refine p_callVi (pc := 7) [.int a1] cx (c_X11_no cx.2.2.2.2.2.2 hM1 ha0 hw) cf_X11_no cv_X11_no t4_203 ha0 ⟨by decide, rfl, rfl⟩ ⟨rfl, rfl⟩ ⟨Nat.le_of_ble_eq_true rfl, Nat.le_of_ble_eq_true rfl⟩ rfl rfl (Nat.le_of_ble_eq_true rfl) dX11_simple_7 (fun r2 M2 hw hM2 => ?_)
  refine p_if_ne (pc := 10) (tgt := 29) cx dX11_simple_10 (by decide) (fun hc => ?_) (fun hc => ?_)
  · have hw := hw.1 hc
    refine p_iconst (pc := 29) (v := 3) cx dX11_simple_29 (by decide) ?_
    exact p_iret (pc := 30) cx hr hlk dX11_simple_30 hM2 hw
  · have hw := hw.2 hc
    refine p_aload_n (pc := 13) cx dX11_simple_13 rfl 0 rfl ?_
    refine p_iload_n (pc := 14) cx dX11_simple_14 rfl 2 rfl ?_
    refine p_callVi (pc := 15) [.int a2] cx (c_X11_no cx.2.2.2.2.2.2 hM2 ha0 hw) cf_X11_no cv_X11_no t4_203 ha0 ⟨by decide, rfl, rfl⟩ ⟨rfl, rfl⟩ ⟨Nat.le_of_ble_eq_true rfl, Nat.le_of_ble_eq_true rfl⟩ rfl rfl (Nat.le_of_ble_eq_true rfl) dX11_simple_15 (fun r3 M3 hw hM3 => ?_)
    refine p_if_ne (pc := 18) (tgt := 29) cx dX11_simple_18 (by decide) (fun hc => ?_) (fun hc => ?_)
    · have hw := hw.1 hc
      refine p_iconst (pc := 29) (v := 3) cx dX11_simple_29 (by decide) ?_
      exact p_iret (pc := 30) cx hr hlk dX11_simple_30 hM3 hw
    · have hw := hw.2 hc
      refine p_aload_n (pc := 21) cx dX11_simple_21 rfl 0 rfl ?_
      refine p_iload_n (pc := 22) cx dX11_simple_22 rfl 3 rfl ?_
      refine p_callVi (pc := 23) [.int a3] cx (c_X11_no cx.2.2.2.2.2.2 hM3 ha0 hw) cf_X11_no cv_X11_no t4_203 ha0 ⟨by decide, rfl, rfl⟩ ⟨rfl, rfl⟩ ⟨Nat.le_of_ble_eq_true rfl, Nat.le_of_ble_eq_true rfl⟩ rfl rfl (Nat.le_of_ble_eq_true rfl) dX11_simple_23 (fun r4 M4 hw hM4 => ?_)
      refine p_if_eq (pc := 26) (tgt := 31) cx dX11_simple_26 (by decide) (fun hc => ?_) (fun hc => ?_)
      · have hw := hw.1 hc
        refine p_aload_n (pc := 31) cx dX11_simple_31 rfl 0 rfl ?_
        refine p_bipush (pc := 32) (v := 20) cx dX11_simple_32 (by decide) ?_
        refine p_iload_n (pc := 34) cx dX11_simple_34 rfl 2 rfl ?_
        refine p_callVv (pc := 35) [.int (20 : Int32), .int a2] cx (c_X11_sized cx.2.2.2.2.2.2 hM4 ha0 hw) cf_X11_sized cv_X11_sized t5_83 ha0 ⟨by decide, rfl, rfl⟩ ⟨rfl, rfl⟩ ⟨Nat.le_of_ble_eq_true rfl, Nat.le_of_ble_eq_true rfl⟩ rfl rfl (Nat.le_of_ble_eq_true rfl) dX11_simple_35 (fun M5 hw hM5 => ?_)
        refine p_aload_n (pc := 38) cx dX11_simple_38 rfl 0 rfl ?_
        refine p_bipush (pc := 39) (v := 21) cx dX11_simple_39 (by decide) ?_
        refine p_iload_n (pc := 41) cx dX11_simple_41 rfl 3 rfl ?_
        refine p_callVv (pc := 42) [.int (21 : Int32), .int a3] cx (c_X11_sized cx.2.2.2.2.2.2 hM5 ha0 hw) cf_X11_sized cv_X11_sized t5_83 ha0 ⟨by decide, rfl, rfl⟩ ⟨rfl, rfl⟩ ⟨Nat.le_of_ble_eq_true rfl, Nat.le_of_ble_eq_true rfl⟩ rfl rfl (Nat.le_of_ble_eq_true rfl) dX11_simple_42 (fun M6 hw hM6 => ?_)
        refine p_aload_n (pc := 45) cx dX11_simple_45 rfl 0 rfl ?_
        refine p_callVv (pc := 46) [] cx (c_X11_divisor cx.2.2.2.2.2.2 hM6 ha0 hw) cf_X11_divisor cv_X11_divisor t5_87 ha0 ⟨by decide, rfl, rfl⟩ ⟨rfl, rfl⟩ ⟨Nat.le_of_ble_eq_true rfl, Nat.le_of_ble_eq_true rfl⟩ rfl rfl (Nat.le_of_ble_eq_true rfl) dX11_simple_46 (fun M7 hw hM7 => ?_)
        refine p_aload_n (pc := 49) cx dX11_simple_49 rfl 0 rfl ?_
        refine p_iload_n (pc := 50) cx dX11_simple_50 rfl 1 rfl ?_
        refine p_bipush (pc := 51) (v := 20) cx dX11_simple_51 (by decide) ?_
        refine p_callVv (pc := 53) [.int a1, .int (20 : Int32)] cx (c_X11_copy cx.2.2.2.2.2.2 hM7 ha0 hw) cf_X11_copy cv_X11_copy t4_220 ha0 ⟨by decide, rfl, rfl⟩ ⟨rfl, rfl⟩ ⟨Nat.le_of_ble_eq_true rfl, Nat.le_of_ble_eq_true rfl⟩ rfl rfl (Nat.le_of_ble_eq_true rfl) dX11_simple_53 (fun M8 hw hM8 => ?_)
        refine p_iconst (pc := 56) (v := 0) cx dX11_simple_56 (by decide) ?_
        exact p_iret (pc := 57) cx hr hlk dX11_simple_57 hM8 hw
      · have hw := hw.2 hc
        refine p_iconst (pc := 29) (v := 3) cx dX11_simple_29 (by decide) ?_
        exact p_iret (pc := 30) cx hr hlk dX11_simple_30 hM4 hw
set_option maxHeartbeats 4000000 in
set_option maxRecDepth 100000 in
theorem c_X11_gcdBinary {l : Launch} {D : va_G} {G : SH} (hND : ND G) {a0 : Nat} {a1 : Int32} {a2 : Int32} {a3 : Int32} {M : MS} {Qp : Int32 → MS → Prop} (hT : TYR G M.2.2.1) (ha0 : Is G 10 a0) (hw : w_X11_gcdBinary G a0 a1 a2 a3 M Qp) : MeI l D G yX11_gcdBinary (Cond.code yX11_gcdBinary cX11_gcdBinary 4 (some .int) :: GW) rm_X11_gcdBinary [.ref a0, .int a1, .int a2, .int a3] M Qp := by
  unfold MeI
  refine p_method (by decide) rfl (Nat.le_of_ble_eq_true rfl) hND ?_
  intro p e s m args below meth c cx hr hlk
  have cx : CX p s m args c D G cX11_gcdBinary 4 RX11 := cx
  unfold w_X11_gcdBinary at hw
  refine p_aload_n (pc := 0) cx dX11_gcdBinary_0 rfl 0 rfl ?_
  refine p_iload_n (pc := 1) cx dX11_gcdBinary_1 rfl 1 rfl ?_
  refine p_iload_n (pc := 2) cx dX11_gcdBinary_2 rfl 2 rfl ?_
  refine p_iload_n (pc := 3) cx dX11_gcdBinary_3 rfl 3 rfl ?_
  refine p_callVi (pc := 4) [.int a1, .int a2, .int a3] cx (c_X11_simple cx.2.2.2.2.2.2 hT ha0 hw) cf_X11_simple cv_X11_simple t5_79 ha0 ⟨by decide, rfl, rfl⟩ ⟨rfl, rfl⟩ ⟨Nat.le_of_ble_eq_true rfl, Nat.le_of_ble_eq_true rfl⟩ rfl rfl (Nat.le_of_ble_eq_true rfl) dX11_gcdBinary_4 (fun r1 M1 hw hM1 => ?_)
  exact p_iret (pc := 7) cx hr hlk dX11_gcdBinary_7 hM1 hw
set_option maxHeartbeats 4000000 in
set_option maxRecDepth 100000 in
theorem c_X11_gcdEuclid {l : Launch} {D : va_G} {G : SH} (hND : ND G) {a0 : Nat} {a1 : Int32} {a2 : Int32} {a3 : Int32} {M : MS} {Qp : Int32 → MS → Prop} (hT : TYR G M.2.2.1) (ha0 : Is G 10 a0) (hw : w_X11_gcdEuclid G a0 a1 a2 a3 M Qp) : MeI l D G yX11_gcdEuclid (Cond.code yX11_gcdEuclid cX11_gcdEuclid 4 (some .int) :: GW) rm_X11_gcdEuclid [.ref a0, .int a1, .int a2, .int a3] M Qp := by
  unfold MeI
  refine p_method (by decide) rfl (Nat.le_of_ble_eq_true rfl) hND ?_
  intro p e s m args below meth c cx hr hlk
  have cx : CX p s m args c D G cX11_gcdEuclid 4 RX11 := cx
  unfold w_X11_gcdEuclid at hw
  refine p_aload_n (pc := 0) cx dX11_gcdEuclid_0 rfl 0 rfl ?_
  refine p_iload_n (pc := 1) cx dX11_gcdEuclid_1 rfl 1 rfl ?_
  refine p_iload_n (pc := 2) cx dX11_gcdEuclid_2 rfl 2 rfl ?_
  refine p_iload_n (pc := 3) cx dX11_gcdEuclid_3 rfl 3 rfl ?_
  refine p_callVi (pc := 4) [.int a1, .int a2, .int a3] cx (c_X11_simple cx.2.2.2.2.2.2 hT ha0 hw) cf_X11_simple cv_X11_simple t5_79 ha0 ⟨by decide, rfl, rfl⟩ ⟨rfl, rfl⟩ ⟨Nat.le_of_ble_eq_true rfl, Nat.le_of_ble_eq_true rfl⟩ rfl rfl (Nat.le_of_ble_eq_true rfl) dX11_gcdEuclid_4 (fun r1 M1 hw hM1 => ?_)
  exact p_iret (pc := 7) cx hr hlk dX11_gcdEuclid_7 hM1 hw
set_option maxHeartbeats 4000000 in
set_option maxRecDepth 100000 in
theorem c_X11_divided_ {l : Launch} {D : va_G} {G : SH} (hND : ND G) {a0 : Int64} {a1 : Int64} {M : MS} {Qp : Int64 → MS → Prop} (hT : TYR G M.2.2.1)  (hw : w_X11_divided_ G a0 a1 M Qp) : MeL l D G yX11_divided_ (Cond.code yX11_divided_ cX11_divided_ 8 (some .long) :: GW) rm_X11_divided_ [.long a0, .long a1] M Qp := by
  unfold MeL
  refine p_method (by decide) rfl (Nat.le_of_ble_eq_true rfl) hND ?_
  intro p e s m args below meth c cx hr hlk
  have cx : CX p s m args c D G cX11_divided_ 8 RX11 := cx
  unfold w_X11_divided_ at hw
  refine p_lload_n (pc := 0) cx dX11_divided__0 rfl 0 rfl ?_
  refine p_lload_n (pc := 1) cx dX11_divided__1 rfl 1 rfl ?_
  refine p_ldiv (pc := 2) cx dX11_divided__2 hw.1 ?_
  have hw := hw.2
  refine p_topl (fun x4_1 ex4_1 => ?_)
  have hw := hw x4_1 ex4_1
  refine p_lstore (pc := 3) (lv' := [(0, .long a0), (2, .long a1), (4, .long x4_1)]) cx dX11_divided__3 (by decide) [1, 2, 0] rfl ?_
  refine p_lload_n (pc := 5) cx dX11_divided__5 rfl 0 rfl ?_
  refine p_lload (pc := 6) cx dX11_divided__6 2 rfl ?_
  refine p_lload_n (pc := 8) cx dX11_divided__8 rfl 1 rfl ?_
  refine p_lmul (pc := 9) cx dX11_divided__9 ?_
  refine p_lsub (pc := 10) cx dX11_divided__10 ?_
  refine p_topl (fun x6_2 ex6_2 => ?_)
  have hw := hw x6_2 ex6_2
  refine p_lstore (pc := 11) (lv' := [(2, .long a1), (4, .long x4_1), (6, .long x6_2)]) cx dX11_divided__11 (by decide) [2, 3, 0] rfl ?_
  refine p_lload (pc := 13) cx dX11_divided__13 2 rfl ?_
  refine p_lconst (pc := 15) (v := 0) cx dX11_divided__15 (by decide) ?_
  refine p_lcmp (pc := 16) cx dX11_divided__16 ?_
  refine p_if_lt (pc := 17) (tgt := 25) cx dX11_divided__17 (by decide) (fun hc => ?_) (fun hc => ?_)
  · have hw := hw.1 ((lg_cmp_lt _ _).mp hc)
    refine p_lload_n (pc := 25) cx dX11_divided__25 rfl 0 rfl ?_
    refine p_lconst (pc := 26) (v := 0) cx dX11_divided__26 (by decide) ?_
    refine p_lcmp (pc := 27) cx dX11_divided__27 ?_
    refine p_if_le (pc := 28) (tgt := 38) cx dX11_divided__28 (by decide) (fun hc => ?_) (fun hc => ?_)
    · have hw := hw.1 ((lg_cmp_le _ _).mp hc)
      refine p_lload (pc := 38) cx dX11_divided__38 1 rfl ?_
      refine p_lconst (pc := 40) (v := 1) cx dX11_divided__40 (by decide) ?_
      refine p_ladd (pc := 41) cx dX11_divided__41 ?_
      exact p_lret (pc := 42) cx hr hlk dX11_divided__42 hT hw
    · have hw := hw.2 (fun q => hc ((lg_cmp_le _ _).mpr q))
      refine p_lload (pc := 31) cx dX11_divided__31 1 rfl ?_
      refine p_lconst (pc := 33) (v := 1) cx dX11_divided__33 (by decide) ?_
      refine p_lsub (pc := 34) cx dX11_divided__34 ?_
      refine p_goto (pc := 35) (tgt := 42) cx dX11_divided__35 (by decide) ?_
      exact p_lret (pc := 42) cx hr hlk dX11_divided__42 hT hw
  · have hw := hw.2 (fun q => hc ((lg_cmp_lt _ _).mpr q))
    refine p_lload (pc := 20) cx dX11_divided__20 1 rfl ?_
    refine p_goto (pc := 22) (tgt := 42) cx dX11_divided__22 (by decide) ?_
    exact p_lret (pc := 42) cx hr hlk dX11_divided__42 hT hw
set_option maxHeartbeats 4000000 in
set_option maxRecDepth 100000 in
theorem x_X11_high_8 {p : Program} {l : Launch} {e : Env} {s : State} {m : MethodId} {args : Array Value} {below : List Frame} {meth : Method} {c : Code} {D : va_G} {G : SH} {Qp : Int64 → MS → Prop}  (cx : CX p s m args c D G cX11_high 6 RX11) (hr : meth.sig.returnType = (some .long)) (hlk : meth.locks = false)  : ∀ (n : Nat) (v0 : Nat) (v1 : Int32) (v2 : Int32) (v3 : Int64) (v5 : Int32) (M : MS), TYR G M.2.2.1 → Is G 10 v0 → w_X11_high_8 G Qp n v0 v1 v2 v3 v5 M → PW p l e rm_X11_high s m args below meth c D G 6 (MQ below (va_Ql Qp (POST D G) (AG G)) args s 0 0 (AG G)) 8 [(0, .ref v0), (1, .int v1), (2, .int v2), (3, .long v3), (5, .int v5)] [] M := by
  intro n
  induction n with
  | zero =>
    intro v0 v1 v2 v3 v5 M hT hv0 hw
    exact hw.elim
  | succ n ih =>
    intro v0 v1 v2 v3 v5 M hT hv0 hw
    rw [w_X11_high_8] at hw
    refine p_iload (pc := 8) cx dX11_high_8 4 rfl ?_
    refine p_iload_n (pc := 10) cx dX11_high_10 rfl 2 rfl ?_
    refine p_icmp_lt (pc := 11) (tgt := 42) cx dX11_high_11 (by decide) (fun hc => ?_) (fun hc => ?_)
    · have hw := hw.1 hc
      refine p_lload_n (pc := 42) cx dX11_high_42 rfl 3 rfl ?_
      exact p_lret (pc := 43) cx hr hlk dX11_high_43 hT hw
    · have hw := hw.2 hc
      refine p_ldc2 (pc := 14) cx dX11_high_14 t5_103 ?_
      refine p_lload_n (pc := 17) cx dX11_high_17 rfl 3 rfl ?_
      refine p_lmul (pc := 18) cx dX11_high_18 ?_
      refine p_aload_n (pc := 19) cx dX11_high_19 rfl 0 rfl ?_
      refine p_iload_n (pc := 20) cx dX11_high_20 rfl 1 rfl ?_
      refine p_iload (pc := 21) cx dX11_high_21 4 rfl ?_
      refine p_callVi (pc := 23) [.int v1, .int v5] cx (c_X11_bit cx.2.2.2.2.2.2 hT hv0 hw) cf_X11_bit cv_X11_bit t5_63 hv0 ⟨by decide, rfl, rfl⟩ ⟨rfl, rfl⟩ ⟨Nat.le_of_ble_eq_true rfl, Nat.le_of_ble_eq_true rfl⟩ rfl rfl (Nat.le_of_ble_eq_true rfl) dX11_high_23 (fun r2 M2 hw hM2 => ?_)
      refine p_if_eq (pc := 26) (tgt := 33) cx dX11_high_26 (by decide) (fun hc => ?_) (fun hc => ?_)
      · have hw := hw.1 hc
        refine p_lconst (pc := 33) (v := 0) cx dX11_high_33 (by decide) ?_
        refine p_ladd (pc := 34) cx dX11_high_34 ?_
        refine p_topl (fun x3_3 ex3_3 => ?_)
        have hw := hw x3_3 ex3_3
        refine p_lstore_n (pc := 35) (lv' := [(0, .ref v0), (1, .int v1), (2, .int v2), (3, .long x3_3), (5, .int v5)]) cx dX11_high_35 rfl (by decide) [1, 2, 3, 0, 4] rfl ?_
        obtain ⟨x5_4, ex5_4⟩ : ∃ y : Int32, y = v5 + (-1) := ⟨_, rfl⟩
        have hw := hw x5_4 ex5_4
        refine p_iinc (pc := 36) (v := x5_4) (lv' := [(0, .ref v0), (1, .int v1), (2, .int v2), (3, .long x3_3), (5, .int x5_4)]) cx dX11_high_36 4 rfl (by rw [ex5_4]; rfl) (by decide) [1, 2, 3, 4, 0] rfl ?_
        refine p_goto (pc := 39) (tgt := 8) cx dX11_high_39 (by decide) ?_
        exact ih v0 v1 v2 x3_3 x5_4 M2 hM2 hv0 hw
      · have hw := hw.2 hc
        refine p_lconst (pc := 29) (v := 1) cx dX11_high_29 (by decide) ?_
        refine p_goto (pc := 30) (tgt := 34) cx dX11_high_30 (by decide) ?_
        refine p_ladd (pc := 34) cx dX11_high_34 ?_
        refine p_topl (fun x3_5 ex3_5 => ?_)
        have hw := hw x3_5 ex3_5
        refine p_lstore_n (pc := 35) (lv' := [(0, .ref v0), (1, .int v1), (2, .int v2), (3, .long x3_5), (5, .int v5)]) cx dX11_high_35 rfl (by decide) [1, 2, 3, 0, 4] rfl ?_
        obtain ⟨x5_6, ex5_6⟩ : ∃ y : Int32, y = v5 + (-1) := ⟨_, rfl⟩
        have hw := hw x5_6 ex5_6
        refine p_iinc (pc := 36) (v := x5_6) (lv' := [(0, .ref v0), (1, .int v1), (2, .int v2), (3, .long x3_5), (5, .int x5_6)]) cx dX11_high_36 4 rfl (by rw [ex5_6]; rfl) (by decide) [1, 2, 3, 4, 0] rfl ?_
        refine p_goto (pc := 39) (tgt := 8) cx dX11_high_39 (by decide) ?_
        exact ih v0 v1 v2 x3_5 x5_6 M2 hM2 hv0 hw
set_option maxHeartbeats 4000000 in
set_option maxRecDepth 100000 in
theorem c_X11_high {l : Launch} {D : va_G} {G : SH} (hND : ND G) {a0 : Nat} {a1 : Int32} {a2 : Int32} {M : MS} {Qp : Int64 → MS → Prop} (hT : TYR G M.2.2.1) (ha0 : Is G 10 a0) (hw : w_X11_high G a0 a1 a2 M Qp) : MeL l D G yX11_high (Cond.code yX11_high cX11_high 6 (some .long) :: GW) rm_X11_high [.ref a0, .int a1, .int a2] M Qp := by
  unfold MeL
  refine p_method (by decide) rfl (Nat.le_of_ble_eq_true rfl) hND ?_
  intro p e s m args below meth c cx hr hlk
  have cx : CX p s m args c D G cX11_high 6 RX11 := cx
  unfold w_X11_high at hw
  refine p_lconst (pc := 0) (v := 0) cx dX11_high_0 (by decide) ?_
  refine p_lstore_n (pc := 1) (lv' := [(0, .ref a0), (1, .int a1), (2, .int a2), (3, .long (0 : Int64))]) cx dX11_high_1 rfl (by decide) [1, 2, 3, 0] rfl ?_
  refine p_iload_n (pc := 2) cx dX11_high_2 rfl 2 rfl ?_
  refine p_bipush (pc := 3) (v := 32) cx dX11_high_3 (by decide) ?_
  refine p_iadd (pc := 5) cx dX11_high_5 ?_
  refine p_topi (fun x5_1 ex5_1 => ?_)
  have hw := hw x5_1 ex5_1
  refine p_istore (pc := 6) (lv' := [(0, .ref a0), (1, .int a1), (2, .int a2), (3, .long (0 : Int64)), (5, .int x5_1)]) cx dX11_high_6 (by decide) [1, 2, 3, 4, 0] rfl ?_
  obtain ⟨n1, hw⟩ := hw
  exact x_X11_high_8 cx hr hlk n1 a0 a1 a2 0 x5_1 M hT ha0 hw
set_option maxHeartbeats 4000000 in
set_option maxRecDepth 100000 in
theorem x_X11_number_17 {p : Program} {l : Launch} {e : Env} {s : State} {m : MethodId} {args : Array Value} {below : List Frame} {meth : Method} {c : Code} {D : va_G} {G : SH} {Qp : MS → Prop}  (cx : CX p s m args c D G cX11_number 7 RX11) (hr : meth.sig.returnType = none) (hlk : meth.locks = false)  : ∀ (n : Nat) (v0 : Nat) (v1 : Int32) (v2 : Int64) (v4 : Int64) (v6 : Int32) (M : MS), TYR G M.2.2.1 → Is G 10 v0 → w_X11_number_17 G Qp n v0 v1 v2 v4 v6 M → PW p l e rm_X11_number s m args below meth c D G 7 (MQ below (va_Qv Qp (POST D G) (AG G)) args s 0 0 (AG G)) 17 [(0, .ref v0), (1, .int v1), (2, .long v2), (4, .long v4), (6, .int v6)] [] M := by
  intro n
  induction n with
  | zero =>
    intro v0 v1 v2 v4 v6 M hT hv0 hw
    exact hw.elim
  | succ n ih =>
    intro v0 v1 v2 v4 v6 M hT hv0 hw
    rw [w_X11_number_17] at hw
    refine p_iload (pc := 17) cx dX11_number_17 4 rfl ?_
    refine p_iconst (pc := 19) (v := 4) cx dX11_number_19 (by decide) ?_
    refine p_icmp_ge (pc := 20) (tgt := 55) cx dX11_number_20 (by decide) (fun hc => ?_) (fun hc => ?_)
    · have hw := hw.1 hc
      refine p_aload_n (pc := 55) cx dX11_number_55 rfl 0 rfl ?_
      refine p_iload_n (pc := 56) cx dX11_number_56 rfl 1 rfl ?_
      refine p_iconst (pc := 57) (v := 4) cx dX11_number_57 (by decide) ?_
      refine p_lload_n (pc := 58) cx dX11_number_58 rfl 2 rfl ?_
      refine p_lconst (pc := 59) (v := 0) cx dX11_number_59 (by decide) ?_
      refine p_lcmp (pc := 60) cx dX11_number_60 ?_
      refine p_if_ge (pc := 61) (tgt := 68) cx dX11_number_61 (by decide) (fun hc => ?_) (fun hc => ?_)
      · have hw := hw.1 ((lg_cmp_ge _ _).mp hc)
        refine p_iconst (pc := 68) (v := 1) cx dX11_number_68 (by decide) ?_
        refine p_callVv (pc := 69) [.int v1, .int (4 : Int32), .int (1 : Int32)] cx (c_X11_trim cx.2.2.2.2.2.2 hT hv0 hw) cf_X11_trim cv_X11_trim t4_208 hv0 ⟨by decide, rfl, rfl⟩ ⟨rfl, rfl⟩ ⟨Nat.le_of_ble_eq_true rfl, Nat.le_of_ble_eq_true rfl⟩ rfl rfl (Nat.le_of_ble_eq_true rfl) dX11_number_69 (fun M1 hw hM1 => ?_)
        exact p_vret (pc := 72) cx hr hlk dX11_number_72 hM1 hw
      · have hw := hw.2 (fun q => hc ((lg_cmp_ge _ _).mpr q))
        refine p_iconst (pc := 64) (v := (-1)) cx dX11_number_64 (by decide) ?_
        refine p_goto (pc := 65) (tgt := 69) cx dX11_number_65 (by decide) ?_
        refine p_callVv (pc := 69) [.int v1, .int (4 : Int32), .int ((-1) : Int32)] cx (c_X11_trim cx.2.2.2.2.2.2 hT hv0 hw) cf_X11_trim cv_X11_trim t4_208 hv0 ⟨by decide, rfl, rfl⟩ ⟨rfl, rfl⟩ ⟨Nat.le_of_ble_eq_true rfl, Nat.le_of_ble_eq_true rfl⟩ rfl rfl (Nat.le_of_ble_eq_true rfl) dX11_number_69 (fun M2 hw hM2 => ?_)
        exact p_vret (pc := 72) cx hr hlk dX11_number_72 hM2 hw
    · have hw := hw.2 hc
      refine p_aload_n (pc := 23) cx dX11_number_23 rfl 0 rfl ?_
      refine gf_10_0 (pc := 24) cx hv0 t4_161 dX11_number_24 ?_
      have hr_3 : Is G 12 (mR M v0 0) := TYR.at hT hv0 0 12 rfl (by decide)
      refine p_sipush (pc := 27) (v := 260) cx dX11_number_27 (by decide) ?_
      refine p_iload_n (pc := 30) cx dX11_number_30 rfl 1 rfl ?_
      refine p_imul (pc := 31) cx dX11_number_31 ?_
      refine p_iload (pc := 32) cx dX11_number_32 4 rfl ?_
      refine p_iadd (pc := 34) cx dX11_number_34 ?_
      refine p_lload (pc := 35) cx dX11_number_35 3 rfl ?_
      refine p_bipush (pc := 37) (v := 16) cx dX11_number_37 (by decide) ?_
      refine p_iload (pc := 39) cx dX11_number_39 4 rfl ?_
      refine p_imul (pc := 41) cx dX11_number_41 ?_
      refine p_lshr (pc := 42) cx dX11_number_42 ?_
      refine p_ldc2 (pc := 43) cx dX11_number_43 t5_32 ?_
      refine p_land (pc := 46) cx dX11_number_46 ?_
      refine p_l2i (pc := 47) cx dX11_number_47 ?_
      refine p_iast (pc := 48) cx hr_3 hw.1 dX11_number_48 ?_
      have hw := hw.2
      refine p_mem (fun M4 eM4 => ?_)
      have hw := hw M4 eM4
      have hM4 : TYR G M4.2.2.1 := by rw [eM4]; exact hT
      obtain ⟨x6_5, ex6_5⟩ : ∃ y : Int32, y = v6 + 1 := ⟨_, rfl⟩
      have hw := hw x6_5 ex6_5
      refine p_iinc (pc := 49) (v := x6_5) (lv' := [(0, .ref v0), (1, .int v1), (2, .long v2), (4, .long v4), (6, .int x6_5)]) cx dX11_number_49 4 rfl (by rw [ex6_5]; rfl) (by decide) [1, 2, 3, 4, 0] rfl ?_
      refine p_goto (pc := 52) (tgt := 17) cx dX11_number_52 (by decide) ?_
      exact ih v0 v1 v2 v4 x6_5 M4 hM4 hv0 hw
set_option maxHeartbeats 4000000 in
set_option maxRecDepth 100000 in
theorem c_X11_number {l : Launch} {D : va_G} {G : SH} (hND : ND G) {a0 : Nat} {a1 : Int32} {a2 : Int64} {M : MS} {Qp : MS → Prop} (hT : TYR G M.2.2.1) (ha0 : Is G 10 a0) (hw : w_X11_number G a0 a1 a2 M Qp) : MeV l D G yX11_number (Cond.code yX11_number cX11_number 7 none :: GW) rm_X11_number [.ref a0, .int a1, .long a2] M Qp := by
  unfold MeV
  refine p_method (by decide) rfl (Nat.le_of_ble_eq_true rfl) hND ?_
  intro p e s m args below meth c cx hr hlk
  have cx : CX p s m args c D G cX11_number 7 RX11 := cx
  unfold w_X11_number at hw
  refine p_lload_n (pc := 0) cx dX11_number_0 rfl 2 rfl ?_
  refine p_lconst (pc := 1) (v := 0) cx dX11_number_1 (by decide) ?_
  refine p_lcmp (pc := 2) cx dX11_number_2 ?_
  refine p_if_ge (pc := 3) (tgt := 11) cx dX11_number_3 (by decide) (fun hc => ?_) (fun hc => ?_)
  · have hw := hw.1 ((lg_cmp_ge _ _).mp hc)
    refine p_lload_n (pc := 11) cx dX11_number_11 rfl 2 rfl ?_
    refine p_lstore (pc := 12) (lv' := [(0, .ref a0), (1, .int a1), (2, .long a2), (4, .long a2)]) cx dX11_number_12 (by decide) [1, 2, 3, 0] rfl ?_
    refine p_iconst (pc := 14) (v := 0) cx dX11_number_14 (by decide) ?_
    refine p_istore (pc := 15) (lv' := [(0, .ref a0), (1, .int a1), (2, .long a2), (4, .long a2), (6, .int (0 : Int32))]) cx dX11_number_15 (by decide) [1, 2, 3, 4, 0] rfl ?_
    obtain ⟨n1, hw⟩ := hw
    exact x_X11_number_17 cx hr hlk n1 a0 a1 a2 a2 0 M hT ha0 hw
  · have hw := hw.2 (fun q => hc ((lg_cmp_ge _ _).mpr q))
    refine p_lload_n (pc := 6) cx dX11_number_6 rfl 2 rfl ?_
    refine p_lneg (pc := 7) cx dX11_number_7 ?_
    refine p_goto (pc := 8) (tgt := 12) cx dX11_number_8 (by decide) ?_
    refine p_topl (fun x4_6 ex4_6 => ?_)
    have hw := hw x4_6 ex4_6
    refine p_lstore (pc := 12) (lv' := [(0, .ref a0), (1, .int a1), (2, .long a2), (4, .long x4_6)]) cx dX11_number_12 (by decide) [1, 2, 3, 0] rfl ?_
    refine p_iconst (pc := 14) (v := 0) cx dX11_number_14 (by decide) ?_
    refine p_istore (pc := 15) (lv' := [(0, .ref a0), (1, .int a1), (2, .long a2), (4, .long x4_6), (6, .int (0 : Int32))]) cx dX11_number_15 (by decide) [1, 2, 3, 4, 0] rfl ?_
    obtain ⟨n1, hw⟩ := hw
    exact x_X11_number_17 cx hr hlk n1 a0 a1 a2 x4_6 0 M hT ha0 hw
set_option maxHeartbeats 4000000 in
set_option maxRecDepth 100000 in
theorem c_X11_mixed {l : Launch} {D : va_G} {G : SH} (hND : ND G) {a0 : Nat} {a1 : Int32} {a2 : Int64} {a3 : Int64} {M : MS} {Qp : MS → Prop} (hT : TYR G M.2.2.1) (ha0 : Is G 10 a0) (hw : w_X11_mixed G a0 a1 a2 a3 M Qp) : MeV l D G yX11_mixed (Cond.code yX11_mixed cX11_mixed 6 none :: GW) rm_X11_mixed [.ref a0, .int a1, .long a2, .long a3] M Qp := by
  unfold MeV
  refine p_method (by decide) rfl (Nat.le_of_ble_eq_true rfl) hND ?_
  intro p e s m args below meth c cx hr hlk
  have cx : CX p s m args c D G cX11_mixed 6 RX11 := cx
  unfold w_X11_mixed at hw
  refine p_aload_n (pc := 0) cx dX11_mixed_0 rfl 0 rfl ?_
  refine p_bipush (pc := 1) (v := 22) cx dX11_mixed_1 (by decide) ?_
  refine p_lload_n (pc := 3) cx dX11_mixed_3 rfl 2 rfl ?_
  refine p_callVv (pc := 4) [.int (22 : Int32), .long a2] cx (c_X11_number cx.2.2.2.2.2.2 hT ha0 hw) cf_X11_number cv_X11_number t5_115 ha0 ⟨by decide, rfl, rfl⟩ ⟨rfl, rfl⟩ ⟨Nat.le_of_ble_eq_true rfl, Nat.le_of_ble_eq_true rfl⟩ rfl rfl (Nat.le_of_ble_eq_true rfl) dX11_mixed_4 (fun M1 hw hM1 => ?_)
  refine p_aload_n (pc := 7) cx dX11_mixed_7 rfl 0 rfl ?_
  refine p_bipush (pc := 8) (v := 23) cx dX11_mixed_8 (by decide) ?_
  refine p_lload (pc := 10) cx dX11_mixed_10 3 rfl ?_
  refine p_callVv (pc := 12) [.int (23 : Int32), .long a3] cx (c_X11_number cx.2.2.2.2.2.2 hM1 ha0 hw) cf_X11_number cv_X11_number t5_115 ha0 ⟨by decide, rfl, rfl⟩ ⟨rfl, rfl⟩ ⟨Nat.le_of_ble_eq_true rfl, Nat.le_of_ble_eq_true rfl⟩ rfl rfl (Nat.le_of_ble_eq_true rfl) dX11_mixed_12 (fun M2 hw hM2 => ?_)
  refine p_aload_n (pc := 15) cx dX11_mixed_15 rfl 0 rfl ?_
  refine p_bipush (pc := 16) (v := 25) cx dX11_mixed_16 (by decide) ?_
  refine p_bipush (pc := 18) (v := 22) cx dX11_mixed_18 (by decide) ?_
  refine p_bipush (pc := 20) (v := 20) cx dX11_mixed_20 (by decide) ?_
  refine p_callVv (pc := 22) [.int (25 : Int32), .int (22 : Int32), .int (20 : Int32)] cx (c_X11_product cx.2.2.2.2.2.2 hM2 ha0 hw) cf_X11_product cv_X11_product t5_28 ha0 ⟨by decide, rfl, rfl⟩ ⟨rfl, rfl⟩ ⟨Nat.le_of_ble_eq_true rfl, Nat.le_of_ble_eq_true rfl⟩ rfl rfl (Nat.le_of_ble_eq_true rfl) dX11_mixed_22 (fun M3 hw hM3 => ?_)
  refine p_aload_n (pc := 25) cx dX11_mixed_25 rfl 0 rfl ?_
  refine p_bipush (pc := 26) (v := 26) cx dX11_mixed_26 (by decide) ?_
  refine p_bipush (pc := 28) (v := 23) cx dX11_mixed_28 (by decide) ?_
  refine p_bipush (pc := 30) (v := 21) cx dX11_mixed_30 (by decide) ?_
  refine p_callVv (pc := 32) [.int (26 : Int32), .int (23 : Int32), .int (21 : Int32)] cx (c_X11_product cx.2.2.2.2.2.2 hM3 ha0 hw) cf_X11_product cv_X11_product t5_28 ha0 ⟨by decide, rfl, rfl⟩ ⟨rfl, rfl⟩ ⟨Nat.le_of_ble_eq_true rfl, Nat.le_of_ble_eq_true rfl⟩ rfl rfl (Nat.le_of_ble_eq_true rfl) dX11_mixed_32 (fun M4 hw hM4 => ?_)
  refine p_aload_n (pc := 35) cx dX11_mixed_35 rfl 0 rfl ?_
  refine p_iload_n (pc := 36) cx dX11_mixed_36 rfl 1 rfl ?_
  refine p_bipush (pc := 37) (v := 25) cx dX11_mixed_37 (by decide) ?_
  refine p_bipush (pc := 39) (v := 26) cx dX11_mixed_39 (by decide) ?_
  refine p_iconst (pc := 41) (v := 1) cx dX11_mixed_41 (by decide) ?_
  refine p_callVv (pc := 42) [.int a1, .int (25 : Int32), .int (26 : Int32), .int (1 : Int32)] cx (c_X11_sum cx.2.2.2.2.2.2 hM4 ha0 hw) cf_X11_sum cv_X11_sum t5_0 ha0 ⟨by decide, rfl, rfl⟩ ⟨rfl, rfl⟩ ⟨Nat.le_of_ble_eq_true rfl, Nat.le_of_ble_eq_true rfl⟩ rfl rfl (Nat.le_of_ble_eq_true rfl) dX11_mixed_42 (fun M5 hw hM5 => ?_)
  exact p_vret (pc := 45) cx hr hlk dX11_mixed_45 hM5 hw
set_option maxHeartbeats 4000000 in
set_option maxRecDepth 100000 in
theorem c_X11_step {l : Launch} {D : va_G} {G : SH} (hND : ND G) {a0 : Nat} {M : MS} {Qp : MS → Prop} (hT : TYR G M.2.2.1) (ha0 : Is G 10 a0) (hw : w_X11_step G a0 M Qp) : MeV l D G yX11_step (Cond.code yX11_step cX11_step 1 none :: GW) rm_X11_step [.ref a0] M Qp := by
  unfold MeV
  refine p_method (by decide) rfl (Nat.le_of_ble_eq_true rfl) hND ?_
  intro p e s m args below meth c cx hr hlk
  have cx : CX p s m args c D G cX11_step 1 RX11 := cx
  unfold w_X11_step at hw
  refine p_aload_n (pc := 0) cx dX11_step_0 rfl 0 rfl ?_
  refine p_bipush (pc := 1) (v := 17) cx dX11_step_1 (by decide) ?_
  refine p_bipush (pc := 3) (v := 18) cx dX11_step_3 (by decide) ?_
  refine p_bipush (pc := 5) (v := 20) cx dX11_step_5 (by decide) ?_
  refine p_bipush (pc := 7) (v := 21) cx dX11_step_7 (by decide) ?_
  refine p_callVv (pc := 9) [.int (17 : Int32), .int (18 : Int32), .int (20 : Int32), .int (21 : Int32)] cx (c_X11_quotient cx.2.2.2.2.2.2 hT ha0 hw) cf_X11_quotient cv_X11_quotient t5_41 ha0 ⟨by decide, rfl, rfl⟩ ⟨rfl, rfl⟩ ⟨Nat.le_of_ble_eq_true rfl, Nat.le_of_ble_eq_true rfl⟩ rfl rfl (Nat.le_of_ble_eq_true rfl) dX11_step_9 (fun M1 hw hM1 => ?_)
  refine p_aload_n (pc := 12) cx dX11_step_12 rfl 0 rfl ?_
  refine p_bipush (pc := 13) (v := 20) cx dX11_step_13 (by decide) ?_
  refine p_bipush (pc := 15) (v := 21) cx dX11_step_15 (by decide) ?_
  refine p_callVv (pc := 17) [.int (20 : Int32), .int (21 : Int32)] cx (c_X11_copy cx.2.2.2.2.2.2 hM1 ha0 hw) cf_X11_copy cv_X11_copy t4_220 ha0 ⟨by decide, rfl, rfl⟩ ⟨rfl, rfl⟩ ⟨Nat.le_of_ble_eq_true rfl, Nat.le_of_ble_eq_true rfl⟩ rfl rfl (Nat.le_of_ble_eq_true rfl) dX11_step_17 (fun M2 hw hM2 => ?_)
  refine p_aload_n (pc := 20) cx dX11_step_20 rfl 0 rfl ?_
  refine p_bipush (pc := 21) (v := 21) cx dX11_step_21 (by decide) ?_
  refine p_bipush (pc := 23) (v := 18) cx dX11_step_23 (by decide) ?_
  refine p_callVv (pc := 25) [.int (21 : Int32), .int (18 : Int32)] cx (c_X11_copy cx.2.2.2.2.2.2 hM2 ha0 hw) cf_X11_copy cv_X11_copy t4_220 ha0 ⟨by decide, rfl, rfl⟩ ⟨rfl, rfl⟩ ⟨Nat.le_of_ble_eq_true rfl, Nat.le_of_ble_eq_true rfl⟩ rfl rfl (Nat.le_of_ble_eq_true rfl) dX11_step_25 (fun M3 hw hM3 => ?_)
  refine p_aload_n (pc := 28) cx dX11_step_28 rfl 0 rfl ?_
  refine p_dup (pc := 29) cx dX11_step_29 rfl ?_
  refine gf_10_6 (pc := 30) cx ha0 t4_167 dX11_step_30 ?_
  refine p_iconst (pc := 33) (v := 1) cx dX11_step_33 (by decide) ?_
  refine p_iadd (pc := 34) cx dX11_step_34 ?_
  refine pf_10_6 (pc := 35) cx ha0 t4_167 dX11_step_35 ?_
  refine p_mem (fun M4 eM4 => ?_)
  have hw := hw M4 eM4
  have hM4 : TYR G M4.2.2.1 := by rw [eM4]; exact hM3
  exact p_vret (pc := 38) cx hr hlk dX11_step_38 hM4 hw
set_option maxHeartbeats 4000000 in
set_option maxRecDepth 100000 in
theorem x_X11_gcdLehmer_256 {p : Program} {l : Launch} {e : Env} {s : State} {m : MethodId} {args : Array Value} {below : List Frame} {meth : Method} {c : Code} {D : va_G} {G : SH} {Qp : Int32 → MS → Prop} {K85 : Nat → Int32 → MS → Prop} (cx : CX p s m args c D G cX11_gcdLehmer 21 RX11) (hr : meth.sig.returnType = (some .int)) (hlk : meth.locks = false) (hK85 : ∀ (v0 : Nat) (v1 : Int32) (M : MS), TYR G M.2.2.1 → Is G 10 v0 → K85 v0 v1 M → PW p l e rm_X11_gcdLehmer s m args below meth c D G 21 (MQ below (va_Qi Qp (POST D G) (AG G)) args s 0 0 (AG G)) 85 [(0, .ref v0), (1, .int v1)] [] M) (v0 : Nat) (v1 : Int32) (v9 : Int64) (v11 : Int64) (v13 : Int64) (v15 : Int64) (M : MS) (hT : TYR G M.2.2.1) (hv0 : Is G 10 v0) (hw : w_X11_gcdLehmer_256 G K85 Qp v0 v1 v9 v11 v13 v15 M) : PW p l e rm_X11_gcdLehmer s m args below meth c D G 21 (MQ below (va_Qi Qp (POST D G) (AG G)) args s 0 0 (AG G)) 256 [(0, .ref v0), (1, .int v1), (9, .long v9), (11, .long v11), (13, .long v13), (15, .long v15)] [] M := by
  unfold w_X11_gcdLehmer_256 at hw
  refine p_lload (pc := 256) cx dX11_gcdLehmer_256 3 rfl ?_
  refine p_lconst (pc := 258) (v := 0) cx dX11_gcdLehmer_258 (by decide) ?_
  refine p_lcmp (pc := 259) cx dX11_gcdLehmer_259 ?_
  refine p_if_ne (pc := 260) (tgt := 270) cx dX11_gcdLehmer_260 (by decide) (fun hc => ?_) (fun hc => ?_)
  · have hw := hw.1 (fun q => hc ((lg_cmp_eq _ _).mpr q))
    refine p_aload_n (pc := 270) cx dX11_gcdLehmer_270 rfl 0 rfl ?_
    refine p_bipush (pc := 271) (v := 28) cx dX11_gcdLehmer_271 (by decide) ?_
    refine p_lload (pc := 273) cx dX11_gcdLehmer_273 2 rfl ?_
    refine p_lload (pc := 275) cx dX11_gcdLehmer_275 3 rfl ?_
    refine p_callVv (pc := 277) [.int (28 : Int32), .long v9, .long v11] cx (c_X11_mixed cx.2.2.2.2.2.2 hT hv0 hw) cf_X11_mixed cv_X11_mixed t5_111 hv0 ⟨by decide, rfl, rfl⟩ ⟨rfl, rfl⟩ ⟨Nat.le_of_ble_eq_true rfl, Nat.le_of_ble_eq_true rfl⟩ rfl rfl (Nat.le_of_ble_eq_true rfl) dX11_gcdLehmer_277 (fun M22 hw hM22 => ?_)
    refine p_aload_n (pc := 280) cx dX11_gcdLehmer_280 rfl 0 rfl ?_
    refine p_bipush (pc := 281) (v := 29) cx dX11_gcdLehmer_281 (by decide) ?_
    refine p_lload (pc := 283) cx dX11_gcdLehmer_283 4 rfl ?_
    refine p_lload (pc := 285) cx dX11_gcdLehmer_285 5 rfl ?_
    refine p_callVv (pc := 287) [.int (29 : Int32), .long v13, .long v15] cx (c_X11_mixed cx.2.2.2.2.2.2 hM22 hv0 hw) cf_X11_mixed cv_X11_mixed t5_111 hv0 ⟨by decide, rfl, rfl⟩ ⟨rfl, rfl⟩ ⟨Nat.le_of_ble_eq_true rfl, Nat.le_of_ble_eq_true rfl⟩ rfl rfl (Nat.le_of_ble_eq_true rfl) dX11_gcdLehmer_287 (fun M23 hw hM23 => ?_)
    refine p_aload_n (pc := 290) cx dX11_gcdLehmer_290 rfl 0 rfl ?_
    refine p_bipush (pc := 291) (v := 20) cx dX11_gcdLehmer_291 (by decide) ?_
    refine p_bipush (pc := 293) (v := 28) cx dX11_gcdLehmer_293 (by decide) ?_
    refine p_callVv (pc := 295) [.int (20 : Int32), .int (28 : Int32)] cx (c_X11_copy cx.2.2.2.2.2.2 hM23 hv0 hw) cf_X11_copy cv_X11_copy t4_220 hv0 ⟨by decide, rfl, rfl⟩ ⟨rfl, rfl⟩ ⟨Nat.le_of_ble_eq_true rfl, Nat.le_of_ble_eq_true rfl⟩ rfl rfl (Nat.le_of_ble_eq_true rfl) dX11_gcdLehmer_295 (fun M24 hw hM24 => ?_)
    refine p_aload_n (pc := 298) cx dX11_gcdLehmer_298 rfl 0 rfl ?_
    refine p_bipush (pc := 299) (v := 21) cx dX11_gcdLehmer_299 (by decide) ?_
    refine p_bipush (pc := 301) (v := 29) cx dX11_gcdLehmer_301 (by decide) ?_
    refine p_callVv (pc := 303) [.int (21 : Int32), .int (29 : Int32)] cx (c_X11_copy cx.2.2.2.2.2.2 hM24 hv0 hw) cf_X11_copy cv_X11_copy t4_220 hv0 ⟨by decide, rfl, rfl⟩ ⟨rfl, rfl⟩ ⟨Nat.le_of_ble_eq_true rfl, Nat.le_of_ble_eq_true rfl⟩ rfl rfl (Nat.le_of_ble_eq_true rfl) dX11_gcdLehmer_303 (fun M25 hw hM25 => ?_)
    refine p_goto (pc := 306) (tgt := 85) cx dX11_gcdLehmer_306 (by decide) ?_
    refine p_perm (lv' := [(0, .ref v0), (1, .int v1)]) [0, 1] rfl ?_
    exact hK85 v0 v1 M25 hM25 hv0 hw
  · have hw := hw.2 ((lg_cmp_eq _ _).mp hc)
    refine p_aload_n (pc := 263) cx dX11_gcdLehmer_263 rfl 0 rfl ?_
    refine p_callVv (pc := 264) [] cx (c_X11_step cx.2.2.2.2.2.2 hT hv0 hw) cf_X11_step cv_X11_step t5_107 hv0 ⟨by decide, rfl, rfl⟩ ⟨rfl, rfl⟩ ⟨Nat.le_of_ble_eq_true rfl, Nat.le_of_ble_eq_true rfl⟩ rfl rfl (Nat.le_of_ble_eq_true rfl) dX11_gcdLehmer_264 (fun M26 hw hM26 => ?_)
    refine p_goto (pc := 267) (tgt := 306) cx dX11_gcdLehmer_267 (by decide) ?_
    refine p_goto (pc := 306) (tgt := 85) cx dX11_gcdLehmer_306 (by decide) ?_
    refine p_perm (lv' := [(0, .ref v0), (1, .int v1)]) [0, 1] rfl ?_
    exact hK85 v0 v1 M26 hM26 hv0 hw
set_option maxHeartbeats 4000000 in
set_option maxRecDepth 100000 in
theorem x_X11_gcdLehmer_142 {p : Program} {l : Launch} {e : Env} {s : State} {m : MethodId} {args : Array Value} {below : List Frame} {meth : Method} {c : Code} {D : va_G} {G : SH} {Qp : Int32 → MS → Prop} {K85 : Nat → Int32 → MS → Prop} (cx : CX p s m args c D G cX11_gcdLehmer 21 RX11) (hr : meth.sig.returnType = (some .int)) (hlk : meth.locks = false) (hK85 : ∀ (v0 : Nat) (v1 : Int32) (M : MS), TYR G M.2.2.1 → Is G 10 v0 → K85 v0 v1 M → PW p l e rm_X11_gcdLehmer s m args below meth c D G 21 (MQ below (va_Qi Qp (POST D G) (AG G)) args s 0 0 (AG G)) 85 [(0, .ref v0), (1, .int v1)] [] M) : ∀ (n : Nat) (v0 : Nat) (v1 : Int32) (v5 : Int64) (v7 : Int64) (v9 : Int64) (v11 : Int64) (v13 : Int64) (v15 : Int64) (M : MS), TYR G M.2.2.1 → Is G 10 v0 → w_X11_gcdLehmer_142 G K85 Qp n v0 v1 v5 v7 v9 v11 v13 v15 M → PW p l e rm_X11_gcdLehmer s m args below meth c D G 21 (MQ below (va_Qi Qp (POST D G) (AG G)) args s 0 0 (AG G)) 142 [(0, .ref v0), (1, .int v1), (5, .long v5), (7, .long v7), (9, .long v9), (11, .long v11), (13, .long v13), (15, .long v15)] [] M := by
  intro n
  induction n with
  | zero =>
    intro v0 v1 v5 v7 v9 v11 v13 v15 M hT hv0 hw
    exact hw.elim
  | succ n ih =>
    intro v0 v1 v5 v7 v9 v11 v13 v15 M hT hv0 hw
    rw [w_X11_gcdLehmer_142] at hw
    refine p_lload (pc := 142) cx dX11_gcdLehmer_142 3 rfl ?_
    refine p_lload (pc := 144) cx dX11_gcdLehmer_144 6 rfl ?_
    refine p_ladd (pc := 146) cx dX11_gcdLehmer_146 ?_
    refine p_lconst (pc := 147) (v := 0) cx dX11_gcdLehmer_147 (by decide) ?_
    refine p_lcmp (pc := 148) cx dX11_gcdLehmer_148 ?_
    refine p_if_eq (pc := 149) (tgt := 256) cx dX11_gcdLehmer_149 (by decide) (fun hc => ?_) (fun hc => ?_)
    · have hw := hw.1 ((lg_cmp_eq _ _).mp hc)
      refine p_perm (lv' := [(0, .ref v0), (1, .int v1), (9, .long v9), (11, .long v11), (13, .long v13), (15, .long v15)]) [0, 1, 4, 5, 6, 7] rfl ?_
      exact x_X11_gcdLehmer_256 cx hr hlk hK85 v0 v1 v9 v11 v13 v15 M hT hv0 hw
    · have hw := hw.2 (fun q => hc ((lg_cmp_eq _ _).mpr q))
      refine p_lload (pc := 152) cx dX11_gcdLehmer_152 3 rfl ?_
      refine p_lload (pc := 154) cx dX11_gcdLehmer_154 7 rfl ?_
      refine p_ladd (pc := 156) cx dX11_gcdLehmer_156 ?_
      refine p_lconst (pc := 157) (v := 0) cx dX11_gcdLehmer_157 (by decide) ?_
      refine p_lcmp (pc := 158) cx dX11_gcdLehmer_158 ?_
      refine p_if_eq (pc := 159) (tgt := 256) cx dX11_gcdLehmer_159 (by decide) (fun hc => ?_) (fun hc => ?_)
      · have hw := hw.1 ((lg_cmp_eq _ _).mp hc)
        refine p_perm (lv' := [(0, .ref v0), (1, .int v1), (9, .long v9), (11, .long v11), (13, .long v13), (15, .long v15)]) [0, 1, 4, 5, 6, 7] rfl ?_
        exact x_X11_gcdLehmer_256 cx hr hlk hK85 v0 v1 v9 v11 v13 v15 M hT hv0 hw
      · have hw := hw.2 (fun q => hc ((lg_cmp_eq _ _).mpr q))
        refine p_lload (pc := 162) cx dX11_gcdLehmer_162 2 rfl ?_
        refine p_lload (pc := 164) cx dX11_gcdLehmer_164 4 rfl ?_
        refine p_ladd (pc := 166) cx dX11_gcdLehmer_166 ?_
        refine p_lload (pc := 167) cx dX11_gcdLehmer_167 3 rfl ?_
        refine p_lload (pc := 169) cx dX11_gcdLehmer_169 6 rfl ?_
        refine p_ladd (pc := 171) cx dX11_gcdLehmer_171 ?_
        refine p_callSl (pc := 172) [.long (v5 + v9), .long (v7 + v13)] cx (c_X11_divided_ cx.2.2.2.2.2.2 hT hw) cf_X11_divided_ cv_X11_divided_ t5_104 ⟨rfl, rfl⟩ ⟨Nat.le_of_ble_eq_true rfl, Nat.le_of_ble_eq_true rfl⟩ rfl rfl (Nat.le_of_ble_eq_true rfl) dX11_gcdLehmer_172 (fun r27 M27 hw hM27 => ?_)
        refine p_lstore (pc := 175) (lv' := [(0, .ref v0), (1, .int v1), (5, .long v5), (7, .long v7), (9, .long v9), (11, .long v11), (13, .long v13), (15, .long v15), (17, .long r27)]) cx dX11_gcdLehmer_175 (by decide) [1, 2, 3, 4, 5, 6, 7, 8, 0] rfl ?_
        refine p_lload (pc := 177) cx dX11_gcdLehmer_177 8 rfl ?_
        refine p_lload (pc := 179) cx dX11_gcdLehmer_179 2 rfl ?_
        refine p_lload (pc := 181) cx dX11_gcdLehmer_181 5 rfl ?_
        refine p_ladd (pc := 183) cx dX11_gcdLehmer_183 ?_
        refine p_lload (pc := 184) cx dX11_gcdLehmer_184 3 rfl ?_
        refine p_lload (pc := 186) cx dX11_gcdLehmer_186 7 rfl ?_
        refine p_ladd (pc := 188) cx dX11_gcdLehmer_188 ?_
        refine p_callSl (pc := 189) [.long (v5 + v11), .long (v7 + v15)] cx (c_X11_divided_ cx.2.2.2.2.2.2 hM27 hw) cf_X11_divided_ cv_X11_divided_ t5_104 ⟨rfl, rfl⟩ ⟨Nat.le_of_ble_eq_true rfl, Nat.le_of_ble_eq_true rfl⟩ rfl rfl (Nat.le_of_ble_eq_true rfl) dX11_gcdLehmer_189 (fun r28 M28 hw hM28 => ?_)
        refine p_lcmp (pc := 192) cx dX11_gcdLehmer_192 ?_
        refine p_if_eq (pc := 193) (tgt := 199) cx dX11_gcdLehmer_193 (by decide) (fun hc => ?_) (fun hc => ?_)
        · have hw := hw.1 ((lg_cmp_eq _ _).mp hc)
          refine p_lload (pc := 199) cx dX11_gcdLehmer_199 4 rfl ?_
          refine p_lload (pc := 201) cx dX11_gcdLehmer_201 8 rfl ?_
          refine p_lload (pc := 203) cx dX11_gcdLehmer_203 6 rfl ?_
          refine p_lmul (pc := 205) cx dX11_gcdLehmer_205 ?_
          refine p_lsub (pc := 206) cx dX11_gcdLehmer_206 ?_
          refine p_topl (fun x19_29 ex19_29 => ?_)
          have hw := hw x19_29 ex19_29
          refine p_lstore (pc := 207) (lv' := [(0, .ref v0), (1, .int v1), (5, .long v5), (7, .long v7), (11, .long v11), (13, .long v13), (15, .long v15), (17, .long r27), (19, .long x19_29)]) cx dX11_gcdLehmer_207 (by decide) [1, 2, 3, 4, 6, 7, 8, 9, 0] rfl ?_
          refine p_lload (pc := 209) cx dX11_gcdLehmer_209 5 rfl ?_
          refine p_lstore (pc := 211) (lv' := [(0, .ref v0), (1, .int v1), (5, .long v5), (7, .long v7), (9, .long v13), (11, .long v11), (15, .long v15), (17, .long r27), (19, .long x19_29)]) cx dX11_gcdLehmer_211 (by decide) [1, 2, 3, 4, 0, 5, 7, 8, 9] rfl ?_
          refine p_lload (pc := 213) cx dX11_gcdLehmer_213 8 rfl ?_
          refine p_lstore (pc := 215) (lv' := [(0, .ref v0), (1, .int v1), (5, .long v5), (7, .long v7), (9, .long v13), (11, .long v11), (13, .long x19_29), (15, .long v15), (17, .long r27)]) cx dX11_gcdLehmer_215 (by decide) [1, 2, 3, 4, 5, 6, 0, 7, 8] rfl ?_
          refine p_lload (pc := 217) cx dX11_gcdLehmer_217 5 rfl ?_
          refine p_lload (pc := 219) cx dX11_gcdLehmer_219 8 rfl ?_
          refine p_lload (pc := 221) cx dX11_gcdLehmer_221 7 rfl ?_
          refine p_lmul (pc := 223) cx dX11_gcdLehmer_223 ?_
          refine p_lsub (pc := 224) cx dX11_gcdLehmer_224 ?_
          refine p_topl (fun x19_30 ex19_30 => ?_)
          have hw := hw x19_30 ex19_30
          refine p_lstore (pc := 225) (lv' := [(0, .ref v0), (1, .int v1), (5, .long v5), (7, .long v7), (9, .long v13), (13, .long x19_29), (15, .long v15), (17, .long r27), (19, .long x19_30)]) cx dX11_gcdLehmer_225 (by decide) [1, 2, 3, 4, 5, 7, 8, 9, 0] rfl ?_
          refine p_lload (pc := 227) cx dX11_gcdLehmer_227 6 rfl ?_
          refine p_lstore (pc := 229) (lv' := [(0, .ref v0), (1, .int v1), (5, .long v5), (7, .long v7), (9, .long v13), (11, .long v15), (13, .long x19_29), (17, .long r27), (19, .long x19_30)]) cx dX11_gcdLehmer_229 (by decide) [1, 2, 3, 4, 5, 0, 6, 8, 9] rfl ?_
          refine p_lload (pc := 231) cx dX11_gcdLehmer_231 8 rfl ?_
          refine p_lstore (pc := 233) (lv' := [(0, .ref v0), (1, .int v1), (5, .long v5), (7, .long v7), (9, .long v13), (11, .long v15), (13, .long x19_29), (15, .long x19_30), (17, .long r27)]) cx dX11_gcdLehmer_233 (by decide) [1, 2, 3, 4, 5, 6, 7, 0, 8] rfl ?_
          refine p_lload (pc := 235) cx dX11_gcdLehmer_235 2 rfl ?_
          refine p_lload (pc := 237) cx dX11_gcdLehmer_237 8 rfl ?_
          refine p_lload (pc := 239) cx dX11_gcdLehmer_239 3 rfl ?_
          refine p_lmul (pc := 241) cx dX11_gcdLehmer_241 ?_
          refine p_lsub (pc := 242) cx dX11_gcdLehmer_242 ?_
          refine p_topl (fun x19_31 ex19_31 => ?_)
          have hw := hw x19_31 ex19_31
          refine p_lstore (pc := 243) (lv' := [(0, .ref v0), (1, .int v1), (7, .long v7), (9, .long v13), (11, .long v15), (13, .long x19_29), (15, .long x19_30), (19, .long x19_31)]) cx dX11_gcdLehmer_243 (by decide) [1, 2, 4, 5, 6, 7, 8, 0] rfl ?_
          refine p_lload (pc := 245) cx dX11_gcdLehmer_245 2 rfl ?_
          refine p_lstore (pc := 247) (lv' := [(0, .ref v0), (1, .int v1), (5, .long v7), (9, .long v13), (11, .long v15), (13, .long x19_29), (15, .long x19_30), (19, .long x19_31)]) cx dX11_gcdLehmer_247 (by decide) [1, 2, 0, 4, 5, 6, 7, 8] rfl ?_
          refine p_lload (pc := 249) cx dX11_gcdLehmer_249 7 rfl ?_
          refine p_lstore (pc := 251) (lv' := [(0, .ref v0), (1, .int v1), (5, .long v7), (7, .long x19_31), (9, .long v13), (11, .long v15), (13, .long x19_29), (15, .long x19_30)]) cx dX11_gcdLehmer_251 (by decide) [1, 2, 3, 0, 4, 5, 6, 7] rfl ?_
          refine p_goto (pc := 253) (tgt := 142) cx dX11_gcdLehmer_253 (by decide) ?_
          exact ih v0 v1 v7 x19_31 v13 v15 x19_29 x19_30 M28 hM28 hv0 hw
        · have hw := hw.2 (fun q => hc ((lg_cmp_eq _ _).mpr q))
          refine p_goto (pc := 196) (tgt := 256) cx dX11_gcdLehmer_196 (by decide) ?_
          refine p_perm (lv' := [(0, .ref v0), (1, .int v1), (9, .long v9), (11, .long v11), (13, .long v13), (15, .long v15)]) [0, 1, 4, 5, 6, 7] rfl ?_
          exact x_X11_gcdLehmer_256 cx hr hlk hK85 v0 v1 v9 v11 v13 v15 M28 hM28 hv0 hw
set_option maxHeartbeats 4000000 in
set_option maxRecDepth 100000 in
theorem x_X11_gcdLehmer_85 {p : Program} {l : Launch} {e : Env} {s : State} {m : MethodId} {args : Array Value} {below : List Frame} {meth : Method} {c : Code} {D : va_G} {G : SH} {Qp : Int32 → MS → Prop}  (cx : CX p s m args c D G cX11_gcdLehmer 21 RX11) (hr : meth.sig.returnType = (some .int)) (hlk : meth.locks = false)  : ∀ (n : Nat) (v0 : Nat) (v1 : Int32) (M : MS), TYR G M.2.2.1 → Is G 10 v0 → w_X11_gcdLehmer_85 G Qp n v0 v1 M → PW p l e rm_X11_gcdLehmer s m args below meth c D G 21 (MQ below (va_Qi Qp (POST D G) (AG G)) args s 0 0 (AG G)) 85 [(0, .ref v0), (1, .int v1)] [] M := by
  intro n
  induction n with
  | zero =>
    intro v0 v1 M hT hv0 hw
    exact hw.elim
  | succ n ih =>
    intro v0 v1 M hT hv0 hw
    rw [w_X11_gcdLehmer_85] at hw
    refine p_aload_n (pc := 85) cx dX11_gcdLehmer_85 rfl 0 rfl ?_
    refine gf_10_1 (pc := 86) cx hv0 t4_162 dX11_gcdLehmer_86 ?_
    have hr_9 : Is G 12 (mR M v0 1) := TYR.at hT hv0 1 12 rfl (by decide)
    refine p_bipush (pc := 89) (v := 21) cx dX11_gcdLehmer_89 (by decide) ?_
    refine p_iald (pc := 91) cx hr_9 hw.1 dX11_gcdLehmer_91 ?_
    have hw := hw.2
    refine p_iconst (pc := 92) (v := 2) cx dX11_gcdLehmer_92 (by decide) ?_
    refine p_icmp_le (pc := 93) (tgt := 309) cx dX11_gcdLehmer_93 (by decide) (fun hc => ?_) (fun hc => ?_)
    · have hw := hw.1 hc
      refine p_aload_n (pc := 309) cx dX11_gcdLehmer_309 rfl 0 rfl ?_
      refine gf_10_1 (pc := 310) cx hv0 t4_162 dX11_gcdLehmer_310 ?_
      have hr_10 : Is G 12 (mR M v0 1) := TYR.at hT hv0 1 12 rfl (by decide)
      refine p_bipush (pc := 313) (v := 21) cx dX11_gcdLehmer_313 (by decide) ?_
      refine p_iald (pc := 315) cx hr_10 hw.1 dX11_gcdLehmer_315 ?_
      have hw := hw.2
      refine p_if_le (pc := 316) (tgt := 334) cx dX11_gcdLehmer_316 (by decide) (fun hc => ?_) (fun hc => ?_)
      · have hw := hw.1 hc
        refine p_aload_n (pc := 334) cx dX11_gcdLehmer_334 rfl 0 rfl ?_
        refine p_callVv (pc := 335) [] cx (c_X11_divisor cx.2.2.2.2.2.2 hT hv0 hw) cf_X11_divisor cv_X11_divisor t5_87 hv0 ⟨by decide, rfl, rfl⟩ ⟨rfl, rfl⟩ ⟨Nat.le_of_ble_eq_true rfl, Nat.le_of_ble_eq_true rfl⟩ rfl rfl (Nat.le_of_ble_eq_true rfl) dX11_gcdLehmer_335 (fun M11 hw hM11 => ?_)
        refine p_aload_n (pc := 338) cx dX11_gcdLehmer_338 rfl 0 rfl ?_
        refine p_iload_n (pc := 339) cx dX11_gcdLehmer_339 rfl 1 rfl ?_
        refine p_bipush (pc := 340) (v := 20) cx dX11_gcdLehmer_340 (by decide) ?_
        refine p_callVv (pc := 342) [.int v1, .int (20 : Int32)] cx (c_X11_copy cx.2.2.2.2.2.2 hM11 hv0 hw) cf_X11_copy cv_X11_copy t4_220 hv0 ⟨by decide, rfl, rfl⟩ ⟨rfl, rfl⟩ ⟨Nat.le_of_ble_eq_true rfl, Nat.le_of_ble_eq_true rfl⟩ rfl rfl (Nat.le_of_ble_eq_true rfl) dX11_gcdLehmer_342 (fun M12 hw hM12 => ?_)
        refine p_iconst (pc := 345) (v := 0) cx dX11_gcdLehmer_345 (by decide) ?_
        exact p_iret (pc := 346) cx hr hlk dX11_gcdLehmer_346 hM12 hw
      · have hw := hw.2 hc
        refine p_aload_n (pc := 319) cx dX11_gcdLehmer_319 rfl 0 rfl ?_
        refine gf_10_1 (pc := 320) cx hv0 t4_162 dX11_gcdLehmer_320 ?_
        have hr_13 : Is G 12 (mR M v0 1) := TYR.at hT hv0 1 12 rfl (by decide)
        refine p_bipush (pc := 323) (v := 20) cx dX11_gcdLehmer_323 (by decide) ?_
        refine p_iald (pc := 325) cx hr_13 hw.1 dX11_gcdLehmer_325 ?_
        have hw := hw.2
        refine p_iconst (pc := 326) (v := 2) cx dX11_gcdLehmer_326 (by decide) ?_
        refine p_icmp_le (pc := 327) (tgt := 334) cx dX11_gcdLehmer_327 (by decide) (fun hc => ?_) (fun hc => ?_)
        · have hw := hw.1 hc
          refine p_aload_n (pc := 334) cx dX11_gcdLehmer_334 rfl 0 rfl ?_
          refine p_callVv (pc := 335) [] cx (c_X11_divisor cx.2.2.2.2.2.2 hT hv0 hw) cf_X11_divisor cv_X11_divisor t5_87 hv0 ⟨by decide, rfl, rfl⟩ ⟨rfl, rfl⟩ ⟨Nat.le_of_ble_eq_true rfl, Nat.le_of_ble_eq_true rfl⟩ rfl rfl (Nat.le_of_ble_eq_true rfl) dX11_gcdLehmer_335 (fun M14 hw hM14 => ?_)
          refine p_aload_n (pc := 338) cx dX11_gcdLehmer_338 rfl 0 rfl ?_
          refine p_iload_n (pc := 339) cx dX11_gcdLehmer_339 rfl 1 rfl ?_
          refine p_bipush (pc := 340) (v := 20) cx dX11_gcdLehmer_340 (by decide) ?_
          refine p_callVv (pc := 342) [.int v1, .int (20 : Int32)] cx (c_X11_copy cx.2.2.2.2.2.2 hM14 hv0 hw) cf_X11_copy cv_X11_copy t4_220 hv0 ⟨by decide, rfl, rfl⟩ ⟨rfl, rfl⟩ ⟨Nat.le_of_ble_eq_true rfl, Nat.le_of_ble_eq_true rfl⟩ rfl rfl (Nat.le_of_ble_eq_true rfl) dX11_gcdLehmer_342 (fun M15 hw hM15 => ?_)
          refine p_iconst (pc := 345) (v := 0) cx dX11_gcdLehmer_345 (by decide) ?_
          exact p_iret (pc := 346) cx hr hlk dX11_gcdLehmer_346 hM15 hw
        · have hw := hw.2 hc
          refine p_aload_n (pc := 330) cx dX11_gcdLehmer_330 rfl 0 rfl ?_
          refine p_callVv (pc := 331) [] cx (c_X11_step cx.2.2.2.2.2.2 hT hv0 hw) cf_X11_step cv_X11_step t5_107 hv0 ⟨by decide, rfl, rfl⟩ ⟨rfl, rfl⟩ ⟨Nat.le_of_ble_eq_true rfl, Nat.le_of_ble_eq_true rfl⟩ rfl rfl (Nat.le_of_ble_eq_true rfl) dX11_gcdLehmer_331 (fun M16 hw hM16 => ?_)
          refine p_aload_n (pc := 334) cx dX11_gcdLehmer_334 rfl 0 rfl ?_
          refine p_callVv (pc := 335) [] cx (c_X11_divisor cx.2.2.2.2.2.2 hM16 hv0 hw) cf_X11_divisor cv_X11_divisor t5_87 hv0 ⟨by decide, rfl, rfl⟩ ⟨rfl, rfl⟩ ⟨Nat.le_of_ble_eq_true rfl, Nat.le_of_ble_eq_true rfl⟩ rfl rfl (Nat.le_of_ble_eq_true rfl) dX11_gcdLehmer_335 (fun M17 hw hM17 => ?_)
          refine p_aload_n (pc := 338) cx dX11_gcdLehmer_338 rfl 0 rfl ?_
          refine p_iload_n (pc := 339) cx dX11_gcdLehmer_339 rfl 1 rfl ?_
          refine p_bipush (pc := 340) (v := 20) cx dX11_gcdLehmer_340 (by decide) ?_
          refine p_callVv (pc := 342) [.int v1, .int (20 : Int32)] cx (c_X11_copy cx.2.2.2.2.2.2 hM17 hv0 hw) cf_X11_copy cv_X11_copy t4_220 hv0 ⟨by decide, rfl, rfl⟩ ⟨rfl, rfl⟩ ⟨Nat.le_of_ble_eq_true rfl, Nat.le_of_ble_eq_true rfl⟩ rfl rfl (Nat.le_of_ble_eq_true rfl) dX11_gcdLehmer_342 (fun M18 hw hM18 => ?_)
          refine p_iconst (pc := 345) (v := 0) cx dX11_gcdLehmer_345 (by decide) ?_
          exact p_iret (pc := 346) cx hr hlk dX11_gcdLehmer_346 hM18 hw
    · have hw := hw.2 hc
      refine p_aload_n (pc := 96) cx dX11_gcdLehmer_96 rfl 0 rfl ?_
      refine p_bipush (pc := 97) (v := 20) cx dX11_gcdLehmer_97 (by decide) ?_
      refine p_callVi (pc := 99) [.int (20 : Int32)] cx (c_X11_bits cx.2.2.2.2.2.2 hT hv0 hw) cf_X11_bits cv_X11_bits t5_53 hv0 ⟨by decide, rfl, rfl⟩ ⟨rfl, rfl⟩ ⟨Nat.le_of_ble_eq_true rfl, Nat.le_of_ble_eq_true rfl⟩ rfl rfl (Nat.le_of_ble_eq_true rfl) dX11_gcdLehmer_99 (fun r19 M19 hw hM19 => ?_)
      refine p_istore (pc := 102) (lv' := [(0, .ref v0), (1, .int v1), (4, .int r19)]) cx dX11_gcdLehmer_102 (by decide) [1, 2, 0] rfl ?_
      refine p_aload_n (pc := 104) cx dX11_gcdLehmer_104 rfl 0 rfl ?_
      refine p_bipush (pc := 105) (v := 20) cx dX11_gcdLehmer_105 (by decide) ?_
      refine p_iload (pc := 107) cx dX11_gcdLehmer_107 2 rfl ?_
      refine p_bipush (pc := 109) (v := 32) cx dX11_gcdLehmer_109 (by decide) ?_
      refine p_isub (pc := 111) cx dX11_gcdLehmer_111 ?_
      refine p_callVl (pc := 112) [.int (20 : Int32), .int (r19 - 32)] cx (c_X11_high cx.2.2.2.2.2.2 hM19 hv0 hw) cf_X11_high cv_X11_high t5_99 hv0 ⟨by decide, rfl, rfl⟩ ⟨rfl, rfl⟩ ⟨Nat.le_of_ble_eq_true rfl, Nat.le_of_ble_eq_true rfl⟩ rfl rfl (Nat.le_of_ble_eq_true rfl) dX11_gcdLehmer_112 (fun r20 M20 hw hM20 => ?_)
      refine p_lstore (pc := 115) (lv' := [(0, .ref v0), (1, .int v1), (4, .int r19), (5, .long r20)]) cx dX11_gcdLehmer_115 (by decide) [1, 2, 3, 0] rfl ?_
      refine p_aload_n (pc := 117) cx dX11_gcdLehmer_117 rfl 0 rfl ?_
      refine p_bipush (pc := 118) (v := 21) cx dX11_gcdLehmer_118 (by decide) ?_
      refine p_iload (pc := 120) cx dX11_gcdLehmer_120 2 rfl ?_
      refine p_bipush (pc := 122) (v := 32) cx dX11_gcdLehmer_122 (by decide) ?_
      refine p_isub (pc := 124) cx dX11_gcdLehmer_124 ?_
      refine p_callVl (pc := 125) [.int (21 : Int32), .int (r19 - 32)] cx (c_X11_high cx.2.2.2.2.2.2 hM20 hv0 hw) cf_X11_high cv_X11_high t5_99 hv0 ⟨by decide, rfl, rfl⟩ ⟨rfl, rfl⟩ ⟨Nat.le_of_ble_eq_true rfl, Nat.le_of_ble_eq_true rfl⟩ rfl rfl (Nat.le_of_ble_eq_true rfl) dX11_gcdLehmer_125 (fun r21 M21 hw hM21 => ?_)
      refine p_lstore (pc := 128) (lv' := [(0, .ref v0), (1, .int v1), (5, .long r20), (7, .long r21)]) cx dX11_gcdLehmer_128 (by decide) [1, 2, 4, 0] rfl ?_
      refine p_lconst (pc := 130) (v := 1) cx dX11_gcdLehmer_130 (by decide) ?_
      refine p_lstore (pc := 131) (lv' := [(0, .ref v0), (1, .int v1), (5, .long r20), (7, .long r21), (9, .long (1 : Int64))]) cx dX11_gcdLehmer_131 (by decide) [1, 2, 3, 4, 0] rfl ?_
      refine p_lconst (pc := 133) (v := 0) cx dX11_gcdLehmer_133 (by decide) ?_
      refine p_lstore (pc := 134) (lv' := [(0, .ref v0), (1, .int v1), (5, .long r20), (7, .long r21), (9, .long (1 : Int64)), (11, .long (0 : Int64))]) cx dX11_gcdLehmer_134 (by decide) [1, 2, 3, 4, 5, 0] rfl ?_
      refine p_lconst (pc := 136) (v := 0) cx dX11_gcdLehmer_136 (by decide) ?_
      refine p_lstore (pc := 137) (lv' := [(0, .ref v0), (1, .int v1), (5, .long r20), (7, .long r21), (9, .long (1 : Int64)), (11, .long (0 : Int64)), (13, .long (0 : Int64))]) cx dX11_gcdLehmer_137 (by decide) [1, 2, 3, 4, 5, 6, 0] rfl ?_
      refine p_lconst (pc := 139) (v := 1) cx dX11_gcdLehmer_139 (by decide) ?_
      refine p_lstore (pc := 140) (lv' := [(0, .ref v0), (1, .int v1), (5, .long r20), (7, .long r21), (9, .long (1 : Int64)), (11, .long (0 : Int64)), (13, .long (0 : Int64)), (15, .long (1 : Int64))]) cx dX11_gcdLehmer_140 (by decide) [1, 2, 3, 4, 5, 6, 7, 0] rfl ?_
      obtain ⟨n1, hw⟩ := hw
      exact x_X11_gcdLehmer_142 cx hr hlk ih n1 v0 v1 r20 r21 1 0 0 1 M21 hM21 hv0 hw
set_option maxHeartbeats 4000000 in
set_option maxRecDepth 100000 in
theorem c_X11_gcdLehmer {l : Launch} {D : va_G} {G : SH} (hND : ND G) {a0 : Nat} {a1 : Int32} {a2 : Int32} {a3 : Int32} {M : MS} {Qp : Int32 → MS → Prop} (hT : TYR G M.2.2.1) (ha0 : Is G 10 a0) (hw : w_X11_gcdLehmer G a0 a1 a2 a3 M Qp) : MeI l D G yX11_gcdLehmer (Cond.code yX11_gcdLehmer cX11_gcdLehmer 21 (some .int) :: GW) rm_X11_gcdLehmer [.ref a0, .int a1, .int a2, .int a3] M Qp := by
  unfold MeI
  refine p_method (by decide) rfl (Nat.le_of_ble_eq_true rfl) hND ?_
  intro p e s m args below meth c cx hr hlk
  have cx : CX p s m args c D G cX11_gcdLehmer 21 RX11 := cx
  unfold w_X11_gcdLehmer at hw
  refine p_aload_n (pc := 0) cx dX11_gcdLehmer_0 rfl 0 rfl ?_
  refine p_iconst (pc := 1) (v := 0) cx dX11_gcdLehmer_1 (by decide) ?_
  refine pf_10_5 (pc := 2) cx ha0 t4_166 dX11_gcdLehmer_2 ?_
  refine p_mem (fun M1 eM1 => ?_)
  have hw := hw M1 eM1
  have hM1 : TYR G M1.2.2.1 := by rw [eM1]; exact hT
  refine p_aload_n (pc := 5) cx dX11_gcdLehmer_5 rfl 0 rfl ?_
  refine p_iload_n (pc := 6) cx dX11_gcdLehmer_6 rfl 1 rfl ?_
  refine p_callVi (pc := 7) [.int a1] cx (c_X11_no cx.2.2.2.2.2.2 hM1 ha0 hw) cf_X11_no cv_X11_no t4_203 ha0 ⟨by decide, rfl, rfl⟩ ⟨rfl, rfl⟩ ⟨Nat.le_of_ble_eq_true rfl, Nat.le_of_ble_eq_true rfl⟩ rfl rfl (Nat.le_of_ble_eq_true rfl) dX11_gcdLehmer_7 (fun r2 M2 hw hM2 => ?_)
  refine p_if_ne (pc := 10) (tgt := 29) cx dX11_gcdLehmer_10 (by decide) (fun hc => ?_) (fun hc => ?_)
  · have hw := hw.1 hc
    refine p_iconst (pc := 29) (v := 3) cx dX11_gcdLehmer_29 (by decide) ?_
    exact p_iret (pc := 30) cx hr hlk dX11_gcdLehmer_30 hM2 hw
  · have hw := hw.2 hc
    refine p_aload_n (pc := 13) cx dX11_gcdLehmer_13 rfl 0 rfl ?_
    refine p_iload_n (pc := 14) cx dX11_gcdLehmer_14 rfl 2 rfl ?_
    refine p_callVi (pc := 15) [.int a2] cx (c_X11_no cx.2.2.2.2.2.2 hM2 ha0 hw) cf_X11_no cv_X11_no t4_203 ha0 ⟨by decide, rfl, rfl⟩ ⟨rfl, rfl⟩ ⟨Nat.le_of_ble_eq_true rfl, Nat.le_of_ble_eq_true rfl⟩ rfl rfl (Nat.le_of_ble_eq_true rfl) dX11_gcdLehmer_15 (fun r3 M3 hw hM3 => ?_)
    refine p_if_ne (pc := 18) (tgt := 29) cx dX11_gcdLehmer_18 (by decide) (fun hc => ?_) (fun hc => ?_)
    · have hw := hw.1 hc
      refine p_iconst (pc := 29) (v := 3) cx dX11_gcdLehmer_29 (by decide) ?_
      exact p_iret (pc := 30) cx hr hlk dX11_gcdLehmer_30 hM3 hw
    · have hw := hw.2 hc
      refine p_aload_n (pc := 21) cx dX11_gcdLehmer_21 rfl 0 rfl ?_
      refine p_iload_n (pc := 22) cx dX11_gcdLehmer_22 rfl 3 rfl ?_
      refine p_callVi (pc := 23) [.int a3] cx (c_X11_no cx.2.2.2.2.2.2 hM3 ha0 hw) cf_X11_no cv_X11_no t4_203 ha0 ⟨by decide, rfl, rfl⟩ ⟨rfl, rfl⟩ ⟨Nat.le_of_ble_eq_true rfl, Nat.le_of_ble_eq_true rfl⟩ rfl rfl (Nat.le_of_ble_eq_true rfl) dX11_gcdLehmer_23 (fun r4 M4 hw hM4 => ?_)
      refine p_if_eq (pc := 26) (tgt := 31) cx dX11_gcdLehmer_26 (by decide) (fun hc => ?_) (fun hc => ?_)
      · have hw := hw.1 hc
        refine p_aload_n (pc := 31) cx dX11_gcdLehmer_31 rfl 0 rfl ?_
        refine p_iconst (pc := 32) (v := 0) cx dX11_gcdLehmer_32 (by decide) ?_
        refine pf_10_6 (pc := 33) cx ha0 t4_167 dX11_gcdLehmer_33 ?_
        refine p_mem (fun M5 eM5 => ?_)
        have hw := hw M5 eM5
        have hM5 : TYR G M5.2.2.1 := by rw [eM5]; exact hM4
        refine p_aload_n (pc := 36) cx dX11_gcdLehmer_36 rfl 0 rfl ?_
        refine p_bipush (pc := 37) (v := 20) cx dX11_gcdLehmer_37 (by decide) ?_
        refine p_iload_n (pc := 39) cx dX11_gcdLehmer_39 rfl 2 rfl ?_
        refine p_callVv (pc := 40) [.int (20 : Int32), .int a2] cx (c_X11_sized cx.2.2.2.2.2.2 hM5 ha0 hw) cf_X11_sized cv_X11_sized t5_83 ha0 ⟨by decide, rfl, rfl⟩ ⟨rfl, rfl⟩ ⟨Nat.le_of_ble_eq_true rfl, Nat.le_of_ble_eq_true rfl⟩ rfl rfl (Nat.le_of_ble_eq_true rfl) dX11_gcdLehmer_40 (fun M6 hw hM6 => ?_)
        refine p_aload_n (pc := 43) cx dX11_gcdLehmer_43 rfl 0 rfl ?_
        refine p_bipush (pc := 44) (v := 21) cx dX11_gcdLehmer_44 (by decide) ?_
        refine p_iload_n (pc := 46) cx dX11_gcdLehmer_46 rfl 3 rfl ?_
        refine p_callVv (pc := 47) [.int (21 : Int32), .int a3] cx (c_X11_sized cx.2.2.2.2.2.2 hM6 ha0 hw) cf_X11_sized cv_X11_sized t5_83 ha0 ⟨by decide, rfl, rfl⟩ ⟨rfl, rfl⟩ ⟨Nat.le_of_ble_eq_true rfl, Nat.le_of_ble_eq_true rfl⟩ rfl rfl (Nat.le_of_ble_eq_true rfl) dX11_gcdLehmer_47 (fun M7 hw hM7 => ?_)
        refine p_aload_n (pc := 50) cx dX11_gcdLehmer_50 rfl 0 rfl ?_
        refine p_bipush (pc := 51) (v := 20) cx dX11_gcdLehmer_51 (by decide) ?_
        refine p_bipush (pc := 53) (v := 21) cx dX11_gcdLehmer_53 (by decide) ?_
        refine p_callVi (pc := 55) [.int (20 : Int32), .int (21 : Int32)] cx (c_X11_sizes cx.2.2.2.2.2.2 hM7 ha0 hw) cf_X11_sizes cv_X11_sizes t5_12 ha0 ⟨by decide, rfl, rfl⟩ ⟨rfl, rfl⟩ ⟨Nat.le_of_ble_eq_true rfl, Nat.le_of_ble_eq_true rfl⟩ rfl rfl (Nat.le_of_ble_eq_true rfl) dX11_gcdLehmer_55 (fun r8 M8 hw hM8 => ?_)
        refine p_if_ge (pc := 58) (tgt := 85) cx dX11_gcdLehmer_58 (by decide) (fun hc => ?_) (fun hc => ?_)
        · have hw := hw.1 hc
          obtain ⟨n1, hw⟩ := hw
          refine p_perm (lv' := [(0, .ref a0), (1, .int a1)]) [0, 1] rfl ?_
          exact x_X11_gcdLehmer_85 cx hr hlk n1 a0 a1 M8 hM8 ha0 hw
        · have hw := hw.2 hc
          refine p_aload_n (pc := 61) cx dX11_gcdLehmer_61 rfl 0 rfl ?_
          refine p_bipush (pc := 62) (v := 19) cx dX11_gcdLehmer_62 (by decide) ?_
          refine p_bipush (pc := 64) (v := 20) cx dX11_gcdLehmer_64 (by decide) ?_
          refine p_callVv (pc := 66) [.int (19 : Int32), .int (20 : Int32)] cx (c_X11_copy cx.2.2.2.2.2.2 hM8 ha0 hw) cf_X11_copy cv_X11_copy t4_220 ha0 ⟨by decide, rfl, rfl⟩ ⟨rfl, rfl⟩ ⟨Nat.le_of_ble_eq_true rfl, Nat.le_of_ble_eq_true rfl⟩ rfl rfl (Nat.le_of_ble_eq_true rfl) dX11_gcdLehmer_66 (fun M32 hw hM32 => ?_)
          refine p_aload_n (pc := 69) cx dX11_gcdLehmer_69 rfl 0 rfl ?_
          refine p_bipush (pc := 70) (v := 20) cx dX11_gcdLehmer_70 (by decide) ?_
          refine p_bipush (pc := 72) (v := 21) cx dX11_gcdLehmer_72 (by decide) ?_
          refine p_callVv (pc := 74) [.int (20 : Int32), .int (21 : Int32)] cx (c_X11_copy cx.2.2.2.2.2.2 hM32 ha0 hw) cf_X11_copy cv_X11_copy t4_220 ha0 ⟨by decide, rfl, rfl⟩ ⟨rfl, rfl⟩ ⟨Nat.le_of_ble_eq_true rfl, Nat.le_of_ble_eq_true rfl⟩ rfl rfl (Nat.le_of_ble_eq_true rfl) dX11_gcdLehmer_74 (fun M33 hw hM33 => ?_)
          refine p_aload_n (pc := 77) cx dX11_gcdLehmer_77 rfl 0 rfl ?_
          refine p_bipush (pc := 78) (v := 21) cx dX11_gcdLehmer_78 (by decide) ?_
          refine p_bipush (pc := 80) (v := 19) cx dX11_gcdLehmer_80 (by decide) ?_
          refine p_callVv (pc := 82) [.int (21 : Int32), .int (19 : Int32)] cx (c_X11_copy cx.2.2.2.2.2.2 hM33 ha0 hw) cf_X11_copy cv_X11_copy t4_220 ha0 ⟨by decide, rfl, rfl⟩ ⟨rfl, rfl⟩ ⟨Nat.le_of_ble_eq_true rfl, Nat.le_of_ble_eq_true rfl⟩ rfl rfl (Nat.le_of_ble_eq_true rfl) dX11_gcdLehmer_82 (fun M34 hw hM34 => ?_)
          obtain ⟨n1, hw⟩ := hw
          refine p_perm (lv' := [(0, .ref a0), (1, .int a1)]) [0, 1] rfl ?_
          exact x_X11_gcdLehmer_85 cx hr hlk n1 a0 a1 M34 hM34 ha0 hw
      · have hw := hw.2 hc
        refine p_iconst (pc := 29) (v := 3) cx dX11_gcdLehmer_29 (by decide) ?_
        exact p_iret (pc := 30) cx hr hlk dX11_gcdLehmer_30 hM4 hw
set_option maxHeartbeats 4000000 in
set_option maxRecDepth 100000 in
theorem c_X11_lastSteps {l : Launch} {D : va_G} {G : SH} (hND : ND G) {a0 : Nat} {M : MS} {Qp : Int32 → MS → Prop} (hT : TYR G M.2.2.1) (ha0 : Is G 10 a0) (hw : w_X11_lastSteps G a0 M Qp) : MeI l D G yX11_lastSteps (Cond.code yX11_lastSteps cX11_lastSteps 1 (some .int) :: GW) rm_X11_lastSteps [.ref a0] M Qp := by
  unfold MeI
  refine p_method (by decide) rfl (Nat.le_of_ble_eq_true rfl) hND ?_
  intro p e s m args below meth c cx hr hlk
  have cx : CX p s m args c D G cX11_lastSteps 1 RX11 := cx
  unfold w_X11_lastSteps at hw
  refine p_aload_n (pc := 0) cx dX11_lastSteps_0 rfl 0 rfl ?_
  refine p_iconst (pc := 1) (v := 0) cx dX11_lastSteps_1 (by decide) ?_
  refine pf_10_5 (pc := 2) cx ha0 t4_166 dX11_lastSteps_2 ?_
  refine p_mem (fun M1 eM1 => ?_)
  have hw := hw M1 eM1
  have hM1 : TYR G M1.2.2.1 := by rw [eM1]; exact hT
  refine p_aload_n (pc := 5) cx dX11_lastSteps_5 rfl 0 rfl ?_
  refine gf_10_6 (pc := 6) cx ha0 t4_167 dX11_lastSteps_6 ?_
  exact p_iret (pc := 9) cx hr hlk dX11_lastSteps_9 hM1 hw
set_option maxHeartbeats 4000000 in
set_option maxRecDepth 100000 in
theorem x_X11_factors_181 {p : Program} {l : Launch} {e : Env} {s : State} {m : MethodId} {args : Array Value} {below : List Frame} {meth : Method} {c : Code} {D : va_G} {G : SH} {Qp : MS → Prop}  (cx : CX p s m args c D G cX11_factors 3 RX11) (hr : meth.sig.returnType = none) (hlk : meth.locks = false)  (v0 : Nat) (v2 : Int32) (M : MS) (hT : TYR G M.2.2.1) (hv0 : Is G 10 v0) (hw : w_X11_factors_181 G Qp v0 v2 M) : PW p l e rm_X11_factors s m args below meth c D G 3 (MQ below (va_Qv Qp (POST D G) (AG G)) args s 0 0 (AG G)) 181 [(0, .ref v0), (2, .int v2)] [] M := by
  unfold w_X11_factors_181 at hw
  refine p_aload_n (pc := 181) cx dX11_factors_181 rfl 0 rfl ?_
  refine gf_10_2 (pc := 182) cx hv0 t4_163 dX11_factors_182 ?_
  have hr_9 : Is G 12 (mR M v0 2) := TYR.at hT hv0 2 12 rfl (by decide)
  refine p_iload_n (pc := 185) cx dX11_factors_185 rfl 1 rfl ?_
  refine p_iald (pc := 186) cx hr_9 hw.1 dX11_factors_186 ?_
  have hw := hw.2
  refine p_if_ge (pc := 187) (tgt := 205) cx dX11_factors_187 (by decide) (fun hc => ?_) (fun hc => ?_)
  · have hw := hw.1 hc
    exact p_vret (pc := 205) cx hr hlk dX11_factors_205 hT hw
  · have hw := hw.2 hc
    refine p_aload_n (pc := 190) cx dX11_factors_190 rfl 0 rfl ?_
    refine gf_10_2 (pc := 191) cx hv0 t4_163 dX11_factors_191 ?_
    have hr_10 : Is G 12 (mR M v0 2) := TYR.at hT hv0 2 12 rfl (by decide)
    refine p_bipush (pc := 194) (v := 23) cx dX11_factors_194 (by decide) ?_
    refine p_aload_n (pc := 196) cx dX11_factors_196 rfl 0 rfl ?_
    refine gf_10_2 (pc := 197) cx hv0 t4_163 dX11_factors_197 ?_
    have hr_11 : Is G 12 (mR M v0 2) := TYR.at hT hv0 2 12 rfl (by decide)
    refine p_bipush (pc := 200) (v := 23) cx dX11_factors_200 (by decide) ?_
    refine p_iald (pc := 202) cx hr_11 hw.1 dX11_factors_202 ?_
    have hw := hw.2
    refine p_ineg (pc := 203) cx dX11_factors_203 ?_
    refine p_iast (pc := 204) cx hr_10 hw.1 dX11_factors_204 ?_
    have hw := hw.2
    refine p_mem (fun M12 eM12 => ?_)
    have hw := hw M12 eM12
    have hM12 : TYR G M12.2.2.1 := by rw [eM12]; exact hT
    exact p_vret (pc := 205) cx hr hlk dX11_factors_205 hM12 hw
set_option maxHeartbeats 4000000 in
set_option maxRecDepth 100000 in
theorem x_X11_factors_42 {p : Program} {l : Launch} {e : Env} {s : State} {m : MethodId} {args : Array Value} {below : List Frame} {meth : Method} {c : Code} {D : va_G} {G : SH} {Qp : MS → Prop}  (cx : CX p s m args c D G cX11_factors 3 RX11) (hr : meth.sig.returnType = none) (hlk : meth.locks = false)  : ∀ (n : Nat) (v0 : Nat) (v1 : Int32) (v2 : Int32) (M : MS), TYR G M.2.2.1 → Is G 10 v0 → w_X11_factors_42 G Qp n v0 v1 v2 M → PW p l e rm_X11_factors s m args below meth c D G 3 (MQ below (va_Qv Qp (POST D G) (AG G)) args s 0 0 (AG G)) 42 [(0, .ref v0), (1, .int v1), (2, .int v2)] [] M := by
  intro n
  induction n with
  | zero =>
    intro v0 v1 v2 M hT hv0 hw
    exact hw.elim
  | succ n ih =>
    intro v0 v1 v2 M hT hv0 hw
    rw [w_X11_factors_42] at hw
    refine p_aload_n (pc := 42) cx dX11_factors_42 rfl 0 rfl ?_
    refine gf_10_1 (pc := 43) cx hv0 t4_162 dX11_factors_43 ?_
    have hr_7 : Is G 12 (mR M v0 1) := TYR.at hT hv0 1 12 rfl (by decide)
    refine p_bipush (pc := 46) (v := 21) cx dX11_factors_46 (by decide) ?_
    refine p_iald (pc := 48) cx hr_7 hw.1 dX11_factors_48 ?_
    have hw := hw.2
    refine p_if_le (pc := 49) (tgt := 157) cx dX11_factors_49 (by decide) (fun hc => ?_) (fun hc => ?_)
    · have hw := hw.1 hc
      refine p_aload_n (pc := 157) cx dX11_factors_157 rfl 0 rfl ?_
      refine gf_10_2 (pc := 158) cx hv0 t4_163 dX11_factors_158 ?_
      have hr_8 : Is G 12 (mR M v0 2) := TYR.at hT hv0 2 12 rfl (by decide)
      refine p_iload_n (pc := 161) cx dX11_factors_161 rfl 1 rfl ?_
      refine p_iald (pc := 162) cx hr_8 hw.1 dX11_factors_162 ?_
      have hw := hw.2
      refine p_if_ge (pc := 163) (tgt := 181) cx dX11_factors_163 (by decide) (fun hc => ?_) (fun hc => ?_)
      · have hw := hw.1 hc
        refine p_perm (lv' := [(0, .ref v0), (2, .int v2)]) [0, 2] rfl ?_
        exact x_X11_factors_181 cx hr hlk v0 v2 M hT hv0 hw
      · have hw := hw.2 hc
        refine p_aload_n (pc := 166) cx dX11_factors_166 rfl 0 rfl ?_
        refine gf_10_2 (pc := 167) cx hv0 t4_163 dX11_factors_167 ?_
        have hr_13 : Is G 12 (mR M v0 2) := TYR.at hT hv0 2 12 rfl (by decide)
        refine p_bipush (pc := 170) (v := 22) cx dX11_factors_170 (by decide) ?_
        refine p_aload_n (pc := 172) cx dX11_factors_172 rfl 0 rfl ?_
        refine gf_10_2 (pc := 173) cx hv0 t4_163 dX11_factors_173 ?_
        have hr_14 : Is G 12 (mR M v0 2) := TYR.at hT hv0 2 12 rfl (by decide)
        refine p_bipush (pc := 176) (v := 22) cx dX11_factors_176 (by decide) ?_
        refine p_iald (pc := 178) cx hr_14 hw.1 dX11_factors_178 ?_
        have hw := hw.2
        refine p_ineg (pc := 179) cx dX11_factors_179 ?_
        refine p_iast (pc := 180) cx hr_13 hw.1 dX11_factors_180 ?_
        have hw := hw.2
        refine p_mem (fun M15 eM15 => ?_)
        have hw := hw M15 eM15
        have hM15 : TYR G M15.2.2.1 := by rw [eM15]; exact hT
        refine p_perm (lv' := [(0, .ref v0), (2, .int v2)]) [0, 2] rfl ?_
        exact x_X11_factors_181 cx hr hlk v0 v2 M15 hM15 hv0 hw
    · have hw := hw.2 hc
      refine p_aload_n (pc := 52) cx dX11_factors_52 rfl 0 rfl ?_
      refine p_bipush (pc := 53) (v := 17) cx dX11_factors_53 (by decide) ?_
      refine p_bipush (pc := 55) (v := 18) cx dX11_factors_55 (by decide) ?_
      refine p_bipush (pc := 57) (v := 20) cx dX11_factors_57 (by decide) ?_
      refine p_bipush (pc := 59) (v := 21) cx dX11_factors_59 (by decide) ?_
      refine p_callVv (pc := 61) [.int (17 : Int32), .int (18 : Int32), .int (20 : Int32), .int (21 : Int32)] cx (c_X11_quotient cx.2.2.2.2.2.2 hT hv0 hw) cf_X11_quotient cv_X11_quotient t5_41 hv0 ⟨by decide, rfl, rfl⟩ ⟨rfl, rfl⟩ ⟨Nat.le_of_ble_eq_true rfl, Nat.le_of_ble_eq_true rfl⟩ rfl rfl (Nat.le_of_ble_eq_true rfl) dX11_factors_61 (fun M16 hw hM16 => ?_)
      refine p_aload_n (pc := 64) cx dX11_factors_64 rfl 0 rfl ?_
      refine p_bipush (pc := 65) (v := 20) cx dX11_factors_65 (by decide) ?_
      refine p_bipush (pc := 67) (v := 21) cx dX11_factors_67 (by decide) ?_
      refine p_callVv (pc := 69) [.int (20 : Int32), .int (21 : Int32)] cx (c_X11_copy cx.2.2.2.2.2.2 hM16 hv0 hw) cf_X11_copy cv_X11_copy t4_220 hv0 ⟨by decide, rfl, rfl⟩ ⟨rfl, rfl⟩ ⟨Nat.le_of_ble_eq_true rfl, Nat.le_of_ble_eq_true rfl⟩ rfl rfl (Nat.le_of_ble_eq_true rfl) dX11_factors_69 (fun M17 hw hM17 => ?_)
      refine p_aload_n (pc := 72) cx dX11_factors_72 rfl 0 rfl ?_
      refine p_bipush (pc := 73) (v := 21) cx dX11_factors_73 (by decide) ?_
      refine p_bipush (pc := 75) (v := 18) cx dX11_factors_75 (by decide) ?_
      refine p_callVv (pc := 77) [.int (21 : Int32), .int (18 : Int32)] cx (c_X11_copy cx.2.2.2.2.2.2 hM17 hv0 hw) cf_X11_copy cv_X11_copy t4_220 hv0 ⟨by decide, rfl, rfl⟩ ⟨rfl, rfl⟩ ⟨Nat.le_of_ble_eq_true rfl, Nat.le_of_ble_eq_true rfl⟩ rfl rfl (Nat.le_of_ble_eq_true rfl) dX11_factors_77 (fun M18 hw hM18 => ?_)
      refine p_aload_n (pc := 80) cx dX11_factors_80 rfl 0 rfl ?_
      refine p_bipush (pc := 81) (v := 25) cx dX11_factors_81 (by decide) ?_
      refine p_bipush (pc := 83) (v := 17) cx dX11_factors_83 (by decide) ?_
      refine p_bipush (pc := 85) (v := 24) cx dX11_factors_85 (by decide) ?_
      refine p_callVv (pc := 87) [.int (25 : Int32), .int (17 : Int32), .int (24 : Int32)] cx (c_X11_product cx.2.2.2.2.2.2 hM18 hv0 hw) cf_X11_product cv_X11_product t5_28 hv0 ⟨by decide, rfl, rfl⟩ ⟨rfl, rfl⟩ ⟨Nat.le_of_ble_eq_true rfl, Nat.le_of_ble_eq_true rfl⟩ rfl rfl (Nat.le_of_ble_eq_true rfl) dX11_factors_87 (fun M19 hw hM19 => ?_)
      refine p_aload_n (pc := 90) cx dX11_factors_90 rfl 0 rfl ?_
      refine p_bipush (pc := 91) (v := 19) cx dX11_factors_91 (by decide) ?_
      refine p_bipush (pc := 93) (v := 22) cx dX11_factors_93 (by decide) ?_
      refine p_bipush (pc := 95) (v := 25) cx dX11_factors_95 (by decide) ?_
      refine p_iconst (pc := 97) (v := (-1)) cx dX11_factors_97 (by decide) ?_
      refine p_callVv (pc := 98) [.int (19 : Int32), .int (22 : Int32), .int (25 : Int32), .int ((-1) : Int32)] cx (c_X11_sum cx.2.2.2.2.2.2 hM19 hv0 hw) cf_X11_sum cv_X11_sum t5_0 hv0 ⟨by decide, rfl, rfl⟩ ⟨rfl, rfl⟩ ⟨Nat.le_of_ble_eq_true rfl, Nat.le_of_ble_eq_true rfl⟩ rfl rfl (Nat.le_of_ble_eq_true rfl) dX11_factors_98 (fun M20 hw hM20 => ?_)
      refine p_aload_n (pc := 101) cx dX11_factors_101 rfl 0 rfl ?_
      refine p_bipush (pc := 102) (v := 22) cx dX11_factors_102 (by decide) ?_
      refine p_bipush (pc := 104) (v := 24) cx dX11_factors_104 (by decide) ?_
      refine p_callVv (pc := 106) [.int (22 : Int32), .int (24 : Int32)] cx (c_X11_copy cx.2.2.2.2.2.2 hM20 hv0 hw) cf_X11_copy cv_X11_copy t4_220 hv0 ⟨by decide, rfl, rfl⟩ ⟨rfl, rfl⟩ ⟨Nat.le_of_ble_eq_true rfl, Nat.le_of_ble_eq_true rfl⟩ rfl rfl (Nat.le_of_ble_eq_true rfl) dX11_factors_106 (fun M21 hw hM21 => ?_)
      refine p_aload_n (pc := 109) cx dX11_factors_109 rfl 0 rfl ?_
      refine p_bipush (pc := 110) (v := 24) cx dX11_factors_110 (by decide) ?_
      refine p_bipush (pc := 112) (v := 19) cx dX11_factors_112 (by decide) ?_
      refine p_callVv (pc := 114) [.int (24 : Int32), .int (19 : Int32)] cx (c_X11_copy cx.2.2.2.2.2.2 hM21 hv0 hw) cf_X11_copy cv_X11_copy t4_220 hv0 ⟨by decide, rfl, rfl⟩ ⟨rfl, rfl⟩ ⟨Nat.le_of_ble_eq_true rfl, Nat.le_of_ble_eq_true rfl⟩ rfl rfl (Nat.le_of_ble_eq_true rfl) dX11_factors_114 (fun M22 hw hM22 => ?_)
      refine p_aload_n (pc := 117) cx dX11_factors_117 rfl 0 rfl ?_
      refine p_bipush (pc := 118) (v := 25) cx dX11_factors_118 (by decide) ?_
      refine p_bipush (pc := 120) (v := 17) cx dX11_factors_120 (by decide) ?_
      refine p_bipush (pc := 122) (v := 30) cx dX11_factors_122 (by decide) ?_
      refine p_callVv (pc := 124) [.int (25 : Int32), .int (17 : Int32), .int (30 : Int32)] cx (c_X11_product cx.2.2.2.2.2.2 hM22 hv0 hw) cf_X11_product cv_X11_product t5_28 hv0 ⟨by decide, rfl, rfl⟩ ⟨rfl, rfl⟩ ⟨Nat.le_of_ble_eq_true rfl, Nat.le_of_ble_eq_true rfl⟩ rfl rfl (Nat.le_of_ble_eq_true rfl) dX11_factors_124 (fun M23 hw hM23 => ?_)
      refine p_aload_n (pc := 127) cx dX11_factors_127 rfl 0 rfl ?_
      refine p_bipush (pc := 128) (v := 19) cx dX11_factors_128 (by decide) ?_
      refine p_bipush (pc := 130) (v := 23) cx dX11_factors_130 (by decide) ?_
      refine p_bipush (pc := 132) (v := 25) cx dX11_factors_132 (by decide) ?_
      refine p_iconst (pc := 134) (v := (-1)) cx dX11_factors_134 (by decide) ?_
      refine p_callVv (pc := 135) [.int (19 : Int32), .int (23 : Int32), .int (25 : Int32), .int ((-1) : Int32)] cx (c_X11_sum cx.2.2.2.2.2.2 hM23 hv0 hw) cf_X11_sum cv_X11_sum t5_0 hv0 ⟨by decide, rfl, rfl⟩ ⟨rfl, rfl⟩ ⟨Nat.le_of_ble_eq_true rfl, Nat.le_of_ble_eq_true rfl⟩ rfl rfl (Nat.le_of_ble_eq_true rfl) dX11_factors_135 (fun M24 hw hM24 => ?_)
      refine p_aload_n (pc := 138) cx dX11_factors_138 rfl 0 rfl ?_
      refine p_bipush (pc := 139) (v := 23) cx dX11_factors_139 (by decide) ?_
      refine p_bipush (pc := 141) (v := 30) cx dX11_factors_141 (by decide) ?_
      refine p_callVv (pc := 143) [.int (23 : Int32), .int (30 : Int32)] cx (c_X11_copy cx.2.2.2.2.2.2 hM24 hv0 hw) cf_X11_copy cv_X11_copy t4_220 hv0 ⟨by decide, rfl, rfl⟩ ⟨rfl, rfl⟩ ⟨Nat.le_of_ble_eq_true rfl, Nat.le_of_ble_eq_true rfl⟩ rfl rfl (Nat.le_of_ble_eq_true rfl) dX11_factors_143 (fun M25 hw hM25 => ?_)
      refine p_aload_n (pc := 146) cx dX11_factors_146 rfl 0 rfl ?_
      refine p_bipush (pc := 147) (v := 30) cx dX11_factors_147 (by decide) ?_
      refine p_bipush (pc := 149) (v := 19) cx dX11_factors_149 (by decide) ?_
      refine p_callVv (pc := 151) [.int (30 : Int32), .int (19 : Int32)] cx (c_X11_copy cx.2.2.2.2.2.2 hM25 hv0 hw) cf_X11_copy cv_X11_copy t4_220 hv0 ⟨by decide, rfl, rfl⟩ ⟨rfl, rfl⟩ ⟨Nat.le_of_ble_eq_true rfl, Nat.le_of_ble_eq_true rfl⟩ rfl rfl (Nat.le_of_ble_eq_true rfl) dX11_factors_151 (fun M26 hw hM26 => ?_)
      refine p_goto (pc := 154) (tgt := 42) cx dX11_factors_154 (by decide) ?_
      exact ih v0 v1 v2 M26 hM26 hv0 hw
set_option maxHeartbeats 4000000 in
set_option maxRecDepth 100000 in
theorem c_X11_factors {l : Launch} {D : va_G} {G : SH} (hND : ND G) {a0 : Nat} {a1 : Int32} {a2 : Int32} {M : MS} {Qp : MS → Prop} (hT : TYR G M.2.2.1) (ha0 : Is G 10 a0) (hw : w_X11_factors G a0 a1 a2 M Qp) : MeV l D G yX11_factors (Cond.code yX11_factors cX11_factors 3 none :: GW) rm_X11_factors [.ref a0, .int a1, .int a2] M Qp := by
  unfold MeV
  refine p_method (by decide) rfl (Nat.le_of_ble_eq_true rfl) hND ?_
  intro p e s m args below meth c cx hr hlk
  have cx : CX p s m args c D G cX11_factors 3 RX11 := cx
  unfold w_X11_factors at hw
  refine p_aload_n (pc := 0) cx dX11_factors_0 rfl 0 rfl ?_
  refine p_bipush (pc := 1) (v := 20) cx dX11_factors_1 (by decide) ?_
  refine p_iload_n (pc := 3) cx dX11_factors_3 rfl 1 rfl ?_
  refine p_callVv (pc := 4) [.int (20 : Int32), .int a1] cx (c_X11_sized cx.2.2.2.2.2.2 hT ha0 hw) cf_X11_sized cv_X11_sized t5_83 ha0 ⟨by decide, rfl, rfl⟩ ⟨rfl, rfl⟩ ⟨Nat.le_of_ble_eq_true rfl, Nat.le_of_ble_eq_true rfl⟩ rfl rfl (Nat.le_of_ble_eq_true rfl) dX11_factors_4 (fun M1 hw hM1 => ?_)
  refine p_aload_n (pc := 7) cx dX11_factors_7 rfl 0 rfl ?_
  refine p_bipush (pc := 8) (v := 21) cx dX11_factors_8 (by decide) ?_
  refine p_iload_n (pc := 10) cx dX11_factors_10 rfl 2 rfl ?_
  refine p_callVv (pc := 11) [.int (21 : Int32), .int a2] cx (c_X11_sized cx.2.2.2.2.2.2 hM1 ha0 hw) cf_X11_sized cv_X11_sized t5_83 ha0 ⟨by decide, rfl, rfl⟩ ⟨rfl, rfl⟩ ⟨Nat.le_of_ble_eq_true rfl, Nat.le_of_ble_eq_true rfl⟩ rfl rfl (Nat.le_of_ble_eq_true rfl) dX11_factors_11 (fun M2 hw hM2 => ?_)
  refine p_aload_n (pc := 14) cx dX11_factors_14 rfl 0 rfl ?_
  refine p_bipush (pc := 15) (v := 22) cx dX11_factors_15 (by decide) ?_
  refine p_iconst (pc := 17) (v := 1) cx dX11_factors_17 (by decide) ?_
  refine p_callVv (pc := 18) [.int (22 : Int32), .int (1 : Int32)] cx (c_X11_small cx.2.2.2.2.2.2 hM2 ha0 hw) cf_X11_small cv_X11_small t4_228 ha0 ⟨by decide, rfl, rfl⟩ ⟨rfl, rfl⟩ ⟨Nat.le_of_ble_eq_true rfl, Nat.le_of_ble_eq_true rfl⟩ rfl rfl (Nat.le_of_ble_eq_true rfl) dX11_factors_18 (fun M3 hw hM3 => ?_)
  refine p_aload_n (pc := 21) cx dX11_factors_21 rfl 0 rfl ?_
  refine p_bipush (pc := 22) (v := 24) cx dX11_factors_22 (by decide) ?_
  refine p_iconst (pc := 24) (v := 0) cx dX11_factors_24 (by decide) ?_
  refine p_callVv (pc := 25) [.int (24 : Int32), .int (0 : Int32)] cx (c_X11_small cx.2.2.2.2.2.2 hM3 ha0 hw) cf_X11_small cv_X11_small t4_228 ha0 ⟨by decide, rfl, rfl⟩ ⟨rfl, rfl⟩ ⟨Nat.le_of_ble_eq_true rfl, Nat.le_of_ble_eq_true rfl⟩ rfl rfl (Nat.le_of_ble_eq_true rfl) dX11_factors_25 (fun M4 hw hM4 => ?_)
  refine p_aload_n (pc := 28) cx dX11_factors_28 rfl 0 rfl ?_
  refine p_bipush (pc := 29) (v := 23) cx dX11_factors_29 (by decide) ?_
  refine p_iconst (pc := 31) (v := 0) cx dX11_factors_31 (by decide) ?_
  refine p_callVv (pc := 32) [.int (23 : Int32), .int (0 : Int32)] cx (c_X11_small cx.2.2.2.2.2.2 hM4 ha0 hw) cf_X11_small cv_X11_small t4_228 ha0 ⟨by decide, rfl, rfl⟩ ⟨rfl, rfl⟩ ⟨Nat.le_of_ble_eq_true rfl, Nat.le_of_ble_eq_true rfl⟩ rfl rfl (Nat.le_of_ble_eq_true rfl) dX11_factors_32 (fun M5 hw hM5 => ?_)
  refine p_aload_n (pc := 35) cx dX11_factors_35 rfl 0 rfl ?_
  refine p_bipush (pc := 36) (v := 30) cx dX11_factors_36 (by decide) ?_
  refine p_iconst (pc := 38) (v := 1) cx dX11_factors_38 (by decide) ?_
  refine p_callVv (pc := 39) [.int (30 : Int32), .int (1 : Int32)] cx (c_X11_small cx.2.2.2.2.2.2 hM5 ha0 hw) cf_X11_small cv_X11_small t4_228 ha0 ⟨by decide, rfl, rfl⟩ ⟨rfl, rfl⟩ ⟨Nat.le_of_ble_eq_true rfl, Nat.le_of_ble_eq_true rfl⟩ rfl rfl (Nat.le_of_ble_eq_true rfl) dX11_factors_39 (fun M6 hw hM6 => ?_)
  obtain ⟨n1, hw⟩ := hw
  exact x_X11_factors_42 cx hr hlk n1 a0 a1 a2 M6 hM6 ha0 hw
set_option maxHeartbeats 4000000 in
set_option maxRecDepth 100000 in
theorem c_X11_bezout {l : Launch} {D : va_G} {G : SH} (hND : ND G) {a0 : Nat} {a1 : Int32} {a2 : Int32} {a3 : Int32} {a4 : Int32} {a5 : Int32} {M : MS} {Qp : Int32 → MS → Prop} (hT : TYR G M.2.2.1) (ha0 : Is G 10 a0) (hw : w_X11_bezout G a0 a1 a2 a3 a4 a5 M Qp) : MeI l D G yX11_bezout (Cond.code yX11_bezout cX11_bezout 6 (some .int) :: GW) rm_X11_bezout [.ref a0, .int a1, .int a2, .int a3, .int a4, .int a5] M Qp := by
  unfold MeI
  refine p_method (by decide) rfl (Nat.le_of_ble_eq_true rfl) hND ?_
  intro p e s m args below meth c cx hr hlk
  have cx : CX p s m args c D G cX11_bezout 6 RX11 := cx
  unfold w_X11_bezout at hw
  refine p_aload_n (pc := 0) cx dX11_bezout_0 rfl 0 rfl ?_
  refine p_iconst (pc := 1) (v := 0) cx dX11_bezout_1 (by decide) ?_
  refine pf_10_5 (pc := 2) cx ha0 t4_166 dX11_bezout_2 ?_
  refine p_mem (fun M1 eM1 => ?_)
  have hw := hw M1 eM1
  have hM1 : TYR G M1.2.2.1 := by rw [eM1]; exact hT
  refine p_aload_n (pc := 5) cx dX11_bezout_5 rfl 0 rfl ?_
  refine p_iload_n (pc := 6) cx dX11_bezout_6 rfl 1 rfl ?_
  refine p_callVi (pc := 7) [.int a1] cx (c_X11_no cx.2.2.2.2.2.2 hM1 ha0 hw) cf_X11_no cv_X11_no t4_203 ha0 ⟨by decide, rfl, rfl⟩ ⟨rfl, rfl⟩ ⟨Nat.le_of_ble_eq_true rfl, Nat.le_of_ble_eq_true rfl⟩ rfl rfl (Nat.le_of_ble_eq_true rfl) dX11_bezout_7 (fun r2 M2 hw hM2 => ?_)
  refine p_if_ne (pc := 10) (tgt := 62) cx dX11_bezout_10 (by decide) (fun hc => ?_) (fun hc => ?_)
  · have hw := hw.1 hc
    refine p_iconst (pc := 62) (v := 3) cx dX11_bezout_62 (by decide) ?_
    exact p_iret (pc := 63) cx hr hlk dX11_bezout_63 hM2 hw
  · have hw := hw.2 hc
    refine p_aload_n (pc := 13) cx dX11_bezout_13 rfl 0 rfl ?_
    refine p_iload_n (pc := 14) cx dX11_bezout_14 rfl 2 rfl ?_
    refine p_callVi (pc := 15) [.int a2] cx (c_X11_no cx.2.2.2.2.2.2 hM2 ha0 hw) cf_X11_no cv_X11_no t4_203 ha0 ⟨by decide, rfl, rfl⟩ ⟨rfl, rfl⟩ ⟨Nat.le_of_ble_eq_true rfl, Nat.le_of_ble_eq_true rfl⟩ rfl rfl (Nat.le_of_ble_eq_true rfl) dX11_bezout_15 (fun r3 M3 hw hM3 => ?_)
    refine p_if_ne (pc := 18) (tgt := 62) cx dX11_bezout_18 (by decide) (fun hc => ?_) (fun hc => ?_)
    · have hw := hw.1 hc
      refine p_iconst (pc := 62) (v := 3) cx dX11_bezout_62 (by decide) ?_
      exact p_iret (pc := 63) cx hr hlk dX11_bezout_63 hM3 hw
    · have hw := hw.2 hc
      refine p_aload_n (pc := 21) cx dX11_bezout_21 rfl 0 rfl ?_
      refine p_iload_n (pc := 22) cx dX11_bezout_22 rfl 3 rfl ?_
      refine p_callVi (pc := 23) [.int a3] cx (c_X11_no cx.2.2.2.2.2.2 hM3 ha0 hw) cf_X11_no cv_X11_no t4_203 ha0 ⟨by decide, rfl, rfl⟩ ⟨rfl, rfl⟩ ⟨Nat.le_of_ble_eq_true rfl, Nat.le_of_ble_eq_true rfl⟩ rfl rfl (Nat.le_of_ble_eq_true rfl) dX11_bezout_23 (fun r4 M4 hw hM4 => ?_)
      refine p_if_ne (pc := 26) (tgt := 62) cx dX11_bezout_26 (by decide) (fun hc => ?_) (fun hc => ?_)
      · have hw := hw.1 hc
        refine p_iconst (pc := 62) (v := 3) cx dX11_bezout_62 (by decide) ?_
        exact p_iret (pc := 63) cx hr hlk dX11_bezout_63 hM4 hw
      · have hw := hw.2 hc
        refine p_aload_n (pc := 29) cx dX11_bezout_29 rfl 0 rfl ?_
        refine p_iload (pc := 30) cx dX11_bezout_30 4 rfl ?_
        refine p_callVi (pc := 32) [.int a4] cx (c_X11_no cx.2.2.2.2.2.2 hM4 ha0 hw) cf_X11_no cv_X11_no t4_203 ha0 ⟨by decide, rfl, rfl⟩ ⟨rfl, rfl⟩ ⟨Nat.le_of_ble_eq_true rfl, Nat.le_of_ble_eq_true rfl⟩ rfl rfl (Nat.le_of_ble_eq_true rfl) dX11_bezout_32 (fun r5 M5 hw hM5 => ?_)
        refine p_if_ne (pc := 35) (tgt := 62) cx dX11_bezout_35 (by decide) (fun hc => ?_) (fun hc => ?_)
        · have hw := hw.1 hc
          refine p_iconst (pc := 62) (v := 3) cx dX11_bezout_62 (by decide) ?_
          exact p_iret (pc := 63) cx hr hlk dX11_bezout_63 hM5 hw
        · have hw := hw.2 hc
          refine p_aload_n (pc := 38) cx dX11_bezout_38 rfl 0 rfl ?_
          refine p_iload (pc := 39) cx dX11_bezout_39 5 rfl ?_
          refine p_callVi (pc := 41) [.int a5] cx (c_X11_no cx.2.2.2.2.2.2 hM5 ha0 hw) cf_X11_no cv_X11_no t4_203 ha0 ⟨by decide, rfl, rfl⟩ ⟨rfl, rfl⟩ ⟨Nat.le_of_ble_eq_true rfl, Nat.le_of_ble_eq_true rfl⟩ rfl rfl (Nat.le_of_ble_eq_true rfl) dX11_bezout_41 (fun r6 M6 hw hM6 => ?_)
          refine p_if_ne (pc := 44) (tgt := 62) cx dX11_bezout_44 (by decide) (fun hc => ?_) (fun hc => ?_)
          · have hw := hw.1 hc
            refine p_iconst (pc := 62) (v := 3) cx dX11_bezout_62 (by decide) ?_
            exact p_iret (pc := 63) cx hr hlk dX11_bezout_63 hM6 hw
          · have hw := hw.2 hc
            refine p_iload_n (pc := 47) cx dX11_bezout_47 rfl 1 rfl ?_
            refine p_iload_n (pc := 48) cx dX11_bezout_48 rfl 2 rfl ?_
            refine p_icmp_eq (pc := 49) (tgt := 62) cx dX11_bezout_49 (by decide) (fun hc => ?_) (fun hc => ?_)
            · have hw := hw.1 hc
              refine p_iconst (pc := 62) (v := 3) cx dX11_bezout_62 (by decide) ?_
              exact p_iret (pc := 63) cx hr hlk dX11_bezout_63 hM6 hw
            · have hw := hw.2 hc
              refine p_iload_n (pc := 52) cx dX11_bezout_52 rfl 1 rfl ?_
              refine p_iload_n (pc := 53) cx dX11_bezout_53 rfl 3 rfl ?_
              refine p_icmp_eq (pc := 54) (tgt := 62) cx dX11_bezout_54 (by decide) (fun hc => ?_) (fun hc => ?_)
              · have hw := hw.1 hc
                refine p_iconst (pc := 62) (v := 3) cx dX11_bezout_62 (by decide) ?_
                exact p_iret (pc := 63) cx hr hlk dX11_bezout_63 hM6 hw
              · have hw := hw.2 hc
                refine p_iload_n (pc := 57) cx dX11_bezout_57 rfl 2 rfl ?_
                refine p_iload_n (pc := 58) cx dX11_bezout_58 rfl 3 rfl ?_
                refine p_icmp_ne (pc := 59) (tgt := 64) cx dX11_bezout_59 (by decide) (fun hc => ?_) (fun hc => ?_)
                · have hw := hw.1 hc
                  refine p_aload_n (pc := 64) cx dX11_bezout_64 rfl 0 rfl ?_
                  refine p_iload (pc := 65) cx dX11_bezout_65 4 rfl ?_
                  refine p_iload (pc := 67) cx dX11_bezout_67 5 rfl ?_
                  refine p_callVv (pc := 69) [.int a4, .int a5] cx (c_X11_factors cx.2.2.2.2.2.2 hM6 ha0 hw) cf_X11_factors cv_X11_factors t5_127 ha0 ⟨by decide, rfl, rfl⟩ ⟨rfl, rfl⟩ ⟨Nat.le_of_ble_eq_true rfl, Nat.le_of_ble_eq_true rfl⟩ rfl rfl (Nat.le_of_ble_eq_true rfl) dX11_bezout_69 (fun M7 hw hM7 => ?_)
                  refine p_aload_n (pc := 72) cx dX11_bezout_72 rfl 0 rfl ?_
                  refine p_bipush (pc := 73) (v := 20) cx dX11_bezout_73 (by decide) ?_
                  refine p_callVi (pc := 75) [.int (20 : Int32)] cx (c_X11_fits cx.2.2.2.2.2.2 hM7 ha0 hw) cf_X11_fits cv_X11_fits t4_216 ha0 ⟨by decide, rfl, rfl⟩ ⟨rfl, rfl⟩ ⟨Nat.le_of_ble_eq_true rfl, Nat.le_of_ble_eq_true rfl⟩ rfl rfl (Nat.le_of_ble_eq_true rfl) dX11_bezout_75 (fun r8 M8 hw hM8 => ?_)
                  refine p_if_eq (pc := 78) (tgt := 99) cx dX11_bezout_78 (by decide) (fun hc => ?_) (fun hc => ?_)
                  · have hw := hw.1 hc
                    refine p_iconst (pc := 99) (v := 1) cx dX11_bezout_99 (by decide) ?_
                    exact p_iret (pc := 100) cx hr hlk dX11_bezout_100 hM8 hw
                  · have hw := hw.2 hc
                    refine p_aload_n (pc := 81) cx dX11_bezout_81 rfl 0 rfl ?_
                    refine p_bipush (pc := 82) (v := 22) cx dX11_bezout_82 (by decide) ?_
                    refine p_callVi (pc := 84) [.int (22 : Int32)] cx (c_X11_fits cx.2.2.2.2.2.2 hM8 ha0 hw) cf_X11_fits cv_X11_fits t4_216 ha0 ⟨by decide, rfl, rfl⟩ ⟨rfl, rfl⟩ ⟨Nat.le_of_ble_eq_true rfl, Nat.le_of_ble_eq_true rfl⟩ rfl rfl (Nat.le_of_ble_eq_true rfl) dX11_bezout_84 (fun r9 M9 hw hM9 => ?_)
                    refine p_if_eq (pc := 87) (tgt := 99) cx dX11_bezout_87 (by decide) (fun hc => ?_) (fun hc => ?_)
                    · have hw := hw.1 hc
                      refine p_iconst (pc := 99) (v := 1) cx dX11_bezout_99 (by decide) ?_
                      exact p_iret (pc := 100) cx hr hlk dX11_bezout_100 hM9 hw
                    · have hw := hw.2 hc
                      refine p_aload_n (pc := 90) cx dX11_bezout_90 rfl 0 rfl ?_
                      refine p_bipush (pc := 91) (v := 23) cx dX11_bezout_91 (by decide) ?_
                      refine p_callVi (pc := 93) [.int (23 : Int32)] cx (c_X11_fits cx.2.2.2.2.2.2 hM9 ha0 hw) cf_X11_fits cv_X11_fits t4_216 ha0 ⟨by decide, rfl, rfl⟩ ⟨rfl, rfl⟩ ⟨Nat.le_of_ble_eq_true rfl, Nat.le_of_ble_eq_true rfl⟩ rfl rfl (Nat.le_of_ble_eq_true rfl) dX11_bezout_93 (fun r10 M10 hw hM10 => ?_)
                      refine p_if_ne (pc := 96) (tgt := 101) cx dX11_bezout_96 (by decide) (fun hc => ?_) (fun hc => ?_)
                      · have hw := hw.1 hc
                        refine p_aload_n (pc := 101) cx dX11_bezout_101 rfl 0 rfl ?_
                        refine p_iload_n (pc := 102) cx dX11_bezout_102 rfl 1 rfl ?_
                        refine p_bipush (pc := 103) (v := 20) cx dX11_bezout_103 (by decide) ?_
                        refine p_callVv (pc := 105) [.int a1, .int (20 : Int32)] cx (c_X11_copy cx.2.2.2.2.2.2 hM10 ha0 hw) cf_X11_copy cv_X11_copy t4_220 ha0 ⟨by decide, rfl, rfl⟩ ⟨rfl, rfl⟩ ⟨Nat.le_of_ble_eq_true rfl, Nat.le_of_ble_eq_true rfl⟩ rfl rfl (Nat.le_of_ble_eq_true rfl) dX11_bezout_105 (fun M11 hw hM11 => ?_)
                        refine p_aload_n (pc := 108) cx dX11_bezout_108 rfl 0 rfl ?_
                        refine p_iload_n (pc := 109) cx dX11_bezout_109 rfl 2 rfl ?_
                        refine p_bipush (pc := 110) (v := 22) cx dX11_bezout_110 (by decide) ?_
                        refine p_callVv (pc := 112) [.int a2, .int (22 : Int32)] cx (c_X11_copy cx.2.2.2.2.2.2 hM11 ha0 hw) cf_X11_copy cv_X11_copy t4_220 ha0 ⟨by decide, rfl, rfl⟩ ⟨rfl, rfl⟩ ⟨Nat.le_of_ble_eq_true rfl, Nat.le_of_ble_eq_true rfl⟩ rfl rfl (Nat.le_of_ble_eq_true rfl) dX11_bezout_112 (fun M12 hw hM12 => ?_)
                        refine p_aload_n (pc := 115) cx dX11_bezout_115 rfl 0 rfl ?_
                        refine p_iload_n (pc := 116) cx dX11_bezout_116 rfl 3 rfl ?_
                        refine p_bipush (pc := 117) (v := 23) cx dX11_bezout_117 (by decide) ?_
                        refine p_callVv (pc := 119) [.int a3, .int (23 : Int32)] cx (c_X11_copy cx.2.2.2.2.2.2 hM12 ha0 hw) cf_X11_copy cv_X11_copy t4_220 ha0 ⟨by decide, rfl, rfl⟩ ⟨rfl, rfl⟩ ⟨Nat.le_of_ble_eq_true rfl, Nat.le_of_ble_eq_true rfl⟩ rfl rfl (Nat.le_of_ble_eq_true rfl) dX11_bezout_119 (fun M13 hw hM13 => ?_)
                        refine p_iconst (pc := 122) (v := 0) cx dX11_bezout_122 (by decide) ?_
                        exact p_iret (pc := 123) cx hr hlk dX11_bezout_123 hM13 hw
                      · have hw := hw.2 hc
                        refine p_iconst (pc := 99) (v := 1) cx dX11_bezout_99 (by decide) ?_
                        exact p_iret (pc := 100) cx hr hlk dX11_bezout_100 hM10 hw
                · have hw := hw.2 hc
                  refine p_iconst (pc := 62) (v := 3) cx dX11_bezout_62 (by decide) ?_
                  exact p_iret (pc := 63) cx hr hlk dX11_bezout_63 hM6 hw
set_option maxHeartbeats 4000000 in
set_option maxRecDepth 100000 in
theorem c_X11_inverse {l : Launch} {D : va_G} {G : SH} (hND : ND G) {a0 : Nat} {a1 : Int32} {a2 : Int32} {a3 : Int32} {M : MS} {Qp : Int32 → MS → Prop} (hT : TYR G M.2.2.1) (ha0 : Is G 10 a0) (hw : w_X11_inverse G a0 a1 a2 a3 M Qp) : MeI l D G yX11_inverse (Cond.code yX11_inverse cX11_inverse 4 (some .int) :: GW) rm_X11_inverse [.ref a0, .int a1, .int a2, .int a3] M Qp := by
  unfold MeI
  refine p_method (by decide) rfl (Nat.le_of_ble_eq_true rfl) hND ?_
  intro p e s m args below meth c cx hr hlk
  have cx : CX p s m args c D G cX11_inverse 4 RX11 := cx
  unfold w_X11_inverse at hw
  refine p_aload_n (pc := 0) cx dX11_inverse_0 rfl 0 rfl ?_
  refine p_iconst (pc := 1) (v := 0) cx dX11_inverse_1 (by decide) ?_
  refine pf_10_5 (pc := 2) cx ha0 t4_166 dX11_inverse_2 ?_
  refine p_mem (fun M1 eM1 => ?_)
  have hw := hw M1 eM1
  have hM1 : TYR G M1.2.2.1 := by rw [eM1]; exact hT
  refine p_aload_n (pc := 5) cx dX11_inverse_5 rfl 0 rfl ?_
  refine p_iload_n (pc := 6) cx dX11_inverse_6 rfl 1 rfl ?_
  refine p_callVi (pc := 7) [.int a1] cx (c_X11_no cx.2.2.2.2.2.2 hM1 ha0 hw) cf_X11_no cv_X11_no t4_203 ha0 ⟨by decide, rfl, rfl⟩ ⟨rfl, rfl⟩ ⟨Nat.le_of_ble_eq_true rfl, Nat.le_of_ble_eq_true rfl⟩ rfl rfl (Nat.le_of_ble_eq_true rfl) dX11_inverse_7 (fun r2 M2 hw hM2 => ?_)
  refine p_if_ne (pc := 10) (tgt := 29) cx dX11_inverse_10 (by decide) (fun hc => ?_) (fun hc => ?_)
  · have hw := hw.1 hc
    refine p_iconst (pc := 29) (v := 3) cx dX11_inverse_29 (by decide) ?_
    exact p_iret (pc := 30) cx hr hlk dX11_inverse_30 hM2 hw
  · have hw := hw.2 hc
    refine p_aload_n (pc := 13) cx dX11_inverse_13 rfl 0 rfl ?_
    refine p_iload_n (pc := 14) cx dX11_inverse_14 rfl 2 rfl ?_
    refine p_callVi (pc := 15) [.int a2] cx (c_X11_no cx.2.2.2.2.2.2 hM2 ha0 hw) cf_X11_no cv_X11_no t4_203 ha0 ⟨by decide, rfl, rfl⟩ ⟨rfl, rfl⟩ ⟨Nat.le_of_ble_eq_true rfl, Nat.le_of_ble_eq_true rfl⟩ rfl rfl (Nat.le_of_ble_eq_true rfl) dX11_inverse_15 (fun r3 M3 hw hM3 => ?_)
    refine p_if_ne (pc := 18) (tgt := 29) cx dX11_inverse_18 (by decide) (fun hc => ?_) (fun hc => ?_)
    · have hw := hw.1 hc
      refine p_iconst (pc := 29) (v := 3) cx dX11_inverse_29 (by decide) ?_
      exact p_iret (pc := 30) cx hr hlk dX11_inverse_30 hM3 hw
    · have hw := hw.2 hc
      refine p_aload_n (pc := 21) cx dX11_inverse_21 rfl 0 rfl ?_
      refine p_iload_n (pc := 22) cx dX11_inverse_22 rfl 3 rfl ?_
      refine p_callVi (pc := 23) [.int a3] cx (c_X11_no cx.2.2.2.2.2.2 hM3 ha0 hw) cf_X11_no cv_X11_no t4_203 ha0 ⟨by decide, rfl, rfl⟩ ⟨rfl, rfl⟩ ⟨Nat.le_of_ble_eq_true rfl, Nat.le_of_ble_eq_true rfl⟩ rfl rfl (Nat.le_of_ble_eq_true rfl) dX11_inverse_23 (fun r4 M4 hw hM4 => ?_)
      refine p_if_eq (pc := 26) (tgt := 31) cx dX11_inverse_26 (by decide) (fun hc => ?_) (fun hc => ?_)
      · have hw := hw.1 hc
        refine p_aload_n (pc := 31) cx dX11_inverse_31 rfl 0 rfl ?_
        refine gf_10_2 (pc := 32) cx ha0 t4_163 dX11_inverse_32 ?_
        have hr_5 : Is G 12 (mR M4 a0 2) := TYR.at hM4 ha0 2 12 rfl (by decide)
        refine p_iload_n (pc := 35) cx dX11_inverse_35 rfl 3 rfl ?_
        refine p_iald (pc := 36) cx hr_5 hw.1 dX11_inverse_36 ?_
        have hw := hw.2
        refine p_iconst (pc := 37) (v := 1) cx dX11_inverse_37 (by decide) ?_
        refine p_icmp_ge (pc := 38) (tgt := 43) cx dX11_inverse_38 (by decide) (fun hc => ?_) (fun hc => ?_)
        · have hw := hw.1 hc
          refine p_aload_n (pc := 43) cx dX11_inverse_43 rfl 0 rfl ?_
          refine p_bipush (pc := 44) (v := 17) cx dX11_inverse_44 (by decide) ?_
          refine p_bipush (pc := 46) (v := 27) cx dX11_inverse_46 (by decide) ?_
          refine p_iload_n (pc := 48) cx dX11_inverse_48 rfl 2 rfl ?_
          refine p_iload_n (pc := 49) cx dX11_inverse_49 rfl 3 rfl ?_
          refine p_callVv (pc := 50) [.int (17 : Int32), .int (27 : Int32), .int a2, .int a3] cx (c_X11_divided cx.2.2.2.2.2.2 hM4 ha0 hw) cf_X11_divided cv_X11_divided t5_37 ha0 ⟨by decide, rfl, rfl⟩ ⟨rfl, rfl⟩ ⟨Nat.le_of_ble_eq_true rfl, Nat.le_of_ble_eq_true rfl⟩ rfl rfl (Nat.le_of_ble_eq_true rfl) dX11_inverse_50 (fun M6 hw hM6 => ?_)
          refine p_aload_n (pc := 53) cx dX11_inverse_53 rfl 0 rfl ?_
          refine p_bipush (pc := 54) (v := 26) cx dX11_inverse_54 (by decide) ?_
          refine p_bipush (pc := 56) (v := 27) cx dX11_inverse_56 (by decide) ?_
          refine p_callVv (pc := 58) [.int (26 : Int32), .int (27 : Int32)] cx (c_X11_copy cx.2.2.2.2.2.2 hM6 ha0 hw) cf_X11_copy cv_X11_copy t4_220 ha0 ⟨by decide, rfl, rfl⟩ ⟨rfl, rfl⟩ ⟨Nat.le_of_ble_eq_true rfl, Nat.le_of_ble_eq_true rfl⟩ rfl rfl (Nat.le_of_ble_eq_true rfl) dX11_inverse_58 (fun M7 hw hM7 => ?_)
          refine p_aload_n (pc := 61) cx dX11_inverse_61 rfl 0 rfl ?_
          refine p_bipush (pc := 62) (v := 28) cx dX11_inverse_62 (by decide) ?_
          refine p_iload_n (pc := 64) cx dX11_inverse_64 rfl 3 rfl ?_
          refine p_callVv (pc := 65) [.int (28 : Int32), .int a3] cx (c_X11_copy cx.2.2.2.2.2.2 hM7 ha0 hw) cf_X11_copy cv_X11_copy t4_220 ha0 ⟨by decide, rfl, rfl⟩ ⟨rfl, rfl⟩ ⟨Nat.le_of_ble_eq_true rfl, Nat.le_of_ble_eq_true rfl⟩ rfl rfl (Nat.le_of_ble_eq_true rfl) dX11_inverse_65 (fun M8 hw hM8 => ?_)
          refine p_aload_n (pc := 68) cx dX11_inverse_68 rfl 0 rfl ?_
          refine p_bipush (pc := 69) (v := 26) cx dX11_inverse_69 (by decide) ?_
          refine p_bipush (pc := 71) (v := 28) cx dX11_inverse_71 (by decide) ?_
          refine p_callVv (pc := 73) [.int (26 : Int32), .int (28 : Int32)] cx (c_X11_factors cx.2.2.2.2.2.2 hM8 ha0 hw) cf_X11_factors cv_X11_factors t5_127 ha0 ⟨by decide, rfl, rfl⟩ ⟨rfl, rfl⟩ ⟨Nat.le_of_ble_eq_true rfl, Nat.le_of_ble_eq_true rfl⟩ rfl rfl (Nat.le_of_ble_eq_true rfl) dX11_inverse_73 (fun M9 hw hM9 => ?_)
          refine p_aload_n (pc := 76) cx dX11_inverse_76 rfl 0 rfl ?_
          refine gf_10_1 (pc := 77) cx ha0 t4_162 dX11_inverse_77 ?_
          have hr_10 : Is G 12 (mR M9 a0 1) := TYR.at hM9 ha0 1 12 rfl (by decide)
          refine p_bipush (pc := 80) (v := 20) cx dX11_inverse_80 (by decide) ?_
          refine p_iald (pc := 82) cx hr_10 hw.1 dX11_inverse_82 ?_
          have hw := hw.2
          refine p_iconst (pc := 83) (v := 1) cx dX11_inverse_83 (by decide) ?_
          refine p_icmp_ne (pc := 84) (tgt := 99) cx dX11_inverse_84 (by decide) (fun hc => ?_) (fun hc => ?_)
          · have hw := hw.1 hc
            refine p_iconst (pc := 99) (v := 2) cx dX11_inverse_99 (by decide) ?_
            exact p_iret (pc := 100) cx hr hlk dX11_inverse_100 hM9 hw
          · have hw := hw.2 hc
            refine p_aload_n (pc := 87) cx dX11_inverse_87 rfl 0 rfl ?_
            refine gf_10_0 (pc := 88) cx ha0 t4_161 dX11_inverse_88 ?_
            have hr_11 : Is G 12 (mR M9 a0 0) := TYR.at hM9 ha0 0 12 rfl (by decide)
            refine p_sipush (pc := 91) (v := 5200) cx dX11_inverse_91 (by decide) ?_
            refine p_iald (pc := 94) cx hr_11 hw.1 dX11_inverse_94 ?_
            have hw := hw.2
            refine p_iconst (pc := 95) (v := 1) cx dX11_inverse_95 (by decide) ?_
            refine p_icmp_eq (pc := 96) (tgt := 101) cx dX11_inverse_96 (by decide) (fun hc => ?_) (fun hc => ?_)
            · have hw := hw.1 hc
              refine p_aload_n (pc := 101) cx dX11_inverse_101 rfl 0 rfl ?_
              refine p_bipush (pc := 102) (v := 17) cx dX11_inverse_102 (by decide) ?_
              refine p_bipush (pc := 104) (v := 27) cx dX11_inverse_104 (by decide) ?_
              refine p_bipush (pc := 106) (v := 22) cx dX11_inverse_106 (by decide) ?_
              refine p_bipush (pc := 108) (v := 28) cx dX11_inverse_108 (by decide) ?_
              refine p_callVv (pc := 110) [.int (17 : Int32), .int (27 : Int32), .int (22 : Int32), .int (28 : Int32)] cx (c_X11_divided cx.2.2.2.2.2.2 hM9 ha0 hw) cf_X11_divided cv_X11_divided t5_37 ha0 ⟨by decide, rfl, rfl⟩ ⟨rfl, rfl⟩ ⟨Nat.le_of_ble_eq_true rfl, Nat.le_of_ble_eq_true rfl⟩ rfl rfl (Nat.le_of_ble_eq_true rfl) dX11_inverse_110 (fun M12 hw hM12 => ?_)
              refine p_aload_n (pc := 113) cx dX11_inverse_113 rfl 0 rfl ?_
              refine p_iload_n (pc := 114) cx dX11_inverse_114 rfl 1 rfl ?_
              refine p_bipush (pc := 115) (v := 27) cx dX11_inverse_115 (by decide) ?_
              refine p_callVv (pc := 117) [.int a1, .int (27 : Int32)] cx (c_X11_copy cx.2.2.2.2.2.2 hM12 ha0 hw) cf_X11_copy cv_X11_copy t4_220 ha0 ⟨by decide, rfl, rfl⟩ ⟨rfl, rfl⟩ ⟨Nat.le_of_ble_eq_true rfl, Nat.le_of_ble_eq_true rfl⟩ rfl rfl (Nat.le_of_ble_eq_true rfl) dX11_inverse_117 (fun M13 hw hM13 => ?_)
              refine p_iconst (pc := 120) (v := 0) cx dX11_inverse_120 (by decide) ?_
              exact p_iret (pc := 121) cx hr hlk dX11_inverse_121 hM13 hw
            · have hw := hw.2 hc
              refine p_iconst (pc := 99) (v := 2) cx dX11_inverse_99 (by decide) ?_
              exact p_iret (pc := 100) cx hr hlk dX11_inverse_100 hM9 hw
        · have hw := hw.2 hc
          refine p_iconst (pc := 41) (v := 2) cx dX11_inverse_41 (by decide) ?_
          exact p_iret (pc := 42) cx hr hlk dX11_inverse_42 hM4 hw
      · have hw := hw.2 hc
        refine p_iconst (pc := 29) (v := 3) cx dX11_inverse_29 (by decide) ?_
        exact p_iret (pc := 30) cx hr hlk dX11_inverse_30 hM4 hw
set_option maxHeartbeats 4000000 in
set_option maxRecDepth 100000 in
theorem x_X11_power_109 {p : Program} {l : Launch} {e : Env} {s : State} {m : MethodId} {args : Array Value} {below : List Frame} {meth : Method} {c : Code} {D : va_G} {G : SH} {Qp : Int32 → MS → Prop}  (cx : CX p s m args c D G cX11_power 6 RX11) (hr : meth.sig.returnType = (some .int)) (hlk : meth.locks = false)  : ∀ (n : Nat) (v0 : Nat) (v1 : Int32) (v3 : Int32) (v4 : Int32) (v5 : Int32) (M : MS), TYR G M.2.2.1 → Is G 10 v0 → w_X11_power_109 G Qp n v0 v1 v3 v4 v5 M → PW p l e rm_X11_power s m args below meth c D G 6 (MQ below (va_Qi Qp (POST D G) (AG G)) args s 0 0 (AG G)) 109 [(0, .ref v0), (1, .int v1), (3, .int v3), (4, .int v4), (5, .int v5)] [] M := by
  intro n
  induction n with
  | zero =>
    intro v0 v1 v3 v4 v5 M hT hv0 hw
    exact hw.elim
  | succ n ih =>
    intro v0 v1 v3 v4 v5 M hT hv0 hw
    rw [w_X11_power_109] at hw
    refine p_iload (pc := 109) cx dX11_power_109 4 rfl ?_
    refine p_if_lt (pc := 111) (tgt := 177) cx dX11_power_111 (by decide) (fun hc => ?_) (fun hc => ?_)
    · have hw := hw.1 hc
      refine p_aload_n (pc := 177) cx dX11_power_177 rfl 0 rfl ?_
      refine p_iload_n (pc := 178) cx dX11_power_178 rfl 1 rfl ?_
      refine p_bipush (pc := 179) (v := 26) cx dX11_power_179 (by decide) ?_
      refine p_callVv (pc := 181) [.int v1, .int (26 : Int32)] cx (c_X11_copy cx.2.2.2.2.2.2 hT hv0 hw) cf_X11_copy cv_X11_copy t4_220 hv0 ⟨by decide, rfl, rfl⟩ ⟨rfl, rfl⟩ ⟨Nat.le_of_ble_eq_true rfl, Nat.le_of_ble_eq_true rfl⟩ rfl rfl (Nat.le_of_ble_eq_true rfl) dX11_power_181 (fun M14 hw hM14 => ?_)
      refine p_iconst (pc := 184) (v := 0) cx dX11_power_184 (by decide) ?_
      exact p_iret (pc := 185) cx hr hlk dX11_power_185 hM14 hw
    · have hw := hw.2 hc
      refine p_aload_n (pc := 114) cx dX11_power_114 rfl 0 rfl ?_
      refine p_bipush (pc := 115) (v := 25) cx dX11_power_115 (by decide) ?_
      refine p_bipush (pc := 117) (v := 26) cx dX11_power_117 (by decide) ?_
      refine p_bipush (pc := 119) (v := 26) cx dX11_power_119 (by decide) ?_
      refine p_callVv (pc := 121) [.int (25 : Int32), .int (26 : Int32), .int (26 : Int32)] cx (c_X11_product cx.2.2.2.2.2.2 hT hv0 hw) cf_X11_product cv_X11_product t5_28 hv0 ⟨by decide, rfl, rfl⟩ ⟨rfl, rfl⟩ ⟨Nat.le_of_ble_eq_true rfl, Nat.le_of_ble_eq_true rfl⟩ rfl rfl (Nat.le_of_ble_eq_true rfl) dX11_power_121 (fun M15 hw hM15 => ?_)
      refine p_aload_n (pc := 124) cx dX11_power_124 rfl 0 rfl ?_
      refine p_bipush (pc := 125) (v := 17) cx dX11_power_125 (by decide) ?_
      refine p_bipush (pc := 127) (v := 26) cx dX11_power_127 (by decide) ?_
      refine p_bipush (pc := 129) (v := 25) cx dX11_power_129 (by decide) ?_
      refine p_iload (pc := 131) cx dX11_power_131 3 rfl ?_
      refine p_callVv (pc := 133) [.int (17 : Int32), .int (26 : Int32), .int (25 : Int32), .int v4] cx (c_X11_quotient cx.2.2.2.2.2.2 hM15 hv0 hw) cf_X11_quotient cv_X11_quotient t5_41 hv0 ⟨by decide, rfl, rfl⟩ ⟨rfl, rfl⟩ ⟨Nat.le_of_ble_eq_true rfl, Nat.le_of_ble_eq_true rfl⟩ rfl rfl (Nat.le_of_ble_eq_true rfl) dX11_power_133 (fun M16 hw hM16 => ?_)
      refine p_aload_n (pc := 136) cx dX11_power_136 rfl 0 rfl ?_
      refine p_iload_n (pc := 137) cx dX11_power_137 rfl 2 rfl ?_
      refine p_iload (pc := 138) cx dX11_power_138 4 rfl ?_
      refine p_callVi (pc := 140) [.int v3, .int v5] cx (c_X11_bit cx.2.2.2.2.2.2 hM16 hv0 hw) cf_X11_bit cv_X11_bit t5_63 hv0 ⟨by decide, rfl, rfl⟩ ⟨rfl, rfl⟩ ⟨Nat.le_of_ble_eq_true rfl, Nat.le_of_ble_eq_true rfl⟩ rfl rfl (Nat.le_of_ble_eq_true rfl) dX11_power_140 (fun r17 M17 hw hM17 => ?_)
      refine p_if_ne (pc := 143) (tgt := 149) cx dX11_power_143 (by decide) (fun hc => ?_) (fun hc => ?_)
      · have hw := hw.1 hc
        refine p_aload_n (pc := 149) cx dX11_power_149 rfl 0 rfl ?_
        refine p_bipush (pc := 150) (v := 25) cx dX11_power_150 (by decide) ?_
        refine p_bipush (pc := 152) (v := 26) cx dX11_power_152 (by decide) ?_
        refine p_bipush (pc := 154) (v := 27) cx dX11_power_154 (by decide) ?_
        refine p_callVv (pc := 156) [.int (25 : Int32), .int (26 : Int32), .int (27 : Int32)] cx (c_X11_product cx.2.2.2.2.2.2 hM17 hv0 hw) cf_X11_product cv_X11_product t5_28 hv0 ⟨by decide, rfl, rfl⟩ ⟨rfl, rfl⟩ ⟨Nat.le_of_ble_eq_true rfl, Nat.le_of_ble_eq_true rfl⟩ rfl rfl (Nat.le_of_ble_eq_true rfl) dX11_power_156 (fun M18 hw hM18 => ?_)
        refine p_aload_n (pc := 159) cx dX11_power_159 rfl 0 rfl ?_
        refine p_bipush (pc := 160) (v := 17) cx dX11_power_160 (by decide) ?_
        refine p_bipush (pc := 162) (v := 26) cx dX11_power_162 (by decide) ?_
        refine p_bipush (pc := 164) (v := 25) cx dX11_power_164 (by decide) ?_
        refine p_iload (pc := 166) cx dX11_power_166 3 rfl ?_
        refine p_callVv (pc := 168) [.int (17 : Int32), .int (26 : Int32), .int (25 : Int32), .int v4] cx (c_X11_quotient cx.2.2.2.2.2.2 hM18 hv0 hw) cf_X11_quotient cv_X11_quotient t5_41 hv0 ⟨by decide, rfl, rfl⟩ ⟨rfl, rfl⟩ ⟨Nat.le_of_ble_eq_true rfl, Nat.le_of_ble_eq_true rfl⟩ rfl rfl (Nat.le_of_ble_eq_true rfl) dX11_power_168 (fun M19 hw hM19 => ?_)
        obtain ⟨x5_20, ex5_20⟩ : ∃ y : Int32, y = v5 + (-1) := ⟨_, rfl⟩
        have hw := hw x5_20 ex5_20
        refine p_iinc (pc := 171) (v := x5_20) (lv' := [(0, .ref v0), (1, .int v1), (3, .int v3), (4, .int v4), (5, .int x5_20)]) cx dX11_power_171 4 rfl (by rw [ex5_20]; rfl) (by decide) [1, 2, 3, 4, 0] rfl ?_
        refine p_goto (pc := 174) (tgt := 109) cx dX11_power_174 (by decide) ?_
        exact ih v0 v1 v3 v4 x5_20 M19 hM19 hv0 hw
      · have hw := hw.2 hc
        refine p_goto (pc := 146) (tgt := 171) cx dX11_power_146 (by decide) ?_
        obtain ⟨x5_21, ex5_21⟩ : ∃ y : Int32, y = v5 + (-1) := ⟨_, rfl⟩
        have hw := hw x5_21 ex5_21
        refine p_iinc (pc := 171) (v := x5_21) (lv' := [(0, .ref v0), (1, .int v1), (3, .int v3), (4, .int v4), (5, .int x5_21)]) cx dX11_power_171 4 rfl (by rw [ex5_21]; rfl) (by decide) [1, 2, 3, 4, 0] rfl ?_
        refine p_goto (pc := 174) (tgt := 109) cx dX11_power_174 (by decide) ?_
        exact ih v0 v1 v3 v4 x5_21 M17 hM17 hv0 hw
set_option maxHeartbeats 4000000 in
set_option maxRecDepth 100000 in
theorem c_X11_power {l : Launch} {D : va_G} {G : SH} (hND : ND G) {a0 : Nat} {a1 : Int32} {a2 : Int32} {a3 : Int32} {a4 : Int32} {M : MS} {Qp : Int32 → MS → Prop} (hT : TYR G M.2.2.1) (ha0 : Is G 10 a0) (hw : w_X11_power G a0 a1 a2 a3 a4 M Qp) : MeI l D G yX11_power (Cond.code yX11_power cX11_power 6 (some .int) :: GW) rm_X11_power [.ref a0, .int a1, .int a2, .int a3, .int a4] M Qp := by
  unfold MeI
  refine p_method (by decide) rfl (Nat.le_of_ble_eq_true rfl) hND ?_
  intro p e s m args below meth c cx hr hlk
  have cx : CX p s m args c D G cX11_power 6 RX11 := cx
  unfold w_X11_power at hw
  refine p_aload_n (pc := 0) cx dX11_power_0 rfl 0 rfl ?_
  refine p_iconst (pc := 1) (v := 0) cx dX11_power_1 (by decide) ?_
  refine pf_10_5 (pc := 2) cx ha0 t4_166 dX11_power_2 ?_
  refine p_mem (fun M1 eM1 => ?_)
  have hw := hw M1 eM1
  have hM1 : TYR G M1.2.2.1 := by rw [eM1]; exact hT
  refine p_aload_n (pc := 5) cx dX11_power_5 rfl 0 rfl ?_
  refine p_iload_n (pc := 6) cx dX11_power_6 rfl 1 rfl ?_
  refine p_callVi (pc := 7) [.int a1] cx (c_X11_no cx.2.2.2.2.2.2 hM1 ha0 hw) cf_X11_no cv_X11_no t4_203 ha0 ⟨by decide, rfl, rfl⟩ ⟨rfl, rfl⟩ ⟨Nat.le_of_ble_eq_true rfl, Nat.le_of_ble_eq_true rfl⟩ rfl rfl (Nat.le_of_ble_eq_true rfl) dX11_power_7 (fun r2 M2 hw hM2 => ?_)
  refine p_if_ne (pc := 10) (tgt := 38) cx dX11_power_10 (by decide) (fun hc => ?_) (fun hc => ?_)
  · have hw := hw.1 hc
    refine p_iconst (pc := 38) (v := 3) cx dX11_power_38 (by decide) ?_
    exact p_iret (pc := 39) cx hr hlk dX11_power_39 hM2 hw
  · have hw := hw.2 hc
    refine p_aload_n (pc := 13) cx dX11_power_13 rfl 0 rfl ?_
    refine p_iload_n (pc := 14) cx dX11_power_14 rfl 2 rfl ?_
    refine p_callVi (pc := 15) [.int a2] cx (c_X11_no cx.2.2.2.2.2.2 hM2 ha0 hw) cf_X11_no cv_X11_no t4_203 ha0 ⟨by decide, rfl, rfl⟩ ⟨rfl, rfl⟩ ⟨Nat.le_of_ble_eq_true rfl, Nat.le_of_ble_eq_true rfl⟩ rfl rfl (Nat.le_of_ble_eq_true rfl) dX11_power_15 (fun r3 M3 hw hM3 => ?_)
    refine p_if_ne (pc := 18) (tgt := 38) cx dX11_power_18 (by decide) (fun hc => ?_) (fun hc => ?_)
    · have hw := hw.1 hc
      refine p_iconst (pc := 38) (v := 3) cx dX11_power_38 (by decide) ?_
      exact p_iret (pc := 39) cx hr hlk dX11_power_39 hM3 hw
    · have hw := hw.2 hc
      refine p_aload_n (pc := 21) cx dX11_power_21 rfl 0 rfl ?_
      refine p_iload_n (pc := 22) cx dX11_power_22 rfl 3 rfl ?_
      refine p_callVi (pc := 23) [.int a3] cx (c_X11_no cx.2.2.2.2.2.2 hM3 ha0 hw) cf_X11_no cv_X11_no t4_203 ha0 ⟨by decide, rfl, rfl⟩ ⟨rfl, rfl⟩ ⟨Nat.le_of_ble_eq_true rfl, Nat.le_of_ble_eq_true rfl⟩ rfl rfl (Nat.le_of_ble_eq_true rfl) dX11_power_23 (fun r4 M4 hw hM4 => ?_)
      refine p_if_ne (pc := 26) (tgt := 38) cx dX11_power_26 (by decide) (fun hc => ?_) (fun hc => ?_)
      · have hw := hw.1 hc
        refine p_iconst (pc := 38) (v := 3) cx dX11_power_38 (by decide) ?_
        exact p_iret (pc := 39) cx hr hlk dX11_power_39 hM4 hw
      · have hw := hw.2 hc
        refine p_aload_n (pc := 29) cx dX11_power_29 rfl 0 rfl ?_
        refine p_iload (pc := 30) cx dX11_power_30 4 rfl ?_
        refine p_callVi (pc := 32) [.int a4] cx (c_X11_no cx.2.2.2.2.2.2 hM4 ha0 hw) cf_X11_no cv_X11_no t4_203 ha0 ⟨by decide, rfl, rfl⟩ ⟨rfl, rfl⟩ ⟨Nat.le_of_ble_eq_true rfl, Nat.le_of_ble_eq_true rfl⟩ rfl rfl (Nat.le_of_ble_eq_true rfl) dX11_power_32 (fun r5 M5 hw hM5 => ?_)
        refine p_if_eq (pc := 35) (tgt := 40) cx dX11_power_35 (by decide) (fun hc => ?_) (fun hc => ?_)
        · have hw := hw.1 hc
          refine p_aload_n (pc := 40) cx dX11_power_40 rfl 0 rfl ?_
          refine gf_10_2 (pc := 41) cx ha0 t4_163 dX11_power_41 ?_
          have hr_6 : Is G 12 (mR M5 a0 2) := TYR.at hM5 ha0 2 12 rfl (by decide)
          refine p_iload_n (pc := 44) cx dX11_power_44 rfl 3 rfl ?_
          refine p_iald (pc := 45) cx hr_6 hw.1 dX11_power_45 ?_
          have hw := hw.2
          refine p_if_lt (pc := 46) (tgt := 60) cx dX11_power_46 (by decide) (fun hc => ?_) (fun hc => ?_)
          · have hw := hw.1 hc
            refine p_iconst (pc := 60) (v := 2) cx dX11_power_60 (by decide) ?_
            exact p_iret (pc := 61) cx hr hlk dX11_power_61 hM5 hw
          · have hw := hw.2 hc
            refine p_aload_n (pc := 49) cx dX11_power_49 rfl 0 rfl ?_
            refine gf_10_2 (pc := 50) cx ha0 t4_163 dX11_power_50 ?_
            have hr_7 : Is G 12 (mR M5 a0 2) := TYR.at hM5 ha0 2 12 rfl (by decide)
            refine p_iload (pc := 53) cx dX11_power_53 4 rfl ?_
            refine p_iald (pc := 55) cx hr_7 hw.1 dX11_power_55 ?_
            have hw := hw.2
            refine p_iconst (pc := 56) (v := 1) cx dX11_power_56 (by decide) ?_
            refine p_icmp_ge (pc := 57) (tgt := 62) cx dX11_power_57 (by decide) (fun hc => ?_) (fun hc => ?_)
            · have hw := hw.1 hc
              refine p_aload_n (pc := 62) cx dX11_power_62 rfl 0 rfl ?_
              refine p_bipush (pc := 63) (v := 17) cx dX11_power_63 (by decide) ?_
              refine p_bipush (pc := 65) (v := 27) cx dX11_power_65 (by decide) ?_
              refine p_iload_n (pc := 67) cx dX11_power_67 rfl 2 rfl ?_
              refine p_iload (pc := 68) cx dX11_power_68 4 rfl ?_
              refine p_callVv (pc := 70) [.int (17 : Int32), .int (27 : Int32), .int a2, .int a4] cx (c_X11_divided cx.2.2.2.2.2.2 hM5 ha0 hw) cf_X11_divided cv_X11_divided t5_37 ha0 ⟨by decide, rfl, rfl⟩ ⟨rfl, rfl⟩ ⟨Nat.le_of_ble_eq_true rfl, Nat.le_of_ble_eq_true rfl⟩ rfl rfl (Nat.le_of_ble_eq_true rfl) dX11_power_70 (fun M8 hw hM8 => ?_)
              refine p_aload_n (pc := 73) cx dX11_power_73 rfl 0 rfl ?_
              refine p_bipush (pc := 74) (v := 26) cx dX11_power_74 (by decide) ?_
              refine p_iconst (pc := 76) (v := 1) cx dX11_power_76 (by decide) ?_
              refine p_callVv (pc := 77) [.int (26 : Int32), .int (1 : Int32)] cx (c_X11_small cx.2.2.2.2.2.2 hM8 ha0 hw) cf_X11_small cv_X11_small t4_228 ha0 ⟨by decide, rfl, rfl⟩ ⟨rfl, rfl⟩ ⟨Nat.le_of_ble_eq_true rfl, Nat.le_of_ble_eq_true rfl⟩ rfl rfl (Nat.le_of_ble_eq_true rfl) dX11_power_77 (fun M9 hw hM9 => ?_)
              refine p_aload_n (pc := 80) cx dX11_power_80 rfl 0 rfl ?_
              refine p_bipush (pc := 81) (v := 17) cx dX11_power_81 (by decide) ?_
              refine p_bipush (pc := 83) (v := 18) cx dX11_power_83 (by decide) ?_
              refine p_bipush (pc := 85) (v := 26) cx dX11_power_85 (by decide) ?_
              refine p_iload (pc := 87) cx dX11_power_87 4 rfl ?_
              refine p_callVv (pc := 89) [.int (17 : Int32), .int (18 : Int32), .int (26 : Int32), .int a4] cx (c_X11_quotient cx.2.2.2.2.2.2 hM9 ha0 hw) cf_X11_quotient cv_X11_quotient t5_41 ha0 ⟨by decide, rfl, rfl⟩ ⟨rfl, rfl⟩ ⟨Nat.le_of_ble_eq_true rfl, Nat.le_of_ble_eq_true rfl⟩ rfl rfl (Nat.le_of_ble_eq_true rfl) dX11_power_89 (fun M10 hw hM10 => ?_)
              refine p_aload_n (pc := 92) cx dX11_power_92 rfl 0 rfl ?_
              refine p_bipush (pc := 93) (v := 26) cx dX11_power_93 (by decide) ?_
              refine p_bipush (pc := 95) (v := 18) cx dX11_power_95 (by decide) ?_
              refine p_callVv (pc := 97) [.int (26 : Int32), .int (18 : Int32)] cx (c_X11_copy cx.2.2.2.2.2.2 hM10 ha0 hw) cf_X11_copy cv_X11_copy t4_220 ha0 ⟨by decide, rfl, rfl⟩ ⟨rfl, rfl⟩ ⟨Nat.le_of_ble_eq_true rfl, Nat.le_of_ble_eq_true rfl⟩ rfl rfl (Nat.le_of_ble_eq_true rfl) dX11_power_97 (fun M11 hw hM11 => ?_)
              refine p_aload_n (pc := 100) cx dX11_power_100 rfl 0 rfl ?_
              refine p_iload_n (pc := 101) cx dX11_power_101 rfl 3 rfl ?_
              refine p_callVi (pc := 102) [.int a3] cx (c_X11_bits cx.2.2.2.2.2.2 hM11 ha0 hw) cf_X11_bits cv_X11_bits t5_53 ha0 ⟨by decide, rfl, rfl⟩ ⟨rfl, rfl⟩ ⟨Nat.le_of_ble_eq_true rfl, Nat.le_of_ble_eq_true rfl⟩ rfl rfl (Nat.le_of_ble_eq_true rfl) dX11_power_102 (fun r12 M12 hw hM12 => ?_)
              refine p_iconst (pc := 105) (v := 1) cx dX11_power_105 (by decide) ?_
              refine p_isub (pc := 106) cx dX11_power_106 ?_
              refine p_topi (fun x5_13 ex5_13 => ?_)
              have hw := hw x5_13 ex5_13
              refine p_istore (pc := 107) (lv' := [(0, .ref a0), (1, .int a1), (3, .int a3), (4, .int a4), (5, .int x5_13)]) cx dX11_power_107 (by decide) [1, 2, 4, 5, 0] rfl ?_
              obtain ⟨n1, hw⟩ := hw
              exact x_X11_power_109 cx hr hlk n1 a0 a1 a3 a4 x5_13 M12 hM12 ha0 hw
            · have hw := hw.2 hc
              refine p_iconst (pc := 60) (v := 2) cx dX11_power_60 (by decide) ?_
              exact p_iret (pc := 61) cx hr hlk dX11_power_61 hM5 hw
        · have hw := hw.2 hc
          refine p_iconst (pc := 38) (v := 3) cx dX11_power_38 (by decide) ?_
          exact p_iret (pc := 39) cx hr hlk dX11_power_39 hM5 hw
set_option maxHeartbeats 4000000 in
set_option maxRecDepth 100000 in
theorem x_X11_isLow_9 {p : Program} {l : Launch} {e : Env} {s : State} {m : MethodId} {args : Array Value} {below : List Frame} {meth : Method} {c : Code} {D : va_G} {G : SH} {Qp : Int32 → MS → Prop}  (cx : CX p s m args c D G cX11_isLow 3 RX11) (hr : meth.sig.returnType = (some .boolean)) (hlk : meth.locks = false)  : ∀ (n : Nat) (v0 : Nat) (v1 : Int32) (v2 : Int32) (M : MS), TYR G M.2.2.1 → Is G 10 v0 → w_X11_isLow_9 G Qp n v0 v1 v2 M → PW p l e rm_X11_isLow s m args below meth c D G 3 (MQ below (va_Qi Qp (POST D G) (AG G)) args s 0 0 (AG G)) 9 [(0, .ref v0), (1, .int v1), (2, .int v2)] [] M := by
  intro n
  induction n with
  | zero =>
    intro v0 v1 v2 M hT hv0 hw
    exact hw.elim
  | succ n ih =>
    intro v0 v1 v2 M hT hv0 hw
    rw [w_X11_isLow_9] at hw
    refine p_iload_n (pc := 9) cx dX11_isLow_9 rfl 2 rfl ?_
    refine p_iload_n (pc := 10) cx dX11_isLow_10 rfl 1 rfl ?_
    refine p_icmp_ge (pc := 11) (tgt := 51) cx dX11_isLow_11 (by decide) (fun hc => ?_) (fun hc => ?_)
    · have hw := hw.1 hc
      refine p_iconst (pc := 51) (v := 1) cx dX11_isLow_51 (by decide) ?_
      exact p_zret (pc := 52) cx hr hlk dX11_isLow_52 (by decide) hT hw
    · have hw := hw.2 hc
      refine p_aload_n (pc := 14) cx dX11_isLow_14 rfl 0 rfl ?_
      refine p_bipush (pc := 15) (v := 19) cx dX11_isLow_15 (by decide) ?_
      refine p_bipush (pc := 17) (v := 25) cx dX11_isLow_17 (by decide) ?_
      refine p_bipush (pc := 19) (v := 27) cx dX11_isLow_19 (by decide) ?_
      refine p_callVv (pc := 21) [.int (19 : Int32), .int (25 : Int32), .int (27 : Int32)] cx (c_X11_product cx.2.2.2.2.2.2 hT hv0 hw) cf_X11_product cv_X11_product t5_28 hv0 ⟨by decide, rfl, rfl⟩ ⟨rfl, rfl⟩ ⟨Nat.le_of_ble_eq_true rfl, Nat.le_of_ble_eq_true rfl⟩ rfl rfl (Nat.le_of_ble_eq_true rfl) dX11_isLow_21 (fun M2 hw hM2 => ?_)
      refine p_aload_n (pc := 24) cx dX11_isLow_24 rfl 0 rfl ?_
      refine p_bipush (pc := 25) (v := 19) cx dX11_isLow_25 (by decide) ?_
      refine p_bipush (pc := 27) (v := 26) cx dX11_isLow_27 (by decide) ?_
      refine p_callVi (pc := 29) [.int (19 : Int32), .int (26 : Int32)] cx (c_X11_sizes cx.2.2.2.2.2.2 hM2 hv0 hw) cf_X11_sizes cv_X11_sizes t5_12 hv0 ⟨by decide, rfl, rfl⟩ ⟨rfl, rfl⟩ ⟨Nat.le_of_ble_eq_true rfl, Nat.le_of_ble_eq_true rfl⟩ rfl rfl (Nat.le_of_ble_eq_true rfl) dX11_isLow_29 (fun r3 M3 hw hM3 => ?_)
      refine p_if_le (pc := 32) (tgt := 37) cx dX11_isLow_32 (by decide) (fun hc => ?_) (fun hc => ?_)
      · have hw := hw.1 hc
        refine p_aload_n (pc := 37) cx dX11_isLow_37 rfl 0 rfl ?_
        refine p_bipush (pc := 38) (v := 25) cx dX11_isLow_38 (by decide) ?_
        refine p_bipush (pc := 40) (v := 19) cx dX11_isLow_40 (by decide) ?_
        refine p_callVv (pc := 42) [.int (25 : Int32), .int (19 : Int32)] cx (c_X11_copy cx.2.2.2.2.2.2 hM3 hv0 hw) cf_X11_copy cv_X11_copy t4_220 hv0 ⟨by decide, rfl, rfl⟩ ⟨rfl, rfl⟩ ⟨Nat.le_of_ble_eq_true rfl, Nat.le_of_ble_eq_true rfl⟩ rfl rfl (Nat.le_of_ble_eq_true rfl) dX11_isLow_42 (fun M4 hw hM4 => ?_)
        obtain ⟨x2_5, ex2_5⟩ : ∃ y : Int32, y = v2 + 1 := ⟨_, rfl⟩
        have hw := hw x2_5 ex2_5
        refine p_iinc (pc := 45) (v := x2_5) (lv' := [(0, .ref v0), (1, .int v1), (2, .int x2_5)]) cx dX11_isLow_45 2 rfl (by rw [ex2_5]; rfl) (by decide) [1, 2, 0] rfl ?_
        refine p_goto (pc := 48) (tgt := 9) cx dX11_isLow_48 (by decide) ?_
        exact ih v0 v1 x2_5 M4 hM4 hv0 hw
      · have hw := hw.2 hc
        refine p_iconst (pc := 35) (v := 0) cx dX11_isLow_35 (by decide) ?_
        exact p_zret (pc := 36) cx hr hlk dX11_isLow_36 (by decide) hM3 hw
set_option maxHeartbeats 4000000 in
set_option maxRecDepth 100000 in
theorem c_X11_isLow {l : Launch} {D : va_G} {G : SH} (hND : ND G) {a0 : Nat} {a1 : Int32} {M : MS} {Qp : Int32 → MS → Prop} (hT : TYR G M.2.2.1) (ha0 : Is G 10 a0) (hw : w_X11_isLow G a0 a1 M Qp) : MeI l D G yX11_isLow (Cond.code yX11_isLow cX11_isLow 3 (some .boolean) :: GW) rm_X11_isLow [.ref a0, .int a1] M Qp := by
  unfold MeI
  refine p_method (by decide) rfl (Nat.le_of_ble_eq_true rfl) hND ?_
  intro p e s m args below meth c cx hr hlk
  have cx : CX p s m args c D G cX11_isLow 3 RX11 := cx
  unfold w_X11_isLow at hw
  refine p_aload_n (pc := 0) cx dX11_isLow_0 rfl 0 rfl ?_
  refine p_bipush (pc := 1) (v := 25) cx dX11_isLow_1 (by decide) ?_
  refine p_iconst (pc := 3) (v := 1) cx dX11_isLow_3 (by decide) ?_
  refine p_callVv (pc := 4) [.int (25 : Int32), .int (1 : Int32)] cx (c_X11_small cx.2.2.2.2.2.2 hT ha0 hw) cf_X11_small cv_X11_small t4_228 ha0 ⟨by decide, rfl, rfl⟩ ⟨rfl, rfl⟩ ⟨Nat.le_of_ble_eq_true rfl, Nat.le_of_ble_eq_true rfl⟩ rfl rfl (Nat.le_of_ble_eq_true rfl) dX11_isLow_4 (fun M1 hw hM1 => ?_)
  refine p_iconst (pc := 7) (v := 0) cx dX11_isLow_7 (by decide) ?_
  refine p_istore_n (pc := 8) (lv' := [(0, .ref a0), (1, .int a1), (2, .int (0 : Int32))]) cx dX11_isLow_8 rfl (by decide) [1, 2, 0] rfl ?_
  obtain ⟨n1, hw⟩ := hw
  exact x_X11_isLow_9 cx hr hlk n1 a0 a1 0 M1 hM1 ha0 hw
set_option maxHeartbeats 4000000 in
set_option maxRecDepth 100000 in
theorem x_X11_rooted_149 {p : Program} {l : Launch} {e : Env} {s : State} {m : MethodId} {args : Array Value} {below : List Frame} {meth : Method} {c : Code} {D : va_G} {G : SH} {Qp : MS → Prop} {K79 : Nat → Int32 → Int32 → Int32 → MS → Prop} (cx : CX p s m args c D G cX11_rooted 4 RX11) (hr : meth.sig.returnType = none) (hlk : meth.locks = false) (hK79 : ∀ (v0 : Nat) (v1 : Int32) (v2 : Int32) (v3 : Int32) (M : MS), TYR G M.2.2.1 → Is G 10 v0 → K79 v0 v1 v2 v3 M → PW p l e rm_X11_rooted s m args below meth c D G 4 (MQ below (va_Qv Qp (POST D G) (AG G)) args s 0 0 (AG G)) 79 [(0, .ref v0), (1, .int v1), (2, .int v2), (3, .int v3)] [] M) (v0 : Nat) (v1 : Int32) (v2 : Int32) (v3 : Int32) (M : MS) (hT : TYR G M.2.2.1) (hv0 : Is G 10 v0) (hw : w_X11_rooted_149 G K79 Qp v0 v1 v2 v3 M) : PW p l e rm_X11_rooted s m args below meth c D G 4 (MQ below (va_Qv Qp (POST D G) (AG G)) args s 0 0 (AG G)) 149 [(0, .ref v0), (1, .int v1), (2, .int v2), (3, .int v3)] [] M := by
  unfold w_X11_rooted_149 at hw
  refine p_aload_n (pc := 149) cx dX11_rooted_149 rfl 0 rfl ?_
  refine p_bipush (pc := 150) (v := 27) cx dX11_rooted_150 (by decide) ?_
  refine p_iload_n (pc := 152) cx dX11_rooted_152 rfl 2 rfl ?_
  refine p_iconst (pc := 153) (v := 1) cx dX11_rooted_153 (by decide) ?_
  refine p_isub (pc := 154) cx dX11_rooted_154 ?_
  refine p_iconst (pc := 155) (v := 4) cx dX11_rooted_155 (by decide) ?_
  refine p_ishr (pc := 156) cx dX11_rooted_156 ?_
  refine p_iconst (pc := 157) (v := 1) cx dX11_rooted_157 (by decide) ?_
  refine p_iadd (pc := 158) cx dX11_rooted_158 ?_
  refine p_iconst (pc := 159) (v := 1) cx dX11_rooted_159 (by decide) ?_
  refine p_callVv (pc := 160) [.int (27 : Int32), .int (((v2 - 1) >>> ((4 : Int32) &&& 31)) + 1), .int (1 : Int32)] cx (c_X11_trim cx.2.2.2.2.2.2 hT hv0 hw) cf_X11_trim cv_X11_trim t4_208 hv0 ⟨by decide, rfl, rfl⟩ ⟨rfl, rfl⟩ ⟨Nat.le_of_ble_eq_true rfl, Nat.le_of_ble_eq_true rfl⟩ rfl rfl (Nat.le_of_ble_eq_true rfl) dX11_rooted_160 (fun M11 hw hM11 => ?_)
  obtain ⟨x3_12, ex3_12⟩ : ∃ y : Int32, y = v3 + (-1) := ⟨_, rfl⟩
  have hw := hw x3_12 ex3_12
  refine p_iinc (pc := 163) (v := x3_12) (lv' := [(0, .ref v0), (1, .int v1), (2, .int v2), (3, .int x3_12)]) cx dX11_rooted_163 3 rfl (by rw [ex3_12]; rfl) (by decide) [1, 2, 3, 0] rfl ?_
  refine p_goto (pc := 166) (tgt := 79) cx dX11_rooted_166 (by decide) ?_
  exact hK79 v0 v1 v2 x3_12 M11 hM11 hv0 hw
set_option maxHeartbeats 4000000 in
set_option maxRecDepth 100000 in
theorem x_X11_rooted_79 {p : Program} {l : Launch} {e : Env} {s : State} {m : MethodId} {args : Array Value} {below : List Frame} {meth : Method} {c : Code} {D : va_G} {G : SH} {Qp : MS → Prop}  (cx : CX p s m args c D G cX11_rooted 4 RX11) (hr : meth.sig.returnType = none) (hlk : meth.locks = false)  : ∀ (n : Nat) (v0 : Nat) (v1 : Int32) (v2 : Int32) (v3 : Int32) (M : MS), TYR G M.2.2.1 → Is G 10 v0 → w_X11_rooted_79 G Qp n v0 v1 v2 v3 M → PW p l e rm_X11_rooted s m args below meth c D G 4 (MQ below (va_Qv Qp (POST D G) (AG G)) args s 0 0 (AG G)) 79 [(0, .ref v0), (1, .int v1), (2, .int v2), (3, .int v3)] [] M := by
  intro n
  induction n with
  | zero =>
    intro v0 v1 v2 v3 M hT hv0 hw
    exact hw.elim
  | succ n ih =>
    intro v0 v1 v2 v3 M hT hv0 hw
    rw [w_X11_rooted_79] at hw
    refine p_iload_n (pc := 79) cx dX11_rooted_79 rfl 3 rfl ?_
    refine p_if_lt (pc := 80) (tgt := 169) cx dX11_rooted_80 (by decide) (fun hc => ?_) (fun hc => ?_)
    · have hw := hw.1 hc
      exact p_vret (pc := 169) cx hr hlk dX11_rooted_169 hT hw
    · have hw := hw.2 hc
      refine p_aload_n (pc := 83) cx dX11_rooted_83 rfl 0 rfl ?_
      refine gf_10_0 (pc := 84) cx hv0 t4_161 dX11_rooted_84 ?_
      have hr_7 : Is G 12 (mR M v0 0) := TYR.at hT hv0 0 12 rfl (by decide)
      refine p_sipush (pc := 87) (v := 7020) cx dX11_rooted_87 (by decide) ?_
      refine p_iload_n (pc := 90) cx dX11_rooted_90 rfl 3 rfl ?_
      refine p_iconst (pc := 91) (v := 4) cx dX11_rooted_91 (by decide) ?_
      refine p_ishr (pc := 92) cx dX11_rooted_92 ?_
      refine p_iadd (pc := 93) cx dX11_rooted_93 ?_
      refine p_dup2_11 (pc := 94) cx dX11_rooted_94 rfl rfl ?_
      refine p_iald (pc := 95) cx hr_7 hw.1 dX11_rooted_95 ?_
      have hw := hw.2
      refine p_iconst (pc := 96) (v := 1) cx dX11_rooted_96 (by decide) ?_
      refine p_iload_n (pc := 97) cx dX11_rooted_97 rfl 3 rfl ?_
      refine p_bipush (pc := 98) (v := 15) cx dX11_rooted_98 (by decide) ?_
      refine p_iand (pc := 100) cx dX11_rooted_100 ?_
      refine p_ishl (pc := 101) cx dX11_rooted_101 ?_
      refine p_ior (pc := 102) cx dX11_rooted_102 ?_
      refine p_iast (pc := 103) cx hr_7 hw.1 dX11_rooted_103 ?_
      have hw := hw.2
      refine p_mem (fun M8 eM8 => ?_)
      have hw := hw M8 eM8
      have hM8 : TYR G M8.2.2.1 := by rw [eM8]; exact hT
      refine p_aload_n (pc := 104) cx dX11_rooted_104 rfl 0 rfl ?_
      refine p_bipush (pc := 105) (v := 27) cx dX11_rooted_105 (by decide) ?_
      refine p_iload_n (pc := 107) cx dX11_rooted_107 rfl 2 rfl ?_
      refine p_iconst (pc := 108) (v := 1) cx dX11_rooted_108 (by decide) ?_
      refine p_isub (pc := 109) cx dX11_rooted_109 ?_
      refine p_iconst (pc := 110) (v := 4) cx dX11_rooted_110 (by decide) ?_
      refine p_ishr (pc := 111) cx dX11_rooted_111 ?_
      refine p_iconst (pc := 112) (v := 1) cx dX11_rooted_112 (by decide) ?_
      refine p_iadd (pc := 113) cx dX11_rooted_113 ?_
      refine p_iconst (pc := 114) (v := 1) cx dX11_rooted_114 (by decide) ?_
      refine p_callVv (pc := 115) [.int (27 : Int32), .int (((v2 - 1) >>> ((4 : Int32) &&& 31)) + 1), .int (1 : Int32)] cx (c_X11_trim cx.2.2.2.2.2.2 hM8 hv0 hw) cf_X11_trim cv_X11_trim t4_208 hv0 ⟨by decide, rfl, rfl⟩ ⟨rfl, rfl⟩ ⟨Nat.le_of_ble_eq_true rfl, Nat.le_of_ble_eq_true rfl⟩ rfl rfl (Nat.le_of_ble_eq_true rfl) dX11_rooted_115 (fun M9 hw hM9 => ?_)
      refine p_aload_n (pc := 118) cx dX11_rooted_118 rfl 0 rfl ?_
      refine p_iload_n (pc := 119) cx dX11_rooted_119 rfl 1 rfl ?_
      refine p_callVi (pc := 120) [.int v1] cx (c_X11_isLow cx.2.2.2.2.2.2 hM9 hv0 hw) cf_X11_isLow cv_X11_isLow t5_151 hv0 ⟨by decide, rfl, rfl⟩ ⟨rfl, rfl⟩ ⟨Nat.le_of_ble_eq_true rfl, Nat.le_of_ble_eq_true rfl⟩ rfl rfl (Nat.le_of_ble_eq_true rfl) dX11_rooted_120 (fun r10 M10 hw hM10 => ?_)
      refine p_if_ne (pc := 123) (tgt := 149) cx dX11_rooted_123 (by decide) (fun hc => ?_) (fun hc => ?_)
      · have hw := hw.1 hc
        exact x_X11_rooted_149 cx hr hlk ih v0 v1 v2 v3 M10 hM10 hv0 hw
      · have hw := hw.2 hc
        refine p_aload_n (pc := 126) cx dX11_rooted_126 rfl 0 rfl ?_
        refine gf_10_0 (pc := 127) cx hv0 t4_161 dX11_rooted_127 ?_
        have hr_13 : Is G 12 (mR M10 v0 0) := TYR.at hM10 hv0 0 12 rfl (by decide)
        refine p_sipush (pc := 130) (v := 7020) cx dX11_rooted_130 (by decide) ?_
        refine p_iload_n (pc := 133) cx dX11_rooted_133 rfl 3 rfl ?_
        refine p_iconst (pc := 134) (v := 4) cx dX11_rooted_134 (by decide) ?_
        refine p_ishr (pc := 135) cx dX11_rooted_135 ?_
        refine p_iadd (pc := 136) cx dX11_rooted_136 ?_
        refine p_dup2_11 (pc := 137) cx dX11_rooted_137 rfl rfl ?_
        refine p_iald (pc := 138) cx hr_13 hw.1 dX11_rooted_138 ?_
        have hw := hw.2
        refine p_iconst (pc := 139) (v := 1) cx dX11_rooted_139 (by decide) ?_
        refine p_iload_n (pc := 140) cx dX11_rooted_140 rfl 3 rfl ?_
        refine p_bipush (pc := 141) (v := 15) cx dX11_rooted_141 (by decide) ?_
        refine p_iand (pc := 143) cx dX11_rooted_143 ?_
        refine p_ishl (pc := 144) cx dX11_rooted_144 ?_
        refine p_iconst (pc := 145) (v := (-1)) cx dX11_rooted_145 (by decide) ?_
        refine p_ixor (pc := 146) cx dX11_rooted_146 ?_
        refine p_iand (pc := 147) cx dX11_rooted_147 ?_
        refine p_iast (pc := 148) cx hr_13 hw.1 dX11_rooted_148 ?_
        have hw := hw.2
        refine p_mem (fun M14 eM14 => ?_)
        have hw := hw M14 eM14
        have hM14 : TYR G M14.2.2.1 := by rw [eM14]; exact hM10
        exact x_X11_rooted_149 cx hr hlk ih v0 v1 v2 v3 M14 hM14 hv0 hw
set_option maxHeartbeats 4000000 in
set_option maxRecDepth 100000 in
theorem x_X11_rooted_51 {p : Program} {l : Launch} {e : Env} {s : State} {m : MethodId} {args : Array Value} {below : List Frame} {meth : Method} {c : Code} {D : va_G} {G : SH} {Qp : MS → Prop}  (cx : CX p s m args c D G cX11_rooted 4 RX11) (hr : meth.sig.returnType = none) (hlk : meth.locks = false)  : ∀ (n : Nat) (v0 : Nat) (v1 : Int32) (v2 : Int32) (v3 : Int32) (M : MS), TYR G M.2.2.1 → Is G 10 v0 → w_X11_rooted_51 G Qp n v0 v1 v2 v3 M → PW p l e rm_X11_rooted s m args below meth c D G 4 (MQ below (va_Qv Qp (POST D G) (AG G)) args s 0 0 (AG G)) 51 [(0, .ref v0), (1, .int v1), (2, .int v2), (3, .int v3)] [] M := by
  intro n
  induction n with
  | zero =>
    intro v0 v1 v2 v3 M hT hv0 hw
    exact hw.elim
  | succ n ih =>
    intro v0 v1 v2 v3 M hT hv0 hw
    rw [w_X11_rooted_51] at hw
    refine p_iload_n (pc := 51) cx dX11_rooted_51 rfl 3 rfl ?_
    refine p_sipush (pc := 52) (v := 260) cx dX11_rooted_52 (by decide) ?_
    refine p_icmp_ge (pc := 55) (tgt := 75) cx dX11_rooted_55 (by decide) (fun hc => ?_) (fun hc => ?_)
    · have hw := hw.1 hc
      refine p_iload_n (pc := 75) cx dX11_rooted_75 rfl 2 rfl ?_
      refine p_iconst (pc := 76) (v := 1) cx dX11_rooted_76 (by decide) ?_
      refine p_isub (pc := 77) cx dX11_rooted_77 ?_
      refine p_topi (fun x3_6 ex3_6 => ?_)
      have hw := hw x3_6 ex3_6
      refine p_istore_n (pc := 78) (lv' := [(0, .ref v0), (1, .int v1), (2, .int v2), (3, .int x3_6)]) cx dX11_rooted_78 rfl (by decide) [1, 2, 3, 0] rfl ?_
      obtain ⟨n1, hw⟩ := hw
      exact x_X11_rooted_79 cx hr hlk n1 v0 v1 v2 x3_6 M hT hv0 hw
    · have hw := hw.2 hc
      refine p_aload_n (pc := 58) cx dX11_rooted_58 rfl 0 rfl ?_
      refine gf_10_0 (pc := 59) cx hv0 t4_161 dX11_rooted_59 ?_
      have hr_15 : Is G 12 (mR M v0 0) := TYR.at hT hv0 0 12 rfl (by decide)
      refine p_sipush (pc := 62) (v := 7020) cx dX11_rooted_62 (by decide) ?_
      refine p_iload_n (pc := 65) cx dX11_rooted_65 rfl 3 rfl ?_
      refine p_iadd (pc := 66) cx dX11_rooted_66 ?_
      refine p_iconst (pc := 67) (v := 0) cx dX11_rooted_67 (by decide) ?_
      refine p_iast (pc := 68) cx hr_15 hw.1 dX11_rooted_68 ?_
      have hw := hw.2
      refine p_mem (fun M16 eM16 => ?_)
      have hw := hw M16 eM16
      have hM16 : TYR G M16.2.2.1 := by rw [eM16]; exact hT
      obtain ⟨x3_17, ex3_17⟩ : ∃ y : Int32, y = v3 + 1 := ⟨_, rfl⟩
      have hw := hw x3_17 ex3_17
      refine p_iinc (pc := 69) (v := x3_17) (lv' := [(0, .ref v0), (1, .int v1), (2, .int v2), (3, .int x3_17)]) cx dX11_rooted_69 3 rfl (by rw [ex3_17]; rfl) (by decide) [1, 2, 3, 0] rfl ?_
      refine p_goto (pc := 72) (tgt := 51) cx dX11_rooted_72 (by decide) ?_
      exact ih v0 v1 v2 x3_17 M16 hM16 hv0 hw
set_option maxHeartbeats 4000000 in
set_option maxRecDepth 100000 in
theorem c_X11_rooted {l : Launch} {D : va_G} {G : SH} (hND : ND G) {a0 : Nat} {a1 : Int32} {M : MS} {Qp : MS → Prop} (hT : TYR G M.2.2.1) (ha0 : Is G 10 a0) (hw : w_X11_rooted G a0 a1 M Qp) : MeV l D G yX11_rooted (Cond.code yX11_rooted cX11_rooted 4 none :: GW) rm_X11_rooted [.ref a0, .int a1] M Qp := by
  unfold MeV
  refine p_method (by decide) rfl (Nat.le_of_ble_eq_true rfl) hND ?_
  intro p e s m args below meth c cx hr hlk
  have cx : CX p s m args c D G cX11_rooted 4 RX11 := cx
  unfold w_X11_rooted at hw
  refine p_aload_n (pc := 0) cx dX11_rooted_0 rfl 0 rfl ?_
  refine p_bipush (pc := 1) (v := 27) cx dX11_rooted_1 (by decide) ?_
  refine p_iconst (pc := 3) (v := 0) cx dX11_rooted_3 (by decide) ?_
  refine p_callVv (pc := 4) [.int (27 : Int32), .int (0 : Int32)] cx (c_X11_small cx.2.2.2.2.2.2 hT ha0 hw) cf_X11_small cv_X11_small t4_228 ha0 ⟨by decide, rfl, rfl⟩ ⟨rfl, rfl⟩ ⟨Nat.le_of_ble_eq_true rfl, Nat.le_of_ble_eq_true rfl⟩ rfl rfl (Nat.le_of_ble_eq_true rfl) dX11_rooted_4 (fun M1 hw hM1 => ?_)
  refine p_aload_n (pc := 7) cx dX11_rooted_7 rfl 0 rfl ?_
  refine gf_10_1 (pc := 8) cx ha0 t4_162 dX11_rooted_8 ?_
  have hr_2 : Is G 12 (mR M1 a0 1) := TYR.at hM1 ha0 1 12 rfl (by decide)
  refine p_bipush (pc := 11) (v := 26) cx dX11_rooted_11 (by decide) ?_
  refine p_iald (pc := 13) cx hr_2 hw.1 dX11_rooted_13 ?_
  have hw := hw.2
  refine p_if_ne (pc := 14) (tgt := 18) cx dX11_rooted_14 (by decide) (fun hc => ?_) (fun hc => ?_)
  · have hw := hw.1 hc
    refine p_iload_n (pc := 18) cx dX11_rooted_18 rfl 1 rfl ?_
    refine p_aload_n (pc := 19) cx dX11_rooted_19 rfl 0 rfl ?_
    refine p_bipush (pc := 20) (v := 26) cx dX11_rooted_20 (by decide) ?_
    refine p_callVi (pc := 22) [.int (26 : Int32)] cx (c_X11_bits cx.2.2.2.2.2.2 hM1 ha0 hw) cf_X11_bits cv_X11_bits t5_53 ha0 ⟨by decide, rfl, rfl⟩ ⟨rfl, rfl⟩ ⟨Nat.le_of_ble_eq_true rfl, Nat.le_of_ble_eq_true rfl⟩ rfl rfl (Nat.le_of_ble_eq_true rfl) dX11_rooted_22 (fun r3 M3 hw hM3 => ?_)
    refine p_icmp_lt (pc := 25) (tgt := 36) cx dX11_rooted_25 (by decide) (fun hc => ?_) (fun hc => ?_)
    · have hw := hw.1 hc
      refine p_aload_n (pc := 36) cx dX11_rooted_36 rfl 0 rfl ?_
      refine p_bipush (pc := 37) (v := 26) cx dX11_rooted_37 (by decide) ?_
      refine p_callVi (pc := 39) [.int (26 : Int32)] cx (c_X11_bits cx.2.2.2.2.2.2 hM3 ha0 hw) cf_X11_bits cv_X11_bits t5_53 ha0 ⟨by decide, rfl, rfl⟩ ⟨rfl, rfl⟩ ⟨Nat.le_of_ble_eq_true rfl, Nat.le_of_ble_eq_true rfl⟩ rfl rfl (Nat.le_of_ble_eq_true rfl) dX11_rooted_39 (fun r4 M4 hw hM4 => ?_)
      refine p_iconst (pc := 42) (v := 1) cx dX11_rooted_42 (by decide) ?_
      refine p_isub (pc := 43) cx dX11_rooted_43 ?_
      refine p_iload_n (pc := 44) cx dX11_rooted_44 rfl 1 rfl ?_
      refine p_idiv (pc := 45) cx dX11_rooted_45 hw.1 ?_
      have hw := hw.2
      refine p_iconst (pc := 46) (v := 1) cx dX11_rooted_46 (by decide) ?_
      refine p_iadd (pc := 47) cx dX11_rooted_47 ?_
      refine p_topi (fun x2_5 ex2_5 => ?_)
      have hw := hw x2_5 ex2_5
      refine p_istore_n (pc := 48) (lv' := [(0, .ref a0), (1, .int a1), (2, .int x2_5)]) cx dX11_rooted_48 rfl (by decide) [1, 2, 0] rfl ?_
      refine p_iconst (pc := 49) (v := 0) cx dX11_rooted_49 (by decide) ?_
      refine p_istore_n (pc := 50) (lv' := [(0, .ref a0), (1, .int a1), (2, .int x2_5), (3, .int (0 : Int32))]) cx dX11_rooted_50 rfl (by decide) [1, 2, 3, 0] rfl ?_
      obtain ⟨n1, hw⟩ := hw
      exact x_X11_rooted_51 cx hr hlk n1 a0 a1 x2_5 0 M4 hM4 ha0 hw
    · have hw := hw.2 hc
      refine p_aload_n (pc := 28) cx dX11_rooted_28 rfl 0 rfl ?_
      refine p_bipush (pc := 29) (v := 27) cx dX11_rooted_29 (by decide) ?_
      refine p_iconst (pc := 31) (v := 1) cx dX11_rooted_31 (by decide) ?_
      refine p_callVv (pc := 32) [.int (27 : Int32), .int (1 : Int32)] cx (c_X11_small cx.2.2.2.2.2.2 hM3 ha0 hw) cf_X11_small cv_X11_small t4_228 ha0 ⟨by decide, rfl, rfl⟩ ⟨rfl, rfl⟩ ⟨Nat.le_of_ble_eq_true rfl, Nat.le_of_ble_eq_true rfl⟩ rfl rfl (Nat.le_of_ble_eq_true rfl) dX11_rooted_32 (fun M18 hw hM18 => ?_)
      exact p_vret (pc := 35) cx hr hlk dX11_rooted_35 hM18 hw
  · have hw := hw.2 hc
    exact p_vret (pc := 17) cx hr hlk dX11_rooted_17 hM1 hw
set_option maxHeartbeats 4000000 in
set_option maxRecDepth 100000 in
theorem c_X11_root {l : Launch} {D : va_G} {G : SH} (hND : ND G) {a0 : Nat} {a1 : Int32} {a2 : Int32} {a3 : Int32} {M : MS} {Qp : Int32 → MS → Prop} (hT : TYR G M.2.2.1) (ha0 : Is G 10 a0) (hw : w_X11_root G a0 a1 a2 a3 M Qp) : MeI l D G yX11_root (Cond.code yX11_root cX11_root 4 (some .int) :: GW) rm_X11_root [.ref a0, .int a1, .int a2, .int a3] M Qp := by
  unfold MeI
  refine p_method (by decide) rfl (Nat.le_of_ble_eq_true rfl) hND ?_
  intro p e s m args below meth c cx hr hlk
  have cx : CX p s m args c D G cX11_root 4 RX11 := cx
  unfold w_X11_root at hw
  refine p_aload_n (pc := 0) cx dX11_root_0 rfl 0 rfl ?_
  refine p_iconst (pc := 1) (v := 0) cx dX11_root_1 (by decide) ?_
  refine pf_10_5 (pc := 2) cx ha0 t4_166 dX11_root_2 ?_
  refine p_mem (fun M1 eM1 => ?_)
  have hw := hw M1 eM1
  have hM1 : TYR G M1.2.2.1 := by rw [eM1]; exact hT
  refine p_aload_n (pc := 5) cx dX11_root_5 rfl 0 rfl ?_
  refine p_iload_n (pc := 6) cx dX11_root_6 rfl 1 rfl ?_
  refine p_callVi (pc := 7) [.int a1] cx (c_X11_no cx.2.2.2.2.2.2 hM1 ha0 hw) cf_X11_no cv_X11_no t4_203 ha0 ⟨by decide, rfl, rfl⟩ ⟨rfl, rfl⟩ ⟨Nat.le_of_ble_eq_true rfl, Nat.le_of_ble_eq_true rfl⟩ rfl rfl (Nat.le_of_ble_eq_true rfl) dX11_root_7 (fun r2 M2 hw hM2 => ?_)
  refine p_if_ne (pc := 10) (tgt := 21) cx dX11_root_10 (by decide) (fun hc => ?_) (fun hc => ?_)
  · have hw := hw.1 hc
    refine p_iconst (pc := 21) (v := 3) cx dX11_root_21 (by decide) ?_
    exact p_iret (pc := 22) cx hr hlk dX11_root_22 hM2 hw
  · have hw := hw.2 hc
    refine p_aload_n (pc := 13) cx dX11_root_13 rfl 0 rfl ?_
    refine p_iload_n (pc := 14) cx dX11_root_14 rfl 2 rfl ?_
    refine p_callVi (pc := 15) [.int a2] cx (c_X11_no cx.2.2.2.2.2.2 hM2 ha0 hw) cf_X11_no cv_X11_no t4_203 ha0 ⟨by decide, rfl, rfl⟩ ⟨rfl, rfl⟩ ⟨Nat.le_of_ble_eq_true rfl, Nat.le_of_ble_eq_true rfl⟩ rfl rfl (Nat.le_of_ble_eq_true rfl) dX11_root_15 (fun r3 M3 hw hM3 => ?_)
    refine p_if_eq (pc := 18) (tgt := 23) cx dX11_root_18 (by decide) (fun hc => ?_) (fun hc => ?_)
    · have hw := hw.1 hc
      refine p_aload_n (pc := 23) cx dX11_root_23 rfl 0 rfl ?_
      refine gf_10_2 (pc := 24) cx ha0 t4_163 dX11_root_24 ?_
      have hr_4 : Is G 12 (mR M3 a0 2) := TYR.at hM3 ha0 2 12 rfl (by decide)
      refine p_iload_n (pc := 27) cx dX11_root_27 rfl 2 rfl ?_
      refine p_iald (pc := 28) cx hr_4 hw.1 dX11_root_28 ?_
      have hw := hw.2
      refine p_if_lt (pc := 29) (tgt := 37) cx dX11_root_29 (by decide) (fun hc => ?_) (fun hc => ?_)
      · have hw := hw.1 hc
        refine p_iconst (pc := 37) (v := 2) cx dX11_root_37 (by decide) ?_
        exact p_iret (pc := 38) cx hr hlk dX11_root_38 hM3 hw
      · have hw := hw.2 hc
        refine p_iload_n (pc := 32) cx dX11_root_32 rfl 3 rfl ?_
        refine p_iconst (pc := 33) (v := 1) cx dX11_root_33 (by decide) ?_
        refine p_icmp_ge (pc := 34) (tgt := 39) cx dX11_root_34 (by decide) (fun hc => ?_) (fun hc => ?_)
        · have hw := hw.1 hc
          refine p_aload_n (pc := 39) cx dX11_root_39 rfl 0 rfl ?_
          refine p_bipush (pc := 40) (v := 26) cx dX11_root_40 (by decide) ?_
          refine p_iload_n (pc := 42) cx dX11_root_42 rfl 2 rfl ?_
          refine p_callVv (pc := 43) [.int (26 : Int32), .int a2] cx (c_X11_copy cx.2.2.2.2.2.2 hM3 ha0 hw) cf_X11_copy cv_X11_copy t4_220 ha0 ⟨by decide, rfl, rfl⟩ ⟨rfl, rfl⟩ ⟨Nat.le_of_ble_eq_true rfl, Nat.le_of_ble_eq_true rfl⟩ rfl rfl (Nat.le_of_ble_eq_true rfl) dX11_root_43 (fun M5 hw hM5 => ?_)
          refine p_iload_n (pc := 46) cx dX11_root_46 rfl 3 rfl ?_
          refine p_iconst (pc := 47) (v := 1) cx dX11_root_47 (by decide) ?_
          refine p_icmp_ne (pc := 48) (tgt := 62) cx dX11_root_48 (by decide) (fun hc => ?_) (fun hc => ?_)
          · have hw := hw.1 hc
            refine p_aload_n (pc := 62) cx dX11_root_62 rfl 0 rfl ?_
            refine p_iload_n (pc := 63) cx dX11_root_63 rfl 3 rfl ?_
            refine p_callVv (pc := 64) [.int a3] cx (c_X11_rooted cx.2.2.2.2.2.2 hM5 ha0 hw) cf_X11_rooted cv_X11_rooted t5_147 ha0 ⟨by decide, rfl, rfl⟩ ⟨rfl, rfl⟩ ⟨Nat.le_of_ble_eq_true rfl, Nat.le_of_ble_eq_true rfl⟩ rfl rfl (Nat.le_of_ble_eq_true rfl) dX11_root_64 (fun M6 hw hM6 => ?_)
            refine p_aload_n (pc := 67) cx dX11_root_67 rfl 0 rfl ?_
            refine p_iload_n (pc := 68) cx dX11_root_68 rfl 1 rfl ?_
            refine p_bipush (pc := 69) (v := 27) cx dX11_root_69 (by decide) ?_
            refine p_callVv (pc := 71) [.int a1, .int (27 : Int32)] cx (c_X11_copy cx.2.2.2.2.2.2 hM6 ha0 hw) cf_X11_copy cv_X11_copy t4_220 ha0 ⟨by decide, rfl, rfl⟩ ⟨rfl, rfl⟩ ⟨Nat.le_of_ble_eq_true rfl, Nat.le_of_ble_eq_true rfl⟩ rfl rfl (Nat.le_of_ble_eq_true rfl) dX11_root_71 (fun M7 hw hM7 => ?_)
            refine p_iconst (pc := 74) (v := 0) cx dX11_root_74 (by decide) ?_
            exact p_iret (pc := 75) cx hr hlk dX11_root_75 hM7 hw
          · have hw := hw.2 hc
            refine p_aload_n (pc := 51) cx dX11_root_51 rfl 0 rfl ?_
            refine p_bipush (pc := 52) (v := 27) cx dX11_root_52 (by decide) ?_
            refine p_bipush (pc := 54) (v := 26) cx dX11_root_54 (by decide) ?_
            refine p_callVv (pc := 56) [.int (27 : Int32), .int (26 : Int32)] cx (c_X11_copy cx.2.2.2.2.2.2 hM5 ha0 hw) cf_X11_copy cv_X11_copy t4_220 ha0 ⟨by decide, rfl, rfl⟩ ⟨rfl, rfl⟩ ⟨Nat.le_of_ble_eq_true rfl, Nat.le_of_ble_eq_true rfl⟩ rfl rfl (Nat.le_of_ble_eq_true rfl) dX11_root_56 (fun M8 hw hM8 => ?_)
            refine p_goto (pc := 59) (tgt := 67) cx dX11_root_59 (by decide) ?_
            refine p_aload_n (pc := 67) cx dX11_root_67 rfl 0 rfl ?_
            refine p_iload_n (pc := 68) cx dX11_root_68 rfl 1 rfl ?_
            refine p_bipush (pc := 69) (v := 27) cx dX11_root_69 (by decide) ?_
            refine p_callVv (pc := 71) [.int a1, .int (27 : Int32)] cx (c_X11_copy cx.2.2.2.2.2.2 hM8 ha0 hw) cf_X11_copy cv_X11_copy t4_220 ha0 ⟨by decide, rfl, rfl⟩ ⟨rfl, rfl⟩ ⟨Nat.le_of_ble_eq_true rfl, Nat.le_of_ble_eq_true rfl⟩ rfl rfl (Nat.le_of_ble_eq_true rfl) dX11_root_71 (fun M9 hw hM9 => ?_)
            refine p_iconst (pc := 74) (v := 0) cx dX11_root_74 (by decide) ?_
            exact p_iret (pc := 75) cx hr hlk dX11_root_75 hM9 hw
        · have hw := hw.2 hc
          refine p_iconst (pc := 37) (v := 2) cx dX11_root_37 (by decide) ?_
          exact p_iret (pc := 38) cx hr hlk dX11_root_38 hM3 hw
    · have hw := hw.2 hc
      refine p_iconst (pc := 21) (v := 3) cx dX11_root_21 (by decide) ?_
      exact p_iret (pc := 22) cx hr hlk dX11_root_22 hM3 hw
set_option maxHeartbeats 4000000 in
set_option maxRecDepth 100000 in
theorem c_X11_isqrt {l : Launch} {D : va_G} {G : SH} (hND : ND G) {a0 : Nat} {a1 : Int32} {a2 : Int32} {M : MS} {Qp : Int32 → MS → Prop} (hT : TYR G M.2.2.1) (ha0 : Is G 10 a0) (hw : w_X11_isqrt G a0 a1 a2 M Qp) : MeI l D G yX11_isqrt (Cond.code yX11_isqrt cX11_isqrt 3 (some .int) :: GW) rm_X11_isqrt [.ref a0, .int a1, .int a2] M Qp := by
  unfold MeI
  refine p_method (by decide) rfl (Nat.le_of_ble_eq_true rfl) hND ?_
  intro p e s m args below meth c cx hr hlk
  have cx : CX p s m args c D G cX11_isqrt 3 RX11 := cx
  unfold w_X11_isqrt at hw
  refine p_aload_n (pc := 0) cx dX11_isqrt_0 rfl 0 rfl ?_
  refine p_iload_n (pc := 1) cx dX11_isqrt_1 rfl 1 rfl ?_
  refine p_iload_n (pc := 2) cx dX11_isqrt_2 rfl 2 rfl ?_
  refine p_iconst (pc := 3) (v := 2) cx dX11_isqrt_3 (by decide) ?_
  refine p_callVi (pc := 4) [.int a1, .int a2, .int (2 : Int32)] cx (c_X11_root cx.2.2.2.2.2.2 hT ha0 hw) cf_X11_root cv_X11_root t5_143 ha0 ⟨by decide, rfl, rfl⟩ ⟨rfl, rfl⟩ ⟨Nat.le_of_ble_eq_true rfl, Nat.le_of_ble_eq_true rfl⟩ rfl rfl (Nat.le_of_ble_eq_true rfl) dX11_isqrt_4 (fun r1 M1 hw hM1 => ?_)
  exact p_iret (pc := 7) cx hr hlk dX11_isqrt_7 hM1 hw
set_option maxHeartbeats 4000000 in
set_option maxRecDepth 100000 in
theorem c_X11_isSquare {l : Launch} {D : va_G} {G : SH} (hND : ND G) {a0 : Nat} {a1 : Int32} {M : MS} {Qp : Int32 → MS → Prop} (hT : TYR G M.2.2.1) (ha0 : Is G 10 a0) (hw : w_X11_isSquare G a0 a1 M Qp) : MeI l D G yX11_isSquare (Cond.code yX11_isSquare cX11_isSquare 2 (some .int) :: GW) rm_X11_isSquare [.ref a0, .int a1] M Qp := by
  unfold MeI
  refine p_method (by decide) rfl (Nat.le_of_ble_eq_true rfl) hND ?_
  intro p e s m args below meth c cx hr hlk
  have cx : CX p s m args c D G cX11_isSquare 2 RX11 := cx
  unfold w_X11_isSquare at hw
  refine p_aload_n (pc := 0) cx dX11_isSquare_0 rfl 0 rfl ?_
  refine p_iconst (pc := 1) (v := 0) cx dX11_isSquare_1 (by decide) ?_
  refine pf_10_5 (pc := 2) cx ha0 t4_166 dX11_isSquare_2 ?_
  refine p_mem (fun M1 eM1 => ?_)
  have hw := hw M1 eM1
  have hM1 : TYR G M1.2.2.1 := by rw [eM1]; exact hT
  refine p_aload_n (pc := 5) cx dX11_isSquare_5 rfl 0 rfl ?_
  refine p_iload_n (pc := 6) cx dX11_isSquare_6 rfl 1 rfl ?_
  refine p_callVi (pc := 7) [.int a1] cx (c_X11_no cx.2.2.2.2.2.2 hM1 ha0 hw) cf_X11_no cv_X11_no t4_203 ha0 ⟨by decide, rfl, rfl⟩ ⟨rfl, rfl⟩ ⟨Nat.le_of_ble_eq_true rfl, Nat.le_of_ble_eq_true rfl⟩ rfl rfl (Nat.le_of_ble_eq_true rfl) dX11_isSquare_7 (fun r2 M2 hw hM2 => ?_)
  refine p_if_eq (pc := 10) (tgt := 15) cx dX11_isSquare_10 (by decide) (fun hc => ?_) (fun hc => ?_)
  · have hw := hw.1 hc
    refine p_aload_n (pc := 15) cx dX11_isSquare_15 rfl 0 rfl ?_
    refine gf_10_2 (pc := 16) cx ha0 t4_163 dX11_isSquare_16 ?_
    have hr_3 : Is G 12 (mR M2 a0 2) := TYR.at hM2 ha0 2 12 rfl (by decide)
    refine p_iload_n (pc := 19) cx dX11_isSquare_19 rfl 1 rfl ?_
    refine p_iald (pc := 20) cx hr_3 hw.1 dX11_isSquare_20 ?_
    have hw := hw.2
    refine p_if_ge (pc := 21) (tgt := 26) cx dX11_isSquare_21 (by decide) (fun hc => ?_) (fun hc => ?_)
    · have hw := hw.1 hc
      refine p_aload_n (pc := 26) cx dX11_isSquare_26 rfl 0 rfl ?_
      refine p_bipush (pc := 27) (v := 26) cx dX11_isSquare_27 (by decide) ?_
      refine p_iload_n (pc := 29) cx dX11_isSquare_29 rfl 1 rfl ?_
      refine p_callVv (pc := 30) [.int (26 : Int32), .int a1] cx (c_X11_copy cx.2.2.2.2.2.2 hM2 ha0 hw) cf_X11_copy cv_X11_copy t4_220 ha0 ⟨by decide, rfl, rfl⟩ ⟨rfl, rfl⟩ ⟨Nat.le_of_ble_eq_true rfl, Nat.le_of_ble_eq_true rfl⟩ rfl rfl (Nat.le_of_ble_eq_true rfl) dX11_isSquare_30 (fun M4 hw hM4 => ?_)
      refine p_aload_n (pc := 33) cx dX11_isSquare_33 rfl 0 rfl ?_
      refine p_iconst (pc := 34) (v := 2) cx dX11_isSquare_34 (by decide) ?_
      refine p_callVv (pc := 35) [.int (2 : Int32)] cx (c_X11_rooted cx.2.2.2.2.2.2 hM4 ha0 hw) cf_X11_rooted cv_X11_rooted t5_147 ha0 ⟨by decide, rfl, rfl⟩ ⟨rfl, rfl⟩ ⟨Nat.le_of_ble_eq_true rfl, Nat.le_of_ble_eq_true rfl⟩ rfl rfl (Nat.le_of_ble_eq_true rfl) dX11_isSquare_35 (fun M5 hw hM5 => ?_)
      refine p_aload_n (pc := 38) cx dX11_isSquare_38 rfl 0 rfl ?_
      refine p_bipush (pc := 39) (v := 19) cx dX11_isSquare_39 (by decide) ?_
      refine p_bipush (pc := 41) (v := 27) cx dX11_isSquare_41 (by decide) ?_
      refine p_bipush (pc := 43) (v := 27) cx dX11_isSquare_43 (by decide) ?_
      refine p_callVv (pc := 45) [.int (19 : Int32), .int (27 : Int32), .int (27 : Int32)] cx (c_X11_product cx.2.2.2.2.2.2 hM5 ha0 hw) cf_X11_product cv_X11_product t5_28 ha0 ⟨by decide, rfl, rfl⟩ ⟨rfl, rfl⟩ ⟨Nat.le_of_ble_eq_true rfl, Nat.le_of_ble_eq_true rfl⟩ rfl rfl (Nat.le_of_ble_eq_true rfl) dX11_isSquare_45 (fun M6 hw hM6 => ?_)
      refine p_aload_n (pc := 48) cx dX11_isSquare_48 rfl 0 rfl ?_
      refine p_bipush (pc := 49) (v := 19) cx dX11_isSquare_49 (by decide) ?_
      refine p_bipush (pc := 51) (v := 26) cx dX11_isSquare_51 (by decide) ?_
      refine p_callVi (pc := 53) [.int (19 : Int32), .int (26 : Int32)] cx (c_X11_sizes cx.2.2.2.2.2.2 hM6 ha0 hw) cf_X11_sizes cv_X11_sizes t5_12 ha0 ⟨by decide, rfl, rfl⟩ ⟨rfl, rfl⟩ ⟨Nat.le_of_ble_eq_true rfl, Nat.le_of_ble_eq_true rfl⟩ rfl rfl (Nat.le_of_ble_eq_true rfl) dX11_isSquare_53 (fun r7 M7 hw hM7 => ?_)
      refine p_if_ne (pc := 56) (tgt := 63) cx dX11_isSquare_56 (by decide) (fun hc => ?_) (fun hc => ?_)
      · have hw := hw.1 hc
        refine p_iconst (pc := 63) (v := 0) cx dX11_isSquare_63 (by decide) ?_
        exact p_iret (pc := 64) cx hr hlk dX11_isSquare_64 hM7 hw
      · have hw := hw.2 hc
        refine p_iconst (pc := 59) (v := 1) cx dX11_isSquare_59 (by decide) ?_
        refine p_goto (pc := 60) (tgt := 64) cx dX11_isSquare_60 (by decide) ?_
        exact p_iret (pc := 64) cx hr hlk dX11_isSquare_64 hM7 hw
    · have hw := hw.2 hc
      refine p_iconst (pc := 24) (v := 0) cx dX11_isSquare_24 (by decide) ?_
      exact p_iret (pc := 25) cx hr hlk dX11_isSquare_25 hM2 hw
  · have hw := hw.2 hc
    refine p_iconst (pc := 13) (v := 3) cx dX11_isSquare_13 (by decide) ?_
    exact p_iret (pc := 14) cx hr hlk dX11_isSquare_14 hM2 hw
set_option maxHeartbeats 4000000 in
set_option maxRecDepth 100000 in
theorem x_X11_jacobi_187 {p : Program} {l : Launch} {e : Env} {s : State} {m : MethodId} {args : Array Value} {below : List Frame} {meth : Method} {c : Code} {D : va_G} {G : SH} {Qp : Int32 → MS → Prop} {K72 : Nat → Int32 → MS → Prop} (cx : CX p s m args c D G cX11_jacobi 6 RX11) (hr : meth.sig.returnType = (some .int)) (hlk : meth.locks = false) (hK72 : ∀ (v0 : Nat) (v3 : Int32) (M : MS), TYR G M.2.2.1 → Is G 10 v0 → K72 v0 v3 M → PW p l e rm_X11_jacobi s m args below meth c D G 6 (MQ below (va_Qi Qp (POST D G) (AG G)) args s 0 0 (AG G)) 72 [(0, .ref v0), (3, .int v3)] [] M) (v0 : Nat) (v3 : Int32) (M : MS) (hT : TYR G M.2.2.1) (hv0 : Is G 10 v0) (hw : w_X11_jacobi_187 G K72 Qp v0 v3 M) : PW p l e rm_X11_jacobi s m args below meth c D G 6 (MQ below (va_Qi Qp (POST D G) (AG G)) args s 0 0 (AG G)) 187 [(0, .ref v0), (3, .int v3)] [] M := by
  unfold w_X11_jacobi_187 at hw
  refine p_aload_n (pc := 187) cx dX11_jacobi_187 rfl 0 rfl ?_
  refine p_bipush (pc := 188) (v := 17) cx dX11_jacobi_188 (by decide) ?_
  refine p_bipush (pc := 190) (v := 18) cx dX11_jacobi_190 (by decide) ?_
  refine p_bipush (pc := 192) (v := 21) cx dX11_jacobi_192 (by decide) ?_
  refine p_bipush (pc := 194) (v := 20) cx dX11_jacobi_194 (by decide) ?_
  refine p_callVv (pc := 196) [.int (17 : Int32), .int (18 : Int32), .int (21 : Int32), .int (20 : Int32)] cx (c_X11_quotient cx.2.2.2.2.2.2 hT hv0 hw) cf_X11_quotient cv_X11_quotient t5_41 hv0 ⟨by decide, rfl, rfl⟩ ⟨rfl, rfl⟩ ⟨Nat.le_of_ble_eq_true rfl, Nat.le_of_ble_eq_true rfl⟩ rfl rfl (Nat.le_of_ble_eq_true rfl) dX11_jacobi_196 (fun M18 hw hM18 => ?_)
  refine p_aload_n (pc := 199) cx dX11_jacobi_199 rfl 0 rfl ?_
  refine p_bipush (pc := 200) (v := 21) cx dX11_jacobi_200 (by decide) ?_
  refine p_bipush (pc := 202) (v := 20) cx dX11_jacobi_202 (by decide) ?_
  refine p_callVv (pc := 204) [.int (21 : Int32), .int (20 : Int32)] cx (c_X11_copy cx.2.2.2.2.2.2 hM18 hv0 hw) cf_X11_copy cv_X11_copy t4_220 hv0 ⟨by decide, rfl, rfl⟩ ⟨rfl, rfl⟩ ⟨Nat.le_of_ble_eq_true rfl, Nat.le_of_ble_eq_true rfl⟩ rfl rfl (Nat.le_of_ble_eq_true rfl) dX11_jacobi_204 (fun M19 hw hM19 => ?_)
  refine p_aload_n (pc := 207) cx dX11_jacobi_207 rfl 0 rfl ?_
  refine p_bipush (pc := 208) (v := 20) cx dX11_jacobi_208 (by decide) ?_
  refine p_bipush (pc := 210) (v := 18) cx dX11_jacobi_210 (by decide) ?_
  refine p_callVv (pc := 212) [.int (20 : Int32), .int (18 : Int32)] cx (c_X11_copy cx.2.2.2.2.2.2 hM19 hv0 hw) cf_X11_copy cv_X11_copy t4_220 hv0 ⟨by decide, rfl, rfl⟩ ⟨rfl, rfl⟩ ⟨Nat.le_of_ble_eq_true rfl, Nat.le_of_ble_eq_true rfl⟩ rfl rfl (Nat.le_of_ble_eq_true rfl) dX11_jacobi_212 (fun M20 hw hM20 => ?_)
  refine p_goto (pc := 215) (tgt := 72) cx dX11_jacobi_215 (by decide) ?_
  exact hK72 v0 v3 M20 hM20 hv0 hw
set_option maxHeartbeats 4000000 in
set_option maxRecDepth 100000 in
theorem x_X11_jacobi_138 {p : Program} {l : Launch} {e : Env} {s : State} {m : MethodId} {args : Array Value} {below : List Frame} {meth : Method} {c : Code} {D : va_G} {G : SH} {Qp : Int32 → MS → Prop} {K72 : Nat → Int32 → MS → Prop} (cx : CX p s m args c D G cX11_jacobi 6 RX11) (hr : meth.sig.returnType = (some .int)) (hlk : meth.locks = false) (hK72 : ∀ (v0 : Nat) (v3 : Int32) (M : MS), TYR G M.2.2.1 → Is G 10 v0 → K72 v0 v3 M → PW p l e rm_X11_jacobi s m args below meth c D G 6 (MQ below (va_Qi Qp (POST D G) (AG G)) args s 0 0 (AG G)) 72 [(0, .ref v0), (3, .int v3)] [] M) (v0 : Nat) (v3 : Int32) (v4 : Int32) (M : MS) (hT : TYR G M.2.2.1) (hv0 : Is G 10 v0) (hw : w_X11_jacobi_138 G K72 Qp v0 v3 v4 M) : PW p l e rm_X11_jacobi s m args below meth c D G 6 (MQ below (va_Qi Qp (POST D G) (AG G)) args s 0 0 (AG G)) 138 [(0, .ref v0), (3, .int v3), (4, .int v4)] [] M := by
  unfold w_X11_jacobi_138 at hw
  refine p_aload_n (pc := 138) cx dX11_jacobi_138 rfl 0 rfl ?_
  refine p_bipush (pc := 139) (v := 19) cx dX11_jacobi_139 (by decide) ?_
  refine p_bipush (pc := 141) (v := 20) cx dX11_jacobi_141 (by decide) ?_
  refine p_iload (pc := 143) cx dX11_jacobi_143 2 rfl ?_
  refine p_callVv (pc := 145) [.int (19 : Int32), .int (20 : Int32), .int v4] cx (c_X11_halved cx.2.2.2.2.2.2 hT hv0 hw) cf_X11_halved cv_X11_halved t5_67 hv0 ⟨by decide, rfl, rfl⟩ ⟨rfl, rfl⟩ ⟨Nat.le_of_ble_eq_true rfl, Nat.le_of_ble_eq_true rfl⟩ rfl rfl (Nat.le_of_ble_eq_true rfl) dX11_jacobi_145 (fun M15 hw hM15 => ?_)
  refine p_aload_n (pc := 148) cx dX11_jacobi_148 rfl 0 rfl ?_
  refine p_bipush (pc := 149) (v := 20) cx dX11_jacobi_149 (by decide) ?_
  refine p_bipush (pc := 151) (v := 19) cx dX11_jacobi_151 (by decide) ?_
  refine p_callVv (pc := 153) [.int (20 : Int32), .int (19 : Int32)] cx (c_X11_copy cx.2.2.2.2.2.2 hM15 hv0 hw) cf_X11_copy cv_X11_copy t4_220 hv0 ⟨by decide, rfl, rfl⟩ ⟨rfl, rfl⟩ ⟨Nat.le_of_ble_eq_true rfl, Nat.le_of_ble_eq_true rfl⟩ rfl rfl (Nat.le_of_ble_eq_true rfl) dX11_jacobi_153 (fun M16 hw hM16 => ?_)
  refine p_aload_n (pc := 156) cx dX11_jacobi_156 rfl 0 rfl ?_
  refine gf_10_0 (pc := 157) cx hv0 t4_161 dX11_jacobi_157 ?_
  have hr_17 : Is G 12 (mR M16 v0 0) := TYR.at hM16 hv0 0 12 rfl (by decide)
  refine p_sipush (pc := 160) (v := 5200) cx dX11_jacobi_160 (by decide) ?_
  refine p_iald (pc := 163) cx hr_17 hw.1 dX11_jacobi_163 ?_
  have hw := hw.2
  refine p_iconst (pc := 164) (v := 3) cx dX11_jacobi_164 (by decide) ?_
  refine p_iand (pc := 165) cx dX11_jacobi_165 ?_
  refine p_iconst (pc := 166) (v := 3) cx dX11_jacobi_166 (by decide) ?_
  refine p_icmp_ne (pc := 167) (tgt := 187) cx dX11_jacobi_167 (by decide) (fun hc => ?_) (fun hc => ?_)
  · have hw := hw.1 hc
    refine p_perm (lv' := [(0, .ref v0), (3, .int v3)]) [0, 1] rfl ?_
    exact x_X11_jacobi_187 cx hr hlk hK72 v0 v3 M16 hM16 hv0 hw
  · have hw := hw.2 hc
    refine p_aload_n (pc := 170) cx dX11_jacobi_170 rfl 0 rfl ?_
    refine gf_10_0 (pc := 171) cx hv0 t4_161 dX11_jacobi_171 ?_
    have hr_21 : Is G 12 (mR M16 v0 0) := TYR.at hM16 hv0 0 12 rfl (by decide)
    refine p_sipush (pc := 174) (v := 5460) cx dX11_jacobi_174 (by decide) ?_
    refine p_iald (pc := 177) cx hr_21 hw.1 dX11_jacobi_177 ?_
    have hw := hw.2
    refine p_iconst (pc := 178) (v := 3) cx dX11_jacobi_178 (by decide) ?_
    refine p_iand (pc := 179) cx dX11_jacobi_179 ?_
    refine p_iconst (pc := 180) (v := 3) cx dX11_jacobi_180 (by decide) ?_
    refine p_icmp_ne (pc := 181) (tgt := 187) cx dX11_jacobi_181 (by decide) (fun hc => ?_) (fun hc => ?_)
    · have hw := hw.1 hc
      refine p_perm (lv' := [(0, .ref v0), (3, .int v3)]) [0, 1] rfl ?_
      exact x_X11_jacobi_187 cx hr hlk hK72 v0 v3 M16 hM16 hv0 hw
    · have hw := hw.2 hc
      refine p_iload_n (pc := 184) cx dX11_jacobi_184 rfl 1 rfl ?_
      refine p_ineg (pc := 185) cx dX11_jacobi_185 ?_
      refine p_topi (fun x3_22 ex3_22 => ?_)
      have hw := hw x3_22 ex3_22
      refine p_istore_n (pc := 186) (lv' := [(0, .ref v0), (3, .int x3_22)]) cx dX11_jacobi_186 rfl (by decide) [1, 0] rfl ?_
      exact x_X11_jacobi_187 cx hr hlk hK72 v0 x3_22 M16 hM16 hv0 hw
set_option maxHeartbeats 4000000 in
set_option maxRecDepth 100000 in
theorem x_X11_jacobi_135 {p : Program} {l : Launch} {e : Env} {s : State} {m : MethodId} {args : Array Value} {below : List Frame} {meth : Method} {c : Code} {D : va_G} {G : SH} {Qp : Int32 → MS → Prop} {K72 : Nat → Int32 → MS → Prop} (cx : CX p s m args c D G cX11_jacobi 6 RX11) (hr : meth.sig.returnType = (some .int)) (hlk : meth.locks = false) (hK72 : ∀ (v0 : Nat) (v3 : Int32) (M : MS), TYR G M.2.2.1 → Is G 10 v0 → K72 v0 v3 M → PW p l e rm_X11_jacobi s m args below meth c D G 6 (MQ below (va_Qi Qp (POST D G) (AG G)) args s 0 0 (AG G)) 72 [(0, .ref v0), (3, .int v3)] [] M) (v0 : Nat) (v3 : Int32) (v4 : Int32) (M : MS) (hT : TYR G M.2.2.1) (hv0 : Is G 10 v0) (hw : w_X11_jacobi_135 G K72 Qp v0 v3 v4 M) : PW p l e rm_X11_jacobi s m args below meth c D G 6 (MQ below (va_Qi Qp (POST D G) (AG G)) args s 0 0 (AG G)) 135 [(0, .ref v0), (3, .int v3), (4, .int v4)] [] M := by
  unfold w_X11_jacobi_135 at hw
  refine p_iload_n (pc := 135) cx dX11_jacobi_135 rfl 1 rfl ?_
  refine p_ineg (pc := 136) cx dX11_jacobi_136 ?_
  refine p_topi (fun x3_23 ex3_23 => ?_)
  have hw := hw x3_23 ex3_23
  refine p_istore_n (pc := 137) (lv' := [(0, .ref v0), (3, .int x3_23), (4, .int v4)]) cx dX11_jacobi_137 rfl (by decide) [1, 0, 2] rfl ?_
  exact x_X11_jacobi_138 cx hr hlk hK72 v0 x3_23 v4 M hT hv0 hw
set_option maxHeartbeats 4000000 in
set_option maxRecDepth 100000 in
theorem x_X11_jacobi_85 {p : Program} {l : Launch} {e : Env} {s : State} {m : MethodId} {args : Array Value} {below : List Frame} {meth : Method} {c : Code} {D : va_G} {G : SH} {Qp : Int32 → MS → Prop} {K72 : Nat → Int32 → MS → Prop} (cx : CX p s m args c D G cX11_jacobi 6 RX11) (hr : meth.sig.returnType = (some .int)) (hlk : meth.locks = false) (hK72 : ∀ (v0 : Nat) (v3 : Int32) (M : MS), TYR G M.2.2.1 → Is G 10 v0 → K72 v0 v3 M → PW p l e rm_X11_jacobi s m args below meth c D G 6 (MQ below (va_Qi Qp (POST D G) (AG G)) args s 0 0 (AG G)) 72 [(0, .ref v0), (3, .int v3)] [] M) : ∀ (n : Nat) (v0 : Nat) (v3 : Int32) (v4 : Int32) (M : MS), TYR G M.2.2.1 → Is G 10 v0 → w_X11_jacobi_85 G K72 Qp n v0 v3 v4 M → PW p l e rm_X11_jacobi s m args below meth c D G 6 (MQ below (va_Qi Qp (POST D G) (AG G)) args s 0 0 (AG G)) 85 [(0, .ref v0), (3, .int v3), (4, .int v4)] [] M := by
  intro n
  induction n with
  | zero =>
    intro v0 v3 v4 M hT hv0 hw
    exact hw.elim
  | succ n ih =>
    intro v0 v3 v4 M hT hv0 hw
    rw [w_X11_jacobi_85] at hw
    refine p_aload_n (pc := 85) cx dX11_jacobi_85 rfl 0 rfl ?_
    refine p_bipush (pc := 86) (v := 20) cx dX11_jacobi_86 (by decide) ?_
    refine p_iload (pc := 88) cx dX11_jacobi_88 2 rfl ?_
    refine p_callVi (pc := 90) [.int (20 : Int32), .int v4] cx (c_X11_bit cx.2.2.2.2.2.2 hT hv0 hw) cf_X11_bit cv_X11_bit t5_63 hv0 ⟨by decide, rfl, rfl⟩ ⟨rfl, rfl⟩ ⟨Nat.le_of_ble_eq_true rfl, Nat.le_of_ble_eq_true rfl⟩ rfl rfl (Nat.le_of_ble_eq_true rfl) dX11_jacobi_90 (fun r12 M12 hw hM12 => ?_)
    refine p_if_ne (pc := 93) (tgt := 102) cx dX11_jacobi_93 (by decide) (fun hc => ?_) (fun hc => ?_)
    · have hw := hw.1 hc
      refine p_aload_n (pc := 102) cx dX11_jacobi_102 rfl 0 rfl ?_
      refine gf_10_0 (pc := 103) cx hv0 t4_161 dX11_jacobi_103 ?_
      have hr_13 : Is G 12 (mR M12 v0 0) := TYR.at hM12 hv0 0 12 rfl (by decide)
      refine p_sipush (pc := 106) (v := 5460) cx dX11_jacobi_106 (by decide) ?_
      refine p_iald (pc := 109) cx hr_13 hw.1 dX11_jacobi_109 ?_
      have hw := hw.2
      refine p_bipush (pc := 110) (v := 7) cx dX11_jacobi_110 (by decide) ?_
      refine p_iand (pc := 112) cx dX11_jacobi_112 ?_
      refine p_topi (fun x5_14 ex5_14 => ?_)
      have hw := hw x5_14 ex5_14
      refine p_istore (pc := 113) (lv' := [(0, .ref v0), (3, .int v3), (4, .int v4), (5, .int x5_14)]) cx dX11_jacobi_113 (by decide) [1, 2, 3, 0] rfl ?_
      refine p_iload (pc := 115) cx dX11_jacobi_115 2 rfl ?_
      refine p_iconst (pc := 117) (v := 1) cx dX11_jacobi_117 (by decide) ?_
      refine p_iand (pc := 118) cx dX11_jacobi_118 ?_
      refine p_iconst (pc := 119) (v := 1) cx dX11_jacobi_119 (by decide) ?_
      refine p_icmp_ne (pc := 120) (tgt := 138) cx dX11_jacobi_120 (by decide) (fun hc => ?_) (fun hc => ?_)
      · have hw := hw.1 hc
        refine p_perm (lv' := [(0, .ref v0), (3, .int v3), (4, .int v4)]) [0, 1, 2] rfl ?_
        exact x_X11_jacobi_138 cx hr hlk hK72 v0 v3 v4 M12 hM12 hv0 hw
      · have hw := hw.2 hc
        refine p_iload (pc := 123) cx dX11_jacobi_123 3 rfl ?_
        refine p_iconst (pc := 125) (v := 3) cx dX11_jacobi_125 (by decide) ?_
        refine p_icmp_eq (pc := 126) (tgt := 135) cx dX11_jacobi_126 (by decide) (fun hc => ?_) (fun hc => ?_)
        · have hw := hw.1 hc
          refine p_perm (lv' := [(0, .ref v0), (3, .int v3), (4, .int v4)]) [0, 1, 2] rfl ?_
          exact x_X11_jacobi_135 cx hr hlk hK72 v0 v3 v4 M12 hM12 hv0 hw
        · have hw := hw.2 hc
          refine p_iload (pc := 129) cx dX11_jacobi_129 3 rfl ?_
          refine p_iconst (pc := 131) (v := 5) cx dX11_jacobi_131 (by decide) ?_
          refine p_icmp_ne (pc := 132) (tgt := 138) cx dX11_jacobi_132 (by decide) (fun hc => ?_) (fun hc => ?_)
          · have hw := hw.1 hc
            refine p_perm (lv' := [(0, .ref v0), (3, .int v3), (4, .int v4)]) [0, 1, 2] rfl ?_
            exact x_X11_jacobi_138 cx hr hlk hK72 v0 v3 v4 M12 hM12 hv0 hw
          · have hw := hw.2 hc
            refine p_perm (lv' := [(0, .ref v0), (3, .int v3), (4, .int v4)]) [0, 1, 2] rfl ?_
            exact x_X11_jacobi_135 cx hr hlk hK72 v0 v3 v4 M12 hM12 hv0 hw
    · have hw := hw.2 hc
      obtain ⟨x4_24, ex4_24⟩ : ∃ y : Int32, y = v4 + 1 := ⟨_, rfl⟩
      have hw := hw x4_24 ex4_24
      refine p_iinc (pc := 96) (v := x4_24) (lv' := [(0, .ref v0), (3, .int v3), (4, .int x4_24)]) cx dX11_jacobi_96 2 rfl (by rw [ex4_24]; rfl) (by decide) [1, 2, 0] rfl ?_
      refine p_goto (pc := 99) (tgt := 85) cx dX11_jacobi_99 (by decide) ?_
      exact ih v0 v3 x4_24 M12 hM12 hv0 hw
set_option maxHeartbeats 4000000 in
set_option maxRecDepth 100000 in
theorem x_X11_jacobi_72 {p : Program} {l : Launch} {e : Env} {s : State} {m : MethodId} {args : Array Value} {below : List Frame} {meth : Method} {c : Code} {D : va_G} {G : SH} {Qp : Int32 → MS → Prop}  (cx : CX p s m args c D G cX11_jacobi 6 RX11) (hr : meth.sig.returnType = (some .int)) (hlk : meth.locks = false)  : ∀ (n : Nat) (v0 : Nat) (v3 : Int32) (M : MS), TYR G M.2.2.1 → Is G 10 v0 → w_X11_jacobi_72 G Qp n v0 v3 M → PW p l e rm_X11_jacobi s m args below meth c D G 6 (MQ below (va_Qi Qp (POST D G) (AG G)) args s 0 0 (AG G)) 72 [(0, .ref v0), (3, .int v3)] [] M := by
  intro n
  induction n with
  | zero =>
    intro v0 v3 M hT hv0 hw
    exact hw.elim
  | succ n ih =>
    intro v0 v3 M hT hv0 hw
    rw [w_X11_jacobi_72] at hw
    refine p_aload_n (pc := 72) cx dX11_jacobi_72 rfl 0 rfl ?_
    refine gf_10_1 (pc := 73) cx hv0 t4_162 dX11_jacobi_73 ?_
    have hr_9 : Is G 12 (mR M v0 1) := TYR.at hT hv0 1 12 rfl (by decide)
    refine p_bipush (pc := 76) (v := 20) cx dX11_jacobi_76 (by decide) ?_
    refine p_iald (pc := 78) cx hr_9 hw.1 dX11_jacobi_78 ?_
    have hw := hw.2
    refine p_if_le (pc := 79) (tgt := 218) cx dX11_jacobi_79 (by decide) (fun hc => ?_) (fun hc => ?_)
    · have hw := hw.1 hc
      refine p_aload_n (pc := 218) cx dX11_jacobi_218 rfl 0 rfl ?_
      refine gf_10_1 (pc := 219) cx hv0 t4_162 dX11_jacobi_219 ?_
      have hr_10 : Is G 12 (mR M v0 1) := TYR.at hT hv0 1 12 rfl (by decide)
      refine p_bipush (pc := 222) (v := 21) cx dX11_jacobi_222 (by decide) ?_
      refine p_iald (pc := 224) cx hr_10 hw.1 dX11_jacobi_224 ?_
      have hw := hw.2
      refine p_iconst (pc := 225) (v := 1) cx dX11_jacobi_225 (by decide) ?_
      refine p_icmp_ne (pc := 226) (tgt := 245) cx dX11_jacobi_226 (by decide) (fun hc => ?_) (fun hc => ?_)
      · have hw := hw.1 hc
        refine p_iconst (pc := 245) (v := 0) cx dX11_jacobi_245 (by decide) ?_
        exact p_iret (pc := 246) cx hr hlk dX11_jacobi_246 hT hw
      · have hw := hw.2 hc
        refine p_aload_n (pc := 229) cx dX11_jacobi_229 rfl 0 rfl ?_
        refine gf_10_0 (pc := 230) cx hv0 t4_161 dX11_jacobi_230 ?_
        have hr_11 : Is G 12 (mR M v0 0) := TYR.at hT hv0 0 12 rfl (by decide)
        refine p_sipush (pc := 233) (v := 5460) cx dX11_jacobi_233 (by decide) ?_
        refine p_iald (pc := 236) cx hr_11 hw.1 dX11_jacobi_236 ?_
        have hw := hw.2
        refine p_iconst (pc := 237) (v := 1) cx dX11_jacobi_237 (by decide) ?_
        refine p_icmp_ne (pc := 238) (tgt := 245) cx dX11_jacobi_238 (by decide) (fun hc => ?_) (fun hc => ?_)
        · have hw := hw.1 hc
          refine p_iconst (pc := 245) (v := 0) cx dX11_jacobi_245 (by decide) ?_
          exact p_iret (pc := 246) cx hr hlk dX11_jacobi_246 hT hw
        · have hw := hw.2 hc
          refine p_iload_n (pc := 241) cx dX11_jacobi_241 rfl 1 rfl ?_
          refine p_goto (pc := 242) (tgt := 246) cx dX11_jacobi_242 (by decide) ?_
          exact p_iret (pc := 246) cx hr hlk dX11_jacobi_246 hT hw
    · have hw := hw.2 hc
      refine p_iconst (pc := 82) (v := 0) cx dX11_jacobi_82 (by decide) ?_
      refine p_istore (pc := 83) (lv' := [(0, .ref v0), (3, .int v3), (4, .int (0 : Int32))]) cx dX11_jacobi_83 (by decide) [1, 2, 0] rfl ?_
      obtain ⟨n1, hw⟩ := hw
      exact x_X11_jacobi_85 cx hr hlk ih n1 v0 v3 0 M hT hv0 hw
set_option maxHeartbeats 4000000 in
set_option maxRecDepth 100000 in
theorem c_X11_jacobi {l : Launch} {D : va_G} {G : SH} (hND : ND G) {a0 : Nat} {a1 : Int32} {a2 : Int32} {M : MS} {Qp : Int32 → MS → Prop} (hT : TYR G M.2.2.1) (ha0 : Is G 10 a0) (hw : w_X11_jacobi G a0 a1 a2 M Qp) : MeI l D G yX11_jacobi (Cond.code yX11_jacobi cX11_jacobi 6 (some .int) :: GW) rm_X11_jacobi [.ref a0, .int a1, .int a2] M Qp := by
  unfold MeI
  refine p_method (by decide) rfl (Nat.le_of_ble_eq_true rfl) hND ?_
  intro p e s m args below meth c cx hr hlk
  have cx : CX p s m args c D G cX11_jacobi 6 RX11 := cx
  unfold w_X11_jacobi at hw
  refine p_aload_n (pc := 0) cx dX11_jacobi_0 rfl 0 rfl ?_
  refine p_iconst (pc := 1) (v := 0) cx dX11_jacobi_1 (by decide) ?_
  refine pf_10_5 (pc := 2) cx ha0 t4_166 dX11_jacobi_2 ?_
  refine p_mem (fun M1 eM1 => ?_)
  have hw := hw M1 eM1
  have hM1 : TYR G M1.2.2.1 := by rw [eM1]; exact hT
  refine p_aload_n (pc := 5) cx dX11_jacobi_5 rfl 0 rfl ?_
  refine p_iload_n (pc := 6) cx dX11_jacobi_6 rfl 1 rfl ?_
  refine p_callVi (pc := 7) [.int a1] cx (c_X11_no cx.2.2.2.2.2.2 hM1 ha0 hw) cf_X11_no cv_X11_no t4_203 ha0 ⟨by decide, rfl, rfl⟩ ⟨rfl, rfl⟩ ⟨Nat.le_of_ble_eq_true rfl, Nat.le_of_ble_eq_true rfl⟩ rfl rfl (Nat.le_of_ble_eq_true rfl) dX11_jacobi_7 (fun r2 M2 hw hM2 => ?_)
  refine p_if_ne (pc := 10) (tgt := 21) cx dX11_jacobi_10 (by decide) (fun hc => ?_) (fun hc => ?_)
  · have hw := hw.1 hc
    refine p_iconst (pc := 21) (v := 3) cx dX11_jacobi_21 (by decide) ?_
    exact p_iret (pc := 22) cx hr hlk dX11_jacobi_22 hM2 hw
  · have hw := hw.2 hc
    refine p_aload_n (pc := 13) cx dX11_jacobi_13 rfl 0 rfl ?_
    refine p_iload_n (pc := 14) cx dX11_jacobi_14 rfl 2 rfl ?_
    refine p_callVi (pc := 15) [.int a2] cx (c_X11_no cx.2.2.2.2.2.2 hM2 ha0 hw) cf_X11_no cv_X11_no t4_203 ha0 ⟨by decide, rfl, rfl⟩ ⟨rfl, rfl⟩ ⟨Nat.le_of_ble_eq_true rfl, Nat.le_of_ble_eq_true rfl⟩ rfl rfl (Nat.le_of_ble_eq_true rfl) dX11_jacobi_15 (fun r3 M3 hw hM3 => ?_)
    refine p_if_eq (pc := 18) (tgt := 23) cx dX11_jacobi_18 (by decide) (fun hc => ?_) (fun hc => ?_)
    · have hw := hw.1 hc
      refine p_aload_n (pc := 23) cx dX11_jacobi_23 rfl 0 rfl ?_
      refine gf_10_2 (pc := 24) cx ha0 t4_163 dX11_jacobi_24 ?_
      have hr_4 : Is G 12 (mR M3 a0 2) := TYR.at hM3 ha0 2 12 rfl (by decide)
      refine p_iload_n (pc := 27) cx dX11_jacobi_27 rfl 2 rfl ?_
      refine p_iald (pc := 28) cx hr_4 hw.1 dX11_jacobi_28 ?_
      have hw := hw.2
      refine p_iconst (pc := 29) (v := 1) cx dX11_jacobi_29 (by decide) ?_
      refine p_icmp_lt (pc := 30) (tgt := 42) cx dX11_jacobi_30 (by decide) (fun hc => ?_) (fun hc => ?_)
      · have hw := hw.1 hc
        refine p_iconst (pc := 42) (v := 2) cx dX11_jacobi_42 (by decide) ?_
        exact p_iret (pc := 43) cx hr hlk dX11_jacobi_43 hM3 hw
      · have hw := hw.2 hc
        refine p_aload_n (pc := 33) cx dX11_jacobi_33 rfl 0 rfl ?_
        refine p_iload_n (pc := 34) cx dX11_jacobi_34 rfl 2 rfl ?_
        refine p_iconst (pc := 35) (v := 0) cx dX11_jacobi_35 (by decide) ?_
        refine p_callVi (pc := 36) [.int a2, .int (0 : Int32)] cx (c_X11_bit cx.2.2.2.2.2.2 hM3 ha0 hw) cf_X11_bit cv_X11_bit t5_63 ha0 ⟨by decide, rfl, rfl⟩ ⟨rfl, rfl⟩ ⟨Nat.le_of_ble_eq_true rfl, Nat.le_of_ble_eq_true rfl⟩ rfl rfl (Nat.le_of_ble_eq_true rfl) dX11_jacobi_36 (fun r5 M5 hw hM5 => ?_)
        refine p_if_ne (pc := 39) (tgt := 44) cx dX11_jacobi_39 (by decide) (fun hc => ?_) (fun hc => ?_)
        · have hw := hw.1 hc
          refine p_aload_n (pc := 44) cx dX11_jacobi_44 rfl 0 rfl ?_
          refine p_bipush (pc := 45) (v := 21) cx dX11_jacobi_45 (by decide) ?_
          refine p_iload_n (pc := 47) cx dX11_jacobi_47 rfl 2 rfl ?_
          refine p_callVv (pc := 48) [.int (21 : Int32), .int a2] cx (c_X11_copy cx.2.2.2.2.2.2 hM5 ha0 hw) cf_X11_copy cv_X11_copy t4_220 ha0 ⟨by decide, rfl, rfl⟩ ⟨rfl, rfl⟩ ⟨Nat.le_of_ble_eq_true rfl, Nat.le_of_ble_eq_true rfl⟩ rfl rfl (Nat.le_of_ble_eq_true rfl) dX11_jacobi_48 (fun M6 hw hM6 => ?_)
          refine p_aload_n (pc := 51) cx dX11_jacobi_51 rfl 0 rfl ?_
          refine p_bipush (pc := 52) (v := 17) cx dX11_jacobi_52 (by decide) ?_
          refine p_bipush (pc := 54) (v := 18) cx dX11_jacobi_54 (by decide) ?_
          refine p_iload_n (pc := 56) cx dX11_jacobi_56 rfl 1 rfl ?_
          refine p_bipush (pc := 57) (v := 21) cx dX11_jacobi_57 (by decide) ?_
          refine p_callVv (pc := 59) [.int (17 : Int32), .int (18 : Int32), .int a1, .int (21 : Int32)] cx (c_X11_divided cx.2.2.2.2.2.2 hM6 ha0 hw) cf_X11_divided cv_X11_divided t5_37 ha0 ⟨by decide, rfl, rfl⟩ ⟨rfl, rfl⟩ ⟨Nat.le_of_ble_eq_true rfl, Nat.le_of_ble_eq_true rfl⟩ rfl rfl (Nat.le_of_ble_eq_true rfl) dX11_jacobi_59 (fun M7 hw hM7 => ?_)
          refine p_aload_n (pc := 62) cx dX11_jacobi_62 rfl 0 rfl ?_
          refine p_bipush (pc := 63) (v := 20) cx dX11_jacobi_63 (by decide) ?_
          refine p_bipush (pc := 65) (v := 18) cx dX11_jacobi_65 (by decide) ?_
          refine p_callVv (pc := 67) [.int (20 : Int32), .int (18 : Int32)] cx (c_X11_copy cx.2.2.2.2.2.2 hM7 ha0 hw) cf_X11_copy cv_X11_copy t4_220 ha0 ⟨by decide, rfl, rfl⟩ ⟨rfl, rfl⟩ ⟨Nat.le_of_ble_eq_true rfl, Nat.le_of_ble_eq_true rfl⟩ rfl rfl (Nat.le_of_ble_eq_true rfl) dX11_jacobi_67 (fun M8 hw hM8 => ?_)
          refine p_iconst (pc := 70) (v := 1) cx dX11_jacobi_70 (by decide) ?_
          refine p_istore_n (pc := 71) (lv' := [(0, .ref a0), (3, .int (1 : Int32))]) cx dX11_jacobi_71 rfl (by decide) [1, 0] rfl ?_
          obtain ⟨n1, hw⟩ := hw
          exact x_X11_jacobi_72 cx hr hlk n1 a0 1 M8 hM8 ha0 hw
        · have hw := hw.2 hc
          refine p_iconst (pc := 42) (v := 2) cx dX11_jacobi_42 (by decide) ?_
          exact p_iret (pc := 43) cx hr hlk dX11_jacobi_43 hM5 hw
    · have hw := hw.2 hc
      refine p_iconst (pc := 21) (v := 3) cx dX11_jacobi_21 (by decide) ?_
      exact p_iret (pc := 22) cx hr hlk dX11_jacobi_22 hM3 hw
set_option maxHeartbeats 4000000 in
set_option maxRecDepth 100000 in
theorem x_X11_lacks_14 {p : Program} {l : Launch} {e : Env} {s : State} {m : MethodId} {args : Array Value} {below : List Frame} {meth : Method} {c : Code} {D : va_G} {G : SH} {Qp : Int32 → MS → Prop}  (cx : CX p s m args c D G cX11_lacks 2 RX11) (hr : meth.sig.returnType = (some .boolean)) (hlk : meth.locks = false)  (v0 : Nat) (s0 : Int32) (s1 : Nat) (M : MS) (hT : TYR G M.2.2.1) (hv0 : Is G 10 v0) (hs1 : Is G 10 s1) (hw : w_X11_lacks_14 G Qp v0 s0 s1 M) : PW p l e rm_X11_lacks s m args below meth c D G 2 (MQ below (va_Qi Qp (POST D G) (AG G)) args s 0 0 (AG G)) 14 [(0, .ref v0)] [.int s0, .ref s1] M := by
  unfold w_X11_lacks_14 at hw
  refine pf_10_5 (pc := 14) cx hs1 t4_166 dX11_lacks_14 ?_
  refine p_mem (fun M2 eM2 => ?_)
  have hw := hw M2 eM2
  have hM2 : TYR G M2.2.2.1 := by rw [eM2]; exact hT
  refine p_aload_n (pc := 17) cx dX11_lacks_17 rfl 0 rfl ?_
  refine gf_10_5 (pc := 18) cx hv0 t4_166 dX11_lacks_18 ?_
  refine p_iconst (pc := 21) (v := 1) cx dX11_lacks_21 (by decide) ?_
  refine p_icmp_ne (pc := 22) (tgt := 29) cx dX11_lacks_22 (by decide) (fun hc => ?_) (fun hc => ?_)
  · have hw := hw.1 hc
    refine p_iconst (pc := 29) (v := 0) cx dX11_lacks_29 (by decide) ?_
    exact p_zret (pc := 30) cx hr hlk dX11_lacks_30 (by decide) hM2 hw
  · have hw := hw.2 hc
    refine p_iconst (pc := 25) (v := 1) cx dX11_lacks_25 (by decide) ?_
    refine p_goto (pc := 26) (tgt := 30) cx dX11_lacks_26 (by decide) ?_
    exact p_zret (pc := 30) cx hr hlk dX11_lacks_30 (by decide) hM2 hw
set_option maxHeartbeats 4000000 in
set_option maxRecDepth 100000 in
theorem c_X11_lacks {l : Launch} {D : va_G} {G : SH} (hND : ND G) {a0 : Nat} {a1 : Int32} {M : MS} {Qp : Int32 → MS → Prop} (hT : TYR G M.2.2.1) (ha0 : Is G 10 a0) (hw : w_X11_lacks G a0 a1 M Qp) : MeI l D G yX11_lacks (Cond.code yX11_lacks cX11_lacks 2 (some .boolean) :: GW) rm_X11_lacks [.ref a0, .int a1] M Qp := by
  unfold MeI
  refine p_method (by decide) rfl (Nat.le_of_ble_eq_true rfl) hND ?_
  intro p e s m args below meth c cx hr hlk
  have cx : CX p s m args c D G cX11_lacks 2 RX11 := cx
  unfold w_X11_lacks at hw
  refine p_aload_n (pc := 0) cx dX11_lacks_0 rfl 0 rfl ?_
  refine p_aload_n (pc := 1) cx dX11_lacks_1 rfl 0 rfl ?_
  refine p_iload_n (pc := 2) cx dX11_lacks_2 rfl 1 rfl ?_
  refine p_callVi (pc := 3) [.int a1] cx (c_X11_no cx.2.2.2.2.2.2 hT ha0 hw) cf_X11_no cv_X11_no t4_203 ha0 ⟨by decide, rfl, rfl⟩ ⟨rfl, rfl⟩ ⟨Nat.le_of_ble_eq_true rfl, Nat.le_of_ble_eq_true rfl⟩ rfl rfl (Nat.le_of_ble_eq_true rfl) dX11_lacks_3 (fun r1 M1 hw hM1 => ?_)
  refine p_if_eq (pc := 6) (tgt := 13) cx dX11_lacks_6 (by decide) (fun hc => ?_) (fun hc => ?_)
  · have hw := hw.1 hc
    refine p_iconst (pc := 13) (v := 0) cx dX11_lacks_13 (by decide) ?_
    refine p_perm (lv' := [(0, .ref a0)]) [0] rfl ?_
    exact x_X11_lacks_14 cx hr hlk a0 0 a0 M1 hM1 ha0 ha0 hw
  · have hw := hw.2 hc
    refine p_iconst (pc := 9) (v := 1) cx dX11_lacks_9 (by decide) ?_
    refine p_goto (pc := 10) (tgt := 14) cx dX11_lacks_10 (by decide) ?_
    refine p_perm (lv' := [(0, .ref a0)]) [0] rfl ?_
    exact x_X11_lacks_14 cx hr hlk a0 1 a0 M1 hM1 ha0 ha0 hw
set_option maxHeartbeats 4000000 in
set_option maxRecDepth 100000 in
theorem c_X11_sign {l : Launch} {D : va_G} {G : SH} (hND : ND G) {a0 : Nat} {a1 : Int32} {M : MS} {Qp : Int32 → MS → Prop} (hT : TYR G M.2.2.1) (ha0 : Is G 10 a0) (hw : w_X11_sign G a0 a1 M Qp) : MeI l D G yX11_sign (Cond.code yX11_sign cX11_sign 2 (some .int) :: GW) rm_X11_sign [.ref a0, .int a1] M Qp := by
  unfold MeI
  refine p_method (by decide) rfl (Nat.le_of_ble_eq_true rfl) hND ?_
  intro p e s m args below meth c cx hr hlk
  have cx : CX p s m args c D G cX11_sign 2 RX11 := cx
  unfold w_X11_sign at hw
  refine p_aload_n (pc := 0) cx dX11_sign_0 rfl 0 rfl ?_
  refine p_iload_n (pc := 1) cx dX11_sign_1 rfl 1 rfl ?_
  refine p_callVi (pc := 2) [.int a1] cx (c_X11_lacks cx.2.2.2.2.2.2 hT ha0 hw) cf_X11_lacks cv_X11_lacks t5_168 ha0 ⟨by decide, rfl, rfl⟩ ⟨rfl, rfl⟩ ⟨Nat.le_of_ble_eq_true rfl, Nat.le_of_ble_eq_true rfl⟩ rfl rfl (Nat.le_of_ble_eq_true rfl) dX11_sign_2 (fun r1 M1 hw hM1 => ?_)
  refine p_if_eq (pc := 5) (tgt := 12) cx dX11_sign_5 (by decide) (fun hc => ?_) (fun hc => ?_)
  · have hw := hw.1 hc
    refine p_aload_n (pc := 12) cx dX11_sign_12 rfl 0 rfl ?_
    refine gf_10_2 (pc := 13) cx ha0 t4_163 dX11_sign_13 ?_
    have hr_2 : Is G 12 (mR M1 a0 2) := TYR.at hM1 ha0 2 12 rfl (by decide)
    refine p_iload_n (pc := 16) cx dX11_sign_16 rfl 1 rfl ?_
    refine p_iald (pc := 17) cx hr_2 hw.1 dX11_sign_17 ?_
    have hw := hw.2
    exact p_iret (pc := 18) cx hr hlk dX11_sign_18 hM1 hw
  · have hw := hw.2 hc
    refine p_iconst (pc := 8) (v := 0) cx dX11_sign_8 (by decide) ?_
    refine p_goto (pc := 9) (tgt := 18) cx dX11_sign_9 (by decide) ?_
    exact p_iret (pc := 18) cx hr hlk dX11_sign_18 hM1 hw
set_option maxHeartbeats 4000000 in
set_option maxRecDepth 100000 in
theorem c_X11_length {l : Launch} {D : va_G} {G : SH} (hND : ND G) {a0 : Nat} {a1 : Int32} {M : MS} {Qp : Int32 → MS → Prop} (hT : TYR G M.2.2.1) (ha0 : Is G 10 a0) (hw : w_X11_length G a0 a1 M Qp) : MeI l D G yX11_length (Cond.code yX11_length cX11_length 2 (some .int) :: GW) rm_X11_length [.ref a0, .int a1] M Qp := by
  unfold MeI
  refine p_method (by decide) rfl (Nat.le_of_ble_eq_true rfl) hND ?_
  intro p e s m args below meth c cx hr hlk
  have cx : CX p s m args c D G cX11_length 2 RX11 := cx
  unfold w_X11_length at hw
  refine p_aload_n (pc := 0) cx dX11_length_0 rfl 0 rfl ?_
  refine p_iload_n (pc := 1) cx dX11_length_1 rfl 1 rfl ?_
  refine p_callVi (pc := 2) [.int a1] cx (c_X11_lacks cx.2.2.2.2.2.2 hT ha0 hw) cf_X11_lacks cv_X11_lacks t5_168 ha0 ⟨by decide, rfl, rfl⟩ ⟨rfl, rfl⟩ ⟨Nat.le_of_ble_eq_true rfl, Nat.le_of_ble_eq_true rfl⟩ rfl rfl (Nat.le_of_ble_eq_true rfl) dX11_length_2 (fun r1 M1 hw hM1 => ?_)
  refine p_if_eq (pc := 5) (tgt := 12) cx dX11_length_5 (by decide) (fun hc => ?_) (fun hc => ?_)
  · have hw := hw.1 hc
    refine p_aload_n (pc := 12) cx dX11_length_12 rfl 0 rfl ?_
    refine gf_10_1 (pc := 13) cx ha0 t4_162 dX11_length_13 ?_
    have hr_2 : Is G 12 (mR M1 a0 1) := TYR.at hM1 ha0 1 12 rfl (by decide)
    refine p_iload_n (pc := 16) cx dX11_length_16 rfl 1 rfl ?_
    refine p_iald (pc := 17) cx hr_2 hw.1 dX11_length_17 ?_
    have hw := hw.2
    refine p_iconst (pc := 18) (v := 1) cx dX11_length_18 (by decide) ?_
    refine p_iadd (pc := 19) cx dX11_length_19 ?_
    refine p_iconst (pc := 20) (v := 2) cx dX11_length_20 (by decide) ?_
    refine p_idiv (pc := 21) cx dX11_length_21 hw.1 ?_
    have hw := hw.2
    exact p_iret (pc := 22) cx hr hlk dX11_length_22 hM1 hw
  · have hw := hw.2 hc
    refine p_iconst (pc := 8) (v := 0) cx dX11_length_8 (by decide) ?_
    refine p_goto (pc := 9) (tgt := 22) cx dX11_length_9 (by decide) ?_
    exact p_iret (pc := 22) cx hr hlk dX11_length_22 hM1 hw
set_option maxHeartbeats 4000000 in
set_option maxRecDepth 100000 in
theorem c_X11_limbAt {l : Launch} {D : va_G} {G : SH} (hND : ND G) {a0 : Nat} {a1 : Int32} {a2 : Int32} {M : MS} {Qp : Int32 → MS → Prop} (hT : TYR G M.2.2.1) (ha0 : Is G 10 a0) (hw : w_X11_limbAt G a0 a1 a2 M Qp) : MeI l D G yX11_limbAt (Cond.code yX11_limbAt cX11_limbAt 3 (some .int) :: GW) rm_X11_limbAt [.ref a0, .int a1, .int a2] M Qp := by
  unfold MeI
  refine p_method (by decide) rfl (Nat.le_of_ble_eq_true rfl) hND ?_
  intro p e s m args below meth c cx hr hlk
  have cx : CX p s m args c D G cX11_limbAt 3 RX11 := cx
  unfold w_X11_limbAt at hw
  refine p_aload_n (pc := 0) cx dX11_limbAt_0 rfl 0 rfl ?_
  refine p_iload_n (pc := 1) cx dX11_limbAt_1 rfl 1 rfl ?_
  refine p_callVi (pc := 2) [.int a1] cx (c_X11_lacks cx.2.2.2.2.2.2 hT ha0 hw) cf_X11_lacks cv_X11_lacks t5_168 ha0 ⟨by decide, rfl, rfl⟩ ⟨rfl, rfl⟩ ⟨Nat.le_of_ble_eq_true rfl, Nat.le_of_ble_eq_true rfl⟩ rfl rfl (Nat.le_of_ble_eq_true rfl) dX11_limbAt_2 (fun r1 M1 hw hM1 => ?_)
  refine p_if_ne (pc := 5) (tgt := 18) cx dX11_limbAt_5 (by decide) (fun hc => ?_) (fun hc => ?_)
  · have hw := hw.1 hc
    refine p_iconst (pc := 18) (v := 0) cx dX11_limbAt_18 (by decide) ?_
    exact p_iret (pc := 19) cx hr hlk dX11_limbAt_19 hM1 hw
  · have hw := hw.2 hc
    refine p_iload_n (pc := 8) cx dX11_limbAt_8 rfl 2 rfl ?_
    refine p_if_lt (pc := 9) (tgt := 18) cx dX11_limbAt_9 (by decide) (fun hc => ?_) (fun hc => ?_)
    · have hw := hw.1 hc
      refine p_iconst (pc := 18) (v := 0) cx dX11_limbAt_18 (by decide) ?_
      exact p_iret (pc := 19) cx hr hlk dX11_limbAt_19 hM1 hw
    · have hw := hw.2 hc
      refine p_iload_n (pc := 12) cx dX11_limbAt_12 rfl 2 rfl ?_
      refine p_bipush (pc := 13) (v := 100) cx dX11_limbAt_13 (by decide) ?_
      refine p_icmp_le (pc := 15) (tgt := 20) cx dX11_limbAt_15 (by decide) (fun hc => ?_) (fun hc => ?_)
      · have hw := hw.1 hc
        refine p_aload_n (pc := 20) cx dX11_limbAt_20 rfl 0 rfl ?_
        refine p_iload_n (pc := 21) cx dX11_limbAt_21 rfl 1 rfl ?_
        refine p_iconst (pc := 22) (v := 2) cx dX11_limbAt_22 (by decide) ?_
        refine p_iload_n (pc := 23) cx dX11_limbAt_23 rfl 2 rfl ?_
        refine p_imul (pc := 24) cx dX11_limbAt_24 ?_
        refine p_callVi (pc := 25) [.int a1, .int ((2 : Int32) * a2)] cx (c_X11_get cx.2.2.2.2.2.2 hM1 ha0 hw) cf_X11_get cv_X11_get t5_8 ha0 ⟨by decide, rfl, rfl⟩ ⟨rfl, rfl⟩ ⟨Nat.le_of_ble_eq_true rfl, Nat.le_of_ble_eq_true rfl⟩ rfl rfl (Nat.le_of_ble_eq_true rfl) dX11_limbAt_25 (fun r2 M2 hw hM2 => ?_)
        refine p_aload_n (pc := 28) cx dX11_limbAt_28 rfl 0 rfl ?_
        refine p_iload_n (pc := 29) cx dX11_limbAt_29 rfl 1 rfl ?_
        refine p_iconst (pc := 30) (v := 2) cx dX11_limbAt_30 (by decide) ?_
        refine p_iload_n (pc := 31) cx dX11_limbAt_31 rfl 2 rfl ?_
        refine p_imul (pc := 32) cx dX11_limbAt_32 ?_
        refine p_iconst (pc := 33) (v := 1) cx dX11_limbAt_33 (by decide) ?_
        refine p_iadd (pc := 34) cx dX11_limbAt_34 ?_
        refine p_callVi (pc := 35) [.int a1, .int (((2 : Int32) * a2) + 1)] cx (c_X11_get cx.2.2.2.2.2.2 hM2 ha0 hw) cf_X11_get cv_X11_get t5_8 ha0 ⟨by decide, rfl, rfl⟩ ⟨rfl, rfl⟩ ⟨Nat.le_of_ble_eq_true rfl, Nat.le_of_ble_eq_true rfl⟩ rfl rfl (Nat.le_of_ble_eq_true rfl) dX11_limbAt_35 (fun r3 M3 hw hM3 => ?_)
        refine p_bipush (pc := 38) (v := 16) cx dX11_limbAt_38 (by decide) ?_
        refine p_ishl (pc := 40) cx dX11_limbAt_40 ?_
        refine p_ior (pc := 41) cx dX11_limbAt_41 ?_
        exact p_iret (pc := 42) cx hr hlk dX11_limbAt_42 hM3 hw
      · have hw := hw.2 hc
        refine p_iconst (pc := 18) (v := 0) cx dX11_limbAt_18 (by decide) ?_
        exact p_iret (pc := 19) cx hr hlk dX11_limbAt_19 hM1 hw
set_option maxHeartbeats 4000000 in
set_option maxRecDepth 100000 in
theorem x_X11_four_3 {p : Program} {l : Launch} {e : Env} {s : State} {m : MethodId} {args : Array Value} {below : List Frame} {meth : Method} {c : Code} {D : va_G} {G : SH} {Qp : MS → Prop}  (cx : CX p s m args c D G cX11_four 3 RX11) (hr : meth.sig.returnType = none) (hlk : meth.locks = false)  : ∀ (n : Nat) (v0 : Nat) (v1 : Int32) (v2 : Int32) (M : MS), TYR G M.2.2.1 → Is G 10 v0 → w_X11_four_3 G Qp n v0 v1 v2 M → PW p l e rm_X11_four s m args below meth c D G 3 (MQ below (va_Qv Qp (POST D G) (AG G)) args s 0 0 (AG G)) 3 [(0, .ref v0), (1, .int v1), (2, .int v2)] [] M := by
  intro n
  induction n with
  | zero =>
    intro v0 v1 v2 M hT hv0 hw
    exact hw.elim
  | succ n ih =>
    intro v0 v1 v2 M hT hv0 hw
    rw [w_X11_four_3] at hw
    refine p_iload_n (pc := 3) cx dX11_four_3 rfl 2 rfl ?_
    refine p_if_lt (pc := 4) (tgt := 36) cx dX11_four_4 (by decide) (fun hc => ?_) (fun hc => ?_)
    · have hw := hw.1 hc
      exact p_vret (pc := 36) cx hr hlk dX11_four_36 hT hw
    · have hw := hw.2 hc
      refine p_aload_n (pc := 7) cx dX11_four_7 rfl 0 rfl ?_
      refine gf_10_7 (pc := 8) cx hv0 t4_168 dX11_four_8 ?_
      have hr_1 : Is G 11 (mR M v0 7) := TYR.at hT hv0 7 11 rfl (by decide)
      refine p_aload_n (pc := 11) cx dX11_four_11 rfl 0 rfl ?_
      refine gf_10_9 (pc := 12) cx hv0 t4_170 dX11_four_12 ?_
      refine p_iload_n (pc := 15) cx dX11_four_15 rfl 1 rfl ?_
      refine p_iload_n (pc := 16) cx dX11_four_16 rfl 2 rfl ?_
      refine p_ishr (pc := 17) cx dX11_four_17 ?_
      refine p_i2b (pc := 18) cx dX11_four_18 ?_
      refine p_bast (pc := 19) cx hr_1 hw.1 dX11_four_19 ?_
      have hw := hw.2
      refine p_mem (fun M2 eM2 => ?_)
      have hw := hw M2 eM2
      have hM2 : TYR G M2.2.2.1 := by rw [eM2]; exact hT
      refine p_aload_n (pc := 20) cx dX11_four_20 rfl 0 rfl ?_
      refine p_dup (pc := 21) cx dX11_four_21 rfl ?_
      refine gf_10_9 (pc := 22) cx hv0 t4_170 dX11_four_22 ?_
      refine p_iconst (pc := 25) (v := 1) cx dX11_four_25 (by decide) ?_
      refine p_iadd (pc := 26) cx dX11_four_26 ?_
      refine pf_10_9 (pc := 27) cx hv0 t4_170 dX11_four_27 ?_
      refine p_mem (fun M3 eM3 => ?_)
      have hw := hw M3 eM3
      have hM3 : TYR G M3.2.2.1 := by rw [eM3]; exact hM2
      obtain ⟨x2_4, ex2_4⟩ : ∃ y : Int32, y = v2 + (-8) := ⟨_, rfl⟩
      have hw := hw x2_4 ex2_4
      refine p_iinc (pc := 30) (v := x2_4) (lv' := [(0, .ref v0), (1, .int v1), (2, .int x2_4)]) cx dX11_four_30 2 rfl (by rw [ex2_4]; rfl) (by decide) [1, 2, 0] rfl ?_
      refine p_goto (pc := 33) (tgt := 3) cx dX11_four_33 (by decide) ?_
      exact ih v0 v1 x2_4 M3 hM3 hv0 hw
set_option maxHeartbeats 4000000 in
set_option maxRecDepth 100000 in
theorem c_X11_four {l : Launch} {D : va_G} {G : SH} (hND : ND G) {a0 : Nat} {a1 : Int32} {M : MS} {Qp : MS → Prop} (hT : TYR G M.2.2.1) (ha0 : Is G 10 a0) (hw : w_X11_four G a0 a1 M Qp) : MeV l D G yX11_four (Cond.code yX11_four cX11_four 3 none :: GW) rm_X11_four [.ref a0, .int a1] M Qp := by
  unfold MeV
  refine p_method (by decide) rfl (Nat.le_of_ble_eq_true rfl) hND ?_
  intro p e s m args below meth c cx hr hlk
  have cx : CX p s m args c D G cX11_four 3 RX11 := cx
  unfold w_X11_four at hw
  refine p_bipush (pc := 0) (v := 24) cx dX11_four_0 (by decide) ?_
  refine p_istore_n (pc := 2) (lv' := [(0, .ref a0), (1, .int a1), (2, .int (24 : Int32))]) cx dX11_four_2 rfl (by decide) [1, 2, 0] rfl ?_
  obtain ⟨n1, hw⟩ := hw
  exact x_X11_four_3 cx hr hlk n1 a0 a1 24 M hT ha0 hw
set_option maxHeartbeats 4000000 in
set_option maxRecDepth 100000 in
theorem c_X11_feed {l : Launch} {D : va_G} {G : SH} (hND : ND G) {a0 : Nat} {a1 : Int32} {a2 : Int32} {a3 : Int32} {a4 : Int32} {a5 : Int32} {M : MS} {Qp : Int32 → MS → Prop} (hT : TYR G M.2.2.1) (ha0 : Is G 10 a0) (hw : w_X11_feed G a0 a1 a2 a3 a4 a5 M Qp) : MeI l D G yX11_feed (Cond.code yX11_feed cX11_feed 6 (some .int) :: GW) rm_X11_feed [.ref a0, .int a1, .int a2, .int a3, .int a4, .int a5] M Qp := by
  unfold MeI
  refine p_method (by decide) rfl (Nat.le_of_ble_eq_true rfl) hND ?_
  intro p e s m args below meth c cx hr hlk
  have cx : CX p s m args c D G cX11_feed 6 RX11 := cx
  unfold w_X11_feed at hw
  refine p_aload_n (pc := 0) cx dX11_feed_0 rfl 0 rfl ?_
  refine p_iconst (pc := 1) (v := 0) cx dX11_feed_1 (by decide) ?_
  refine pf_10_5 (pc := 2) cx ha0 t4_166 dX11_feed_2 ?_
  refine p_mem (fun M1 eM1 => ?_)
  have hw := hw M1 eM1
  have hM1 : TYR G M1.2.2.1 := by rw [eM1]; exact hT
  refine p_aload_n (pc := 5) cx dX11_feed_5 rfl 0 rfl ?_
  refine gf_10_9 (pc := 6) cx ha0 t4_170 dX11_feed_6 ?_
  refine p_bipush (pc := 9) (v := 20) cx dX11_feed_9 (by decide) ?_
  refine p_iadd (pc := 11) cx dX11_feed_11 ?_
  refine p_sipush (pc := 12) (v := 1000) cx dX11_feed_12 (by decide) ?_
  refine p_icmp_le (pc := 15) (tgt := 20) cx dX11_feed_15 (by decide) (fun hc => ?_) (fun hc => ?_)
  · have hw := hw.1 hc
    refine p_aload_n (pc := 20) cx dX11_feed_20 rfl 0 rfl ?_
    refine p_iload_n (pc := 21) cx dX11_feed_21 rfl 1 rfl ?_
    refine p_callVv (pc := 22) [.int a1] cx (c_X11_four cx.2.2.2.2.2.2 hM1 ha0 hw) cf_X11_four cv_X11_four t5_184 ha0 ⟨by decide, rfl, rfl⟩ ⟨rfl, rfl⟩ ⟨Nat.le_of_ble_eq_true rfl, Nat.le_of_ble_eq_true rfl⟩ rfl rfl (Nat.le_of_ble_eq_true rfl) dX11_feed_22 (fun M2 hw hM2 => ?_)
    refine p_aload_n (pc := 25) cx dX11_feed_25 rfl 0 rfl ?_
    refine p_iload_n (pc := 26) cx dX11_feed_26 rfl 2 rfl ?_
    refine p_callVv (pc := 27) [.int a2] cx (c_X11_four cx.2.2.2.2.2.2 hM2 ha0 hw) cf_X11_four cv_X11_four t5_184 ha0 ⟨by decide, rfl, rfl⟩ ⟨rfl, rfl⟩ ⟨Nat.le_of_ble_eq_true rfl, Nat.le_of_ble_eq_true rfl⟩ rfl rfl (Nat.le_of_ble_eq_true rfl) dX11_feed_27 (fun M3 hw hM3 => ?_)
    refine p_aload_n (pc := 30) cx dX11_feed_30 rfl 0 rfl ?_
    refine p_iload_n (pc := 31) cx dX11_feed_31 rfl 3 rfl ?_
    refine p_callVv (pc := 32) [.int a3] cx (c_X11_four cx.2.2.2.2.2.2 hM3 ha0 hw) cf_X11_four cv_X11_four t5_184 ha0 ⟨by decide, rfl, rfl⟩ ⟨rfl, rfl⟩ ⟨Nat.le_of_ble_eq_true rfl, Nat.le_of_ble_eq_true rfl⟩ rfl rfl (Nat.le_of_ble_eq_true rfl) dX11_feed_32 (fun M4 hw hM4 => ?_)
    refine p_aload_n (pc := 35) cx dX11_feed_35 rfl 0 rfl ?_
    refine p_iload (pc := 36) cx dX11_feed_36 4 rfl ?_
    refine p_callVv (pc := 38) [.int a4] cx (c_X11_four cx.2.2.2.2.2.2 hM4 ha0 hw) cf_X11_four cv_X11_four t5_184 ha0 ⟨by decide, rfl, rfl⟩ ⟨rfl, rfl⟩ ⟨Nat.le_of_ble_eq_true rfl, Nat.le_of_ble_eq_true rfl⟩ rfl rfl (Nat.le_of_ble_eq_true rfl) dX11_feed_38 (fun M5 hw hM5 => ?_)
    refine p_aload_n (pc := 41) cx dX11_feed_41 rfl 0 rfl ?_
    refine p_iload (pc := 42) cx dX11_feed_42 5 rfl ?_
    refine p_callVv (pc := 44) [.int a5] cx (c_X11_four cx.2.2.2.2.2.2 hM5 ha0 hw) cf_X11_four cv_X11_four t5_184 ha0 ⟨by decide, rfl, rfl⟩ ⟨rfl, rfl⟩ ⟨Nat.le_of_ble_eq_true rfl, Nat.le_of_ble_eq_true rfl⟩ rfl rfl (Nat.le_of_ble_eq_true rfl) dX11_feed_44 (fun M6 hw hM6 => ?_)
    refine p_aload_n (pc := 47) cx dX11_feed_47 rfl 0 rfl ?_
    refine gf_10_9 (pc := 48) cx ha0 t4_170 dX11_feed_48 ?_
    exact p_iret (pc := 51) cx hr hlk dX11_feed_51 hM6 hw
  · have hw := hw.2 hc
    refine p_iconst (pc := 18) (v := (-1)) cx dX11_feed_18 (by decide) ?_
    exact p_iret (pc := 19) cx hr hlk dX11_feed_19 hM1 hw
set_option maxHeartbeats 4000000 in
set_option maxRecDepth 100000 in
theorem c_X11_end {l : Launch} {D : va_G} {G : SH} (hND : ND G) {a0 : Nat} {a1 : Int32} {M : MS} {Qp : Int32 → MS → Prop} (hT : TYR G M.2.2.1) (ha0 : Is G 10 a0) (hw : w_X11_end G a0 a1 M Qp) : MeI l D G yX11_end (Cond.code yX11_end cX11_end 2 (some .boolean) :: GW) rm_X11_end [.ref a0, .int a1] M Qp := by
  unfold MeI
  refine p_method (by decide) rfl (Nat.le_of_ble_eq_true rfl) hND ?_
  intro p e s m args below meth c cx hr hlk
  have cx : CX p s m args c D G cX11_end 2 RX11 := cx
  unfold w_X11_end at hw
  refine p_aload_n (pc := 0) cx dX11_end_0 rfl 0 rfl ?_
  refine p_iconst (pc := 1) (v := 0) cx dX11_end_1 (by decide) ?_
  refine pf_10_5 (pc := 2) cx ha0 t4_166 dX11_end_2 ?_
  refine p_mem (fun M1 eM1 => ?_)
  have hw := hw M1 eM1
  have hM1 : TYR G M1.2.2.1 := by rw [eM1]; exact hT
  refine p_iload_n (pc := 5) cx dX11_end_5 rfl 1 rfl ?_
  refine p_if_lt (pc := 6) (tgt := 17) cx dX11_end_6 (by decide) (fun hc => ?_) (fun hc => ?_)
  · have hw := hw.1 hc
    refine p_iconst (pc := 17) (v := 0) cx dX11_end_17 (by decide) ?_
    exact p_zret (pc := 18) cx hr hlk dX11_end_18 (by decide) hM1 hw
  · have hw := hw.2 hc
    refine p_iload_n (pc := 9) cx dX11_end_9 rfl 1 rfl ?_
    refine p_aload_n (pc := 10) cx dX11_end_10 rfl 0 rfl ?_
    refine gf_10_9 (pc := 11) cx ha0 t4_170 dX11_end_11 ?_
    refine p_icmp_le (pc := 14) (tgt := 19) cx dX11_end_14 (by decide) (fun hc => ?_) (fun hc => ?_)
    · have hw := hw.1 hc
      refine p_aload_n (pc := 19) cx dX11_end_19 rfl 0 rfl ?_
      refine p_iload_n (pc := 20) cx dX11_end_20 rfl 1 rfl ?_
      refine pf_10_9 (pc := 21) cx ha0 t4_170 dX11_end_21 ?_
      refine p_mem (fun M2 eM2 => ?_)
      have hw := hw M2 eM2
      have hM2 : TYR G M2.2.2.1 := by rw [eM2]; exact hM1
      refine p_iconst (pc := 24) (v := 1) cx dX11_end_24 (by decide) ?_
      exact p_zret (pc := 25) cx hr hlk dX11_end_25 (by decide) hM2 hw
    · have hw := hw.2 hc
      refine p_iconst (pc := 17) (v := 0) cx dX11_end_17 (by decide) ?_
      exact p_zret (pc := 18) cx hr hlk dX11_end_18 (by decide) hM1 hw
set_option maxHeartbeats 4000000 in
set_option maxRecDepth 100000 in
theorem x_X11_read_243 {p : Program} {l : Launch} {e : Env} {s : State} {m : MethodId} {args : Array Value} {below : List Frame} {meth : Method} {c : Code} {D : va_G} {G : SH} {Qp : Int32 → MS → Prop}  (cx : CX p s m args c D G cX11_read 9 RX11) (hr : meth.sig.returnType = (some .int)) (hlk : meth.locks = false)  (v0 : Nat) (v1 : Int32) (v3 : Int32) (v4 : Int32) (M : MS) (hT : TYR G M.2.2.1) (hv0 : Is G 10 v0) (hw : w_X11_read_243 G Qp v0 v1 v3 v4 M) : PW p l e rm_X11_read s m args below meth c D G 9 (MQ below (va_Qi Qp (POST D G) (AG G)) args s 0 0 (AG G)) 243 [(0, .ref v0), (1, .int v1), (3, .int v3), (4, .int v4)] [] M := by
  unfold w_X11_read_243 at hw
  refine p_iload (pc := 243) cx dX11_read_243 3 rfl ?_
  refine p_if_eq (pc := 245) (tgt := 250) cx dX11_read_245 (by decide) (fun hc => ?_) (fun hc => ?_)
  · have hw := hw.1 hc
    refine p_aload_n (pc := 250) cx dX11_read_250 rfl 0 rfl ?_
    refine p_iload_n (pc := 251) cx dX11_read_251 rfl 1 rfl ?_
    refine p_bipush (pc := 252) (v := 19) cx dX11_read_252 (by decide) ?_
    refine p_callVv (pc := 254) [.int v1, .int (19 : Int32)] cx (c_X11_copy cx.2.2.2.2.2.2 hT hv0 hw) cf_X11_copy cv_X11_copy t4_220 hv0 ⟨by decide, rfl, rfl⟩ ⟨rfl, rfl⟩ ⟨Nat.le_of_ble_eq_true rfl, Nat.le_of_ble_eq_true rfl⟩ rfl rfl (Nat.le_of_ble_eq_true rfl) dX11_read_254 (fun M6 hw hM6 => ?_)
    refine p_iload_n (pc := 257) cx dX11_read_257 rfl 2 rfl ?_
    refine p_iconst (pc := 258) (v := 1) cx dX11_read_258 (by decide) ?_
    refine p_icmp_ne (pc := 259) (tgt := 275) cx dX11_read_259 (by decide) (fun hc => ?_) (fun hc => ?_)
    · have hw := hw.1 hc
      refine p_iconst (pc := 275) (v := 0) cx dX11_read_275 (by decide) ?_
      exact p_iret (pc := 276) cx hr hlk dX11_read_276 hM6 hw
    · have hw := hw.2 hc
      refine p_aload_n (pc := 262) cx dX11_read_262 rfl 0 rfl ?_
      refine gf_10_2 (pc := 263) cx hv0 t4_163 dX11_read_263 ?_
      have hr_7 : Is G 12 (mR M6 v0 2) := TYR.at hM6 hv0 2 12 rfl (by decide)
      refine p_iload_n (pc := 266) cx dX11_read_266 rfl 1 rfl ?_
      refine p_aload_n (pc := 267) cx dX11_read_267 rfl 0 rfl ?_
      refine gf_10_2 (pc := 268) cx hv0 t4_163 dX11_read_268 ?_
      have hr_8 : Is G 12 (mR M6 v0 2) := TYR.at hM6 hv0 2 12 rfl (by decide)
      refine p_iload_n (pc := 271) cx dX11_read_271 rfl 1 rfl ?_
      refine p_iald (pc := 272) cx hr_8 hw.1 dX11_read_272 ?_
      have hw := hw.2
      refine p_ineg (pc := 273) cx dX11_read_273 ?_
      refine p_iast (pc := 274) cx hr_7 hw.1 dX11_read_274 ?_
      have hw := hw.2
      refine p_mem (fun M9 eM9 => ?_)
      have hw := hw M9 eM9
      have hM9 : TYR G M9.2.2.1 := by rw [eM9]; exact hM6
      refine p_iconst (pc := 275) (v := 0) cx dX11_read_275 (by decide) ?_
      exact p_iret (pc := 276) cx hr hlk dX11_read_276 hM9 hw
  · have hw := hw.2 hc
    refine p_iconst (pc := 248) (v := 1) cx dX11_read_248 (by decide) ?_
    exact p_iret (pc := 249) cx hr hlk dX11_read_249 hT hw
set_option maxHeartbeats 4000000 in
set_option maxRecDepth 100000 in
theorem x_X11_read_142 {p : Program} {l : Launch} {e : Env} {s : State} {m : MethodId} {args : Array Value} {below : List Frame} {meth : Method} {c : Code} {D : va_G} {G : SH} {Qp : Int32 → MS → Prop} {K107 : Nat → Int32 → Int32 → Int32 → Int32 → Int32 → MS → Prop} (cx : CX p s m args c D G cX11_read 9 RX11) (hr : meth.sig.returnType = (some .int)) (hlk : meth.locks = false) (hK107 : ∀ (v0 : Nat) (v1 : Int32) (v2 : Int32) (v3 : Int32) (v4 : Int32) (v5 : Int32) (M : MS), TYR G M.2.2.1 → Is G 10 v0 → K107 v0 v1 v2 v3 v4 v5 M → PW p l e rm_X11_read s m args below meth c D G 9 (MQ below (va_Qi Qp (POST D G) (AG G)) args s 0 0 (AG G)) 107 [(0, .ref v0), (1, .int v1), (2, .int v2), (3, .int v3), (4, .int v4), (5, .int v5)] [] M) : ∀ (n : Nat) (v0 : Nat) (v1 : Int32) (v2 : Int32) (v3 : Int32) (v5 : Int32) (v6 : Int32) (v7 : Int32) (v8 : Int32) (M : MS), TYR G M.2.2.1 → Is G 10 v0 → w_X11_read_142 G K107 Qp n v0 v1 v2 v3 v5 v6 v7 v8 M → PW p l e rm_X11_read s m args below meth c D G 9 (MQ below (va_Qi Qp (POST D G) (AG G)) args s 0 0 (AG G)) 142 [(0, .ref v0), (1, .int v1), (2, .int v2), (3, .int v3), (5, .int v5), (6, .int v6), (7, .int v7), (8, .int v8)] [] M := by
  intro n
  induction n with
  | zero =>
    intro v0 v1 v2 v3 v5 v6 v7 v8 M hT hv0 hw
    exact hw.elim
  | succ n ih =>
    intro v0 v1 v2 v3 v5 v6 v7 v8 M hT hv0 hw
    rw [w_X11_read_142] at hw
    refine p_iload (pc := 142) cx dX11_read_142 7 rfl ?_
    refine p_iload (pc := 144) cx dX11_read_144 6 rfl ?_
    refine p_icmp_ge (pc := 146) (tgt := 197) cx dX11_read_146 (by decide) (fun hc => ?_) (fun hc => ?_)
    · have hw := hw.1 hc
      refine p_aload_n (pc := 197) cx dX11_read_197 rfl 0 rfl ?_
      refine gf_10_0 (pc := 198) cx hv0 t4_161 dX11_read_198 ?_
      have hr_14 : Is G 12 (mR M v0 0) := TYR.at hT hv0 0 12 rfl (by decide)
      refine p_sipush (pc := 201) (v := 4940) cx dX11_read_201 (by decide) ?_
      refine p_iload (pc := 204) cx dX11_read_204 6 rfl ?_
      refine p_iadd (pc := 206) cx dX11_read_206 ?_
      refine p_iload (pc := 207) cx dX11_read_207 5 rfl ?_
      refine p_iast (pc := 209) cx hr_14 hw.1 dX11_read_209 ?_
      have hw := hw.2
      refine p_mem (fun M15 eM15 => ?_)
      have hw := hw M15 eM15
      have hM15 : TYR G M15.2.2.1 := by rw [eM15]; exact hT
      refine p_aload_n (pc := 210) cx dX11_read_210 rfl 0 rfl ?_
      refine p_bipush (pc := 211) (v := 19) cx dX11_read_211 (by decide) ?_
      refine p_iload (pc := 213) cx dX11_read_213 6 rfl ?_
      refine p_iconst (pc := 215) (v := 1) cx dX11_read_215 (by decide) ?_
      refine p_iadd (pc := 216) cx dX11_read_216 ?_
      refine p_iconst (pc := 217) (v := 1) cx dX11_read_217 (by decide) ?_
      refine p_callVv (pc := 218) [.int (19 : Int32), .int (v7 + 1), .int (1 : Int32)] cx (c_X11_trim cx.2.2.2.2.2.2 hM15 hv0 hw) cf_X11_trim cv_X11_trim t4_208 hv0 ⟨by decide, rfl, rfl⟩ ⟨rfl, rfl⟩ ⟨Nat.le_of_ble_eq_true rfl, Nat.le_of_ble_eq_true rfl⟩ rfl rfl (Nat.le_of_ble_eq_true rfl) dX11_read_218 (fun M16 hw hM16 => ?_)
      refine p_aload_n (pc := 221) cx dX11_read_221 rfl 0 rfl ?_
      refine p_bipush (pc := 222) (v := 19) cx dX11_read_222 (by decide) ?_
      refine p_callVi (pc := 224) [.int (19 : Int32)] cx (c_X11_fits cx.2.2.2.2.2.2 hM16 hv0 hw) cf_X11_fits cv_X11_fits t4_216 hv0 ⟨by decide, rfl, rfl⟩ ⟨rfl, rfl⟩ ⟨Nat.le_of_ble_eq_true rfl, Nat.le_of_ble_eq_true rfl⟩ rfl rfl (Nat.le_of_ble_eq_true rfl) dX11_read_224 (fun r17 M17 hw hM17 => ?_)
      refine p_if_ne (pc := 227) (tgt := 234) cx dX11_read_227 (by decide) (fun hc => ?_) (fun hc => ?_)
      · have hw := hw.1 hc
        refine p_iconst (pc := 234) (v := 0) cx dX11_read_234 (by decide) ?_
        refine p_istore (pc := 235) (lv' := [(0, .ref v0), (1, .int v1), (2, .int v2), (3, .int v3), (4, .int (0 : Int32)), (5, .int v5)]) cx dX11_read_235 (by decide) [1, 2, 3, 4, 0, 5] rfl ?_
        obtain ⟨x5_18, ex5_18⟩ : ∃ y : Int32, y = v5 + 1 := ⟨_, rfl⟩
        have hw := hw x5_18 ex5_18
        refine p_iinc (pc := 237) (v := x5_18) (lv' := [(0, .ref v0), (1, .int v1), (2, .int v2), (3, .int v3), (4, .int (0 : Int32)), (5, .int x5_18)]) cx dX11_read_237 5 rfl (by rw [ex5_18]; rfl) (by decide) [1, 2, 3, 4, 5, 0] rfl ?_
        refine p_goto (pc := 240) (tgt := 107) cx dX11_read_240 (by decide) ?_
        exact hK107 v0 v1 v2 v3 0 x5_18 M17 hM17 hv0 hw
      · have hw := hw.2 hc
        refine p_iconst (pc := 230) (v := 1) cx dX11_read_230 (by decide) ?_
        refine p_goto (pc := 231) (tgt := 235) cx dX11_read_231 (by decide) ?_
        refine p_istore (pc := 235) (lv' := [(0, .ref v0), (1, .int v1), (2, .int v2), (3, .int v3), (4, .int (1 : Int32)), (5, .int v5)]) cx dX11_read_235 (by decide) [1, 2, 3, 4, 0, 5] rfl ?_
        obtain ⟨x5_19, ex5_19⟩ : ∃ y : Int32, y = v5 + 1 := ⟨_, rfl⟩
        have hw := hw x5_19 ex5_19
        refine p_iinc (pc := 237) (v := x5_19) (lv' := [(0, .ref v0), (1, .int v1), (2, .int v2), (3, .int v3), (4, .int (1 : Int32)), (5, .int x5_19)]) cx dX11_read_237 5 rfl (by rw [ex5_19]; rfl) (by decide) [1, 2, 3, 4, 5, 0] rfl ?_
        refine p_goto (pc := 240) (tgt := 107) cx dX11_read_240 (by decide) ?_
        exact hK107 v0 v1 v2 v3 1 x5_19 M17 hM17 hv0 hw
    · have hw := hw.2 hc
      refine p_iload (pc := 149) cx dX11_read_149 5 rfl ?_
      refine p_bipush (pc := 151) (v := 10) cx dX11_read_151 (by decide) ?_
      refine p_aload_n (pc := 153) cx dX11_read_153 rfl 0 rfl ?_
      refine gf_10_0 (pc := 154) cx hv0 t4_161 dX11_read_154 ?_
      have hr_20 : Is G 12 (mR M v0 0) := TYR.at hT hv0 0 12 rfl (by decide)
      refine p_sipush (pc := 157) (v := 4940) cx dX11_read_157 (by decide) ?_
      refine p_iload (pc := 160) cx dX11_read_160 7 rfl ?_
      refine p_iadd (pc := 162) cx dX11_read_162 ?_
      refine p_iald (pc := 163) cx hr_20 hw.1 dX11_read_163 ?_
      have hw := hw.2
      refine p_imul (pc := 164) cx dX11_read_164 ?_
      refine p_iadd (pc := 165) cx dX11_read_165 ?_
      refine p_topi (fun x6_21 ex6_21 => ?_)
      have hw := hw x6_21 ex6_21
      refine p_istore (pc := 166) (lv' := [(0, .ref v0), (1, .int v1), (2, .int v2), (3, .int v3), (5, .int v5), (6, .int x6_21), (7, .int v7), (8, .int v8)]) cx dX11_read_166 (by decide) [1, 2, 3, 4, 5, 0, 6, 7] rfl ?_
      refine p_aload_n (pc := 168) cx dX11_read_168 rfl 0 rfl ?_
      refine gf_10_0 (pc := 169) cx hv0 t4_161 dX11_read_169 ?_
      have hr_22 : Is G 12 (mR M v0 0) := TYR.at hT hv0 0 12 rfl (by decide)
      refine p_sipush (pc := 172) (v := 4940) cx dX11_read_172 (by decide) ?_
      refine p_iload (pc := 175) cx dX11_read_175 7 rfl ?_
      refine p_iadd (pc := 177) cx dX11_read_177 ?_
      refine p_iload (pc := 178) cx dX11_read_178 5 rfl ?_
      refine p_ldc (pc := 180) cx dX11_read_180 t4_207 ?_
      refine p_iand (pc := 182) cx dX11_read_182 ?_
      refine p_iast (pc := 183) cx hr_22 hw.1 dX11_read_183 ?_
      have hw := hw.2
      refine p_mem (fun M23 eM23 => ?_)
      have hw := hw M23 eM23
      have hM23 : TYR G M23.2.2.1 := by rw [eM23]; exact hT
      refine p_iload (pc := 184) cx dX11_read_184 5 rfl ?_
      refine p_bipush (pc := 186) (v := 16) cx dX11_read_186 (by decide) ?_
      refine p_ishr (pc := 188) cx dX11_read_188 ?_
      refine p_topi (fun x6_24 ex6_24 => ?_)
      have hw := hw x6_24 ex6_24
      refine p_istore (pc := 189) (lv' := [(0, .ref v0), (1, .int v1), (2, .int v2), (3, .int v3), (5, .int v5), (6, .int x6_24), (7, .int v7), (8, .int v8)]) cx dX11_read_189 (by decide) [1, 2, 3, 4, 5, 0, 6, 7] rfl ?_
      obtain ⟨x8_25, ex8_25⟩ : ∃ y : Int32, y = v8 + 1 := ⟨_, rfl⟩
      have hw := hw x8_25 ex8_25
      refine p_iinc (pc := 191) (v := x8_25) (lv' := [(0, .ref v0), (1, .int v1), (2, .int v2), (3, .int v3), (5, .int v5), (6, .int x6_24), (7, .int v7), (8, .int x8_25)]) cx dX11_read_191 7 rfl (by rw [ex8_25]; rfl) (by decide) [1, 2, 3, 4, 5, 6, 7, 0] rfl ?_
      refine p_goto (pc := 194) (tgt := 142) cx dX11_read_194 (by decide) ?_
      exact ih v0 v1 v2 v3 v5 x6_24 v7 x8_25 M23 hM23 hv0 hw
set_option maxHeartbeats 4000000 in
set_option maxRecDepth 100000 in
theorem x_X11_read_107 {p : Program} {l : Launch} {e : Env} {s : State} {m : MethodId} {args : Array Value} {below : List Frame} {meth : Method} {c : Code} {D : va_G} {G : SH} {Qp : Int32 → MS → Prop}  (cx : CX p s m args c D G cX11_read 9 RX11) (hr : meth.sig.returnType = (some .int)) (hlk : meth.locks = false)  : ∀ (n : Nat) (v0 : Nat) (v1 : Int32) (v2 : Int32) (v3 : Int32) (v4 : Int32) (v5 : Int32) (M : MS), TYR G M.2.2.1 → Is G 10 v0 → w_X11_read_107 G Qp n v0 v1 v2 v3 v4 v5 M → PW p l e rm_X11_read s m args below meth c D G 9 (MQ below (va_Qi Qp (POST D G) (AG G)) args s 0 0 (AG G)) 107 [(0, .ref v0), (1, .int v1), (2, .int v2), (3, .int v3), (4, .int v4), (5, .int v5)] [] M := by
  intro n
  induction n with
  | zero =>
    intro v0 v1 v2 v3 v4 v5 M hT hv0 hw
    exact hw.elim
  | succ n ih =>
    intro v0 v1 v2 v3 v4 v5 M hT hv0 hw
    rw [w_X11_read_107] at hw
    refine p_iload (pc := 107) cx dX11_read_107 5 rfl ?_
    refine p_iload_n (pc := 109) cx dX11_read_109 rfl 2 rfl ?_
    refine p_icmp_ge (pc := 110) (tgt := 243) cx dX11_read_110 (by decide) (fun hc => ?_) (fun hc => ?_)
    · have hw := hw.1 hc
      refine p_perm (lv' := [(0, .ref v0), (1, .int v1), (3, .int v3), (4, .int v4)]) [0, 1, 3, 4] rfl ?_
      exact x_X11_read_243 cx hr hlk v0 v1 v3 v4 M hT hv0 hw
    · have hw := hw.2 hc
      refine p_iload (pc := 113) cx dX11_read_113 4 rfl ?_
      refine p_if_ne (pc := 115) (tgt := 243) cx dX11_read_115 (by decide) (fun hc => ?_) (fun hc => ?_)
      · have hw := hw.1 hc
        refine p_perm (lv' := [(0, .ref v0), (1, .int v1), (3, .int v3), (4, .int v4)]) [0, 1, 3, 4] rfl ?_
        exact x_X11_read_243 cx hr hlk v0 v1 v3 v4 M hT hv0 hw
      · have hw := hw.2 hc
        refine p_aload_n (pc := 118) cx dX11_read_118 rfl 0 rfl ?_
        refine gf_10_7 (pc := 119) cx hv0 t4_168 dX11_read_119 ?_
        have hr_10 : Is G 11 (mR M v0 7) := TYR.at hT hv0 7 11 rfl (by decide)
        refine p_iload (pc := 122) cx dX11_read_122 5 rfl ?_
        refine p_bald (pc := 124) cx hr_10 hw.1 dX11_read_124 ?_
        have hw := hw.2
        refine p_bipush (pc := 125) (v := 48) cx dX11_read_125 (by decide) ?_
        refine p_isub (pc := 127) cx dX11_read_127 ?_
        refine p_topi (fun x6_11 ex6_11 => ?_)
        have hw := hw x6_11 ex6_11
        refine p_istore (pc := 128) (lv' := [(0, .ref v0), (1, .int v1), (2, .int v2), (3, .int v3), (5, .int v5), (6, .int x6_11)]) cx dX11_read_128 (by decide) [1, 2, 3, 4, 6, 0] rfl ?_
        refine p_aload_n (pc := 130) cx dX11_read_130 rfl 0 rfl ?_
        refine gf_10_1 (pc := 131) cx hv0 t4_162 dX11_read_131 ?_
        have hr_12 : Is G 12 (mR M v0 1) := TYR.at hT hv0 1 12 rfl (by decide)
        refine p_bipush (pc := 134) (v := 19) cx dX11_read_134 (by decide) ?_
        refine p_iald (pc := 136) cx hr_12 hw.1 dX11_read_136 ?_
        have hw := hw.2
        refine p_topi (fun x7_13 ex7_13 => ?_)
        have hw := hw x7_13 ex7_13
        refine p_istore (pc := 137) (lv' := [(0, .ref v0), (1, .int v1), (2, .int v2), (3, .int v3), (5, .int v5), (6, .int x6_11), (7, .int x7_13)]) cx dX11_read_137 (by decide) [1, 2, 3, 4, 5, 6, 0] rfl ?_
        refine p_iconst (pc := 139) (v := 0) cx dX11_read_139 (by decide) ?_
        refine p_istore (pc := 140) (lv' := [(0, .ref v0), (1, .int v1), (2, .int v2), (3, .int v3), (5, .int v5), (6, .int x6_11), (7, .int x7_13), (8, .int (0 : Int32))]) cx dX11_read_140 (by decide) [1, 2, 3, 4, 5, 6, 7, 0] rfl ?_
        obtain ⟨n1, hw⟩ := hw
        exact x_X11_read_142 cx hr hlk ih n1 v0 v1 v2 v3 v5 x6_11 x7_13 0 M hT hv0 hw
set_option maxHeartbeats 4000000 in
set_option maxRecDepth 100000 in
theorem x_X11_read_56 {p : Program} {l : Launch} {e : Env} {s : State} {m : MethodId} {args : Array Value} {below : List Frame} {meth : Method} {c : Code} {D : va_G} {G : SH} {Qp : Int32 → MS → Prop}  (cx : CX p s m args c D G cX11_read 9 RX11) (hr : meth.sig.returnType = (some .int)) (hlk : meth.locks = false)  : ∀ (n : Nat) (v0 : Nat) (v1 : Int32) (v2 : Int32) (v3 : Int32) (v4 : Int32) (M : MS), TYR G M.2.2.1 → Is G 10 v0 → w_X11_read_56 G Qp n v0 v1 v2 v3 v4 M → PW p l e rm_X11_read s m args below meth c D G 9 (MQ below (va_Qi Qp (POST D G) (AG G)) args s 0 0 (AG G)) 56 [(0, .ref v0), (1, .int v1), (2, .int v2), (3, .int v3), (4, .int v4)] [] M := by
  intro n
  induction n with
  | zero =>
    intro v0 v1 v2 v3 v4 M hT hv0 hw
    exact hw.elim
  | succ n ih =>
    intro v0 v1 v2 v3 v4 M hT hv0 hw
    rw [w_X11_read_56] at hw
    refine p_iload (pc := 56) cx dX11_read_56 4 rfl ?_
    refine p_iload_n (pc := 58) cx dX11_read_58 rfl 2 rfl ?_
    refine p_icmp_ge (pc := 59) (tgt := 94) cx dX11_read_59 (by decide) (fun hc => ?_) (fun hc => ?_)
    · have hw := hw.1 hc
      refine p_aload_n (pc := 94) cx dX11_read_94 rfl 0 rfl ?_
      refine p_bipush (pc := 95) (v := 19) cx dX11_read_95 (by decide) ?_
      refine p_iconst (pc := 97) (v := 0) cx dX11_read_97 (by decide) ?_
      refine p_callVv (pc := 98) [.int (19 : Int32), .int (0 : Int32)] cx (c_X11_small cx.2.2.2.2.2.2 hT hv0 hw) cf_X11_small cv_X11_small t4_228 hv0 ⟨by decide, rfl, rfl⟩ ⟨rfl, rfl⟩ ⟨Nat.le_of_ble_eq_true rfl, Nat.le_of_ble_eq_true rfl⟩ rfl rfl (Nat.le_of_ble_eq_true rfl) dX11_read_98 (fun M5 hw hM5 => ?_)
      refine p_iconst (pc := 101) (v := 0) cx dX11_read_101 (by decide) ?_
      refine p_istore (pc := 102) (lv' := [(0, .ref v0), (1, .int v1), (2, .int v2), (3, .int v3), (4, .int (0 : Int32))]) cx dX11_read_102 (by decide) [1, 2, 3, 4, 0] rfl ?_
      refine p_iload_n (pc := 104) cx dX11_read_104 rfl 3 rfl ?_
      refine p_istore (pc := 105) (lv' := [(0, .ref v0), (1, .int v1), (2, .int v2), (3, .int v3), (4, .int (0 : Int32)), (5, .int v3)]) cx dX11_read_105 (by decide) [1, 2, 3, 4, 5, 0] rfl ?_
      obtain ⟨n1, hw⟩ := hw
      exact x_X11_read_107 cx hr hlk n1 v0 v1 v2 v3 0 v3 M5 hM5 hv0 hw
    · have hw := hw.2 hc
      refine p_aload_n (pc := 62) cx dX11_read_62 rfl 0 rfl ?_
      refine gf_10_7 (pc := 63) cx hv0 t4_168 dX11_read_63 ?_
      have hr_26 : Is G 11 (mR M v0 7) := TYR.at hT hv0 7 11 rfl (by decide)
      refine p_iload (pc := 66) cx dX11_read_66 4 rfl ?_
      refine p_bald (pc := 68) cx hr_26 hw.1 dX11_read_68 ?_
      have hw := hw.2
      refine p_bipush (pc := 69) (v := 48) cx dX11_read_69 (by decide) ?_
      refine p_icmp_lt (pc := 71) (tgt := 86) cx dX11_read_71 (by decide) (fun hc => ?_) (fun hc => ?_)
      · have hw := hw.1 hc
        refine p_iconst (pc := 86) (v := 2) cx dX11_read_86 (by decide) ?_
        exact p_iret (pc := 87) cx hr hlk dX11_read_87 hT hw
      · have hw := hw.2 hc
        refine p_aload_n (pc := 74) cx dX11_read_74 rfl 0 rfl ?_
        refine gf_10_7 (pc := 75) cx hv0 t4_168 dX11_read_75 ?_
        have hr_27 : Is G 11 (mR M v0 7) := TYR.at hT hv0 7 11 rfl (by decide)
        refine p_iload (pc := 78) cx dX11_read_78 4 rfl ?_
        refine p_bald (pc := 80) cx hr_27 hw.1 dX11_read_80 ?_
        have hw := hw.2
        refine p_bipush (pc := 81) (v := 57) cx dX11_read_81 (by decide) ?_
        refine p_icmp_le (pc := 83) (tgt := 88) cx dX11_read_83 (by decide) (fun hc => ?_) (fun hc => ?_)
        · have hw := hw.1 hc
          obtain ⟨x4_28, ex4_28⟩ : ∃ y : Int32, y = v4 + 1 := ⟨_, rfl⟩
          have hw := hw x4_28 ex4_28
          refine p_iinc (pc := 88) (v := x4_28) (lv' := [(0, .ref v0), (1, .int v1), (2, .int v2), (3, .int v3), (4, .int x4_28)]) cx dX11_read_88 4 rfl (by rw [ex4_28]; rfl) (by decide) [1, 2, 3, 4, 0] rfl ?_
          refine p_goto (pc := 91) (tgt := 56) cx dX11_read_91 (by decide) ?_
          exact ih v0 v1 v2 v3 x4_28 M hT hv0 hw
        · have hw := hw.2 hc
          refine p_iconst (pc := 86) (v := 2) cx dX11_read_86 (by decide) ?_
          exact p_iret (pc := 87) cx hr hlk dX11_read_87 hT hw
set_option maxHeartbeats 4000000 in
set_option maxRecDepth 100000 in
theorem x_X11_read_45 {p : Program} {l : Launch} {e : Env} {s : State} {m : MethodId} {args : Array Value} {below : List Frame} {meth : Method} {c : Code} {D : va_G} {G : SH} {Qp : Int32 → MS → Prop}  (cx : CX p s m args c D G cX11_read 9 RX11) (hr : meth.sig.returnType = (some .int)) (hlk : meth.locks = false)  (v0 : Nat) (v1 : Int32) (v2 : Int32) (s0 : Int32) (M : MS) (hT : TYR G M.2.2.1) (hv0 : Is G 10 v0) (hw : w_X11_read_45 G Qp v0 v1 v2 s0 M) : PW p l e rm_X11_read s m args below meth c D G 9 (MQ below (va_Qi Qp (POST D G) (AG G)) args s 0 0 (AG G)) 45 [(0, .ref v0), (1, .int v1), (2, .int v2)] [.int s0] M := by
  unfold w_X11_read_45 at hw
  refine p_istore_n (pc := 45) (lv' := [(0, .ref v0), (1, .int v1), (2, .int v2), (3, .int s0)]) cx dX11_read_45 rfl (by decide) [1, 2, 3, 0] rfl ?_
  refine p_iload_n (pc := 46) cx dX11_read_46 rfl 3 rfl ?_
  refine p_iload_n (pc := 47) cx dX11_read_47 rfl 2 rfl ?_
  refine p_icmp_ne (pc := 48) (tgt := 53) cx dX11_read_48 (by decide) (fun hc => ?_) (fun hc => ?_)
  · have hw := hw.1 hc
    refine p_iload_n (pc := 53) cx dX11_read_53 rfl 3 rfl ?_
    refine p_istore (pc := 54) (lv' := [(0, .ref v0), (1, .int v1), (2, .int v2), (3, .int s0), (4, .int s0)]) cx dX11_read_54 (by decide) [1, 2, 3, 4, 0] rfl ?_
    obtain ⟨n1, hw⟩ := hw
    exact x_X11_read_56 cx hr hlk n1 v0 v1 v2 s0 s0 M hT hv0 hw
  · have hw := hw.2 hc
    refine p_iconst (pc := 51) (v := 2) cx dX11_read_51 (by decide) ?_
    exact p_iret (pc := 52) cx hr hlk dX11_read_52 hT hw
set_option maxHeartbeats 4000000 in
set_option maxRecDepth 100000 in
theorem x_X11_read_44 {p : Program} {l : Launch} {e : Env} {s : State} {m : MethodId} {args : Array Value} {below : List Frame} {meth : Method} {c : Code} {D : va_G} {G : SH} {Qp : Int32 → MS → Prop}  (cx : CX p s m args c D G cX11_read 9 RX11) (hr : meth.sig.returnType = (some .int)) (hlk : meth.locks = false)  (v0 : Nat) (v1 : Int32) (v2 : Int32) (M : MS) (hT : TYR G M.2.2.1) (hv0 : Is G 10 v0) (hw : w_X11_read_44 G Qp v0 v1 v2 M) : PW p l e rm_X11_read s m args below meth c D G 9 (MQ below (va_Qi Qp (POST D G) (AG G)) args s 0 0 (AG G)) 44 [(0, .ref v0), (1, .int v1), (2, .int v2)] [] M := by
  unfold w_X11_read_44 at hw
  refine p_iconst (pc := 44) (v := 0) cx dX11_read_44 (by decide) ?_
  exact x_X11_read_45 cx hr hlk v0 v1 v2 0 M hT hv0 hw
set_option maxHeartbeats 4000000 in
set_option maxRecDepth 100000 in
theorem c_X11_read {l : Launch} {D : va_G} {G : SH} (hND : ND G) {a0 : Nat} {a1 : Int32} {M : MS} {Qp : Int32 → MS → Prop} (hT : TYR G M.2.2.1) (ha0 : Is G 10 a0) (hw : w_X11_read G a0 a1 M Qp) : MeI l D G yX11_read (Cond.code yX11_read cX11_read 9 (some .int) :: GW) rm_X11_read [.ref a0, .int a1] M Qp := by
  unfold MeI
  refine p_method (by decide) rfl (Nat.le_of_ble_eq_true rfl) hND ?_
  intro p e s m args below meth c cx hr hlk
  have cx : CX p s m args c D G cX11_read 9 RX11 := cx
  unfold w_X11_read at hw
  refine p_aload_n (pc := 0) cx dX11_read_0 rfl 0 rfl ?_
  refine p_iconst (pc := 1) (v := 0) cx dX11_read_1 (by decide) ?_
  refine pf_10_5 (pc := 2) cx ha0 t4_166 dX11_read_2 ?_
  refine p_mem (fun M1 eM1 => ?_)
  have hw := hw M1 eM1
  have hM1 : TYR G M1.2.2.1 := by rw [eM1]; exact hT
  refine p_aload_n (pc := 5) cx dX11_read_5 rfl 0 rfl ?_
  refine p_iload_n (pc := 6) cx dX11_read_6 rfl 1 rfl ?_
  refine p_callVi (pc := 7) [.int a1] cx (c_X11_no cx.2.2.2.2.2.2 hM1 ha0 hw) cf_X11_no cv_X11_no t4_203 ha0 ⟨by decide, rfl, rfl⟩ ⟨rfl, rfl⟩ ⟨Nat.le_of_ble_eq_true rfl, Nat.le_of_ble_eq_true rfl⟩ rfl rfl (Nat.le_of_ble_eq_true rfl) dX11_read_7 (fun r2 M2 hw hM2 => ?_)
  refine p_if_eq (pc := 10) (tgt := 15) cx dX11_read_10 (by decide) (fun hc => ?_) (fun hc => ?_)
  · have hw := hw.1 hc
    refine p_aload_n (pc := 15) cx dX11_read_15 rfl 0 rfl ?_
    refine gf_10_9 (pc := 16) cx ha0 t4_170 dX11_read_16 ?_
    refine p_topi (fun x2_3 ex2_3 => ?_)
    have hw := hw x2_3 ex2_3
    refine p_istore_n (pc := 19) (lv' := [(0, .ref a0), (1, .int a1), (2, .int x2_3)]) cx dX11_read_19 rfl (by decide) [1, 2, 0] rfl ?_
    refine p_aload_n (pc := 20) cx dX11_read_20 rfl 0 rfl ?_
    refine p_iconst (pc := 21) (v := 0) cx dX11_read_21 (by decide) ?_
    refine pf_10_9 (pc := 22) cx ha0 t4_170 dX11_read_22 ?_
    refine p_mem (fun M4 eM4 => ?_)
    have hw := hw M4 eM4
    have hM4 : TYR G M4.2.2.1 := by rw [eM4]; exact hM2
    refine p_iload_n (pc := 25) cx dX11_read_25 rfl 2 rfl ?_
    refine p_if_le (pc := 26) (tgt := 44) cx dX11_read_26 (by decide) (fun hc => ?_) (fun hc => ?_)
    · have hw := hw.1 hc
      exact x_X11_read_44 cx hr hlk a0 a1 x2_3 M4 hM4 ha0 hw
    · have hw := hw.2 hc
      refine p_aload_n (pc := 29) cx dX11_read_29 rfl 0 rfl ?_
      refine gf_10_7 (pc := 30) cx ha0 t4_168 dX11_read_30 ?_
      have hr_29 : Is G 11 (mR M4 a0 7) := TYR.at hM4 ha0 7 11 rfl (by decide)
      refine p_iconst (pc := 33) (v := 0) cx dX11_read_33 (by decide) ?_
      refine p_bald (pc := 34) cx hr_29 hw.1 dX11_read_34 ?_
      have hw := hw.2
      refine p_bipush (pc := 35) (v := 45) cx dX11_read_35 (by decide) ?_
      refine p_icmp_ne (pc := 37) (tgt := 44) cx dX11_read_37 (by decide) (fun hc => ?_) (fun hc => ?_)
      · have hw := hw.1 hc
        exact x_X11_read_44 cx hr hlk a0 a1 x2_3 M4 hM4 ha0 hw
      · have hw := hw.2 hc
        refine p_iconst (pc := 40) (v := 1) cx dX11_read_40 (by decide) ?_
        refine p_goto (pc := 41) (tgt := 45) cx dX11_read_41 (by decide) ?_
        exact x_X11_read_45 cx hr hlk a0 a1 x2_3 1 M4 hM4 ha0 hw
  · have hw := hw.2 hc
    refine p_iconst (pc := 13) (v := 3) cx dX11_read_13 (by decide) ?_
    exact p_iret (pc := 14) cx hr hlk dX11_read_14 hM2 hw
set_option maxHeartbeats 4000000 in
set_option maxRecDepth 100000 in
theorem x_X11_write_145 {p : Program} {l : Launch} {e : Env} {s : State} {m : MethodId} {args : Array Value} {below : List Frame} {meth : Method} {c : Code} {D : va_G} {G : SH} {Qp : Int32 → MS → Prop}  (cx : CX p s m args c D G cX11_write 6 RX11) (hr : meth.sig.returnType = (some .int)) (hlk : meth.locks = false)  : ∀ (n : Nat) (v0 : Nat) (v2 : Int32) (v3 : Int32) (v4 : Int32) (M : MS), TYR G M.2.2.1 → Is G 10 v0 → w_X11_write_145 G Qp n v0 v2 v3 v4 M → PW p l e rm_X11_write s m args below meth c D G 6 (MQ below (va_Qi Qp (POST D G) (AG G)) args s 0 0 (AG G)) 145 [(0, .ref v0), (2, .int v2), (3, .int v3), (4, .int v4)] [] M := by
  intro n
  induction n with
  | zero =>
    intro v0 v2 v3 v4 M hT hv0 hw
    exact hw.elim
  | succ n ih =>
    intro v0 v2 v3 v4 M hT hv0 hw
    rw [w_X11_write_145] at hw
    refine p_iload_n (pc := 145) cx dX11_write_145 rfl 2 rfl ?_
    refine p_iload (pc := 146) cx dX11_write_146 3 rfl ?_
    refine p_icmp_ge (pc := 148) (tgt := 190) cx dX11_write_148 (by decide) (fun hc => ?_) (fun hc => ?_)
    · have hw := hw.1 hc
      refine p_aload_n (pc := 190) cx dX11_write_190 rfl 0 rfl ?_
      refine p_iload_n (pc := 191) cx dX11_write_191 rfl 1 rfl ?_
      refine pf_10_10 (pc := 192) cx hv0 t4_171 dX11_write_192 ?_
      refine p_mem (fun M13 eM13 => ?_)
      have hw := hw M13 eM13
      have hM13 : TYR G M13.2.2.1 := by rw [eM13]; exact hT
      refine p_iload_n (pc := 195) cx dX11_write_195 rfl 1 rfl ?_
      exact p_iret (pc := 196) cx hr hlk dX11_write_196 hM13 hw
    · have hw := hw.2 hc
      refine p_aload_n (pc := 151) cx dX11_write_151 rfl 0 rfl ?_
      refine gf_10_8 (pc := 152) cx hv0 t4_169 dX11_write_152 ?_
      have hr_14 : Is G 11 (mR M v0 8) := TYR.at hT hv0 8 11 rfl (by decide)
      refine p_iload_n (pc := 155) cx dX11_write_155 rfl 2 rfl ?_
      refine p_bald (pc := 156) cx hr_14 hw.1 dX11_write_156 ?_
      have hw := hw.2
      refine p_topi (fun x5_15 ex5_15 => ?_)
      have hw := hw x5_15 ex5_15
      refine p_istore (pc := 157) (lv' := [(0, .ref v0), (2, .int v2), (3, .int v3), (4, .int v4), (5, .int x5_15)]) cx dX11_write_157 (by decide) [1, 2, 3, 4, 0] rfl ?_
      refine p_aload_n (pc := 159) cx dX11_write_159 rfl 0 rfl ?_
      refine gf_10_8 (pc := 160) cx hv0 t4_169 dX11_write_160 ?_
      have hr_16 : Is G 11 (mR M v0 8) := TYR.at hT hv0 8 11 rfl (by decide)
      refine p_iload_n (pc := 163) cx dX11_write_163 rfl 2 rfl ?_
      refine p_aload_n (pc := 164) cx dX11_write_164 rfl 0 rfl ?_
      refine gf_10_8 (pc := 165) cx hv0 t4_169 dX11_write_165 ?_
      have hr_17 : Is G 11 (mR M v0 8) := TYR.at hT hv0 8 11 rfl (by decide)
      refine p_iload (pc := 168) cx dX11_write_168 3 rfl ?_
      refine p_bald (pc := 170) cx hr_17 hw.1 dX11_write_170 ?_
      have hw := hw.2
      refine p_bast (pc := 171) cx hr_16 hw.1 dX11_write_171 ?_
      have hw := hw.2
      refine p_mem (fun M18 eM18 => ?_)
      have hw := hw M18 eM18
      have hM18 : TYR G M18.2.2.1 := by rw [eM18]; exact hT
      refine p_aload_n (pc := 172) cx dX11_write_172 rfl 0 rfl ?_
      refine gf_10_8 (pc := 173) cx hv0 t4_169 dX11_write_173 ?_
      have hr_19 : Is G 11 (mR M18 v0 8) := TYR.at hM18 hv0 8 11 rfl (by decide)
      refine p_iload (pc := 176) cx dX11_write_176 3 rfl ?_
      refine p_iload (pc := 178) cx dX11_write_178 4 rfl ?_
      refine p_bast (pc := 180) cx hr_19 hw.1 dX11_write_180 ?_
      have hw := hw.2
      refine p_mem (fun M20 eM20 => ?_)
      have hw := hw M20 eM20
      have hM20 : TYR G M20.2.2.1 := by rw [eM20]; exact hM18
      obtain ⟨x3_21, ex3_21⟩ : ∃ y : Int32, y = v3 + 1 := ⟨_, rfl⟩
      have hw := hw x3_21 ex3_21
      refine p_iinc (pc := 181) (v := x3_21) (lv' := [(0, .ref v0), (2, .int v2), (3, .int x3_21), (4, .int v4)]) cx dX11_write_181 2 rfl (by rw [ex3_21]; rfl) (by decide) [1, 2, 0, 3] rfl ?_
      obtain ⟨x4_22, ex4_22⟩ : ∃ y : Int32, y = v4 + (-1) := ⟨_, rfl⟩
      have hw := hw x4_22 ex4_22
      refine p_iinc (pc := 184) (v := x4_22) (lv' := [(0, .ref v0), (2, .int v2), (3, .int x3_21), (4, .int x4_22)]) cx dX11_write_184 3 rfl (by rw [ex4_22]; rfl) (by decide) [1, 2, 3, 0] rfl ?_
      refine p_goto (pc := 187) (tgt := 145) cx dX11_write_187 (by decide) ?_
      exact ih v0 v2 x3_21 x4_22 M20 hM20 hv0 hw
set_option maxHeartbeats 4000000 in
set_option maxRecDepth 100000 in
theorem x_X11_write_32 {p : Program} {l : Launch} {e : Env} {s : State} {m : MethodId} {args : Array Value} {below : List Frame} {meth : Method} {c : Code} {D : va_G} {G : SH} {Qp : Int32 → MS → Prop} {K19 : Nat → Int32 → Int32 → MS → Prop} (cx : CX p s m args c D G cX11_write 6 RX11) (hr : meth.sig.returnType = (some .int)) (hlk : meth.locks = false) (hK19 : ∀ (v0 : Nat) (v1 : Int32) (v2 : Int32) (M : MS), TYR G M.2.2.1 → Is G 10 v0 → K19 v0 v1 v2 M → PW p l e rm_X11_write s m args below meth c D G 6 (MQ below (va_Qi Qp (POST D G) (AG G)) args s 0 0 (AG G)) 19 [(0, .ref v0), (1, .int v1), (2, .int v2)] [] M) : ∀ (n : Nat) (v0 : Nat) (v1 : Int32) (v2 : Int32) (v3 : Int32) (v4 : Int32) (M : MS), TYR G M.2.2.1 → Is G 10 v0 → w_X11_write_32 G K19 Qp n v0 v1 v2 v3 v4 M → PW p l e rm_X11_write s m args below meth c D G 6 (MQ below (va_Qi Qp (POST D G) (AG G)) args s 0 0 (AG G)) 32 [(0, .ref v0), (1, .int v1), (2, .int v2), (3, .int v3), (4, .int v4)] [] M := by
  intro n
  induction n with
  | zero =>
    intro v0 v1 v2 v3 v4 M hT hv0 hw
    exact hw.elim
  | succ n ih =>
    intro v0 v1 v2 v3 v4 M hT hv0 hw
    rw [w_X11_write_32] at hw
    refine p_iload (pc := 32) cx dX11_write_32 4 rfl ?_
    refine p_if_lt (pc := 34) (tgt := 80) cx dX11_write_34 (by decide) (fun hc => ?_) (fun hc => ?_)
    · have hw := hw.1 hc
      refine p_aload_n (pc := 80) cx dX11_write_80 rfl 0 rfl ?_
      refine p_bipush (pc := 81) (v := 19) cx dX11_write_81 (by decide) ?_
      refine p_aload_n (pc := 83) cx dX11_write_83 rfl 0 rfl ?_
      refine gf_10_1 (pc := 84) cx hv0 t4_162 dX11_write_84 ?_
      have hr_5 : Is G 12 (mR M v0 1) := TYR.at hT hv0 1 12 rfl (by decide)
      refine p_bipush (pc := 87) (v := 19) cx dX11_write_87 (by decide) ?_
      refine p_iald (pc := 89) cx hr_5 hw.1 dX11_write_89 ?_
      have hw := hw.2
      refine p_iconst (pc := 90) (v := 1) cx dX11_write_90 (by decide) ?_
      refine p_callVv (pc := 91) [.int (19 : Int32), .int (mA M (mR M v0 1) (19 : Int32).toNatClampNeg), .int (1 : Int32)] cx (c_X11_trim cx.2.2.2.2.2.2 hT hv0 hw) cf_X11_trim cv_X11_trim t4_208 hv0 ⟨by decide, rfl, rfl⟩ ⟨rfl, rfl⟩ ⟨Nat.le_of_ble_eq_true rfl, Nat.le_of_ble_eq_true rfl⟩ rfl rfl (Nat.le_of_ble_eq_true rfl) dX11_write_91 (fun M6 hw hM6 => ?_)
      refine p_aload_n (pc := 94) cx dX11_write_94 rfl 0 rfl ?_
      refine gf_10_8 (pc := 95) cx hv0 t4_169 dX11_write_95 ?_
      have hr_7 : Is G 11 (mR M6 v0 8) := TYR.at hM6 hv0 8 11 rfl (by decide)
      refine p_iload_n (pc := 98) cx dX11_write_98 rfl 2 rfl ?_
      refine p_bipush (pc := 99) (v := 48) cx dX11_write_99 (by decide) ?_
      refine p_iload_n (pc := 101) cx dX11_write_101 rfl 3 rfl ?_
      refine p_iadd (pc := 102) cx dX11_write_102 ?_
      refine p_i2b (pc := 103) cx dX11_write_103 ?_
      refine p_bast (pc := 104) cx hr_7 hw.1 dX11_write_104 ?_
      have hw := hw.2
      refine p_mem (fun M8 eM8 => ?_)
      have hw := hw M8 eM8
      have hM8 : TYR G M8.2.2.1 := by rw [eM8]; exact hM6
      obtain ⟨x2_9, ex2_9⟩ : ∃ y : Int32, y = v2 + 1 := ⟨_, rfl⟩
      have hw := hw x2_9 ex2_9
      refine p_iinc (pc := 105) (v := x2_9) (lv' := [(0, .ref v0), (1, .int v1), (2, .int x2_9)]) cx dX11_write_105 2 rfl (by rw [ex2_9]; rfl) (by decide) [1, 2, 0] rfl ?_
      refine p_aload_n (pc := 108) cx dX11_write_108 rfl 0 rfl ?_
      refine gf_10_1 (pc := 109) cx hv0 t4_162 dX11_write_109 ?_
      have hr_10 : Is G 12 (mR M8 v0 1) := TYR.at hM8 hv0 1 12 rfl (by decide)
      refine p_bipush (pc := 112) (v := 19) cx dX11_write_112 (by decide) ?_
      refine p_iald (pc := 114) cx hr_10 hw.1 dX11_write_114 ?_
      have hw := hw.2
      refine p_if_gt (pc := 115) (tgt := 19) cx dX11_write_115 (by decide) (fun hc => ?_) (fun hc => ?_)
      · have hw := hw.1 hc
        exact hK19 v0 v1 x2_9 M8 hM8 hv0 hw
      · have hw := hw.2 hc
        refine p_aload_n (pc := 118) cx dX11_write_118 rfl 0 rfl ?_
        refine gf_10_2 (pc := 119) cx hv0 t4_163 dX11_write_119 ?_
        have hr_11 : Is G 12 (mR M8 v0 2) := TYR.at hM8 hv0 2 12 rfl (by decide)
        refine p_iload_n (pc := 122) cx dX11_write_122 rfl 1 rfl ?_
        refine p_iald (pc := 123) cx hr_11 hw.1 dX11_write_123 ?_
        have hw := hw.2
        refine p_if_ge (pc := 124) (tgt := 138) cx dX11_write_124 (by decide) (fun hc => ?_) (fun hc => ?_)
        · have hw := hw.1 hc
          refine p_iconst (pc := 138) (v := 0) cx dX11_write_138 (by decide) ?_
          refine p_istore_n (pc := 139) (lv' := [(0, .ref v0), (2, .int x2_9), (3, .int (0 : Int32))]) cx dX11_write_139 rfl (by decide) [1, 3, 0] rfl ?_
          refine p_iload_n (pc := 140) cx dX11_write_140 rfl 1 rfl ?_
          refine p_iconst (pc := 141) (v := 1) cx dX11_write_141 (by decide) ?_
          refine p_isub (pc := 142) cx dX11_write_142 ?_
          refine p_topi (fun x4_12 ex4_12 => ?_)
          have hw := hw x4_12 ex4_12
          refine p_istore (pc := 143) (lv' := [(0, .ref v0), (2, .int x2_9), (3, .int (0 : Int32)), (4, .int x4_12)]) cx dX11_write_143 (by decide) [1, 2, 3, 0] rfl ?_
          obtain ⟨n1, hw⟩ := hw
          exact x_X11_write_145 cx hr hlk n1 v0 x2_9 0 x4_12 M8 hM8 hv0 hw
        · have hw := hw.2 hc
          refine p_aload_n (pc := 127) cx dX11_write_127 rfl 0 rfl ?_
          refine gf_10_8 (pc := 128) cx hv0 t4_169 dX11_write_128 ?_
          have hr_23 : Is G 11 (mR M8 v0 8) := TYR.at hM8 hv0 8 11 rfl (by decide)
          refine p_iload_n (pc := 131) cx dX11_write_131 rfl 2 rfl ?_
          refine p_bipush (pc := 132) (v := 45) cx dX11_write_132 (by decide) ?_
          refine p_bast (pc := 134) cx hr_23 hw.1 dX11_write_134 ?_
          have hw := hw.2
          refine p_mem (fun M24 eM24 => ?_)
          have hw := hw M24 eM24
          have hM24 : TYR G M24.2.2.1 := by rw [eM24]; exact hM8
          obtain ⟨x2_25, ex2_25⟩ : ∃ y : Int32, y = x2_9 + 1 := ⟨_, rfl⟩
          have hw := hw x2_25 ex2_25
          refine p_iinc (pc := 135) (v := x2_25) (lv' := [(0, .ref v0), (2, .int x2_25)]) cx dX11_write_135 2 rfl (by rw [ex2_25]; rfl) (by decide) [1, 0] rfl ?_
          refine p_iconst (pc := 138) (v := 0) cx dX11_write_138 (by decide) ?_
          refine p_istore_n (pc := 139) (lv' := [(0, .ref v0), (2, .int x2_25), (3, .int (0 : Int32))]) cx dX11_write_139 rfl (by decide) [1, 2, 0] rfl ?_
          refine p_iload_n (pc := 140) cx dX11_write_140 rfl 1 rfl ?_
          refine p_iconst (pc := 141) (v := 1) cx dX11_write_141 (by decide) ?_
          refine p_isub (pc := 142) cx dX11_write_142 ?_
          refine p_topi (fun x4_26 ex4_26 => ?_)
          have hw := hw x4_26 ex4_26
          refine p_istore (pc := 143) (lv' := [(0, .ref v0), (2, .int x2_25), (3, .int (0 : Int32)), (4, .int x4_26)]) cx dX11_write_143 (by decide) [1, 2, 3, 0] rfl ?_
          obtain ⟨n1, hw⟩ := hw
          exact x_X11_write_145 cx hr hlk n1 v0 x2_25 0 x4_26 M24 hM24 hv0 hw
    · have hw := hw.2 hc
      refine p_iload_n (pc := 37) cx dX11_write_37 rfl 3 rfl ?_
      refine p_bipush (pc := 38) (v := 16) cx dX11_write_38 (by decide) ?_
      refine p_ishl (pc := 40) cx dX11_write_40 ?_
      refine p_aload_n (pc := 41) cx dX11_write_41 rfl 0 rfl ?_
      refine gf_10_0 (pc := 42) cx hv0 t4_161 dX11_write_42 ?_
      have hr_27 : Is G 12 (mR M v0 0) := TYR.at hT hv0 0 12 rfl (by decide)
      refine p_sipush (pc := 45) (v := 4940) cx dX11_write_45 (by decide) ?_
      refine p_iload (pc := 48) cx dX11_write_48 4 rfl ?_
      refine p_iadd (pc := 50) cx dX11_write_50 ?_
      refine p_iald (pc := 51) cx hr_27 hw.1 dX11_write_51 ?_
      have hw := hw.2
      refine p_ior (pc := 52) cx dX11_write_52 ?_
      refine p_topi (fun x3_28 ex3_28 => ?_)
      have hw := hw x3_28 ex3_28
      refine p_istore_n (pc := 53) (lv' := [(0, .ref v0), (1, .int v1), (2, .int v2), (3, .int x3_28), (4, .int v4)]) cx dX11_write_53 rfl (by decide) [1, 2, 3, 0, 4] rfl ?_
      refine p_aload_n (pc := 54) cx dX11_write_54 rfl 0 rfl ?_
      refine gf_10_0 (pc := 55) cx hv0 t4_161 dX11_write_55 ?_
      have hr_29 : Is G 12 (mR M v0 0) := TYR.at hT hv0 0 12 rfl (by decide)
      refine p_sipush (pc := 58) (v := 4940) cx dX11_write_58 (by decide) ?_
      refine p_iload (pc := 61) cx dX11_write_61 4 rfl ?_
      refine p_iadd (pc := 63) cx dX11_write_63 ?_
      refine p_iload_n (pc := 64) cx dX11_write_64 rfl 3 rfl ?_
      refine p_bipush (pc := 65) (v := 10) cx dX11_write_65 (by decide) ?_
      refine p_idiv (pc := 67) cx dX11_write_67 hw.1 ?_
      have hw := hw.2
      refine p_iast (pc := 68) cx hr_29 hw.1 dX11_write_68 ?_
      have hw := hw.2
      refine p_mem (fun M30 eM30 => ?_)
      have hw := hw M30 eM30
      have hM30 : TYR G M30.2.2.1 := by rw [eM30]; exact hT
      refine p_iload_n (pc := 69) cx dX11_write_69 rfl 3 rfl ?_
      refine p_bipush (pc := 70) (v := 10) cx dX11_write_70 (by decide) ?_
      refine p_irem (pc := 72) cx dX11_write_72 hw.1 ?_
      have hw := hw.2
      refine p_topi (fun x3_31 ex3_31 => ?_)
      have hw := hw x3_31 ex3_31
      refine p_istore_n (pc := 73) (lv' := [(0, .ref v0), (1, .int v1), (2, .int v2), (3, .int x3_31), (4, .int v4)]) cx dX11_write_73 rfl (by decide) [1, 2, 3, 0, 4] rfl ?_
      obtain ⟨x4_32, ex4_32⟩ : ∃ y : Int32, y = v4 + (-1) := ⟨_, rfl⟩
      have hw := hw x4_32 ex4_32
      refine p_iinc (pc := 74) (v := x4_32) (lv' := [(0, .ref v0), (1, .int v1), (2, .int v2), (3, .int x3_31), (4, .int x4_32)]) cx dX11_write_74 4 rfl (by rw [ex4_32]; rfl) (by decide) [1, 2, 3, 4, 0] rfl ?_
      refine p_goto (pc := 77) (tgt := 32) cx dX11_write_77 (by decide) ?_
      exact ih v0 v1 v2 x3_31 x4_32 M30 hM30 hv0 hw
set_option maxHeartbeats 4000000 in
set_option maxRecDepth 100000 in
theorem x_X11_write_19 {p : Program} {l : Launch} {e : Env} {s : State} {m : MethodId} {args : Array Value} {below : List Frame} {meth : Method} {c : Code} {D : va_G} {G : SH} {Qp : Int32 → MS → Prop}  (cx : CX p s m args c D G cX11_write 6 RX11) (hr : meth.sig.returnType = (some .int)) (hlk : meth.locks = false)  : ∀ (n : Nat) (v0 : Nat) (v1 : Int32) (v2 : Int32) (M : MS), TYR G M.2.2.1 → Is G 10 v0 → w_X11_write_19 G Qp n v0 v1 v2 M → PW p l e rm_X11_write s m args below meth c D G 6 (MQ below (va_Qi Qp (POST D G) (AG G)) args s 0 0 (AG G)) 19 [(0, .ref v0), (1, .int v1), (2, .int v2)] [] M := by
  intro n
  induction n with
  | zero =>
    intro v0 v1 v2 M hT hv0 hw
    exact hw.elim
  | succ n ih =>
    intro v0 v1 v2 M hT hv0 hw
    rw [w_X11_write_19] at hw
    refine p_iconst (pc := 19) (v := 0) cx dX11_write_19 (by decide) ?_
    refine p_istore_n (pc := 20) (lv' := [(0, .ref v0), (1, .int v1), (2, .int v2), (3, .int (0 : Int32))]) cx dX11_write_20 rfl (by decide) [1, 2, 3, 0] rfl ?_
    refine p_aload_n (pc := 21) cx dX11_write_21 rfl 0 rfl ?_
    refine gf_10_1 (pc := 22) cx hv0 t4_162 dX11_write_22 ?_
    have hr_3 : Is G 12 (mR M v0 1) := TYR.at hT hv0 1 12 rfl (by decide)
    refine p_bipush (pc := 25) (v := 19) cx dX11_write_25 (by decide) ?_
    refine p_iald (pc := 27) cx hr_3 hw.1 dX11_write_27 ?_
    have hw := hw.2
    refine p_iconst (pc := 28) (v := 1) cx dX11_write_28 (by decide) ?_
    refine p_isub (pc := 29) cx dX11_write_29 ?_
    refine p_topi (fun x4_4 ex4_4 => ?_)
    have hw := hw x4_4 ex4_4
    refine p_istore (pc := 30) (lv' := [(0, .ref v0), (1, .int v1), (2, .int v2), (3, .int (0 : Int32)), (4, .int x4_4)]) cx dX11_write_30 (by decide) [1, 2, 3, 4, 0] rfl ?_
    obtain ⟨n1, hw⟩ := hw
    exact x_X11_write_32 cx hr hlk ih n1 v0 v1 v2 0 x4_4 M hT hv0 hw
set_option maxHeartbeats 4000000 in
set_option maxRecDepth 100000 in
theorem c_X11_write {l : Launch} {D : va_G} {G : SH} (hND : ND G) {a0 : Nat} {a1 : Int32} {M : MS} {Qp : Int32 → MS → Prop} (hT : TYR G M.2.2.1) (ha0 : Is G 10 a0) (hw : w_X11_write G a0 a1 M Qp) : MeI l D G yX11_write (Cond.code yX11_write cX11_write 6 (some .int) :: GW) rm_X11_write [.ref a0, .int a1] M Qp := by
  unfold MeI
  refine p_method (by decide) rfl (Nat.le_of_ble_eq_true rfl) hND ?_
  intro p e s m args below meth c cx hr hlk
  have cx : CX p s m args c D G cX11_write 6 RX11 := cx
  unfold w_X11_write at hw
  refine p_aload_n (pc := 0) cx dX11_write_0 rfl 0 rfl ?_
  refine p_iload_n (pc := 1) cx dX11_write_1 rfl 1 rfl ?_
  refine p_callVi (pc := 2) [.int a1] cx (c_X11_lacks cx.2.2.2.2.2.2 hT ha0 hw) cf_X11_lacks cv_X11_lacks t5_168 ha0 ⟨by decide, rfl, rfl⟩ ⟨rfl, rfl⟩ ⟨Nat.le_of_ble_eq_true rfl, Nat.le_of_ble_eq_true rfl⟩ rfl rfl (Nat.le_of_ble_eq_true rfl) dX11_write_2 (fun r1 M1 hw hM1 => ?_)
  refine p_if_eq (pc := 5) (tgt := 10) cx dX11_write_5 (by decide) (fun hc => ?_) (fun hc => ?_)
  · have hw := hw.1 hc
    refine p_aload_n (pc := 10) cx dX11_write_10 rfl 0 rfl ?_
    refine p_bipush (pc := 11) (v := 19) cx dX11_write_11 (by decide) ?_
    refine p_iload_n (pc := 13) cx dX11_write_13 rfl 1 rfl ?_
    refine p_callVv (pc := 14) [.int (19 : Int32), .int a1] cx (c_X11_copy cx.2.2.2.2.2.2 hM1 ha0 hw) cf_X11_copy cv_X11_copy t4_220 ha0 ⟨by decide, rfl, rfl⟩ ⟨rfl, rfl⟩ ⟨Nat.le_of_ble_eq_true rfl, Nat.le_of_ble_eq_true rfl⟩ rfl rfl (Nat.le_of_ble_eq_true rfl) dX11_write_14 (fun M2 hw hM2 => ?_)
    refine p_iconst (pc := 17) (v := 0) cx dX11_write_17 (by decide) ?_
    refine p_istore_n (pc := 18) (lv' := [(0, .ref a0), (1, .int a1), (2, .int (0 : Int32))]) cx dX11_write_18 rfl (by decide) [1, 2, 0] rfl ?_
    obtain ⟨n1, hw⟩ := hw
    exact x_X11_write_19 cx hr hlk n1 a0 a1 0 M2 hM2 ha0 hw
  · have hw := hw.2 hc
    refine p_iconst (pc := 8) (v := 0) cx dX11_write_8 (by decide) ?_
    exact p_iret (pc := 9) cx hr hlk dX11_write_9 hM1 hw
set_option maxHeartbeats 4000000 in
set_option maxRecDepth 100000 in
theorem c_X11_octet {l : Launch} {D : va_G} {G : SH} (hND : ND G) {a0 : Nat} {a1 : Int32} {M : MS} {Qp : Int32 → MS → Prop} (hT : TYR G M.2.2.1) (ha0 : Is G 10 a0) (hw : w_X11_octet G a0 a1 M Qp) : MeI l D G yX11_octet (Cond.code yX11_octet cX11_octet 2 (some .int) :: GW) rm_X11_octet [.ref a0, .int a1] M Qp := by
  unfold MeI
  refine p_method (by decide) rfl (Nat.le_of_ble_eq_true rfl) hND ?_
  intro p e s m args below meth c cx hr hlk
  have cx : CX p s m args c D G cX11_octet 2 RX11 := cx
  unfold w_X11_octet at hw
  refine p_aload_n (pc := 0) cx dX11_octet_0 rfl 0 rfl ?_
  refine p_iconst (pc := 1) (v := 0) cx dX11_octet_1 (by decide) ?_
  refine pf_10_5 (pc := 2) cx ha0 t4_166 dX11_octet_2 ?_
  refine p_mem (fun M1 eM1 => ?_)
  have hw := hw M1 eM1
  have hM1 : TYR G M1.2.2.1 := by rw [eM1]; exact hT
  refine p_iload_n (pc := 5) cx dX11_octet_5 rfl 1 rfl ?_
  refine p_if_lt (pc := 6) (tgt := 26) cx dX11_octet_6 (by decide) (fun hc => ?_) (fun hc => ?_)
  · have hw := hw.1 hc
    refine p_iconst (pc := 26) (v := (-1)) cx dX11_octet_26 (by decide) ?_
    exact p_iret (pc := 27) cx hr hlk dX11_octet_27 hM1 hw
  · have hw := hw.2 hc
    refine p_iload_n (pc := 9) cx dX11_octet_9 rfl 1 rfl ?_
    refine p_aload_n (pc := 10) cx dX11_octet_10 rfl 0 rfl ?_
    refine gf_10_10 (pc := 11) cx ha0 t4_171 dX11_octet_11 ?_
    refine p_icmp_ge (pc := 14) (tgt := 26) cx dX11_octet_14 (by decide) (fun hc => ?_) (fun hc => ?_)
    · have hw := hw.1 hc
      refine p_iconst (pc := 26) (v := (-1)) cx dX11_octet_26 (by decide) ?_
      exact p_iret (pc := 27) cx hr hlk dX11_octet_27 hM1 hw
    · have hw := hw.2 hc
      refine p_aload_n (pc := 17) cx dX11_octet_17 rfl 0 rfl ?_
      refine gf_10_8 (pc := 18) cx ha0 t4_169 dX11_octet_18 ?_
      have hr_2 : Is G 11 (mR M1 a0 8) := TYR.at hM1 ha0 8 11 rfl (by decide)
      refine p_iload_n (pc := 21) cx dX11_octet_21 rfl 1 rfl ?_
      refine p_bald (pc := 22) cx hr_2 hw.1 dX11_octet_22 ?_
      have hw := hw.2
      refine p_goto (pc := 23) (tgt := 27) cx dX11_octet_23 (by decide) ?_
      exact p_iret (pc := 27) cx hr hlk dX11_octet_27 hM1 hw
set_option maxHeartbeats 4000000 in
set_option maxRecDepth 100000 in
theorem c_X11_count {l : Launch} {D : va_G} {G : SH} (hND : ND G) {a0 : Nat} {a1 : Int32} {M : MS} {Qp : Int32 → MS → Prop} (hT : TYR G M.2.2.1) (ha0 : Is G 10 a0) (hw : w_X11_count G a0 a1 M Qp) : MeI l D G yX11_count (Cond.code yX11_count cX11_count 2 (some .int) :: GW) rm_X11_count [.ref a0, .int a1] M Qp := by
  unfold MeI
  refine p_method (by decide) rfl (Nat.le_of_ble_eq_true rfl) hND ?_
  intro p e s m args below meth c cx hr hlk
  have cx : CX p s m args c D G cX11_count 2 RX11 := cx
  unfold w_X11_count at hw
  refine p_aload_n (pc := 0) cx dX11_count_0 rfl 0 rfl ?_
  refine p_iconst (pc := 1) (v := 0) cx dX11_count_1 (by decide) ?_
  refine pf_10_5 (pc := 2) cx ha0 t4_166 dX11_count_2 ?_
  refine p_mem (fun M1 eM1 => ?_)
  have hw := hw M1 eM1
  have hM1 : TYR G M1.2.2.1 := by rw [eM1]; exact hT
  refine p_iload_n (pc := 5) cx dX11_count_5 rfl 1 rfl ?_
  refine p_if_ne (pc := 6) (tgt := 16) cx dX11_count_6 (by decide) (fun hc => ?_) (fun hc => ?_)
  · have hw := hw.1 hc
    refine p_iload_n (pc := 16) cx dX11_count_16 rfl 1 rfl ?_
    refine p_iconst (pc := 17) (v := 1) cx dX11_count_17 (by decide) ?_
    refine p_icmp_ne (pc := 18) (tgt := 28) cx dX11_count_18 (by decide) (fun hc => ?_) (fun hc => ?_)
    · have hw := hw.1 hc
      refine p_iload_n (pc := 28) cx dX11_count_28 rfl 1 rfl ?_
      refine p_iconst (pc := 29) (v := 2) cx dX11_count_29 (by decide) ?_
      refine p_icmp_ne (pc := 30) (tgt := 40) cx dX11_count_30 (by decide) (fun hc => ?_) (fun hc => ?_)
      · have hw := hw.1 hc
        refine p_iload_n (pc := 40) cx dX11_count_40 rfl 1 rfl ?_
        refine p_iconst (pc := 41) (v := 3) cx dX11_count_41 (by decide) ?_
        refine p_icmp_ne (pc := 42) (tgt := 52) cx dX11_count_42 (by decide) (fun hc => ?_) (fun hc => ?_)
        · have hw := hw.1 hc
          refine p_iconst (pc := 52) (v := (-1)) cx dX11_count_52 (by decide) ?_
          exact p_iret (pc := 53) cx hr hlk dX11_count_53 hM1 hw
        · have hw := hw.2 hc
          refine p_aload_n (pc := 45) cx dX11_count_45 rfl 0 rfl ?_
          refine gf_10_10 (pc := 46) cx ha0 t4_171 dX11_count_46 ?_
          refine p_goto (pc := 49) (tgt := 53) cx dX11_count_49 (by decide) ?_
          exact p_iret (pc := 53) cx hr hlk dX11_count_53 hM1 hw
      · have hw := hw.2 hc
        refine p_aload_n (pc := 33) cx dX11_count_33 rfl 0 rfl ?_
        refine gf_10_9 (pc := 34) cx ha0 t4_170 dX11_count_34 ?_
        refine p_goto (pc := 37) (tgt := 53) cx dX11_count_37 (by decide) ?_
        exact p_iret (pc := 53) cx hr hlk dX11_count_53 hM1 hw
    · have hw := hw.2 hc
      refine p_aload_n (pc := 21) cx dX11_count_21 rfl 0 rfl ?_
      refine gf_10_4 (pc := 22) cx ha0 t4_165 dX11_count_22 ?_
      refine p_goto (pc := 25) (tgt := 53) cx dX11_count_25 (by decide) ?_
      exact p_iret (pc := 53) cx hr hlk dX11_count_53 hM1 hw
  · have hw := hw.2 hc
    refine p_aload_n (pc := 9) cx dX11_count_9 rfl 0 rfl ?_
    refine gf_10_3 (pc := 10) cx ha0 t4_164 dX11_count_10 ?_
    refine p_goto (pc := 13) (tgt := 53) cx dX11_count_13 (by decide) ?_
    exact p_iret (pc := 53) cx hr hlk dX11_count_53 hM1 hw
