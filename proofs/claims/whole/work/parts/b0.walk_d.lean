set_option maxHeartbeats 4000000 in
set_option maxRecDepth 100000 in
theorem c_X1_begin {l : Launch} {D : va_G} {G : SH} (hND : ND G) {a0 : Nat} {a1 : Nat} {a2 : Nat} {M : MS} {Qp : MS → Prop} (hT : TYR G M.2.2.1) (ha0 : Is G 1 a0) (ha1 : Is G 8 a1) (ha2 : Is G 8 a2) (hw : w_X1_begin G a0 a1 a2 M Qp) : MeV l D G yX1_begin (Cond.code yX1_begin cX1_begin 3 none :: GW) rm_X1_begin [.ref a0, .ref a1, .ref a2] M Qp := by
  unfold MeV
  refine p_method (by decide) rfl (Nat.le_of_ble_eq_true rfl) hND ?_
  intro p e s m args below meth c cx hr hlk
  have cx : CX p s m args c D G cX1_begin 3 RX1 := cx
  unfold w_X1_begin at hw
  refine p_aload_n (pc := 0) cx dX1_begin_0 rfl 0 rfl ?_
  refine gf_1_2 (pc := 1) cx ha0 t1_99 dX1_begin_1 ?_
  have hr_1 : Is G 8 (mR M a0 2) := TYR.at hT ha0 2 8 rfl (by decide)
  refine p_aload_n (pc := 4) cx dX1_begin_4 rfl 1 rfl ?_
  refine p_callVv (pc := 5) [.ref a1] cx (c_X9_copy cx.2.2.2.2.2.2 hT hr_1 ha1 hw) cf_X9_copy cv_X9_copy t3_48 hr_1 ⟨by decide, rfl, rfl⟩ ⟨rfl, rfl⟩ ⟨Nat.le_of_ble_eq_true rfl, Nat.le_of_ble_eq_true rfl⟩ rfl rfl (Nat.le_of_ble_eq_true rfl) dX1_begin_5 (fun M2 hw hM2 => ?_)
  refine p_aload_n (pc := 8) cx dX1_begin_8 rfl 0 rfl ?_
  refine gf_1_2 (pc := 9) cx ha0 t1_99 dX1_begin_9 ?_
  have hr_3 : Is G 8 (mR M2 a0 2) := TYR.at hM2 ha0 2 8 rfl (by decide)
  refine p_iconst (pc := 12) (v := 0) cx dX1_begin_12 (by decide) ?_
  refine pf_8_2 (pc := 13) (by decide) cx hr_3 t1_67 dX1_begin_13 ?_
  refine p_mem (fun M4 eM4 => ?_)
  have hw := hw M4 eM4
  have hM4 : TYR G M4.2.2.1 := by rw [eM4]; exact hM2
  refine p_aload_n (pc := 16) cx dX1_begin_16 rfl 0 rfl ?_
  refine gf_1_3 (pc := 17) cx ha0 t1_100 dX1_begin_17 ?_
  have hr_5 : Is G 8 (mR M4 a0 3) := TYR.at hM4 ha0 3 8 rfl (by decide)
  refine p_aload_n (pc := 20) cx dX1_begin_20 rfl 2 rfl ?_
  refine p_callVv (pc := 21) [.ref a2] cx (c_X9_copy cx.2.2.2.2.2.2 hM4 hr_5 ha2 hw) cf_X9_copy cv_X9_copy t3_48 hr_5 ⟨by decide, rfl, rfl⟩ ⟨rfl, rfl⟩ ⟨Nat.le_of_ble_eq_true rfl, Nat.le_of_ble_eq_true rfl⟩ rfl rfl (Nat.le_of_ble_eq_true rfl) dX1_begin_21 (fun M6 hw hM6 => ?_)
  refine p_aload_n (pc := 24) cx dX1_begin_24 rfl 0 rfl ?_
  refine gf_1_3 (pc := 25) cx ha0 t1_100 dX1_begin_25 ?_
  have hr_7 : Is G 8 (mR M6 a0 3) := TYR.at hM6 ha0 3 8 rfl (by decide)
  refine p_iconst (pc := 28) (v := 0) cx dX1_begin_28 (by decide) ?_
  refine pf_8_2 (pc := 29) (by decide) cx hr_7 t1_67 dX1_begin_29 ?_
  refine p_mem (fun M8 eM8 => ?_)
  have hw := hw M8 eM8
  have hM8 : TYR G M8.2.2.1 := by rw [eM8]; exact hM6
  exact p_vret (pc := 32) cx hr hlk dX1_begin_32 hM8 hw
set_option maxHeartbeats 4000000 in
set_option maxRecDepth 100000 in
theorem x_X1_byHalves_185 {p : Program} {l : Launch} {e : Env} {s : State} {m : MethodId} {args : Array Value} {below : List Frame} {meth : Method} {c : Code} {D : va_G} {G : SH} {Qp : Nat → MS → Prop}  (cx : CX p s m args c D G cX1_byHalves 7 RX1) (hr : meth.sig.returnType = (some (.object "GcdMill$Whole"))) (hlk : meth.locks = false)  (v0 : Nat) (v3 : Int32) (M : MS) (hT : TYR G M.2.2.1) (hv0 : Is G 1 v0) (hw : w_X1_byHalves_185 G Qp v0 v3 M) : PW p l e rm_X1_byHalves s m args below meth c D G 7 (MQ below (va_Qr (fun _ : MS => True) (fun N a t => Qp a N ∧ Is G 8 a ∧ POST D G N t) (AG G)) args s 0 0 (AG G)) 185 [(0, .ref v0), (3, .int v3)] [] M := by
  unfold w_X1_byHalves_185 at hw
  refine p_aload_n (pc := 185) cx dX1_byHalves_185 rfl 0 rfl ?_
  refine gf_1_2 (pc := 186) cx hv0 t1_99 dX1_byHalves_186 ?_
  have hr_19 : Is G 8 (mR M v0 2) := TYR.at hT hv0 2 8 rfl (by decide)
  refine p_aload_n (pc := 189) cx dX1_byHalves_189 rfl 0 rfl ?_
  refine gf_1_2 (pc := 190) cx hv0 t1_99 dX1_byHalves_190 ?_
  have hr_20 : Is G 8 (mR M v0 2) := TYR.at hT hv0 2 8 rfl (by decide)
  refine p_iload_n (pc := 193) cx dX1_byHalves_193 rfl 1 rfl ?_
  refine p_callSv (pc := 194) [.ref (mR M v0 2), .ref (mR M v0 2), .int v3] cx (c_X7_shiftUp cx.2.2.2.2.2.2 hT hr_19 hr_20 hw) cf_X7_shiftUp cv_X7_shiftUp t3_55 ⟨rfl, rfl⟩ ⟨Nat.le_of_ble_eq_true rfl, Nat.le_of_ble_eq_true rfl⟩ rfl rfl (Nat.le_of_ble_eq_true rfl) dX1_byHalves_194 (fun M21 hw hM21 => ?_)
  refine p_aload_n (pc := 197) cx dX1_byHalves_197 rfl 0 rfl ?_
  refine gf_1_2 (pc := 198) cx hv0 t1_99 dX1_byHalves_198 ?_
  have hr_22 : Is G 8 (mR M21 v0 2) := TYR.at hM21 hv0 2 8 rfl (by decide)
  exact p_aret (pc := 201) cx hr hlk dX1_byHalves_201 hr_22 hM21 hw
set_option maxHeartbeats 4000000 in
set_option maxRecDepth 100000 in
theorem x_X1_byHalves_146 {p : Program} {l : Launch} {e : Env} {s : State} {m : MethodId} {args : Array Value} {below : List Frame} {meth : Method} {c : Code} {D : va_G} {G : SH} {Qp : Nat → MS → Prop} {K93 : Nat → Int32 → Int32 → MS → Prop} (cx : CX p s m args c D G cX1_byHalves 7 RX1) (hr : meth.sig.returnType = (some (.object "GcdMill$Whole"))) (hlk : meth.locks = false) (hK93 : ∀ (v0 : Nat) (v3 : Int32) (v4 : Int32) (M : MS), TYR G M.2.2.1 → Is G 1 v0 → K93 v0 v3 v4 M → PW p l e rm_X1_byHalves s m args below meth c D G 7 (MQ below (va_Qr (fun _ : MS => True) (fun N a t => Qp a N ∧ Is G 8 a ∧ POST D G N t) (AG G)) args s 0 0 (AG G)) 93 [(0, .ref v0), (3, .int v3), (4, .int v4)] [] M) (v0 : Nat) (v3 : Int32) (v4 : Int32) (M : MS) (hT : TYR G M.2.2.1) (hv0 : Is G 1 v0) (hw : w_X1_byHalves_146 G K93 Qp v0 v3 v4 M) : PW p l e rm_X1_byHalves s m args below meth c D G 7 (MQ below (va_Qr (fun _ : MS => True) (fun N a t => Qp a N ∧ Is G 8 a ∧ POST D G N t) (AG G)) args s 0 0 (AG G)) 146 [(0, .ref v0), (3, .int v3), (4, .int v4)] [] M := by
  unfold w_X1_byHalves_146 at hw
  refine p_aload_n (pc := 146) cx dX1_byHalves_146 rfl 0 rfl ?_
  refine gf_1_2 (pc := 147) cx hv0 t1_99 dX1_byHalves_147 ?_
  have hr_26 : Is G 8 (mR M v0 2) := TYR.at hT hv0 2 8 rfl (by decide)
  refine p_aload_n (pc := 150) cx dX1_byHalves_150 rfl 0 rfl ?_
  refine gf_1_2 (pc := 151) cx hv0 t1_99 dX1_byHalves_151 ?_
  have hr_27 : Is G 8 (mR M v0 2) := TYR.at hT hv0 2 8 rfl (by decide)
  refine p_aload_n (pc := 154) cx dX1_byHalves_154 rfl 0 rfl ?_
  refine gf_1_3 (pc := 155) cx hv0 t1_100 dX1_byHalves_155 ?_
  have hr_28 : Is G 8 (mR M v0 3) := TYR.at hT hv0 3 8 rfl (by decide)
  refine p_callSv (pc := 158) [.ref (mR M v0 2), .ref (mR M v0 2), .ref (mR M v0 3)] cx (c_X7_difference cx.2.2.2.2.2.2 hT hr_26 hr_27 hr_28 hw) cf_X7_difference cv_X7_difference t3_54 ⟨rfl, rfl⟩ ⟨Nat.le_of_ble_eq_true rfl, Nat.le_of_ble_eq_true rfl⟩ rfl rfl (Nat.le_of_ble_eq_true rfl) dX1_byHalves_158 (fun M29 hw hM29 => ?_)
  refine p_aload_n (pc := 161) cx dX1_byHalves_161 rfl 0 rfl ?_
  refine gf_1_2 (pc := 162) cx hv0 t1_99 dX1_byHalves_162 ?_
  have hr_30 : Is G 8 (mR M29 v0 2) := TYR.at hM29 hv0 2 8 rfl (by decide)
  refine p_aload_n (pc := 165) cx dX1_byHalves_165 rfl 0 rfl ?_
  refine gf_1_2 (pc := 166) cx hv0 t1_99 dX1_byHalves_166 ?_
  have hr_31 : Is G 8 (mR M29 v0 2) := TYR.at hM29 hv0 2 8 rfl (by decide)
  refine p_aload_n (pc := 169) cx dX1_byHalves_169 rfl 0 rfl ?_
  refine gf_1_2 (pc := 170) cx hv0 t1_99 dX1_byHalves_170 ?_
  have hr_32 : Is G 8 (mR M29 v0 2) := TYR.at hM29 hv0 2 8 rfl (by decide)
  refine p_callVi (pc := 173) [] cx (c_X9_lowZeros cx.2.2.2.2.2.2 hM29 hr_32 hw) cf_X9_lowZeros cv_X9_lowZeros t3_49 hr_32 ⟨by decide, rfl, rfl⟩ ⟨rfl, rfl⟩ ⟨Nat.le_of_ble_eq_true rfl, Nat.le_of_ble_eq_true rfl⟩ rfl rfl (Nat.le_of_ble_eq_true rfl) dX1_byHalves_173 (fun r33 M33 hw hM33 => ?_)
  refine p_callSv (pc := 176) [.ref (mR M29 v0 2), .ref (mR M29 v0 2), .int r33] cx (c_X7_shiftDown cx.2.2.2.2.2.2 hM33 hr_30 hr_31 hw) cf_X7_shiftDown cv_X7_shiftDown t3_51 ⟨rfl, rfl⟩ ⟨Nat.le_of_ble_eq_true rfl, Nat.le_of_ble_eq_true rfl⟩ rfl rfl (Nat.le_of_ble_eq_true rfl) dX1_byHalves_176 (fun M34 hw hM34 => ?_)
  obtain ⟨x4_35, ex4_35⟩ : ∃ y : Int32, y = v4 + 1 := ⟨_, rfl⟩
  have hw := hw x4_35 ex4_35
  refine p_iinc (pc := 179) (v := x4_35) (lv' := [(0, .ref v0), (3, .int v3), (4, .int x4_35)]) cx dX1_byHalves_179 2 rfl (by rw [ex4_35]; rfl) (by decide) [1, 2, 0] rfl ?_
  refine p_goto (pc := 182) (tgt := 93) cx dX1_byHalves_182 (by decide) ?_
  exact hK93 v0 v3 x4_35 M34 hM34 hv0 hw
set_option maxHeartbeats 4000000 in
set_option maxRecDepth 100000 in
theorem x_X1_byHalves_93 {p : Program} {l : Launch} {e : Env} {s : State} {m : MethodId} {args : Array Value} {below : List Frame} {meth : Method} {c : Code} {D : va_G} {G : SH} {Qp : Nat → MS → Prop}  (cx : CX p s m args c D G cX1_byHalves 7 RX1) (hr : meth.sig.returnType = (some (.object "GcdMill$Whole"))) (hlk : meth.locks = false)  : ∀ (n : Nat) (v0 : Nat) (v3 : Int32) (v4 : Int32) (M : MS), TYR G M.2.2.1 → Is G 1 v0 → w_X1_byHalves_93 G Qp n v0 v3 v4 M → PW p l e rm_X1_byHalves s m args below meth c D G 7 (MQ below (va_Qr (fun _ : MS => True) (fun N a t => Qp a N ∧ Is G 8 a ∧ POST D G N t) (AG G)) args s 0 0 (AG G)) 93 [(0, .ref v0), (3, .int v3), (4, .int v4)] [] M := by
  intro n
  induction n with
  | zero =>
    intro v0 v3 v4 M hT hv0 hw
    exact hw.elim
  | succ n ih =>
    intro v0 v3 v4 M hT hv0 hw
    rw [w_X1_byHalves_93] at hw
    refine p_iload (pc := 93) cx dX1_byHalves_93 2 rfl ?_
    refine p_ldc (pc := 95) cx dX1_byHalves_95 t3_52 ?_
    refine p_icmp_ge (pc := 97) (tgt := 185) cx dX1_byHalves_97 (by decide) (fun hc => ?_) (fun hc => ?_)
    · have hw := hw.1 hc
      refine p_perm (lv' := [(0, .ref v0), (3, .int v3)]) [0, 1] rfl ?_
      exact x_X1_byHalves_185 cx hr hlk v0 v3 M hT hv0 hw
    · have hw := hw.2 hc
      refine p_aload_n (pc := 100) cx dX1_byHalves_100 rfl 0 rfl ?_
      refine gf_1_2 (pc := 101) cx hv0 t1_99 dX1_byHalves_101 ?_
      have hr_23 : Is G 8 (mR M v0 2) := TYR.at hT hv0 2 8 rfl (by decide)
      refine p_aload_n (pc := 104) cx dX1_byHalves_104 rfl 0 rfl ?_
      refine gf_1_3 (pc := 105) cx hv0 t1_100 dX1_byHalves_105 ?_
      have hr_24 : Is G 8 (mR M v0 3) := TYR.at hT hv0 3 8 rfl (by decide)
      refine p_callSi (pc := 108) [.ref (mR M v0 2), .ref (mR M v0 3)] cx (c_X7_order cx.2.2.2.2.2.2 hT hr_23 hr_24 hw) cf_X7_order cv_X7_order t3_53 ⟨rfl, rfl⟩ ⟨Nat.le_of_ble_eq_true rfl, Nat.le_of_ble_eq_true rfl⟩ rfl rfl (Nat.le_of_ble_eq_true rfl) dX1_byHalves_108 (fun r25 M25 hw hM25 => ?_)
      refine p_istore (pc := 111) (lv' := [(0, .ref v0), (3, .int v3), (4, .int v4), (5, .int r25)]) cx dX1_byHalves_111 (by decide) [1, 2, 3, 0] rfl ?_
      refine p_iload (pc := 113) cx dX1_byHalves_113 3 rfl ?_
      refine p_if_ne (pc := 115) (tgt := 121) cx dX1_byHalves_115 (by decide) (fun hc => ?_) (fun hc => ?_)
      · have hw := hw.1 hc
        refine p_iload (pc := 121) cx dX1_byHalves_121 3 rfl ?_
        refine p_if_ge (pc := 123) (tgt := 146) cx dX1_byHalves_123 (by decide) (fun hc => ?_) (fun hc => ?_)
        · have hw := hw.1 hc
          refine p_perm (lv' := [(0, .ref v0), (3, .int v3), (4, .int v4)]) [0, 1, 2] rfl ?_
          exact x_X1_byHalves_146 cx hr hlk ih v0 v3 v4 M25 hM25 hv0 hw
        · have hw := hw.2 hc
          refine p_aload_n (pc := 126) cx dX1_byHalves_126 rfl 0 rfl ?_
          refine gf_1_2 (pc := 127) cx hv0 t1_99 dX1_byHalves_127 ?_
          have hr_36 : Is G 8 (mR M25 v0 2) := TYR.at hM25 hv0 2 8 rfl (by decide)
          refine p_astore (pc := 130) (lv' := [(0, .ref v0), (3, .int v3), (4, .int v4), (6, .ref (mR M25 v0 2))]) cx dX1_byHalves_130 (by decide) [1, 2, 3, 0] rfl ?_
          refine p_aload_n (pc := 132) cx dX1_byHalves_132 rfl 0 rfl ?_
          refine p_aload_n (pc := 133) cx dX1_byHalves_133 rfl 0 rfl ?_
          refine gf_1_3 (pc := 134) cx hv0 t1_100 dX1_byHalves_134 ?_
          have hr_37 : Is G 8 (mR M25 v0 3) := TYR.at hM25 hv0 3 8 rfl (by decide)
          refine pf_1_2 (pc := 137) cx hv0 t1_99 dX1_byHalves_137 ?_
          refine p_mem (fun M38 eM38 => ?_)
          have hw := hw M38 eM38
          have hM38 : TYR G M38.2.2.1 := by rw [eM38]; exact TYR.up hM25 hv0 2 8 (by decide) rfl hr_37
          refine p_aload_n (pc := 140) cx dX1_byHalves_140 rfl 0 rfl ?_
          refine p_aload (pc := 141) cx dX1_byHalves_141 3 rfl ?_
          refine pf_1_3 (pc := 143) cx hv0 t1_100 dX1_byHalves_143 ?_
          refine p_mem (fun M39 eM39 => ?_)
          have hw := hw M39 eM39
          have hM39 : TYR G M39.2.2.1 := by rw [eM39]; exact TYR.up hM38 hv0 3 8 (by decide) rfl hr_36
          refine p_perm (lv' := [(0, .ref v0), (3, .int v3), (4, .int v4)]) [0, 1, 2] rfl ?_
          exact x_X1_byHalves_146 cx hr hlk ih v0 v3 v4 M39 hM39 hv0 hw
      · have hw := hw.2 hc
        refine p_goto (pc := 118) (tgt := 185) cx dX1_byHalves_118 (by decide) ?_
        refine p_perm (lv' := [(0, .ref v0), (3, .int v3)]) [0, 1] rfl ?_
        exact x_X1_byHalves_185 cx hr hlk v0 v3 M25 hM25 hv0 hw
set_option maxHeartbeats 4000000 in
set_option maxRecDepth 100000 in
theorem c_X1_byHalves {l : Launch} {D : va_G} {G : SH} (hND : ND G) {a0 : Nat} {a1 : Nat} {a2 : Nat} {M : MS} {Qp : Nat → MS → Prop} (hT : TYR G M.2.2.1) (ha0 : Is G 1 a0) (ha1 : Is G 8 a1) (ha2 : Is G 8 a2) (hw : w_X1_byHalves G a0 a1 a2 M Qp) : MeR l D G yX1_byHalves (Cond.code yX1_byHalves cX1_byHalves 7 (some (.object "GcdMill$Whole")) :: GW) rm_X1_byHalves [.ref a0, .ref a1, .ref a2] M Qp := by
  unfold MeR
  refine p_method (by decide) rfl (Nat.le_of_ble_eq_true rfl) hND ?_
  intro p e s m args below meth c cx hr hlk
  have cx : CX p s m args c D G cX1_byHalves 7 RX1 := cx
  unfold w_X1_byHalves at hw
  refine p_aload_n (pc := 0) cx dX1_byHalves_0 rfl 0 rfl ?_
  refine p_aload_n (pc := 1) cx dX1_byHalves_1 rfl 1 rfl ?_
  refine p_aload_n (pc := 2) cx dX1_byHalves_2 rfl 2 rfl ?_
  refine p_callVv (pc := 3) [.ref a1, .ref a2] cx (c_X1_begin cx.2.2.2.2.2.2 hT ha0 ha1 ha2 hw) cf_X1_begin cv_X1_begin t3_44 ha0 ⟨by decide, rfl, rfl⟩ ⟨rfl, rfl⟩ ⟨Nat.le_of_ble_eq_true rfl, Nat.le_of_ble_eq_true rfl⟩ rfl rfl (Nat.le_of_ble_eq_true rfl) dX1_byHalves_3 (fun M1 hw hM1 => ?_)
  refine p_aload_n (pc := 6) cx dX1_byHalves_6 rfl 0 rfl ?_
  refine gf_1_3 (pc := 7) cx ha0 t1_100 dX1_byHalves_7 ?_
  have hr_2 : Is G 8 (mR M1 a0 3) := TYR.at hM1 ha0 3 8 rfl (by decide)
  refine gf_8_1 (pc := 10) cx hr_2 t1_52 dX1_byHalves_10 ?_
  refine p_if_ne (pc := 13) (tgt := 21) cx dX1_byHalves_13 (by decide) (fun hc => ?_) (fun hc => ?_)
  · have hw := hw.1 hc
    refine p_aload_n (pc := 21) cx dX1_byHalves_21 rfl 0 rfl ?_
    refine gf_1_2 (pc := 22) cx ha0 t1_99 dX1_byHalves_22 ?_
    have hr_3 : Is G 8 (mR M1 a0 2) := TYR.at hM1 ha0 2 8 rfl (by decide)
    refine gf_8_1 (pc := 25) cx hr_3 t1_52 dX1_byHalves_25 ?_
    refine p_if_ne (pc := 28) (tgt := 36) cx dX1_byHalves_28 (by decide) (fun hc => ?_) (fun hc => ?_)
    · have hw := hw.1 hc
      refine p_aload_n (pc := 36) cx dX1_byHalves_36 rfl 0 rfl ?_
      refine gf_1_2 (pc := 37) cx ha0 t1_99 dX1_byHalves_37 ?_
      have hr_4 : Is G 8 (mR M1 a0 2) := TYR.at hM1 ha0 2 8 rfl (by decide)
      refine p_callVi (pc := 40) [] cx (c_X9_lowZeros cx.2.2.2.2.2.2 hM1 hr_4 hw) cf_X9_lowZeros cv_X9_lowZeros t3_49 hr_4 ⟨by decide, rfl, rfl⟩ ⟨rfl, rfl⟩ ⟨Nat.le_of_ble_eq_true rfl, Nat.le_of_ble_eq_true rfl⟩ rfl rfl (Nat.le_of_ble_eq_true rfl) dX1_byHalves_40 (fun r5 M5 hw hM5 => ?_)
      refine p_aload_n (pc := 43) cx dX1_byHalves_43 rfl 0 rfl ?_
      refine gf_1_3 (pc := 44) cx ha0 t1_100 dX1_byHalves_44 ?_
      have hr_6 : Is G 8 (mR M5 a0 3) := TYR.at hM5 ha0 3 8 rfl (by decide)
      refine p_callVi (pc := 47) [] cx (c_X9_lowZeros cx.2.2.2.2.2.2 hM5 hr_6 hw) cf_X9_lowZeros cv_X9_lowZeros t3_49 hr_6 ⟨by decide, rfl, rfl⟩ ⟨rfl, rfl⟩ ⟨Nat.le_of_ble_eq_true rfl, Nat.le_of_ble_eq_true rfl⟩ rfl rfl (Nat.le_of_ble_eq_true rfl) dX1_byHalves_47 (fun r7 M7 hw hM7 => ?_)
      refine p_min (pc := 50) cx t3_50 t1_30 t1_2 t1_31 ⟨Nat.le_of_ble_eq_true rfl, Nat.le_of_ble_eq_true rfl⟩ dX1_byHalves_50 ?_
      refine p_topi (fun y_8 ey_8 => ?_)
      have hw := hw y_8 ey_8
      refine p_istore_n (pc := 53) (lv' := [(0, .ref a0), (3, .int y_8)]) cx dX1_byHalves_53 rfl (by decide) [1, 0] rfl ?_
      refine p_aload_n (pc := 54) cx dX1_byHalves_54 rfl 0 rfl ?_
      refine gf_1_2 (pc := 55) cx ha0 t1_99 dX1_byHalves_55 ?_
      have hr_9 : Is G 8 (mR M7 a0 2) := TYR.at hM7 ha0 2 8 rfl (by decide)
      refine p_aload_n (pc := 58) cx dX1_byHalves_58 rfl 0 rfl ?_
      refine gf_1_2 (pc := 59) cx ha0 t1_99 dX1_byHalves_59 ?_
      have hr_10 : Is G 8 (mR M7 a0 2) := TYR.at hM7 ha0 2 8 rfl (by decide)
      refine p_aload_n (pc := 62) cx dX1_byHalves_62 rfl 0 rfl ?_
      refine gf_1_2 (pc := 63) cx ha0 t1_99 dX1_byHalves_63 ?_
      have hr_11 : Is G 8 (mR M7 a0 2) := TYR.at hM7 ha0 2 8 rfl (by decide)
      refine p_callVi (pc := 66) [] cx (c_X9_lowZeros cx.2.2.2.2.2.2 hM7 hr_11 hw) cf_X9_lowZeros cv_X9_lowZeros t3_49 hr_11 ⟨by decide, rfl, rfl⟩ ⟨rfl, rfl⟩ ⟨Nat.le_of_ble_eq_true rfl, Nat.le_of_ble_eq_true rfl⟩ rfl rfl (Nat.le_of_ble_eq_true rfl) dX1_byHalves_66 (fun r12 M12 hw hM12 => ?_)
      refine p_callSv (pc := 69) [.ref (mR M7 a0 2), .ref (mR M7 a0 2), .int r12] cx (c_X7_shiftDown cx.2.2.2.2.2.2 hM12 hr_9 hr_10 hw) cf_X7_shiftDown cv_X7_shiftDown t3_51 ⟨rfl, rfl⟩ ⟨Nat.le_of_ble_eq_true rfl, Nat.le_of_ble_eq_true rfl⟩ rfl rfl (Nat.le_of_ble_eq_true rfl) dX1_byHalves_69 (fun M13 hw hM13 => ?_)
      refine p_aload_n (pc := 72) cx dX1_byHalves_72 rfl 0 rfl ?_
      refine gf_1_3 (pc := 73) cx ha0 t1_100 dX1_byHalves_73 ?_
      have hr_14 : Is G 8 (mR M13 a0 3) := TYR.at hM13 ha0 3 8 rfl (by decide)
      refine p_aload_n (pc := 76) cx dX1_byHalves_76 rfl 0 rfl ?_
      refine gf_1_3 (pc := 77) cx ha0 t1_100 dX1_byHalves_77 ?_
      have hr_15 : Is G 8 (mR M13 a0 3) := TYR.at hM13 ha0 3 8 rfl (by decide)
      refine p_aload_n (pc := 80) cx dX1_byHalves_80 rfl 0 rfl ?_
      refine gf_1_3 (pc := 81) cx ha0 t1_100 dX1_byHalves_81 ?_
      have hr_16 : Is G 8 (mR M13 a0 3) := TYR.at hM13 ha0 3 8 rfl (by decide)
      refine p_callVi (pc := 84) [] cx (c_X9_lowZeros cx.2.2.2.2.2.2 hM13 hr_16 hw) cf_X9_lowZeros cv_X9_lowZeros t3_49 hr_16 ⟨by decide, rfl, rfl⟩ ⟨rfl, rfl⟩ ⟨Nat.le_of_ble_eq_true rfl, Nat.le_of_ble_eq_true rfl⟩ rfl rfl (Nat.le_of_ble_eq_true rfl) dX1_byHalves_84 (fun r17 M17 hw hM17 => ?_)
      refine p_callSv (pc := 87) [.ref (mR M13 a0 3), .ref (mR M13 a0 3), .int r17] cx (c_X7_shiftDown cx.2.2.2.2.2.2 hM17 hr_14 hr_15 hw) cf_X7_shiftDown cv_X7_shiftDown t3_51 ⟨rfl, rfl⟩ ⟨Nat.le_of_ble_eq_true rfl, Nat.le_of_ble_eq_true rfl⟩ rfl rfl (Nat.le_of_ble_eq_true rfl) dX1_byHalves_87 (fun M18 hw hM18 => ?_)
      refine p_iconst (pc := 90) (v := 0) cx dX1_byHalves_90 (by decide) ?_
      refine p_istore (pc := 91) (lv' := [(0, .ref a0), (3, .int y_8), (4, .int (0 : Int32))]) cx dX1_byHalves_91 (by decide) [1, 2, 0] rfl ?_
      obtain ⟨n1, hw⟩ := hw
      exact x_X1_byHalves_93 cx hr hlk n1 a0 y_8 0 M18 hM18 ha0 hw
    · have hw := hw.2 hc
      refine p_aload_n (pc := 31) cx dX1_byHalves_31 rfl 0 rfl ?_
      refine gf_1_3 (pc := 32) cx ha0 t1_100 dX1_byHalves_32 ?_
      have hr_40 : Is G 8 (mR M1 a0 3) := TYR.at hM1 ha0 3 8 rfl (by decide)
      exact p_aret (pc := 35) cx hr hlk dX1_byHalves_35 hr_40 hM1 hw
  · have hw := hw.2 hc
    refine p_aload_n (pc := 16) cx dX1_byHalves_16 rfl 0 rfl ?_
    refine gf_1_2 (pc := 17) cx ha0 t1_99 dX1_byHalves_17 ?_
    have hr_41 : Is G 8 (mR M1 a0 2) := TYR.at hM1 ha0 2 8 rfl (by decide)
    exact p_aret (pc := 20) cx hr hlk dX1_byHalves_20 hr_41 hM1 hw
set_option maxHeartbeats 4000000 in
set_option maxRecDepth 100000 in
theorem x_X1_byQuotients_8 {p : Program} {l : Launch} {e : Env} {s : State} {m : MethodId} {args : Array Value} {below : List Frame} {meth : Method} {c : Code} {D : va_G} {G : SH} {Qp : Nat → MS → Prop}  (cx : CX p s m args c D G cX1_byQuotients 5 RX1) (hr : meth.sig.returnType = (some (.object "GcdMill$Whole"))) (hlk : meth.locks = false)  : ∀ (n : Nat) (v0 : Nat) (v3 : Int32) (M : MS), TYR G M.2.2.1 → Is G 1 v0 → w_X1_byQuotients_8 G Qp n v0 v3 M → PW p l e rm_X1_byQuotients s m args below meth c D G 5 (MQ below (va_Qr (fun _ : MS => True) (fun N a t => Qp a N ∧ Is G 8 a ∧ POST D G N t) (AG G)) args s 0 0 (AG G)) 8 [(0, .ref v0), (3, .int v3)] [] M := by
  intro n
  induction n with
  | zero =>
    intro v0 v3 M hT hv0 hw
    exact hw.elim
  | succ n ih =>
    intro v0 v3 M hT hv0 hw
    rw [w_X1_byQuotients_8] at hw
    refine p_iload_n (pc := 8) cx dX1_byQuotients_8 rfl 1 rfl ?_
    refine p_ldc (pc := 9) cx dX1_byQuotients_9 t3_52 ?_
    refine p_icmp_ge (pc := 11) (tgt := 81) cx dX1_byQuotients_11 (by decide) (fun hc => ?_) (fun hc => ?_)
    · have hw := hw.1 hc
      refine p_aload_n (pc := 81) cx dX1_byQuotients_81 rfl 0 rfl ?_
      refine gf_1_2 (pc := 82) cx hv0 t1_99 dX1_byQuotients_82 ?_
      have hr_2 : Is G 8 (mR M v0 2) := TYR.at hT hv0 2 8 rfl (by decide)
      exact p_aret (pc := 85) cx hr hlk dX1_byQuotients_85 hr_2 hT hw
    · have hw := hw.2 hc
      refine p_aload_n (pc := 14) cx dX1_byQuotients_14 rfl 0 rfl ?_
      refine gf_1_3 (pc := 15) cx hv0 t1_100 dX1_byQuotients_15 ?_
      have hr_3 : Is G 8 (mR M v0 3) := TYR.at hT hv0 3 8 rfl (by decide)
      refine gf_8_1 (pc := 18) cx hr_3 t1_52 dX1_byQuotients_18 ?_
      refine p_if_le (pc := 21) (tgt := 81) cx dX1_byQuotients_21 (by decide) (fun hc => ?_) (fun hc => ?_)
      · have hw := hw.1 hc
        refine p_aload_n (pc := 81) cx dX1_byQuotients_81 rfl 0 rfl ?_
        refine gf_1_2 (pc := 82) cx hv0 t1_99 dX1_byQuotients_82 ?_
        have hr_4 : Is G 8 (mR M v0 2) := TYR.at hT hv0 2 8 rfl (by decide)
        exact p_aret (pc := 85) cx hr hlk dX1_byQuotients_85 hr_4 hT hw
      · have hw := hw.2 hc
        refine p_aload_n (pc := 24) cx dX1_byQuotients_24 rfl 0 rfl ?_
        refine gf_1_0 (pc := 25) cx hv0 t1_97 dX1_byQuotients_25 ?_
        have hr_5 : Is G 0 (mR M v0 0) := TYR.at hT hv0 0 0 rfl (by decide)
        refine p_aload_n (pc := 28) cx dX1_byQuotients_28 rfl 0 rfl ?_
        refine gf_1_1 (pc := 29) cx hv0 t1_98 dX1_byQuotients_29 ?_
        have hr_6 : Is G 8 (mR M v0 1) := TYR.at hT hv0 1 8 rfl (by decide)
        refine p_aload_n (pc := 32) cx dX1_byQuotients_32 rfl 0 rfl ?_
        refine gf_1_4 (pc := 33) cx hv0 t1_101 dX1_byQuotients_33 ?_
        have hr_7 : Is G 8 (mR M v0 4) := TYR.at hT hv0 4 8 rfl (by decide)
        refine p_aload_n (pc := 36) cx dX1_byQuotients_36 rfl 0 rfl ?_
        refine gf_1_2 (pc := 37) cx hv0 t1_99 dX1_byQuotients_37 ?_
        have hr_8 : Is G 8 (mR M v0 2) := TYR.at hT hv0 2 8 rfl (by decide)
        refine p_aload_n (pc := 40) cx dX1_byQuotients_40 rfl 0 rfl ?_
        refine gf_1_3 (pc := 41) cx hv0 t1_100 dX1_byQuotients_41 ?_
        have hr_9 : Is G 8 (mR M v0 3) := TYR.at hT hv0 3 8 rfl (by decide)
        refine p_callVv (pc := 44) [.ref (mR M v0 1), .ref (mR M v0 4), .ref (mR M v0 2), .ref (mR M v0 3)] cx (c_X0_split cx.2.2.2.2.2.2 hT hr_5 hr_6 hr_7 hr_8 hr_9 hw) cf_X0_split cv_X0_split t3_64 hr_5 ⟨by decide, rfl, rfl⟩ ⟨rfl, rfl⟩ ⟨Nat.le_of_ble_eq_true rfl, Nat.le_of_ble_eq_true rfl⟩ rfl rfl (Nat.le_of_ble_eq_true rfl) dX1_byQuotients_44 (fun M10 hw hM10 => ?_)
        refine p_aload_n (pc := 47) cx dX1_byQuotients_47 rfl 0 rfl ?_
        refine gf_1_2 (pc := 48) cx hv0 t1_99 dX1_byQuotients_48 ?_
        have hr_11 : Is G 8 (mR M10 v0 2) := TYR.at hM10 hv0 2 8 rfl (by decide)
        refine p_astore (pc := 51) (lv' := [(0, .ref v0), (3, .int v3), (4, .ref (mR M10 v0 2))]) cx dX1_byQuotients_51 (by decide) [1, 2, 0] rfl ?_
        refine p_aload_n (pc := 53) cx dX1_byQuotients_53 rfl 0 rfl ?_
        refine p_aload_n (pc := 54) cx dX1_byQuotients_54 rfl 0 rfl ?_
        refine gf_1_3 (pc := 55) cx hv0 t1_100 dX1_byQuotients_55 ?_
        have hr_12 : Is G 8 (mR M10 v0 3) := TYR.at hM10 hv0 3 8 rfl (by decide)
        refine pf_1_2 (pc := 58) cx hv0 t1_99 dX1_byQuotients_58 ?_
        refine p_mem (fun M13 eM13 => ?_)
        have hw := hw M13 eM13
        have hM13 : TYR G M13.2.2.1 := by rw [eM13]; exact TYR.up hM10 hv0 2 8 (by decide) rfl hr_12
        refine p_aload_n (pc := 61) cx dX1_byQuotients_61 rfl 0 rfl ?_
        refine p_aload_n (pc := 62) cx dX1_byQuotients_62 rfl 0 rfl ?_
        refine gf_1_4 (pc := 63) cx hv0 t1_101 dX1_byQuotients_63 ?_
        have hr_14 : Is G 8 (mR M13 v0 4) := TYR.at hM13 hv0 4 8 rfl (by decide)
        refine pf_1_3 (pc := 66) cx hv0 t1_100 dX1_byQuotients_66 ?_
        refine p_mem (fun M15 eM15 => ?_)
        have hw := hw M15 eM15
        have hM15 : TYR G M15.2.2.1 := by rw [eM15]; exact TYR.up hM13 hv0 3 8 (by decide) rfl hr_14
        refine p_aload_n (pc := 69) cx dX1_byQuotients_69 rfl 0 rfl ?_
        refine p_aload (pc := 70) cx dX1_byQuotients_70 2 rfl ?_
        refine pf_1_4 (pc := 72) cx hv0 t1_101 dX1_byQuotients_72 ?_
        refine p_mem (fun M16 eM16 => ?_)
        have hw := hw M16 eM16
        have hM16 : TYR G M16.2.2.1 := by rw [eM16]; exact TYR.up hM15 hv0 4 8 (by decide) rfl hr_11
        obtain ⟨x3_17, ex3_17⟩ : ∃ y : Int32, y = v3 + 1 := ⟨_, rfl⟩
        have hw := hw x3_17 ex3_17
        refine p_iinc (pc := 75) (v := x3_17) (lv' := [(0, .ref v0), (3, .int x3_17)]) cx dX1_byQuotients_75 1 rfl (by rw [ex3_17]; rfl) (by decide) [1, 0] rfl ?_
        refine p_goto (pc := 78) (tgt := 8) cx dX1_byQuotients_78 (by decide) ?_
        exact ih v0 x3_17 M16 hM16 hv0 hw
set_option maxHeartbeats 4000000 in
set_option maxRecDepth 100000 in
theorem c_X1_byQuotients {l : Launch} {D : va_G} {G : SH} (hND : ND G) {a0 : Nat} {a1 : Nat} {a2 : Nat} {M : MS} {Qp : Nat → MS → Prop} (hT : TYR G M.2.2.1) (ha0 : Is G 1 a0) (ha1 : Is G 8 a1) (ha2 : Is G 8 a2) (hw : w_X1_byQuotients G a0 a1 a2 M Qp) : MeR l D G yX1_byQuotients (Cond.code yX1_byQuotients cX1_byQuotients 5 (some (.object "GcdMill$Whole")) :: GW) rm_X1_byQuotients [.ref a0, .ref a1, .ref a2] M Qp := by
  unfold MeR
  refine p_method (by decide) rfl (Nat.le_of_ble_eq_true rfl) hND ?_
  intro p e s m args below meth c cx hr hlk
  have cx : CX p s m args c D G cX1_byQuotients 5 RX1 := cx
  unfold w_X1_byQuotients at hw
  refine p_aload_n (pc := 0) cx dX1_byQuotients_0 rfl 0 rfl ?_
  refine p_aload_n (pc := 1) cx dX1_byQuotients_1 rfl 1 rfl ?_
  refine p_aload_n (pc := 2) cx dX1_byQuotients_2 rfl 2 rfl ?_
  refine p_callVv (pc := 3) [.ref a1, .ref a2] cx (c_X1_begin cx.2.2.2.2.2.2 hT ha0 ha1 ha2 hw) cf_X1_begin cv_X1_begin t3_44 ha0 ⟨by decide, rfl, rfl⟩ ⟨rfl, rfl⟩ ⟨Nat.le_of_ble_eq_true rfl, Nat.le_of_ble_eq_true rfl⟩ rfl rfl (Nat.le_of_ble_eq_true rfl) dX1_byQuotients_3 (fun M1 hw hM1 => ?_)
  refine p_iconst (pc := 6) (v := 0) cx dX1_byQuotients_6 (by decide) ?_
  refine p_istore_n (pc := 7) (lv' := [(0, .ref a0), (3, .int (0 : Int32))]) cx dX1_byQuotients_7 rfl (by decide) [1, 0] rfl ?_
  obtain ⟨n1, hw⟩ := hw
  exact x_X1_byQuotients_8 cx hr hlk n1 a0 0 M1 hM1 ha0 hw
set_option maxHeartbeats 4000000 in
set_option maxRecDepth 100000 in
theorem c_X2_addMultiple {l : Launch} {D : va_G} {G : SH} (hND : ND G) {a0 : Nat} {a1 : Nat} {a2 : Nat} {M : MS} {Qp : MS → Prop} (hT : TYR G M.2.2.1) (ha0 : Is G 2 a0) (ha1 : Is G 8 a1) (ha2 : Is G 8 a2) (hw : w_X2_addMultiple G a0 a1 a2 M Qp) : MeV l D G yX2_addMultiple (Cond.code yX2_addMultiple cX2_addMultiple 3 none :: GW) rm_X2_addMultiple [.ref a0, .ref a1, .ref a2] M Qp := by
  unfold MeV
  refine p_method (by decide) rfl (Nat.le_of_ble_eq_true rfl) hND ?_
  intro p e s m args below meth c cx hr hlk
  have cx : CX p s m args c D G cX2_addMultiple 3 RX2 := cx
  unfold w_X2_addMultiple at hw
  refine p_aload_n (pc := 0) cx dX2_addMultiple_0 rfl 0 rfl ?_
  refine gf_2_5 (pc := 1) cx ha0 t1_172 dX2_addMultiple_1 ?_
  have hr_1 : Is G 8 (mR M a0 5) := TYR.at hT ha0 5 8 rfl (by decide)
  refine p_aload_n (pc := 4) cx dX2_addMultiple_4 rfl 0 rfl ?_
  refine gf_2_4 (pc := 5) cx ha0 t1_171 dX2_addMultiple_5 ?_
  have hr_2 : Is G 8 (mR M a0 4) := TYR.at hT ha0 4 8 rfl (by decide)
  refine p_aload_n (pc := 8) cx dX2_addMultiple_8 rfl 2 rfl ?_
  refine p_callSv (pc := 9) [.ref (mR M a0 5), .ref (mR M a0 4), .ref a2] cx (c_X7_product cx.2.2.2.2.2.2 hT hr_1 hr_2 ha2 hw) cf_X7_product cv_X7_product t3_126 ⟨rfl, rfl⟩ ⟨Nat.le_of_ble_eq_true rfl, Nat.le_of_ble_eq_true rfl⟩ rfl rfl (Nat.le_of_ble_eq_true rfl) dX2_addMultiple_9 (fun M3 hw hM3 => ?_)
  refine p_aload_n (pc := 12) cx dX2_addMultiple_12 rfl 1 rfl ?_
  refine p_aload_n (pc := 13) cx dX2_addMultiple_13 rfl 1 rfl ?_
  refine p_aload_n (pc := 14) cx dX2_addMultiple_14 rfl 0 rfl ?_
  refine gf_2_5 (pc := 15) cx ha0 t1_172 dX2_addMultiple_15 ?_
  have hr_4 : Is G 8 (mR M3 a0 5) := TYR.at hM3 ha0 5 8 rfl (by decide)
  refine p_callSv (pc := 18) [.ref a1, .ref a1, .ref (mR M3 a0 5)] cx (c_X7_sum cx.2.2.2.2.2.2 hM3 ha1 ha1 hr_4 hw) cf_X7_sum cv_X7_sum t3_127 ⟨rfl, rfl⟩ ⟨Nat.le_of_ble_eq_true rfl, Nat.le_of_ble_eq_true rfl⟩ rfl rfl (Nat.le_of_ble_eq_true rfl) dX2_addMultiple_18 (fun M5 hw hM5 => ?_)
  exact p_vret (pc := 21) cx hr hlk dX2_addMultiple_21 hM5 hw
set_option maxHeartbeats 4000000 in
set_option maxRecDepth 100000 in
theorem c_X2_turnOnce {l : Launch} {D : va_G} {G : SH} (hND : ND G) {a0 : Nat} {M : MS} {Qp : MS → Prop} (hT : TYR G M.2.2.1) (ha0 : Is G 2 a0) (hw : w_X2_turnOnce G a0 M Qp) : MeV l D G yX2_turnOnce (Cond.code yX2_turnOnce cX2_turnOnce 2 none :: GW) rm_X2_turnOnce [.ref a0] M Qp := by
  unfold MeV
  refine p_method (by decide) rfl (Nat.le_of_ble_eq_true rfl) hND ?_
  intro p e s m args below meth c cx hr hlk
  have cx : CX p s m args c D G cX2_turnOnce 2 RX2 := cx
  unfold w_X2_turnOnce at hw
  refine p_aload_n (pc := 0) cx dX2_turnOnce_0 rfl 0 rfl ?_
  refine gf_2_3 (pc := 1) cx ha0 t1_170 dX2_turnOnce_1 ?_
  have hr_1 : Is G 0 (mR M a0 3) := TYR.at hT ha0 3 0 rfl (by decide)
  refine p_aload_n (pc := 4) cx dX2_turnOnce_4 rfl 0 rfl ?_
  refine gf_2_4 (pc := 5) cx ha0 t1_171 dX2_turnOnce_5 ?_
  have hr_2 : Is G 8 (mR M a0 4) := TYR.at hT ha0 4 8 rfl (by decide)
  refine p_aload_n (pc := 8) cx dX2_turnOnce_8 rfl 0 rfl ?_
  refine gf_2_7 (pc := 9) cx ha0 t1_174 dX2_turnOnce_9 ?_
  have hr_3 : Is G 8 (mR M a0 7) := TYR.at hT ha0 7 8 rfl (by decide)
  refine p_aload_n (pc := 12) cx dX2_turnOnce_12 rfl 0 rfl ?_
  refine gf_2_0 (pc := 13) cx ha0 t1_164 dX2_turnOnce_13 ?_
  have hr_4 : Is G 8 (mR M a0 0) := TYR.at hT ha0 0 8 rfl (by decide)
  refine p_aload_n (pc := 16) cx dX2_turnOnce_16 rfl 0 rfl ?_
  refine gf_2_6 (pc := 17) cx ha0 t1_173 dX2_turnOnce_17 ?_
  have hr_5 : Is G 8 (mR M a0 6) := TYR.at hT ha0 6 8 rfl (by decide)
  refine p_callVv (pc := 20) [.ref (mR M a0 4), .ref (mR M a0 7), .ref (mR M a0 0), .ref (mR M a0 6)] cx (c_X0_split cx.2.2.2.2.2.2 hT hr_1 hr_2 hr_3 hr_4 hr_5 hw) cf_X0_split cv_X0_split t3_121 hr_1 ⟨by decide, rfl, rfl⟩ ⟨rfl, rfl⟩ ⟨Nat.le_of_ble_eq_true rfl, Nat.le_of_ble_eq_true rfl⟩ rfl rfl (Nat.le_of_ble_eq_true rfl) dX2_turnOnce_20 (fun M6 hw hM6 => ?_)
  refine p_aload_n (pc := 23) cx dX2_turnOnce_23 rfl 0 rfl ?_
  refine gf_2_0 (pc := 24) cx ha0 t1_164 dX2_turnOnce_24 ?_
  have hr_7 : Is G 8 (mR M6 a0 0) := TYR.at hM6 ha0 0 8 rfl (by decide)
  refine p_astore_n (pc := 27) (lv' := [(0, .ref a0), (1, .ref (mR M6 a0 0))]) cx dX2_turnOnce_27 rfl (by decide) [1, 0] rfl ?_
  refine p_aload_n (pc := 28) cx dX2_turnOnce_28 rfl 0 rfl ?_
  refine p_aload_n (pc := 29) cx dX2_turnOnce_29 rfl 0 rfl ?_
  refine gf_2_6 (pc := 30) cx ha0 t1_173 dX2_turnOnce_30 ?_
  have hr_8 : Is G 8 (mR M6 a0 6) := TYR.at hM6 ha0 6 8 rfl (by decide)
  refine pf_2_0 (pc := 33) cx ha0 t1_164 dX2_turnOnce_33 ?_
  refine p_mem (fun M9 eM9 => ?_)
  have hw := hw M9 eM9
  have hM9 : TYR G M9.2.2.1 := by rw [eM9]; exact TYR.up hM6 ha0 0 8 (by decide) rfl hr_8
  refine p_aload_n (pc := 36) cx dX2_turnOnce_36 rfl 0 rfl ?_
  refine p_aload_n (pc := 37) cx dX2_turnOnce_37 rfl 0 rfl ?_
  refine gf_2_7 (pc := 38) cx ha0 t1_174 dX2_turnOnce_38 ?_
  have hr_10 : Is G 8 (mR M9 a0 7) := TYR.at hM9 ha0 7 8 rfl (by decide)
  refine pf_2_6 (pc := 41) cx ha0 t1_173 dX2_turnOnce_41 ?_
  refine p_mem (fun M11 eM11 => ?_)
  have hw := hw M11 eM11
  have hM11 : TYR G M11.2.2.1 := by rw [eM11]; exact TYR.up hM9 ha0 6 8 (by decide) rfl hr_10
  refine p_aload_n (pc := 44) cx dX2_turnOnce_44 rfl 0 rfl ?_
  refine p_aload_n (pc := 45) cx dX2_turnOnce_45 rfl 1 rfl ?_
  refine pf_2_7 (pc := 46) cx ha0 t1_174 dX2_turnOnce_46 ?_
  refine p_mem (fun M12 eM12 => ?_)
  have hw := hw M12 eM12
  have hM12 : TYR G M12.2.2.1 := by rw [eM12]; exact TYR.up hM11 ha0 7 8 (by decide) rfl hr_7
  refine p_aload_n (pc := 49) cx dX2_turnOnce_49 rfl 0 rfl ?_
  refine p_aload_n (pc := 50) cx dX2_turnOnce_50 rfl 0 rfl ?_
  refine gf_2_1 (pc := 51) cx ha0 t1_166 dX2_turnOnce_51 ?_
  have hr_13 : Is G 8 (mR M12 a0 1) := TYR.at hM12 ha0 1 8 rfl (by decide)
  refine p_aload_n (pc := 54) cx dX2_turnOnce_54 rfl 0 rfl ?_
  refine gf_2_8 (pc := 55) cx ha0 t1_175 dX2_turnOnce_55 ?_
  have hr_14 : Is G 8 (mR M12 a0 8) := TYR.at hM12 ha0 8 8 rfl (by decide)
  refine p_callVv (pc := 58) [.ref (mR M12 a0 1), .ref (mR M12 a0 8)] cx (c_X2_addMultiple cx.2.2.2.2.2.2 hM12 ha0 hr_13 hr_14 hw) cf_X2_addMultiple cv_X2_addMultiple t3_122 ha0 ⟨by decide, rfl, rfl⟩ ⟨rfl, rfl⟩ ⟨Nat.le_of_ble_eq_true rfl, Nat.le_of_ble_eq_true rfl⟩ rfl rfl (Nat.le_of_ble_eq_true rfl) dX2_turnOnce_58 (fun M15 hw hM15 => ?_)
  refine p_aload_n (pc := 61) cx dX2_turnOnce_61 rfl 0 rfl ?_
  refine gf_2_1 (pc := 62) cx ha0 t1_166 dX2_turnOnce_62 ?_
  have hr_16 : Is G 8 (mR M15 a0 1) := TYR.at hM15 ha0 1 8 rfl (by decide)
  refine p_astore_n (pc := 65) (lv' := [(0, .ref a0), (1, .ref (mR M15 a0 1))]) cx dX2_turnOnce_65 rfl (by decide) [1, 0] rfl ?_
  refine p_aload_n (pc := 66) cx dX2_turnOnce_66 rfl 0 rfl ?_
  refine p_aload_n (pc := 67) cx dX2_turnOnce_67 rfl 0 rfl ?_
  refine gf_2_8 (pc := 68) cx ha0 t1_175 dX2_turnOnce_68 ?_
  have hr_17 : Is G 8 (mR M15 a0 8) := TYR.at hM15 ha0 8 8 rfl (by decide)
  refine pf_2_1 (pc := 71) cx ha0 t1_166 dX2_turnOnce_71 ?_
  refine p_mem (fun M18 eM18 => ?_)
  have hw := hw M18 eM18
  have hM18 : TYR G M18.2.2.1 := by rw [eM18]; exact TYR.up hM15 ha0 1 8 (by decide) rfl hr_17
  refine p_aload_n (pc := 74) cx dX2_turnOnce_74 rfl 0 rfl ?_
  refine p_aload_n (pc := 75) cx dX2_turnOnce_75 rfl 1 rfl ?_
  refine pf_2_8 (pc := 76) cx ha0 t1_175 dX2_turnOnce_76 ?_
  refine p_mem (fun M19 eM19 => ?_)
  have hw := hw M19 eM19
  have hM19 : TYR G M19.2.2.1 := by rw [eM19]; exact TYR.up hM18 ha0 8 8 (by decide) rfl hr_16
  refine p_aload_n (pc := 79) cx dX2_turnOnce_79 rfl 0 rfl ?_
  refine p_aload_n (pc := 80) cx dX2_turnOnce_80 rfl 0 rfl ?_
  refine gf_2_2 (pc := 81) cx ha0 t1_168 dX2_turnOnce_81 ?_
  have hr_20 : Is G 8 (mR M19 a0 2) := TYR.at hM19 ha0 2 8 rfl (by decide)
  refine p_aload_n (pc := 84) cx dX2_turnOnce_84 rfl 0 rfl ?_
  refine gf_2_9 (pc := 85) cx ha0 t1_176 dX2_turnOnce_85 ?_
  have hr_21 : Is G 8 (mR M19 a0 9) := TYR.at hM19 ha0 9 8 rfl (by decide)
  refine p_callVv (pc := 88) [.ref (mR M19 a0 2), .ref (mR M19 a0 9)] cx (c_X2_addMultiple cx.2.2.2.2.2.2 hM19 ha0 hr_20 hr_21 hw) cf_X2_addMultiple cv_X2_addMultiple t3_122 ha0 ⟨by decide, rfl, rfl⟩ ⟨rfl, rfl⟩ ⟨Nat.le_of_ble_eq_true rfl, Nat.le_of_ble_eq_true rfl⟩ rfl rfl (Nat.le_of_ble_eq_true rfl) dX2_turnOnce_88 (fun M22 hw hM22 => ?_)
  refine p_aload_n (pc := 91) cx dX2_turnOnce_91 rfl 0 rfl ?_
  refine gf_2_2 (pc := 92) cx ha0 t1_168 dX2_turnOnce_92 ?_
  have hr_23 : Is G 8 (mR M22 a0 2) := TYR.at hM22 ha0 2 8 rfl (by decide)
  refine p_astore_n (pc := 95) (lv' := [(0, .ref a0), (1, .ref (mR M22 a0 2))]) cx dX2_turnOnce_95 rfl (by decide) [1, 0] rfl ?_
  refine p_aload_n (pc := 96) cx dX2_turnOnce_96 rfl 0 rfl ?_
  refine p_aload_n (pc := 97) cx dX2_turnOnce_97 rfl 0 rfl ?_
  refine gf_2_9 (pc := 98) cx ha0 t1_176 dX2_turnOnce_98 ?_
  have hr_24 : Is G 8 (mR M22 a0 9) := TYR.at hM22 ha0 9 8 rfl (by decide)
  refine pf_2_2 (pc := 101) cx ha0 t1_168 dX2_turnOnce_101 ?_
  refine p_mem (fun M25 eM25 => ?_)
  have hw := hw M25 eM25
  have hM25 : TYR G M25.2.2.1 := by rw [eM25]; exact TYR.up hM22 ha0 2 8 (by decide) rfl hr_24
  refine p_aload_n (pc := 104) cx dX2_turnOnce_104 rfl 0 rfl ?_
  refine p_aload_n (pc := 105) cx dX2_turnOnce_105 rfl 1 rfl ?_
  refine pf_2_9 (pc := 106) cx ha0 t1_176 dX2_turnOnce_106 ?_
  refine p_mem (fun M26 eM26 => ?_)
  have hw := hw M26 eM26
  have hM26 : TYR G M26.2.2.1 := by rw [eM26]; exact TYR.up hM25 ha0 9 8 (by decide) rfl hr_23
  exact p_vret (pc := 109) cx hr hlk dX2_turnOnce_109 hM26 hw
set_option maxHeartbeats 4000000 in
set_option maxRecDepth 100000 in
theorem x_X2_find_123 {p : Program} {l : Launch} {e : Env} {s : State} {m : MethodId} {args : Array Value} {below : List Frame} {meth : Method} {c : Code} {D : va_G} {G : SH} {Qp : MS → Prop}  (cx : CX p s m args c D G cX2_find 5 RX2) (hr : meth.sig.returnType = none) (hlk : meth.locks = false)  (v0 : Nat) (v2 : Nat) (v3 : Int32) (s0 : Int32) (s1 : Nat) (M : MS) (hT : TYR G M.2.2.1) (hv0 : Is G 2 v0) (hv2 : Is G 8 v2) (hs1 : Is G 8 s1) (hw : w_X2_find_123 G Qp v0 v2 v3 s0 s1 M) : PW p l e rm_X2_find s m args below meth c D G 5 (MQ below (va_Qv Qp (POST D G) (AG G)) args s 0 0 (AG G)) 123 [(0, .ref v0), (2, .ref v2), (3, .int v3)] [.int s0, .ref s1] M := by
  unfold w_X2_find_123 at hw
  refine p_callVv (pc := 123) [.int s0] cx (c_X9_takeSign cx.2.2.2.2.2.2 hT hs1 hw) cf_X9_takeSign cv_X9_takeSign t3_128 hs1 ⟨by decide, rfl, rfl⟩ ⟨rfl, rfl⟩ ⟨Nat.le_of_ble_eq_true rfl, Nat.le_of_ble_eq_true rfl⟩ rfl rfl (Nat.le_of_ble_eq_true rfl) dX2_find_123 (fun M18 hw hM18 => ?_)
  refine p_aload_n (pc := 126) cx dX2_find_126 rfl 0 rfl ?_
  refine gf_2_2 (pc := 127) cx hv0 t1_168 dX2_find_127 ?_
  have hr_19 : Is G 8 (mR M18 v0 2) := TYR.at hM18 hv0 2 8 rfl (by decide)
  refine p_iload_n (pc := 130) cx dX2_find_130 rfl 2 rfl ?_
  refine p_aload_n (pc := 131) cx dX2_find_131 rfl 1 rfl ?_
  refine gf_8_2 (pc := 132) cx hv2 t1_60 dX2_find_132 ?_
  refine p_icmp_ne (pc := 135) (tgt := 142) cx dX2_find_135 (by decide) (fun hc => ?_) (fun hc => ?_)
  · have hw := hw.1 hc
    refine p_iconst (pc := 142) (v := 0) cx dX2_find_142 (by decide) ?_
    refine p_callVv (pc := 143) [.int (0 : Int32)] cx (c_X9_takeSign cx.2.2.2.2.2.2 hM18 hr_19 hw) cf_X9_takeSign cv_X9_takeSign t3_128 hr_19 ⟨by decide, rfl, rfl⟩ ⟨rfl, rfl⟩ ⟨Nat.le_of_ble_eq_true rfl, Nat.le_of_ble_eq_true rfl⟩ rfl rfl (Nat.le_of_ble_eq_true rfl) dX2_find_143 (fun M20 hw hM20 => ?_)
    exact p_vret (pc := 146) cx hr hlk dX2_find_146 hM20 hw
  · have hw := hw.2 hc
    refine p_iconst (pc := 138) (v := 1) cx dX2_find_138 (by decide) ?_
    refine p_goto (pc := 139) (tgt := 143) cx dX2_find_139 (by decide) ?_
    refine p_callVv (pc := 143) [.int (1 : Int32)] cx (c_X9_takeSign cx.2.2.2.2.2.2 hM18 hr_19 hw) cf_X9_takeSign cv_X9_takeSign t3_128 hr_19 ⟨by decide, rfl, rfl⟩ ⟨rfl, rfl⟩ ⟨Nat.le_of_ble_eq_true rfl, Nat.le_of_ble_eq_true rfl⟩ rfl rfl (Nat.le_of_ble_eq_true rfl) dX2_find_143 (fun M21 hw hM21 => ?_)
    exact p_vret (pc := 146) cx hr hlk dX2_find_146 hM21 hw
set_option maxHeartbeats 4000000 in
set_option maxRecDepth 100000 in
theorem x_X2_find_106 {p : Program} {l : Launch} {e : Env} {s : State} {m : MethodId} {args : Array Value} {below : List Frame} {meth : Method} {c : Code} {D : va_G} {G : SH} {Qp : MS → Prop}  (cx : CX p s m args c D G cX2_find 5 RX2) (hr : meth.sig.returnType = none) (hlk : meth.locks = false)  (v0 : Nat) (v1 : Nat) (v2 : Nat) (v3 : Int32) (M : MS) (hT : TYR G M.2.2.1) (hv0 : Is G 2 v0) (hv1 : Is G 8 v1) (hv2 : Is G 8 v2) (hw : w_X2_find_106 G Qp v0 v1 v2 v3 M) : PW p l e rm_X2_find s m args below meth c D G 5 (MQ below (va_Qv Qp (POST D G) (AG G)) args s 0 0 (AG G)) 106 [(0, .ref v0), (1, .ref v1), (2, .ref v2), (3, .int v3)] [] M := by
  unfold w_X2_find_106 at hw
  refine p_aload_n (pc := 106) cx dX2_find_106 rfl 0 rfl ?_
  refine gf_2_1 (pc := 107) cx hv0 t1_166 dX2_find_107 ?_
  have hr_17 : Is G 8 (mR M v0 1) := TYR.at hT hv0 1 8 rfl (by decide)
  refine p_iload_n (pc := 110) cx dX2_find_110 rfl 3 rfl ?_
  refine p_aload_n (pc := 111) cx dX2_find_111 rfl 1 rfl ?_
  refine gf_8_2 (pc := 112) cx hv1 t1_60 dX2_find_112 ?_
  refine p_icmp_eq (pc := 115) (tgt := 122) cx dX2_find_115 (by decide) (fun hc => ?_) (fun hc => ?_)
  · have hw := hw.1 hc
    refine p_iconst (pc := 122) (v := 0) cx dX2_find_122 (by decide) ?_
    refine p_perm (lv' := [(0, .ref v0), (2, .ref v2), (3, .int v3)]) [0, 2, 3] rfl ?_
    exact x_X2_find_123 cx hr hlk v0 v2 v3 0 (mR M v0 1) M hT hv0 hv2 hr_17 hw
  · have hw := hw.2 hc
    refine p_iconst (pc := 118) (v := 1) cx dX2_find_118 (by decide) ?_
    refine p_goto (pc := 119) (tgt := 123) cx dX2_find_119 (by decide) ?_
    refine p_perm (lv' := [(0, .ref v0), (2, .ref v2), (3, .int v3)]) [0, 2, 3] rfl ?_
    exact x_X2_find_123 cx hr hlk v0 v2 v3 1 (mR M v0 1) M hT hv0 hv2 hr_17 hw
set_option maxHeartbeats 4000000 in
set_option maxRecDepth 100000 in
theorem x_X2_find_69 {p : Program} {l : Launch} {e : Env} {s : State} {m : MethodId} {args : Array Value} {below : List Frame} {meth : Method} {c : Code} {D : va_G} {G : SH} {Qp : MS → Prop}  (cx : CX p s m args c D G cX2_find 5 RX2) (hr : meth.sig.returnType = none) (hlk : meth.locks = false)  : ∀ (n : Nat) (v0 : Nat) (v1 : Nat) (v2 : Nat) (v3 : Int32) (v4 : Int32) (M : MS), TYR G M.2.2.1 → Is G 2 v0 → Is G 8 v1 → Is G 8 v2 → w_X2_find_69 G Qp n v0 v1 v2 v3 v4 M → PW p l e rm_X2_find s m args below meth c D G 5 (MQ below (va_Qv Qp (POST D G) (AG G)) args s 0 0 (AG G)) 69 [(0, .ref v0), (1, .ref v1), (2, .ref v2), (3, .int v3), (4, .int v4)] [] M := by
  intro n
  induction n with
  | zero =>
    intro v0 v1 v2 v3 v4 M hT hv0 hv1 hv2 hw
    exact hw.elim
  | succ n ih =>
    intro v0 v1 v2 v3 v4 M hT hv0 hv1 hv2 hw
    rw [w_X2_find_69] at hw
    refine p_iload (pc := 69) cx dX2_find_69 4 rfl ?_
    refine p_ldc (pc := 71) cx dX2_find_71 t3_116 ?_
    refine p_icmp_ge (pc := 73) (tgt := 106) cx dX2_find_73 (by decide) (fun hc => ?_) (fun hc => ?_)
    · have hw := hw.1 hc
      refine p_perm (lv' := [(0, .ref v0), (1, .ref v1), (2, .ref v2), (3, .int v3)]) [0, 1, 2, 3] rfl ?_
      exact x_X2_find_106 cx hr hlk v0 v1 v2 v3 M hT hv0 hv1 hv2 hw
    · have hw := hw.2 hc
      refine p_aload_n (pc := 76) cx dX2_find_76 rfl 0 rfl ?_
      refine gf_2_6 (pc := 77) cx hv0 t1_173 dX2_find_77 ?_
      have hr_22 : Is G 8 (mR M v0 6) := TYR.at hT hv0 6 8 rfl (by decide)
      refine gf_8_1 (pc := 80) cx hr_22 t1_55 dX2_find_80 ?_
      refine p_if_le (pc := 83) (tgt := 106) cx dX2_find_83 (by decide) (fun hc => ?_) (fun hc => ?_)
      · have hw := hw.1 hc
        refine p_perm (lv' := [(0, .ref v0), (1, .ref v1), (2, .ref v2), (3, .int v3)]) [0, 1, 2, 3] rfl ?_
        exact x_X2_find_106 cx hr hlk v0 v1 v2 v3 M hT hv0 hv1 hv2 hw
      · have hw := hw.2 hc
        refine p_aload_n (pc := 86) cx dX2_find_86 rfl 0 rfl ?_
        refine p_callVv (pc := 87) [] cx (c_X2_turnOnce cx.2.2.2.2.2.2 hT hv0 hw) cf_X2_turnOnce cv_X2_turnOnce t3_117 hv0 ⟨by decide, rfl, rfl⟩ ⟨rfl, rfl⟩ ⟨Nat.le_of_ble_eq_true rfl, Nat.le_of_ble_eq_true rfl⟩ rfl rfl (Nat.le_of_ble_eq_true rfl) dX2_find_87 (fun M23 hw hM23 => ?_)
        refine p_iload_n (pc := 90) cx dX2_find_90 rfl 3 rfl ?_
        refine p_if_ne (pc := 91) (tgt := 98) cx dX2_find_91 (by decide) (fun hc => ?_) (fun hc => ?_)
        · have hw := hw.1 hc
          refine p_iconst (pc := 98) (v := 0) cx dX2_find_98 (by decide) ?_
          refine p_istore_n (pc := 99) (lv' := [(0, .ref v0), (1, .ref v1), (2, .ref v2), (3, .int (0 : Int32)), (4, .int v4)]) cx dX2_find_99 rfl (by decide) [1, 2, 3, 0, 4] rfl ?_
          obtain ⟨x4_24, ex4_24⟩ : ∃ y : Int32, y = v4 + 1 := ⟨_, rfl⟩
          have hw := hw x4_24 ex4_24
          refine p_iinc (pc := 100) (v := x4_24) (lv' := [(0, .ref v0), (1, .ref v1), (2, .ref v2), (3, .int (0 : Int32)), (4, .int x4_24)]) cx dX2_find_100 4 rfl (by rw [ex4_24]; rfl) (by decide) [1, 2, 3, 4, 0] rfl ?_
          refine p_goto (pc := 103) (tgt := 69) cx dX2_find_103 (by decide) ?_
          exact ih v0 v1 v2 0 x4_24 M23 hM23 hv0 hv1 hv2 hw
        · have hw := hw.2 hc
          refine p_iconst (pc := 94) (v := 1) cx dX2_find_94 (by decide) ?_
          refine p_goto (pc := 95) (tgt := 99) cx dX2_find_95 (by decide) ?_
          refine p_istore_n (pc := 99) (lv' := [(0, .ref v0), (1, .ref v1), (2, .ref v2), (3, .int (1 : Int32)), (4, .int v4)]) cx dX2_find_99 rfl (by decide) [1, 2, 3, 0, 4] rfl ?_
          obtain ⟨x4_25, ex4_25⟩ : ∃ y : Int32, y = v4 + 1 := ⟨_, rfl⟩
          have hw := hw x4_25 ex4_25
          refine p_iinc (pc := 100) (v := x4_25) (lv' := [(0, .ref v0), (1, .ref v1), (2, .ref v2), (3, .int (1 : Int32)), (4, .int x4_25)]) cx dX2_find_100 4 rfl (by rw [ex4_25]; rfl) (by decide) [1, 2, 3, 4, 0] rfl ?_
          refine p_goto (pc := 103) (tgt := 69) cx dX2_find_103 (by decide) ?_
          exact ih v0 v1 v2 1 x4_25 M23 hM23 hv0 hv1 hv2 hw
set_option maxHeartbeats 4000000 in
set_option maxRecDepth 100000 in
theorem c_X2_find {l : Launch} {D : va_G} {G : SH} (hND : ND G) {a0 : Nat} {a1 : Nat} {a2 : Nat} {M : MS} {Qp : MS → Prop} (hT : TYR G M.2.2.1) (ha0 : Is G 2 a0) (ha1 : Is G 8 a1) (ha2 : Is G 8 a2) (hw : w_X2_find G a0 a1 a2 M Qp) : MeV l D G yX2_find (Cond.code yX2_find cX2_find 5 none :: GW) rm_X2_find [.ref a0, .ref a1, .ref a2] M Qp := by
  unfold MeV
  refine p_method (by decide) rfl (Nat.le_of_ble_eq_true rfl) hND ?_
  intro p e s m args below meth c cx hr hlk
  have cx : CX p s m args c D G cX2_find 5 RX2 := cx
  unfold w_X2_find at hw
  refine p_aload_n (pc := 0) cx dX2_find_0 rfl 0 rfl ?_
  refine gf_2_0 (pc := 1) cx ha0 t1_164 dX2_find_1 ?_
  have hr_1 : Is G 8 (mR M a0 0) := TYR.at hT ha0 0 8 rfl (by decide)
  refine p_aload_n (pc := 4) cx dX2_find_4 rfl 1 rfl ?_
  refine p_callVv (pc := 5) [.ref a1] cx (c_X9_copy cx.2.2.2.2.2.2 hT hr_1 ha1 hw) cf_X9_copy cv_X9_copy t3_114 hr_1 ⟨by decide, rfl, rfl⟩ ⟨rfl, rfl⟩ ⟨Nat.le_of_ble_eq_true rfl, Nat.le_of_ble_eq_true rfl⟩ rfl rfl (Nat.le_of_ble_eq_true rfl) dX2_find_5 (fun M2 hw hM2 => ?_)
  refine p_aload_n (pc := 8) cx dX2_find_8 rfl 0 rfl ?_
  refine gf_2_0 (pc := 9) cx ha0 t1_164 dX2_find_9 ?_
  have hr_3 : Is G 8 (mR M2 a0 0) := TYR.at hM2 ha0 0 8 rfl (by decide)
  refine p_iconst (pc := 12) (v := 0) cx dX2_find_12 (by decide) ?_
  refine pf_8_2 (pc := 13) (by decide) cx hr_3 t1_60 dX2_find_13 ?_
  refine p_mem (fun M4 eM4 => ?_)
  have hw := hw M4 eM4
  have hM4 : TYR G M4.2.2.1 := by rw [eM4]; exact hM2
  refine p_aload_n (pc := 16) cx dX2_find_16 rfl 0 rfl ?_
  refine gf_2_6 (pc := 17) cx ha0 t1_173 dX2_find_17 ?_
  have hr_5 : Is G 8 (mR M4 a0 6) := TYR.at hM4 ha0 6 8 rfl (by decide)
  refine p_aload_n (pc := 20) cx dX2_find_20 rfl 2 rfl ?_
  refine p_callVv (pc := 21) [.ref a2] cx (c_X9_copy cx.2.2.2.2.2.2 hM4 hr_5 ha2 hw) cf_X9_copy cv_X9_copy t3_114 hr_5 ⟨by decide, rfl, rfl⟩ ⟨rfl, rfl⟩ ⟨Nat.le_of_ble_eq_true rfl, Nat.le_of_ble_eq_true rfl⟩ rfl rfl (Nat.le_of_ble_eq_true rfl) dX2_find_21 (fun M6 hw hM6 => ?_)
  refine p_aload_n (pc := 24) cx dX2_find_24 rfl 0 rfl ?_
  refine gf_2_6 (pc := 25) cx ha0 t1_173 dX2_find_25 ?_
  have hr_7 : Is G 8 (mR M6 a0 6) := TYR.at hM6 ha0 6 8 rfl (by decide)
  refine p_iconst (pc := 28) (v := 0) cx dX2_find_28 (by decide) ?_
  refine pf_8_2 (pc := 29) (by decide) cx hr_7 t1_60 dX2_find_29 ?_
  refine p_mem (fun M8 eM8 => ?_)
  have hw := hw M8 eM8
  have hM8 : TYR G M8.2.2.1 := by rw [eM8]; exact hM6
  refine p_aload_n (pc := 32) cx dX2_find_32 rfl 0 rfl ?_
  refine gf_2_1 (pc := 33) cx ha0 t1_166 dX2_find_33 ?_
  have hr_9 : Is G 8 (mR M8 a0 1) := TYR.at hM8 ha0 1 8 rfl (by decide)
  refine p_iconst (pc := 36) (v := 1) cx dX2_find_36 (by decide) ?_
  refine p_callVv (pc := 37) [.int (1 : Int32)] cx (c_X9_become cx.2.2.2.2.2.2 hM8 hr_9 hw) cf_X9_become cv_X9_become t3_115 hr_9 ⟨by decide, rfl, rfl⟩ ⟨rfl, rfl⟩ ⟨Nat.le_of_ble_eq_true rfl, Nat.le_of_ble_eq_true rfl⟩ rfl rfl (Nat.le_of_ble_eq_true rfl) dX2_find_37 (fun M10 hw hM10 => ?_)
  refine p_aload_n (pc := 40) cx dX2_find_40 rfl 0 rfl ?_
  refine gf_2_2 (pc := 41) cx ha0 t1_168 dX2_find_41 ?_
  have hr_11 : Is G 8 (mR M10 a0 2) := TYR.at hM10 ha0 2 8 rfl (by decide)
  refine p_iconst (pc := 44) (v := 0) cx dX2_find_44 (by decide) ?_
  refine p_callVv (pc := 45) [.int (0 : Int32)] cx (c_X9_become cx.2.2.2.2.2.2 hM10 hr_11 hw) cf_X9_become cv_X9_become t3_115 hr_11 ⟨by decide, rfl, rfl⟩ ⟨rfl, rfl⟩ ⟨Nat.le_of_ble_eq_true rfl, Nat.le_of_ble_eq_true rfl⟩ rfl rfl (Nat.le_of_ble_eq_true rfl) dX2_find_45 (fun M12 hw hM12 => ?_)
  refine p_aload_n (pc := 48) cx dX2_find_48 rfl 0 rfl ?_
  refine gf_2_8 (pc := 49) cx ha0 t1_175 dX2_find_49 ?_
  have hr_13 : Is G 8 (mR M12 a0 8) := TYR.at hM12 ha0 8 8 rfl (by decide)
  refine p_iconst (pc := 52) (v := 0) cx dX2_find_52 (by decide) ?_
  refine p_callVv (pc := 53) [.int (0 : Int32)] cx (c_X9_become cx.2.2.2.2.2.2 hM12 hr_13 hw) cf_X9_become cv_X9_become t3_115 hr_13 ⟨by decide, rfl, rfl⟩ ⟨rfl, rfl⟩ ⟨Nat.le_of_ble_eq_true rfl, Nat.le_of_ble_eq_true rfl⟩ rfl rfl (Nat.le_of_ble_eq_true rfl) dX2_find_53 (fun M14 hw hM14 => ?_)
  refine p_aload_n (pc := 56) cx dX2_find_56 rfl 0 rfl ?_
  refine gf_2_9 (pc := 57) cx ha0 t1_176 dX2_find_57 ?_
  have hr_15 : Is G 8 (mR M14 a0 9) := TYR.at hM14 ha0 9 8 rfl (by decide)
  refine p_iconst (pc := 60) (v := 1) cx dX2_find_60 (by decide) ?_
  refine p_callVv (pc := 61) [.int (1 : Int32)] cx (c_X9_become cx.2.2.2.2.2.2 hM14 hr_15 hw) cf_X9_become cv_X9_become t3_115 hr_15 ⟨by decide, rfl, rfl⟩ ⟨rfl, rfl⟩ ⟨Nat.le_of_ble_eq_true rfl, Nat.le_of_ble_eq_true rfl⟩ rfl rfl (Nat.le_of_ble_eq_true rfl) dX2_find_61 (fun M16 hw hM16 => ?_)
  refine p_iconst (pc := 64) (v := 0) cx dX2_find_64 (by decide) ?_
  refine p_istore_n (pc := 65) (lv' := [(0, .ref a0), (1, .ref a1), (2, .ref a2), (3, .int (0 : Int32))]) cx dX2_find_65 rfl (by decide) [1, 2, 3, 0] rfl ?_
  refine p_iconst (pc := 66) (v := 0) cx dX2_find_66 (by decide) ?_
  refine p_istore (pc := 67) (lv' := [(0, .ref a0), (1, .ref a1), (2, .ref a2), (3, .int (0 : Int32)), (4, .int (0 : Int32))]) cx dX2_find_67 (by decide) [1, 2, 3, 4, 0] rfl ?_
  obtain ⟨n1, hw⟩ := hw
  exact x_X2_find_69 cx hr hlk n1 a0 a1 a2 0 0 M16 hM16 ha0 ha1 ha2 hw
set_option maxHeartbeats 4000000 in
set_option maxRecDepth 100000 in
theorem x_X3_findCofactors_53 {p : Program} {l : Launch} {e : Env} {s : State} {m : MethodId} {args : Array Value} {below : List Frame} {meth : Method} {c : Code} {D : va_G} {G : SH} {Qp : MS → Prop}  (cx : CX p s m args c D G cX3_findCofactors 15 RX3) (hr : meth.sig.returnType = none) (hlk : meth.locks = false)  : ∀ (n : Nat) (v0 : Nat) (v2 : Int64) (v4 : Int64) (v6 : Int32) (M : MS), TYR G M.2.2.1 → Is G 3 v0 → w_X3_findCofactors_53 G Qp n v0 v2 v4 v6 M → PW p l e rm_X3_findCofactors s m args below meth c D G 15 (MQ below (va_Qv Qp (POST D G) (AG G)) args s 0 0 (AG G)) 53 [(0, .ref v0), (2, .long v2), (4, .long v4), (6, .int v6)] [] M := by
  intro n
  induction n with
  | zero =>
    intro v0 v2 v4 v6 M hT hv0 hw
    exact hw.elim
  | succ n ih =>
    intro v0 v2 v4 v6 M hT hv0 hw
    rw [w_X3_findCofactors_53] at hw
    refine p_iload (pc := 53) cx dX3_findCofactors_53 3 rfl ?_
    refine p_ldc (pc := 55) cx dX3_findCofactors_55 t3_75 ?_
    refine p_icmp_ge (pc := 57) (tgt := 200) cx dX3_findCofactors_57 (by decide) (fun hc => ?_) (fun hc => ?_)
    · have hw := hw.1 hc
      exact p_vret (pc := 200) cx hr hlk dX3_findCofactors_200 hT hw
    · have hw := hw.2 hc
      refine p_lload (pc := 60) cx dX3_findCofactors_60 2 rfl ?_
      refine p_aload_n (pc := 62) cx dX3_findCofactors_62 rfl 0 rfl ?_
      refine gf_3_9 (pc := 63) cx hv0 t1_131 dX3_findCofactors_63 ?_
      refine p_ladd (pc := 66) cx dX3_findCofactors_66 ?_
      refine p_lconst (pc := 67) (v := 0) cx dX3_findCofactors_67 (by decide) ?_
      refine p_lcmp (pc := 68) cx dX3_findCofactors_68 ?_
      refine p_if_eq (pc := 69) (tgt := 84) cx dX3_findCofactors_69 (by decide) (fun hc => ?_) (fun hc => ?_)
      · have hw := hw.1 ((lg_cmp_eq _ _).mp hc)
        exact p_vret (pc := 84) cx hr hlk dX3_findCofactors_84 hT hw
      · have hw := hw.2 (fun q => hc ((lg_cmp_eq _ _).mpr q))
        refine p_lload (pc := 72) cx dX3_findCofactors_72 2 rfl ?_
        refine p_aload_n (pc := 74) cx dX3_findCofactors_74 rfl 0 rfl ?_
        refine gf_3_10 (pc := 75) cx hv0 t1_132 dX3_findCofactors_75 ?_
        refine p_ladd (pc := 78) cx dX3_findCofactors_78 ?_
        refine p_lconst (pc := 79) (v := 0) cx dX3_findCofactors_79 (by decide) ?_
        refine p_lcmp (pc := 80) cx dX3_findCofactors_80 ?_
        refine p_if_ne (pc := 81) (tgt := 85) cx dX3_findCofactors_81 (by decide) (fun hc => ?_) (fun hc => ?_)
        · have hw := hw.1 (fun q => hc ((lg_cmp_eq _ _).mpr q))
          refine p_lload_n (pc := 85) cx dX3_findCofactors_85 rfl 1 rfl ?_
          refine p_aload_n (pc := 86) cx dX3_findCofactors_86 rfl 0 rfl ?_
          refine gf_3_7 (pc := 87) cx hv0 t1_129 dX3_findCofactors_87 ?_
          refine p_ladd (pc := 90) cx dX3_findCofactors_90 ?_
          refine p_lload (pc := 91) cx dX3_findCofactors_91 2 rfl ?_
          refine p_aload_n (pc := 93) cx dX3_findCofactors_93 rfl 0 rfl ?_
          refine gf_3_9 (pc := 94) cx hv0 t1_131 dX3_findCofactors_94 ?_
          refine p_ladd (pc := 97) cx dX3_findCofactors_97 ?_
          refine p_ldiv (pc := 98) cx dX3_findCofactors_98 hw.1 ?_
          have hw := hw.2
          refine p_topl (fun x7_12 ex7_12 => ?_)
          have hw := hw x7_12 ex7_12
          refine p_lstore (pc := 99) (lv' := [(0, .ref v0), (2, .long v2), (4, .long v4), (6, .int v6), (7, .long x7_12)]) cx dX3_findCofactors_99 (by decide) [1, 2, 3, 4, 0] rfl ?_
          refine p_lload (pc := 101) cx dX3_findCofactors_101 4 rfl ?_
          refine p_lload_n (pc := 103) cx dX3_findCofactors_103 rfl 1 rfl ?_
          refine p_aload_n (pc := 104) cx dX3_findCofactors_104 rfl 0 rfl ?_
          refine gf_3_8 (pc := 105) cx hv0 t1_130 dX3_findCofactors_105 ?_
          refine p_ladd (pc := 108) cx dX3_findCofactors_108 ?_
          refine p_lload (pc := 109) cx dX3_findCofactors_109 2 rfl ?_
          refine p_aload_n (pc := 111) cx dX3_findCofactors_111 rfl 0 rfl ?_
          refine gf_3_10 (pc := 112) cx hv0 t1_132 dX3_findCofactors_112 ?_
          refine p_ladd (pc := 115) cx dX3_findCofactors_115 ?_
          refine p_ldiv (pc := 116) cx dX3_findCofactors_116 hw.1 ?_
          have hw := hw.2
          refine p_lcmp (pc := 117) cx dX3_findCofactors_117 ?_
          refine p_if_eq (pc := 118) (tgt := 122) cx dX3_findCofactors_118 (by decide) (fun hc => ?_) (fun hc => ?_)
          · have hw := hw.1 ((lg_cmp_eq _ _).mp hc)
            refine p_aload_n (pc := 122) cx dX3_findCofactors_122 rfl 0 rfl ?_
            refine gf_3_7 (pc := 123) cx hv0 t1_129 dX3_findCofactors_123 ?_
            refine p_lload (pc := 126) cx dX3_findCofactors_126 4 rfl ?_
            refine p_aload_n (pc := 128) cx dX3_findCofactors_128 rfl 0 rfl ?_
            refine gf_3_9 (pc := 129) cx hv0 t1_131 dX3_findCofactors_129 ?_
            refine p_lmul (pc := 132) cx dX3_findCofactors_132 ?_
            refine p_lsub (pc := 133) cx dX3_findCofactors_133 ?_
            refine p_topl (fun x9_13 ex9_13 => ?_)
            have hw := hw x9_13 ex9_13
            refine p_lstore (pc := 134) (lv' := [(0, .ref v0), (2, .long v2), (4, .long v4), (6, .int v6), (7, .long x7_12), (9, .long x9_13)]) cx dX3_findCofactors_134 (by decide) [1, 2, 3, 4, 5, 0] rfl ?_
            refine p_aload_n (pc := 136) cx dX3_findCofactors_136 rfl 0 rfl ?_
            refine p_aload_n (pc := 137) cx dX3_findCofactors_137 rfl 0 rfl ?_
            refine gf_3_9 (pc := 138) cx hv0 t1_131 dX3_findCofactors_138 ?_
            refine pf_3_7 (pc := 141) cx hv0 t1_129 dX3_findCofactors_141 ?_
            refine p_mem (fun M14 eM14 => ?_)
            have hw := hw M14 eM14
            have hM14 : TYR G M14.2.2.1 := by rw [eM14]; exact hT
            refine p_aload_n (pc := 144) cx dX3_findCofactors_144 rfl 0 rfl ?_
            refine p_lload (pc := 145) cx dX3_findCofactors_145 5 rfl ?_
            refine pf_3_9 (pc := 147) cx hv0 t1_131 dX3_findCofactors_147 ?_
            refine p_mem (fun M15 eM15 => ?_)
            have hw := hw M15 eM15
            have hM15 : TYR G M15.2.2.1 := by rw [eM15]; exact hM14
            refine p_aload_n (pc := 150) cx dX3_findCofactors_150 rfl 0 rfl ?_
            refine gf_3_8 (pc := 151) cx hv0 t1_130 dX3_findCofactors_151 ?_
            refine p_lload (pc := 154) cx dX3_findCofactors_154 4 rfl ?_
            refine p_aload_n (pc := 156) cx dX3_findCofactors_156 rfl 0 rfl ?_
            refine gf_3_10 (pc := 157) cx hv0 t1_132 dX3_findCofactors_157 ?_
            refine p_lmul (pc := 160) cx dX3_findCofactors_160 ?_
            refine p_lsub (pc := 161) cx dX3_findCofactors_161 ?_
            refine p_topl (fun x11_16 ex11_16 => ?_)
            have hw := hw x11_16 ex11_16
            refine p_lstore (pc := 162) (lv' := [(0, .ref v0), (2, .long v2), (4, .long v4), (6, .int v6), (7, .long x7_12), (11, .long x11_16)]) cx dX3_findCofactors_162 (by decide) [1, 2, 3, 4, 5, 0] rfl ?_
            refine p_aload_n (pc := 164) cx dX3_findCofactors_164 rfl 0 rfl ?_
            refine p_aload_n (pc := 165) cx dX3_findCofactors_165 rfl 0 rfl ?_
            refine gf_3_10 (pc := 166) cx hv0 t1_132 dX3_findCofactors_166 ?_
            refine pf_3_8 (pc := 169) cx hv0 t1_130 dX3_findCofactors_169 ?_
            refine p_mem (fun M17 eM17 => ?_)
            have hw := hw M17 eM17
            have hM17 : TYR G M17.2.2.1 := by rw [eM17]; exact hM15
            refine p_aload_n (pc := 172) cx dX3_findCofactors_172 rfl 0 rfl ?_
            refine p_lload (pc := 173) cx dX3_findCofactors_173 5 rfl ?_
            refine pf_3_10 (pc := 175) cx hv0 t1_132 dX3_findCofactors_175 ?_
            refine p_mem (fun M18 eM18 => ?_)
            have hw := hw M18 eM18
            have hM18 : TYR G M18.2.2.1 := by rw [eM18]; exact hM17
            refine p_lload_n (pc := 178) cx dX3_findCofactors_178 rfl 1 rfl ?_
            refine p_lload (pc := 179) cx dX3_findCofactors_179 4 rfl ?_
            refine p_lload (pc := 181) cx dX3_findCofactors_181 2 rfl ?_
            refine p_lmul (pc := 183) cx dX3_findCofactors_183 ?_
            refine p_lsub (pc := 184) cx dX3_findCofactors_184 ?_
            refine p_topl (fun x13_19 ex13_19 => ?_)
            have hw := hw x13_19 ex13_19
            refine p_lstore (pc := 185) (lv' := [(0, .ref v0), (4, .long v4), (6, .int v6), (13, .long x13_19)]) cx dX3_findCofactors_185 (by decide) [1, 3, 4, 0] rfl ?_
            refine p_lload (pc := 187) cx dX3_findCofactors_187 1 rfl ?_
            refine p_lstore_n (pc := 189) (lv' := [(0, .ref v0), (2, .long v4), (6, .int v6), (13, .long x13_19)]) cx dX3_findCofactors_189 rfl (by decide) [1, 0, 3, 4] rfl ?_
            refine p_lload (pc := 190) cx dX3_findCofactors_190 3 rfl ?_
            refine p_lstore (pc := 192) (lv' := [(0, .ref v0), (2, .long v4), (4, .long x13_19), (6, .int v6)]) cx dX3_findCofactors_192 (by decide) [1, 2, 0, 3] rfl ?_
            obtain ⟨x6_20, ex6_20⟩ : ∃ y : Int32, y = v6 + 1 := ⟨_, rfl⟩
            have hw := hw x6_20 ex6_20
            refine p_iinc (pc := 194) (v := x6_20) (lv' := [(0, .ref v0), (2, .long v4), (4, .long x13_19), (6, .int x6_20)]) cx dX3_findCofactors_194 3 rfl (by rw [ex6_20]; rfl) (by decide) [1, 2, 3, 0] rfl ?_
            refine p_goto (pc := 197) (tgt := 53) cx dX3_findCofactors_197 (by decide) ?_
            exact ih v0 v4 x13_19 x6_20 M18 hM18 hv0 hw
          · have hw := hw.2 (fun q => hc ((lg_cmp_eq _ _).mpr q))
            exact p_vret (pc := 121) cx hr hlk dX3_findCofactors_121 hT hw
        · have hw := hw.2 ((lg_cmp_eq _ _).mp hc)
          exact p_vret (pc := 84) cx hr hlk dX3_findCofactors_84 hT hw
set_option maxHeartbeats 4000000 in
set_option maxRecDepth 100000 in
theorem c_X3_findCofactors {l : Launch} {D : va_G} {G : SH} (hND : ND G) {a0 : Nat} {M : MS} {Qp : MS → Prop} (hT : TYR G M.2.2.1) (ha0 : Is G 3 a0) (hw : w_X3_findCofactors G a0 M Qp) : MeV l D G yX3_findCofactors (Cond.code yX3_findCofactors cX3_findCofactors 15 none :: GW) rm_X3_findCofactors [.ref a0] M Qp := by
  unfold MeV
  refine p_method (by decide) rfl (Nat.le_of_ble_eq_true rfl) hND ?_
  intro p e s m args below meth c cx hr hlk
  have cx : CX p s m args c D G cX3_findCofactors 15 RX3 := cx
  unfold w_X3_findCofactors at hw
  refine p_aload_n (pc := 0) cx dX3_findCofactors_0 rfl 0 rfl ?_
  refine gf_3_3 (pc := 1) cx ha0 t1_125 dX3_findCofactors_1 ?_
  have hr_1 : Is G 8 (mR M a0 3) := TYR.at hT ha0 3 8 rfl (by decide)
  refine p_callVi (pc := 4) [] cx (c_X9_bits cx.2.2.2.2.2.2 hT hr_1 hw) cf_X9_bits cv_X9_bits t3_80 hr_1 ⟨by decide, rfl, rfl⟩ ⟨rfl, rfl⟩ ⟨Nat.le_of_ble_eq_true rfl, Nat.le_of_ble_eq_true rfl⟩ rfl rfl (Nat.le_of_ble_eq_true rfl) dX3_findCofactors_4 (fun r2 M2 hw hM2 => ?_)
  refine p_bipush (pc := 7) (v := 32) cx dX3_findCofactors_7 (by decide) ?_
  refine p_isub (pc := 9) cx dX3_findCofactors_9 ?_
  refine p_topi (fun x1_3 ex1_3 => ?_)
  have hw := hw x1_3 ex1_3
  refine p_istore_n (pc := 10) (lv' := [(0, .ref a0), (1, .int x1_3)]) cx dX3_findCofactors_10 rfl (by decide) [1, 0] rfl ?_
  refine p_aload_n (pc := 11) cx dX3_findCofactors_11 rfl 0 rfl ?_
  refine gf_3_3 (pc := 12) cx ha0 t1_125 dX3_findCofactors_12 ?_
  have hr_4 : Is G 8 (mR M2 a0 3) := TYR.at hM2 ha0 3 8 rfl (by decide)
  refine p_iload_n (pc := 15) cx dX3_findCofactors_15 rfl 1 rfl ?_
  refine p_callVl (pc := 16) [.int x1_3] cx (c_X9_window cx.2.2.2.2.2.2 hM2 hr_4 hw) cf_X9_window cv_X9_window t3_81 hr_4 ⟨by decide, rfl, rfl⟩ ⟨rfl, rfl⟩ ⟨Nat.le_of_ble_eq_true rfl, Nat.le_of_ble_eq_true rfl⟩ rfl rfl (Nat.le_of_ble_eq_true rfl) dX3_findCofactors_16 (fun r5 M5 hw hM5 => ?_)
  refine p_lstore_n (pc := 19) (lv' := [(0, .ref a0), (1, .int x1_3), (2, .long r5)]) cx dX3_findCofactors_19 rfl (by decide) [1, 2, 0] rfl ?_
  refine p_aload_n (pc := 20) cx dX3_findCofactors_20 rfl 0 rfl ?_
  refine gf_3_4 (pc := 21) cx ha0 t1_126 dX3_findCofactors_21 ?_
  have hr_6 : Is G 8 (mR M5 a0 4) := TYR.at hM5 ha0 4 8 rfl (by decide)
  refine p_iload_n (pc := 24) cx dX3_findCofactors_24 rfl 1 rfl ?_
  refine p_callVl (pc := 25) [.int x1_3] cx (c_X9_window cx.2.2.2.2.2.2 hM5 hr_6 hw) cf_X9_window cv_X9_window t3_81 hr_6 ⟨by decide, rfl, rfl⟩ ⟨rfl, rfl⟩ ⟨Nat.le_of_ble_eq_true rfl, Nat.le_of_ble_eq_true rfl⟩ rfl rfl (Nat.le_of_ble_eq_true rfl) dX3_findCofactors_25 (fun r7 M7 hw hM7 => ?_)
  refine p_lstore (pc := 28) (lv' := [(0, .ref a0), (2, .long r5), (4, .long r7)]) cx dX3_findCofactors_28 (by decide) [1, 3, 0] rfl ?_
  refine p_aload_n (pc := 30) cx dX3_findCofactors_30 rfl 0 rfl ?_
  refine p_lconst (pc := 31) (v := 1) cx dX3_findCofactors_31 (by decide) ?_
  refine pf_3_7 (pc := 32) cx ha0 t1_129 dX3_findCofactors_32 ?_
  refine p_mem (fun M8 eM8 => ?_)
  have hw := hw M8 eM8
  have hM8 : TYR G M8.2.2.1 := by rw [eM8]; exact hM7
  refine p_aload_n (pc := 35) cx dX3_findCofactors_35 rfl 0 rfl ?_
  refine p_lconst (pc := 36) (v := 0) cx dX3_findCofactors_36 (by decide) ?_
  refine pf_3_8 (pc := 37) cx ha0 t1_130 dX3_findCofactors_37 ?_
  refine p_mem (fun M9 eM9 => ?_)
  have hw := hw M9 eM9
  have hM9 : TYR G M9.2.2.1 := by rw [eM9]; exact hM8
  refine p_aload_n (pc := 40) cx dX3_findCofactors_40 rfl 0 rfl ?_
  refine p_lconst (pc := 41) (v := 0) cx dX3_findCofactors_41 (by decide) ?_
  refine pf_3_9 (pc := 42) cx ha0 t1_131 dX3_findCofactors_42 ?_
  refine p_mem (fun M10 eM10 => ?_)
  have hw := hw M10 eM10
  have hM10 : TYR G M10.2.2.1 := by rw [eM10]; exact hM9
  refine p_aload_n (pc := 45) cx dX3_findCofactors_45 rfl 0 rfl ?_
  refine p_lconst (pc := 46) (v := 1) cx dX3_findCofactors_46 (by decide) ?_
  refine pf_3_10 (pc := 47) cx ha0 t1_132 dX3_findCofactors_47 ?_
  refine p_mem (fun M11 eM11 => ?_)
  have hw := hw M11 eM11
  have hM11 : TYR G M11.2.2.1 := by rw [eM11]; exact hM10
  refine p_iconst (pc := 50) (v := 0) cx dX3_findCofactors_50 (by decide) ?_
  refine p_istore (pc := 51) (lv' := [(0, .ref a0), (2, .long r5), (4, .long r7), (6, .int (0 : Int32))]) cx dX3_findCofactors_51 (by decide) [1, 2, 3, 0] rfl ?_
  obtain ⟨n1, hw⟩ := hw
  exact x_X3_findCofactors_53 cx hr hlk n1 a0 r5 r7 0 M11 hM11 ha0 hw
set_option maxHeartbeats 4000000 in
set_option maxRecDepth 100000 in
theorem c_X3_takeStep {l : Launch} {D : va_G} {G : SH} (hND : ND G) {a0 : Nat} {M : MS} {Qp : MS → Prop} (hT : TYR G M.2.2.1) (ha0 : Is G 3 a0) (hw : w_X3_takeStep G a0 M Qp) : MeV l D G yX3_takeStep (Cond.code yX3_takeStep cX3_takeStep 2 none :: GW) rm_X3_takeStep [.ref a0] M Qp := by
  unfold MeV
  refine p_method (by decide) rfl (Nat.le_of_ble_eq_true rfl) hND ?_
  intro p e s m args below meth c cx hr hlk
  have cx : CX p s m args c D G cX3_takeStep 2 RX3 := cx
  unfold w_X3_takeStep at hw
  refine p_aload_n (pc := 0) cx dX3_takeStep_0 rfl 0 rfl ?_
  refine gf_3_1 (pc := 1) cx ha0 t1_123 dX3_takeStep_1 ?_
  have hr_1 : Is G 0 (mR M a0 1) := TYR.at hT ha0 1 0 rfl (by decide)
  refine p_aload_n (pc := 4) cx dX3_takeStep_4 rfl 0 rfl ?_
  refine gf_3_2 (pc := 5) cx ha0 t1_124 dX3_takeStep_5 ?_
  have hr_2 : Is G 8 (mR M a0 2) := TYR.at hT ha0 2 8 rfl (by decide)
  refine p_aload_n (pc := 8) cx dX3_takeStep_8 rfl 0 rfl ?_
  refine gf_3_5 (pc := 9) cx ha0 t1_127 dX3_takeStep_9 ?_
  have hr_3 : Is G 8 (mR M a0 5) := TYR.at hT ha0 5 8 rfl (by decide)
  refine p_aload_n (pc := 12) cx dX3_takeStep_12 rfl 0 rfl ?_
  refine gf_3_3 (pc := 13) cx ha0 t1_125 dX3_takeStep_13 ?_
  have hr_4 : Is G 8 (mR M a0 3) := TYR.at hT ha0 3 8 rfl (by decide)
  refine p_aload_n (pc := 16) cx dX3_takeStep_16 rfl 0 rfl ?_
  refine gf_3_4 (pc := 17) cx ha0 t1_126 dX3_takeStep_17 ?_
  have hr_5 : Is G 8 (mR M a0 4) := TYR.at hT ha0 4 8 rfl (by decide)
  refine p_callVv (pc := 20) [.ref (mR M a0 2), .ref (mR M a0 5), .ref (mR M a0 3), .ref (mR M a0 4)] cx (c_X0_split cx.2.2.2.2.2.2 hT hr_1 hr_2 hr_3 hr_4 hr_5 hw) cf_X0_split cv_X0_split t3_86 hr_1 ⟨by decide, rfl, rfl⟩ ⟨rfl, rfl⟩ ⟨Nat.le_of_ble_eq_true rfl, Nat.le_of_ble_eq_true rfl⟩ rfl rfl (Nat.le_of_ble_eq_true rfl) dX3_takeStep_20 (fun M6 hw hM6 => ?_)
  refine p_aload_n (pc := 23) cx dX3_takeStep_23 rfl 0 rfl ?_
  refine gf_3_3 (pc := 24) cx ha0 t1_125 dX3_takeStep_24 ?_
  have hr_7 : Is G 8 (mR M6 a0 3) := TYR.at hM6 ha0 3 8 rfl (by decide)
  refine p_astore_n (pc := 27) (lv' := [(0, .ref a0), (1, .ref (mR M6 a0 3))]) cx dX3_takeStep_27 rfl (by decide) [1, 0] rfl ?_
  refine p_aload_n (pc := 28) cx dX3_takeStep_28 rfl 0 rfl ?_
  refine p_aload_n (pc := 29) cx dX3_takeStep_29 rfl 0 rfl ?_
  refine gf_3_4 (pc := 30) cx ha0 t1_126 dX3_takeStep_30 ?_
  have hr_8 : Is G 8 (mR M6 a0 4) := TYR.at hM6 ha0 4 8 rfl (by decide)
  refine pf_3_3 (pc := 33) cx ha0 t1_125 dX3_takeStep_33 ?_
  refine p_mem (fun M9 eM9 => ?_)
  have hw := hw M9 eM9
  have hM9 : TYR G M9.2.2.1 := by rw [eM9]; exact TYR.up hM6 ha0 3 8 (by decide) rfl hr_8
  refine p_aload_n (pc := 36) cx dX3_takeStep_36 rfl 0 rfl ?_
  refine p_aload_n (pc := 37) cx dX3_takeStep_37 rfl 0 rfl ?_
  refine gf_3_5 (pc := 38) cx ha0 t1_127 dX3_takeStep_38 ?_
  have hr_10 : Is G 8 (mR M9 a0 5) := TYR.at hM9 ha0 5 8 rfl (by decide)
  refine pf_3_4 (pc := 41) cx ha0 t1_126 dX3_takeStep_41 ?_
  refine p_mem (fun M11 eM11 => ?_)
  have hw := hw M11 eM11
  have hM11 : TYR G M11.2.2.1 := by rw [eM11]; exact TYR.up hM9 ha0 4 8 (by decide) rfl hr_10
  refine p_aload_n (pc := 44) cx dX3_takeStep_44 rfl 0 rfl ?_
  refine p_aload_n (pc := 45) cx dX3_takeStep_45 rfl 1 rfl ?_
  refine pf_3_5 (pc := 46) cx ha0 t1_127 dX3_takeStep_46 ?_
  refine p_mem (fun M12 eM12 => ?_)
  have hw := hw M12 eM12
  have hM12 : TYR G M12.2.2.1 := by rw [eM12]; exact TYR.up hM11 ha0 5 8 (by decide) rfl hr_7
  refine p_aload_n (pc := 49) cx dX3_takeStep_49 rfl 0 rfl ?_
  refine p_dup (pc := 50) cx dX3_takeStep_50 rfl ?_
  refine gf_3_0 (pc := 51) cx ha0 t1_121 dX3_takeStep_51 ?_
  refine p_iconst (pc := 54) (v := 1) cx dX3_takeStep_54 (by decide) ?_
  refine p_iadd (pc := 55) cx dX3_takeStep_55 ?_
  refine pf_3_0 (pc := 56) cx ha0 t1_121 dX3_takeStep_56 ?_
  refine p_mem (fun M13 eM13 => ?_)
  have hw := hw M13 eM13
  have hM13 : TYR G M13.2.2.1 := by rw [eM13]; exact hM12
  exact p_vret (pc := 59) cx hr hlk dX3_takeStep_59 hM13 hw
set_option maxHeartbeats 4000000 in
set_option maxRecDepth 100000 in
theorem x_X3_combine_23 {p : Program} {l : Launch} {e : Env} {s : State} {m : MethodId} {args : Array Value} {below : List Frame} {meth : Method} {c : Code} {D : va_G} {G : SH} {Qp : MS → Prop}  (cx : CX p s m args c D G cX3_combine 10 RX3) (hr : meth.sig.returnType = none) (hlk : meth.locks = false)  : ∀ (n : Nat) (v0 : Nat) (v1 : Nat) (v2 : Int64) (v4 : Int64) (v6 : Int32) (v7 : Int64) (v9 : Int32) (M : MS), TYR G M.2.2.1 → Is G 3 v0 → Is G 8 v1 → w_X3_combine_23 G Qp n v0 v1 v2 v4 v6 v7 v9 M → PW p l e rm_X3_combine s m args below meth c D G 10 (MQ below (va_Qv Qp (POST D G) (AG G)) args s 0 0 (AG G)) 23 [(0, .ref v0), (1, .ref v1), (2, .long v2), (4, .long v4), (6, .int v6), (7, .long v7), (9, .int v9)] [] M := by
  intro n
  induction n with
  | zero =>
    intro v0 v1 v2 v4 v6 v7 v9 M hT hv0 hv1 hw
    exact hw.elim
  | succ n ih =>
    intro v0 v1 v2 v4 v6 v7 v9 M hT hv0 hv1 hw
    rw [w_X3_combine_23] at hw
    refine p_iload (pc := 23) cx dX3_combine_23 6 rfl ?_
    refine p_iload (pc := 25) cx dX3_combine_25 4 rfl ?_
    refine p_icmp_ge (pc := 27) (tgt := 82) cx dX3_combine_27 (by decide) (fun hc => ?_) (fun hc => ?_)
    · have hw := hw.1 hc
      refine p_aload_n (pc := 82) cx dX3_combine_82 rfl 1 rfl ?_
      refine p_iload (pc := 83) cx dX3_combine_83 4 rfl ?_
      refine p_callVv (pc := 85) [.int v6] cx (c_X9_keep cx.2.2.2.2.2.2 hT hv1 hw) cf_X9_keep cv_X9_keep t3_97 hv1 ⟨by decide, rfl, rfl⟩ ⟨rfl, rfl⟩ ⟨Nat.le_of_ble_eq_true rfl, Nat.le_of_ble_eq_true rfl⟩ rfl rfl (Nat.le_of_ble_eq_true rfl) dX3_combine_85 (fun M4 hw hM4 => ?_)
      exact p_vret (pc := 88) cx hr hlk dX3_combine_88 hM4 hw
    · have hw := hw.2 hc
      refine p_lload (pc := 30) cx dX3_combine_30 5 rfl ?_
      refine p_lload_n (pc := 32) cx dX3_combine_32 rfl 2 rfl ?_
      refine p_aload_n (pc := 33) cx dX3_combine_33 rfl 0 rfl ?_
      refine gf_3_3 (pc := 34) cx hv0 t1_125 dX3_combine_34 ?_
      have hr_5 : Is G 8 (mR M v0 3) := TYR.at hT hv0 3 8 rfl (by decide)
      refine p_iload (pc := 37) cx dX3_combine_37 6 rfl ?_
      refine p_callVl (pc := 39) [.int v9] cx (c_X9_limb cx.2.2.2.2.2.2 hT hr_5 hw) cf_X9_limb cv_X9_limb t3_96 hr_5 ⟨by decide, rfl, rfl⟩ ⟨rfl, rfl⟩ ⟨Nat.le_of_ble_eq_true rfl, Nat.le_of_ble_eq_true rfl⟩ rfl rfl (Nat.le_of_ble_eq_true rfl) dX3_combine_39 (fun r6 M6 hw hM6 => ?_)
      refine p_lmul (pc := 42) cx dX3_combine_42 ?_
      refine p_lload (pc := 43) cx dX3_combine_43 3 rfl ?_
      refine p_aload_n (pc := 45) cx dX3_combine_45 rfl 0 rfl ?_
      refine gf_3_4 (pc := 46) cx hv0 t1_126 dX3_combine_46 ?_
      have hr_7 : Is G 8 (mR M6 v0 4) := TYR.at hM6 hv0 4 8 rfl (by decide)
      refine p_iload (pc := 49) cx dX3_combine_49 6 rfl ?_
      refine p_callVl (pc := 51) [.int v9] cx (c_X9_limb cx.2.2.2.2.2.2 hM6 hr_7 hw) cf_X9_limb cv_X9_limb t3_96 hr_7 ⟨by decide, rfl, rfl⟩ ⟨rfl, rfl⟩ ⟨Nat.le_of_ble_eq_true rfl, Nat.le_of_ble_eq_true rfl⟩ rfl rfl (Nat.le_of_ble_eq_true rfl) dX3_combine_51 (fun r8 M8 hw hM8 => ?_)
      refine p_lmul (pc := 54) cx dX3_combine_54 ?_
      refine p_ladd (pc := 55) cx dX3_combine_55 ?_
      refine p_ladd (pc := 56) cx dX3_combine_56 ?_
      refine p_topl (fun x7_9 ex7_9 => ?_)
      have hw := hw x7_9 ex7_9
      refine p_lstore (pc := 57) (lv' := [(0, .ref v0), (1, .ref v1), (2, .long v2), (4, .long v4), (6, .int v6), (7, .long x7_9), (9, .int v9)]) cx dX3_combine_57 (by decide) [1, 2, 3, 4, 5, 0, 6] rfl ?_
      refine p_aload_n (pc := 59) cx dX3_combine_59 rfl 1 rfl ?_
      refine gf_8_0 (pc := 60) cx hv1 t1_47 dX3_combine_60 ?_
      have hr_10 : Is G 12 (mR M8 v1 0) := TYR.at hM8 hv1 0 12 rfl (by decide)
      refine p_iload (pc := 63) cx dX3_combine_63 6 rfl ?_
      refine p_lload (pc := 65) cx dX3_combine_65 5 rfl ?_
      refine p_l2i (pc := 67) cx dX3_combine_67 ?_
      refine p_iast (pc := 68) cx hr_10 hw.1 dX3_combine_68 ?_
      have hw := hw.2
      refine p_mem (fun M11 eM11 => ?_)
      have hw := hw M11 eM11
      have hM11 : TYR G M11.2.2.1 := by rw [eM11]; exact hM8
      refine p_lload (pc := 69) cx dX3_combine_69 5 rfl ?_
      refine p_bipush (pc := 71) (v := 32) cx dX3_combine_71 (by decide) ?_
      refine p_lshr (pc := 73) cx dX3_combine_73 ?_
      refine p_topl (fun x7_12 ex7_12 => ?_)
      have hw := hw x7_12 ex7_12
      refine p_lstore (pc := 74) (lv' := [(0, .ref v0), (1, .ref v1), (2, .long v2), (4, .long v4), (6, .int v6), (7, .long x7_12), (9, .int v9)]) cx dX3_combine_74 (by decide) [1, 2, 3, 4, 5, 0, 6] rfl ?_
      obtain ⟨x9_13, ex9_13⟩ : ∃ y : Int32, y = v9 + 1 := ⟨_, rfl⟩
      have hw := hw x9_13 ex9_13
      refine p_iinc (pc := 76) (v := x9_13) (lv' := [(0, .ref v0), (1, .ref v1), (2, .long v2), (4, .long v4), (6, .int v6), (7, .long x7_12), (9, .int x9_13)]) cx dX3_combine_76 6 rfl (by rw [ex9_13]; rfl) (by decide) [1, 2, 3, 4, 5, 6, 0] rfl ?_
      refine p_goto (pc := 79) (tgt := 23) cx dX3_combine_79 (by decide) ?_
      exact ih v0 v1 v2 v4 v6 x7_12 x9_13 M11 hM11 hv0 hv1 hw
set_option maxHeartbeats 4000000 in
set_option maxRecDepth 100000 in
theorem c_X3_combine {l : Launch} {D : va_G} {G : SH} (hND : ND G) {a0 : Nat} {a1 : Nat} {a2 : Int64} {a3 : Int64} {M : MS} {Qp : MS → Prop} (hT : TYR G M.2.2.1) (ha0 : Is G 3 a0) (ha1 : Is G 8 a1) (hw : w_X3_combine G a0 a1 a2 a3 M Qp) : MeV l D G yX3_combine (Cond.code yX3_combine cX3_combine 10 none :: GW) rm_X3_combine [.ref a0, .ref a1, .long a2, .long a3] M Qp := by
  unfold MeV
  refine p_method (by decide) rfl (Nat.le_of_ble_eq_true rfl) hND ?_
  intro p e s m args below meth c cx hr hlk
  have cx : CX p s m args c D G cX3_combine 10 RX3 := cx
  unfold w_X3_combine at hw
  refine p_aload_n (pc := 0) cx dX3_combine_0 rfl 0 rfl ?_
  refine gf_3_3 (pc := 1) cx ha0 t1_125 dX3_combine_1 ?_
  have hr_1 : Is G 8 (mR M a0 3) := TYR.at hT ha0 3 8 rfl (by decide)
  refine gf_8_1 (pc := 4) cx hr_1 t1_56 dX3_combine_4 ?_
  refine p_aload_n (pc := 7) cx dX3_combine_7 rfl 1 rfl ?_
  refine gf_8_0 (pc := 8) cx ha1 t1_47 dX3_combine_8 ?_
  have hr_2 : Is G 12 (mR M a1 0) := TYR.at hT ha1 0 12 rfl (by decide)
  refine p_alenI (pc := 11) cx hr_2 dX3_combine_11 ?_
  refine p_min (pc := 12) cx t3_95 t1_30 t1_2 t1_31 ⟨Nat.le_of_ble_eq_true rfl, Nat.le_of_ble_eq_true rfl⟩ dX3_combine_12 ?_
  refine p_topi (fun y_3 ey_3 => ?_)
  have hw := hw y_3 ey_3
  refine p_istore (pc := 15) (lv' := [(0, .ref a0), (1, .ref a1), (2, .long a2), (4, .long a3), (6, .int y_3)]) cx dX3_combine_15 (by decide) [1, 2, 3, 4, 0] rfl ?_
  refine p_lconst (pc := 17) (v := 0) cx dX3_combine_17 (by decide) ?_
  refine p_lstore (pc := 18) (lv' := [(0, .ref a0), (1, .ref a1), (2, .long a2), (4, .long a3), (6, .int y_3), (7, .long (0 : Int64))]) cx dX3_combine_18 (by decide) [1, 2, 3, 4, 5, 0] rfl ?_
  refine p_iconst (pc := 20) (v := 0) cx dX3_combine_20 (by decide) ?_
  refine p_istore (pc := 21) (lv' := [(0, .ref a0), (1, .ref a1), (2, .long a2), (4, .long a3), (6, .int y_3), (7, .long (0 : Int64)), (9, .int (0 : Int32))]) cx dX3_combine_21 (by decide) [1, 2, 3, 4, 5, 6, 0] rfl ?_
  obtain ⟨n1, hw⟩ := hw
  exact x_X3_combine_23 cx hr hlk n1 a0 a1 a2 a3 y_3 0 0 M hT ha0 ha1 hw
set_option maxHeartbeats 4000000 in
set_option maxRecDepth 100000 in
theorem c_X3_combineBoth {l : Launch} {D : va_G} {G : SH} (hND : ND G) {a0 : Nat} {M : MS} {Qp : MS → Prop} (hT : TYR G M.2.2.1) (ha0 : Is G 3 a0) (hw : w_X3_combineBoth G a0 M Qp) : MeV l D G yX3_combineBoth (Cond.code yX3_combineBoth cX3_combineBoth 3 none :: GW) rm_X3_combineBoth [.ref a0] M Qp := by
  unfold MeV
  refine p_method (by decide) rfl (Nat.le_of_ble_eq_true rfl) hND ?_
  intro p e s m args below meth c cx hr hlk
  have cx : CX p s m args c D G cX3_combineBoth 3 RX3 := cx
  unfold w_X3_combineBoth at hw
  refine p_aload_n (pc := 0) cx dX3_combineBoth_0 rfl 0 rfl ?_
  refine p_aload_n (pc := 1) cx dX3_combineBoth_1 rfl 0 rfl ?_
  refine gf_3_5 (pc := 2) cx ha0 t1_127 dX3_combineBoth_2 ?_
  have hr_1 : Is G 8 (mR M a0 5) := TYR.at hT ha0 5 8 rfl (by decide)
  refine p_aload_n (pc := 5) cx dX3_combineBoth_5 rfl 0 rfl ?_
  refine gf_3_7 (pc := 6) cx ha0 t1_129 dX3_combineBoth_6 ?_
  refine p_aload_n (pc := 9) cx dX3_combineBoth_9 rfl 0 rfl ?_
  refine gf_3_8 (pc := 10) cx ha0 t1_130 dX3_combineBoth_10 ?_
  refine p_callVv (pc := 13) [.ref (mR M a0 5), .long (mJ M a0 7), .long (mJ M a0 8)] cx (c_X3_combine cx.2.2.2.2.2.2 hT ha0 hr_1 hw) cf_X3_combine cv_X3_combine t3_91 ha0 ⟨by decide, rfl, rfl⟩ ⟨rfl, rfl⟩ ⟨Nat.le_of_ble_eq_true rfl, Nat.le_of_ble_eq_true rfl⟩ rfl rfl (Nat.le_of_ble_eq_true rfl) dX3_combineBoth_13 (fun M2 hw hM2 => ?_)
  refine p_aload_n (pc := 16) cx dX3_combineBoth_16 rfl 0 rfl ?_
  refine p_aload_n (pc := 17) cx dX3_combineBoth_17 rfl 0 rfl ?_
  refine gf_3_6 (pc := 18) cx ha0 t1_128 dX3_combineBoth_18 ?_
  have hr_3 : Is G 8 (mR M2 a0 6) := TYR.at hM2 ha0 6 8 rfl (by decide)
  refine p_aload_n (pc := 21) cx dX3_combineBoth_21 rfl 0 rfl ?_
  refine gf_3_9 (pc := 22) cx ha0 t1_131 dX3_combineBoth_22 ?_
  refine p_aload_n (pc := 25) cx dX3_combineBoth_25 rfl 0 rfl ?_
  refine gf_3_10 (pc := 26) cx ha0 t1_132 dX3_combineBoth_26 ?_
  refine p_callVv (pc := 29) [.ref (mR M2 a0 6), .long (mJ M2 a0 9), .long (mJ M2 a0 10)] cx (c_X3_combine cx.2.2.2.2.2.2 hM2 ha0 hr_3 hw) cf_X3_combine cv_X3_combine t3_91 ha0 ⟨by decide, rfl, rfl⟩ ⟨rfl, rfl⟩ ⟨Nat.le_of_ble_eq_true rfl, Nat.le_of_ble_eq_true rfl⟩ rfl rfl (Nat.le_of_ble_eq_true rfl) dX3_combineBoth_29 (fun M4 hw hM4 => ?_)
  refine p_aload_n (pc := 32) cx dX3_combineBoth_32 rfl 0 rfl ?_
  refine gf_3_3 (pc := 33) cx ha0 t1_125 dX3_combineBoth_33 ?_
  have hr_5 : Is G 8 (mR M4 a0 3) := TYR.at hM4 ha0 3 8 rfl (by decide)
  refine p_astore_n (pc := 36) (lv' := [(0, .ref a0), (1, .ref (mR M4 a0 3))]) cx dX3_combineBoth_36 rfl (by decide) [1, 0] rfl ?_
  refine p_aload_n (pc := 37) cx dX3_combineBoth_37 rfl 0 rfl ?_
  refine gf_3_4 (pc := 38) cx ha0 t1_126 dX3_combineBoth_38 ?_
  have hr_6 : Is G 8 (mR M4 a0 4) := TYR.at hM4 ha0 4 8 rfl (by decide)
  refine p_astore_n (pc := 41) (lv' := [(0, .ref a0), (1, .ref (mR M4 a0 3)), (2, .ref (mR M4 a0 4))]) cx dX3_combineBoth_41 rfl (by decide) [1, 2, 0] rfl ?_
  refine p_aload_n (pc := 42) cx dX3_combineBoth_42 rfl 0 rfl ?_
  refine p_aload_n (pc := 43) cx dX3_combineBoth_43 rfl 0 rfl ?_
  refine gf_3_5 (pc := 44) cx ha0 t1_127 dX3_combineBoth_44 ?_
  have hr_7 : Is G 8 (mR M4 a0 5) := TYR.at hM4 ha0 5 8 rfl (by decide)
  refine pf_3_3 (pc := 47) cx ha0 t1_125 dX3_combineBoth_47 ?_
  refine p_mem (fun M8 eM8 => ?_)
  have hw := hw M8 eM8
  have hM8 : TYR G M8.2.2.1 := by rw [eM8]; exact TYR.up hM4 ha0 3 8 (by decide) rfl hr_7
  refine p_aload_n (pc := 50) cx dX3_combineBoth_50 rfl 0 rfl ?_
  refine p_aload_n (pc := 51) cx dX3_combineBoth_51 rfl 0 rfl ?_
  refine gf_3_6 (pc := 52) cx ha0 t1_128 dX3_combineBoth_52 ?_
  have hr_9 : Is G 8 (mR M8 a0 6) := TYR.at hM8 ha0 6 8 rfl (by decide)
  refine pf_3_4 (pc := 55) cx ha0 t1_126 dX3_combineBoth_55 ?_
  refine p_mem (fun M10 eM10 => ?_)
  have hw := hw M10 eM10
  have hM10 : TYR G M10.2.2.1 := by rw [eM10]; exact TYR.up hM8 ha0 4 8 (by decide) rfl hr_9
  refine p_aload_n (pc := 58) cx dX3_combineBoth_58 rfl 0 rfl ?_
  refine p_aload_n (pc := 59) cx dX3_combineBoth_59 rfl 1 rfl ?_
  refine pf_3_5 (pc := 60) cx ha0 t1_127 dX3_combineBoth_60 ?_
  refine p_mem (fun M11 eM11 => ?_)
  have hw := hw M11 eM11
  have hM11 : TYR G M11.2.2.1 := by rw [eM11]; exact TYR.up hM10 ha0 5 8 (by decide) rfl hr_5
  refine p_aload_n (pc := 63) cx dX3_combineBoth_63 rfl 0 rfl ?_
  refine p_aload_n (pc := 64) cx dX3_combineBoth_64 rfl 2 rfl ?_
  refine pf_3_6 (pc := 65) cx ha0 t1_128 dX3_combineBoth_65 ?_
  refine p_mem (fun M12 eM12 => ?_)
  have hw := hw M12 eM12
  have hM12 : TYR G M12.2.2.1 := by rw [eM12]; exact TYR.up hM11 ha0 6 8 (by decide) rfl hr_6
  exact p_vret (pc := 68) cx hr hlk dX3_combineBoth_68 hM12 hw
set_option maxHeartbeats 4000000 in
set_option maxRecDepth 100000 in
theorem x_X3_divisorOfLimbs_9 {p : Program} {l : Launch} {e : Env} {s : State} {m : MethodId} {args : Array Value} {below : List Frame} {meth : Method} {c : Code} {D : va_G} {G : SH} {Qp : Int32 → MS → Prop}  (cx : CX p s m args c D G cX3_divisorOfLimbs 11 RX3) (hr : meth.sig.returnType = (some .int)) (hlk : meth.locks = false)  : ∀ (n : Nat) (v4 : Int64) (v6 : Int64) (v8 : Int32) (M : MS), TYR G M.2.2.1 → w_X3_divisorOfLimbs_9 G Qp n v4 v6 v8 M → PW p l e rm_X3_divisorOfLimbs s m args below meth c D G 11 (MQ below (va_Qi Qp (POST D G) (AG G)) args s 0 0 (AG G)) 9 [(4, .long v4), (6, .long v6), (8, .int v8)] [] M := by
  intro n
  induction n with
  | zero =>
    intro v4 v6 v8 M hT hw
    exact hw.elim
  | succ n ih =>
    intro v4 v6 v8 M hT hw
    rw [w_X3_divisorOfLimbs_9] at hw
    refine p_iload (pc := 9) cx dX3_divisorOfLimbs_9 2 rfl ?_
    refine p_ldc (pc := 11) cx dX3_divisorOfLimbs_11 t3_75 ?_
    refine p_icmp_ge (pc := 13) (tgt := 44) cx dX3_divisorOfLimbs_13 (by decide) (fun hc => ?_) (fun hc => ?_)
    · have hw := hw.1 hc
      refine p_lload (pc := 44) cx dX3_divisorOfLimbs_44 0 rfl ?_
      refine p_l2i (pc := 46) cx dX3_divisorOfLimbs_46 ?_
      exact p_iret (pc := 47) cx hr hlk dX3_divisorOfLimbs_47 hT hw
    · have hw := hw.2 hc
      refine p_lload (pc := 16) cx dX3_divisorOfLimbs_16 1 rfl ?_
      refine p_lconst (pc := 18) (v := 0) cx dX3_divisorOfLimbs_18 (by decide) ?_
      refine p_lcmp (pc := 19) cx dX3_divisorOfLimbs_19 ?_
      refine p_if_eq (pc := 20) (tgt := 44) cx dX3_divisorOfLimbs_20 (by decide) (fun hc => ?_) (fun hc => ?_)
      · have hw := hw.1 ((lg_cmp_eq _ _).mp hc)
        refine p_lload (pc := 44) cx dX3_divisorOfLimbs_44 0 rfl ?_
        refine p_l2i (pc := 46) cx dX3_divisorOfLimbs_46 ?_
        exact p_iret (pc := 47) cx hr hlk dX3_divisorOfLimbs_47 hT hw
      · have hw := hw.2 (fun q => hc ((lg_cmp_eq _ _).mpr q))
        refine p_lload (pc := 23) cx dX3_divisorOfLimbs_23 0 rfl ?_
        refine p_lload (pc := 25) cx dX3_divisorOfLimbs_25 1 rfl ?_
        refine p_lrem (pc := 27) cx dX3_divisorOfLimbs_27 hw.1 ?_
        have hw := hw.2
        refine p_topl (fun x9_1 ex9_1 => ?_)
        have hw := hw x9_1 ex9_1
        refine p_lstore (pc := 28) (lv' := [(6, .long v6), (8, .int v8), (9, .long x9_1)]) cx dX3_divisorOfLimbs_28 (by decide) [2, 3, 0] rfl ?_
        refine p_lload (pc := 30) cx dX3_divisorOfLimbs_30 0 rfl ?_
        refine p_lstore (pc := 32) (lv' := [(4, .long v6), (8, .int v8), (9, .long x9_1)]) cx dX3_divisorOfLimbs_32 (by decide) [0, 2, 3] rfl ?_
        refine p_lload (pc := 34) cx dX3_divisorOfLimbs_34 2 rfl ?_
        refine p_lstore (pc := 36) (lv' := [(4, .long v6), (6, .long x9_1), (8, .int v8)]) cx dX3_divisorOfLimbs_36 (by decide) [1, 0, 2] rfl ?_
        obtain ⟨x8_2, ex8_2⟩ : ∃ y : Int32, y = v8 + 1 := ⟨_, rfl⟩
        have hw := hw x8_2 ex8_2
        refine p_iinc (pc := 38) (v := x8_2) (lv' := [(4, .long v6), (6, .long x9_1), (8, .int x8_2)]) cx dX3_divisorOfLimbs_38 2 rfl (by rw [ex8_2]; rfl) (by decide) [1, 2, 0] rfl ?_
        refine p_goto (pc := 41) (tgt := 9) cx dX3_divisorOfLimbs_41 (by decide) ?_
        exact ih v6 x9_1 x8_2 M hT hw
set_option maxHeartbeats 4000000 in
set_option maxRecDepth 100000 in
theorem c_X3_divisorOfLimbs {l : Launch} {D : va_G} {G : SH} (hND : ND G) {a0 : Int64} {a1 : Int64} {M : MS} {Qp : Int32 → MS → Prop} (hT : TYR G M.2.2.1)  (hw : w_X3_divisorOfLimbs G a0 a1 M Qp) : MeI l D G yX3_divisorOfLimbs (Cond.code yX3_divisorOfLimbs cX3_divisorOfLimbs 11 (some .int) :: GW) rm_X3_divisorOfLimbs [.long a0, .long a1] M Qp := by
  unfold MeI
  refine p_method (by decide) rfl (Nat.le_of_ble_eq_true rfl) hND ?_
  intro p e s m args below meth c cx hr hlk
  have cx : CX p s m args c D G cX3_divisorOfLimbs 11 RX3 := cx
  unfold w_X3_divisorOfLimbs at hw
  refine p_lload_n (pc := 0) cx dX3_divisorOfLimbs_0 rfl 0 rfl ?_
  refine p_lstore (pc := 1) (lv' := [(2, .long a1), (4, .long a0)]) cx dX3_divisorOfLimbs_1 (by decide) [2, 0] rfl ?_
  refine p_lload_n (pc := 3) cx dX3_divisorOfLimbs_3 rfl 0 rfl ?_
  refine p_lstore (pc := 4) (lv' := [(4, .long a0), (6, .long a1)]) cx dX3_divisorOfLimbs_4 (by decide) [2, 0] rfl ?_
  refine p_iconst (pc := 6) (v := 0) cx dX3_divisorOfLimbs_6 (by decide) ?_
  refine p_istore (pc := 7) (lv' := [(4, .long a0), (6, .long a1), (8, .int (0 : Int32))]) cx dX3_divisorOfLimbs_7 (by decide) [1, 2, 0] rfl ?_
  obtain ⟨n1, hw⟩ := hw
  exact x_X3_divisorOfLimbs_9 cx hr hlk n1 a0 a1 0 M hT hw
set_option maxHeartbeats 4000000 in
set_option maxRecDepth 100000 in
theorem x_X3_divisor_143 {p : Program} {l : Launch} {e : Env} {s : State} {m : MethodId} {args : Array Value} {below : List Frame} {meth : Method} {c : Code} {D : va_G} {G : SH} {Qp : Nat → MS → Prop}  (cx : CX p s m args c D G cX3_divisor 5 RX3) (hr : meth.sig.returnType = (some (.object "GcdMill$Whole"))) (hlk : meth.locks = false)  (v0 : Nat) (M : MS) (hT : TYR G M.2.2.1) (hv0 : Is G 3 v0) (hw : w_X3_divisor_143 G Qp v0 M) : PW p l e rm_X3_divisor s m args below meth c D G 5 (MQ below (va_Qr (fun _ : MS => True) (fun N a t => Qp a N ∧ Is G 8 a ∧ POST D G N t) (AG G)) args s 0 0 (AG G)) 143 [(0, .ref v0)] [] M := by
  unfold w_X3_divisor_143 at hw
  refine p_aload_n (pc := 143) cx dX3_divisor_143 rfl 0 rfl ?_
  refine gf_3_4 (pc := 144) cx hv0 t1_126 dX3_divisor_144 ?_
  have hr_12 : Is G 8 (mR M v0 4) := TYR.at hT hv0 4 8 rfl (by decide)
  refine gf_8_1 (pc := 147) cx hr_12 t1_56 dX3_divisor_147 ?_
  refine p_if_le (pc := 150) (tgt := 179) cx dX3_divisor_150 (by decide) (fun hc => ?_) (fun hc => ?_)
  · have hw := hw.1 hc
    refine p_aload_n (pc := 179) cx dX3_divisor_179 rfl 0 rfl ?_
    refine gf_3_3 (pc := 180) cx hv0 t1_125 dX3_divisor_180 ?_
    have hr_13 : Is G 8 (mR M v0 3) := TYR.at hT hv0 3 8 rfl (by decide)
    exact p_aret (pc := 183) cx hr hlk dX3_divisor_183 hr_13 hT hw
  · have hw := hw.2 hc
    refine p_aload_n (pc := 153) cx dX3_divisor_153 rfl 0 rfl ?_
    refine gf_3_3 (pc := 154) cx hv0 t1_125 dX3_divisor_154 ?_
    have hr_14 : Is G 8 (mR M v0 3) := TYR.at hT hv0 3 8 rfl (by decide)
    refine p_aload_n (pc := 157) cx dX3_divisor_157 rfl 0 rfl ?_
    refine gf_3_3 (pc := 158) cx hv0 t1_125 dX3_divisor_158 ?_
    have hr_15 : Is G 8 (mR M v0 3) := TYR.at hT hv0 3 8 rfl (by decide)
    refine p_iconst (pc := 161) (v := 0) cx dX3_divisor_161 (by decide) ?_
    refine p_callVl (pc := 162) [.int (0 : Int32)] cx (c_X9_limb cx.2.2.2.2.2.2 hT hr_15 hw) cf_X9_limb cv_X9_limb t3_96 hr_15 ⟨by decide, rfl, rfl⟩ ⟨rfl, rfl⟩ ⟨Nat.le_of_ble_eq_true rfl, Nat.le_of_ble_eq_true rfl⟩ rfl rfl (Nat.le_of_ble_eq_true rfl) dX3_divisor_162 (fun r16 M16 hw hM16 => ?_)
    refine p_aload_n (pc := 165) cx dX3_divisor_165 rfl 0 rfl ?_
    refine gf_3_4 (pc := 166) cx hv0 t1_126 dX3_divisor_166 ?_
    have hr_17 : Is G 8 (mR M16 v0 4) := TYR.at hM16 hv0 4 8 rfl (by decide)
    refine p_iconst (pc := 169) (v := 0) cx dX3_divisor_169 (by decide) ?_
    refine p_callVl (pc := 170) [.int (0 : Int32)] cx (c_X9_limb cx.2.2.2.2.2.2 hM16 hr_17 hw) cf_X9_limb cv_X9_limb t3_96 hr_17 ⟨by decide, rfl, rfl⟩ ⟨rfl, rfl⟩ ⟨Nat.le_of_ble_eq_true rfl, Nat.le_of_ble_eq_true rfl⟩ rfl rfl (Nat.le_of_ble_eq_true rfl) dX3_divisor_170 (fun r18 M18 hw hM18 => ?_)
    refine p_callSi (pc := 173) [.long r16, .long r18] cx (c_X3_divisorOfLimbs cx.2.2.2.2.2.2 hM18 hw) cf_X3_divisorOfLimbs cv_X3_divisorOfLimbs t3_98 ⟨rfl, rfl⟩ ⟨Nat.le_of_ble_eq_true rfl, Nat.le_of_ble_eq_true rfl⟩ rfl rfl (Nat.le_of_ble_eq_true rfl) dX3_divisor_173 (fun r19 M19 hw hM19 => ?_)
    refine p_callVv (pc := 176) [.int r19] cx (c_X9_become cx.2.2.2.2.2.2 hM19 hr_14 hw) cf_X9_become cv_X9_become t3_101 hr_14 ⟨by decide, rfl, rfl⟩ ⟨rfl, rfl⟩ ⟨Nat.le_of_ble_eq_true rfl, Nat.le_of_ble_eq_true rfl⟩ rfl rfl (Nat.le_of_ble_eq_true rfl) dX3_divisor_176 (fun M20 hw hM20 => ?_)
    refine p_aload_n (pc := 179) cx dX3_divisor_179 rfl 0 rfl ?_
    refine gf_3_3 (pc := 180) cx hv0 t1_125 dX3_divisor_180 ?_
    have hr_21 : Is G 8 (mR M20 v0 3) := TYR.at hM20 hv0 3 8 rfl (by decide)
    exact p_aret (pc := 183) cx hr hlk dX3_divisor_183 hr_21 hM20 hw
set_option maxHeartbeats 4000000 in
set_option maxRecDepth 100000 in
theorem x_X3_divisor_118 {p : Program} {l : Launch} {e : Env} {s : State} {m : MethodId} {args : Array Value} {below : List Frame} {meth : Method} {c : Code} {D : va_G} {G : SH} {Qp : Nat → MS → Prop}  (cx : CX p s m args c D G cX3_divisor 5 RX3) (hr : meth.sig.returnType = (some (.object "GcdMill$Whole"))) (hlk : meth.locks = false)  (v0 : Nat) (M : MS) (hT : TYR G M.2.2.1) (hv0 : Is G 3 v0) (hw : w_X3_divisor_118 G Qp v0 M) : PW p l e rm_X3_divisor s m args below meth c D G 5 (MQ below (va_Qr (fun _ : MS => True) (fun N a t => Qp a N ∧ Is G 8 a ∧ POST D G N t) (AG G)) args s 0 0 (AG G)) 118 [(0, .ref v0)] [] M := by
  unfold w_X3_divisor_118 at hw
  refine p_aload_n (pc := 118) cx dX3_divisor_118 rfl 0 rfl ?_
  refine gf_3_4 (pc := 119) cx hv0 t1_126 dX3_divisor_119 ?_
  have hr_11 : Is G 8 (mR M v0 4) := TYR.at hT hv0 4 8 rfl (by decide)
  refine gf_8_1 (pc := 122) cx hr_11 t1_56 dX3_divisor_122 ?_
  refine p_if_le (pc := 125) (tgt := 143) cx dX3_divisor_125 (by decide) (fun hc => ?_) (fun hc => ?_)
  · have hw := hw.1 hc
    exact x_X3_divisor_143 cx hr hlk v0 M hT hv0 hw
  · have hw := hw.2 hc
    refine p_aload_n (pc := 128) cx dX3_divisor_128 rfl 0 rfl ?_
    refine gf_3_3 (pc := 129) cx hv0 t1_125 dX3_divisor_129 ?_
    have hr_22 : Is G 8 (mR M v0 3) := TYR.at hT hv0 3 8 rfl (by decide)
    refine gf_8_1 (pc := 132) cx hr_22 t1_56 dX3_divisor_132 ?_
    refine p_iconst (pc := 135) (v := 1) cx dX3_divisor_135 (by decide) ?_
    refine p_icmp_le (pc := 136) (tgt := 143) cx dX3_divisor_136 (by decide) (fun hc => ?_) (fun hc => ?_)
    · have hw := hw.1 hc
      exact x_X3_divisor_143 cx hr hlk v0 M hT hv0 hw
    · have hw := hw.2 hc
      refine p_aload_n (pc := 139) cx dX3_divisor_139 rfl 0 rfl ?_
      refine p_callVv (pc := 140) [] cx (c_X3_takeStep cx.2.2.2.2.2.2 hT hv0 hw) cf_X3_takeStep cv_X3_takeStep t3_82 hv0 ⟨by decide, rfl, rfl⟩ ⟨rfl, rfl⟩ ⟨Nat.le_of_ble_eq_true rfl, Nat.le_of_ble_eq_true rfl⟩ rfl rfl (Nat.le_of_ble_eq_true rfl) dX3_divisor_140 (fun M23 hw hM23 => ?_)
      exact x_X3_divisor_143 cx hr hlk v0 M23 hM23 hv0 hw
set_option maxHeartbeats 4000000 in
set_option maxRecDepth 100000 in
theorem x_X3_divisor_70 {p : Program} {l : Launch} {e : Env} {s : State} {m : MethodId} {args : Array Value} {below : List Frame} {meth : Method} {c : Code} {D : va_G} {G : SH} {Qp : Nat → MS → Prop}  (cx : CX p s m args c D G cX3_divisor 5 RX3) (hr : meth.sig.returnType = (some (.object "GcdMill$Whole"))) (hlk : meth.locks = false)  : ∀ (n : Nat) (v0 : Nat) (v4 : Int32) (M : MS), TYR G M.2.2.1 → Is G 3 v0 → w_X3_divisor_70 G Qp n v0 v4 M → PW p l e rm_X3_divisor s m args below meth c D G 5 (MQ below (va_Qr (fun _ : MS => True) (fun N a t => Qp a N ∧ Is G 8 a ∧ POST D G N t) (AG G)) args s 0 0 (AG G)) 70 [(0, .ref v0), (4, .int v4)] [] M := by
  intro n
  induction n with
  | zero =>
    intro v0 v4 M hT hv0 hw
    exact hw.elim
  | succ n ih =>
    intro v0 v4 M hT hv0 hw
    rw [w_X3_divisor_70] at hw
    refine p_iload (pc := 70) cx dX3_divisor_70 1 rfl ?_
    refine p_ldc (pc := 72) cx dX3_divisor_72 t3_75 ?_
    refine p_icmp_ge (pc := 74) (tgt := 118) cx dX3_divisor_74 (by decide) (fun hc => ?_) (fun hc => ?_)
    · have hw := hw.1 hc
      refine p_perm (lv' := [(0, .ref v0)]) [0] rfl ?_
      exact x_X3_divisor_118 cx hr hlk v0 M hT hv0 hw
    · have hw := hw.2 hc
      refine p_aload_n (pc := 77) cx dX3_divisor_77 rfl 0 rfl ?_
      refine gf_3_4 (pc := 78) cx hv0 t1_126 dX3_divisor_78 ?_
      have hr_24 : Is G 8 (mR M v0 4) := TYR.at hT hv0 4 8 rfl (by decide)
      refine gf_8_1 (pc := 81) cx hr_24 t1_56 dX3_divisor_81 ?_
      refine p_iconst (pc := 84) (v := 1) cx dX3_divisor_84 (by decide) ?_
      refine p_icmp_le (pc := 85) (tgt := 118) cx dX3_divisor_85 (by decide) (fun hc => ?_) (fun hc => ?_)
      · have hw := hw.1 hc
        refine p_perm (lv' := [(0, .ref v0)]) [0] rfl ?_
        exact x_X3_divisor_118 cx hr hlk v0 M hT hv0 hw
      · have hw := hw.2 hc
        refine p_aload_n (pc := 88) cx dX3_divisor_88 rfl 0 rfl ?_
        refine p_callVv (pc := 89) [] cx (c_X3_findCofactors cx.2.2.2.2.2.2 hT hv0 hw) cf_X3_findCofactors cv_X3_findCofactors t3_76 hv0 ⟨by decide, rfl, rfl⟩ ⟨rfl, rfl⟩ ⟨Nat.le_of_ble_eq_true rfl, Nat.le_of_ble_eq_true rfl⟩ rfl rfl (Nat.le_of_ble_eq_true rfl) dX3_divisor_89 (fun M25 hw hM25 => ?_)
        refine p_aload_n (pc := 92) cx dX3_divisor_92 rfl 0 rfl ?_
        refine gf_3_8 (pc := 93) cx hv0 t1_130 dX3_divisor_93 ?_
        refine p_lconst (pc := 96) (v := 0) cx dX3_divisor_96 (by decide) ?_
        refine p_lcmp (pc := 97) cx dX3_divisor_97 ?_
        refine p_if_ne (pc := 98) (tgt := 108) cx dX3_divisor_98 (by decide) (fun hc => ?_) (fun hc => ?_)
        · have hw := hw.1 (fun q => hc ((lg_cmp_eq _ _).mpr q))
          refine p_aload_n (pc := 108) cx dX3_divisor_108 rfl 0 rfl ?_
          refine p_callVv (pc := 109) [] cx (c_X3_combineBoth cx.2.2.2.2.2.2 hM25 hv0 hw) cf_X3_combineBoth cv_X3_combineBoth t3_87 hv0 ⟨by decide, rfl, rfl⟩ ⟨rfl, rfl⟩ ⟨Nat.le_of_ble_eq_true rfl, Nat.le_of_ble_eq_true rfl⟩ rfl rfl (Nat.le_of_ble_eq_true rfl) dX3_divisor_109 (fun M26 hw hM26 => ?_)
          obtain ⟨x4_27, ex4_27⟩ : ∃ y : Int32, y = v4 + 1 := ⟨_, rfl⟩
          have hw := hw x4_27 ex4_27
          refine p_iinc (pc := 112) (v := x4_27) (lv' := [(0, .ref v0), (4, .int x4_27)]) cx dX3_divisor_112 1 rfl (by rw [ex4_27]; rfl) (by decide) [1, 0] rfl ?_
          refine p_goto (pc := 115) (tgt := 70) cx dX3_divisor_115 (by decide) ?_
          exact ih v0 x4_27 M26 hM26 hv0 hw
        · have hw := hw.2 ((lg_cmp_eq _ _).mp hc)
          refine p_aload_n (pc := 101) cx dX3_divisor_101 rfl 0 rfl ?_
          refine p_callVv (pc := 102) [] cx (c_X3_takeStep cx.2.2.2.2.2.2 hM25 hv0 hw) cf_X3_takeStep cv_X3_takeStep t3_82 hv0 ⟨by decide, rfl, rfl⟩ ⟨rfl, rfl⟩ ⟨Nat.le_of_ble_eq_true rfl, Nat.le_of_ble_eq_true rfl⟩ rfl rfl (Nat.le_of_ble_eq_true rfl) dX3_divisor_102 (fun M28 hw hM28 => ?_)
          refine p_goto (pc := 105) (tgt := 112) cx dX3_divisor_105 (by decide) ?_
          obtain ⟨x4_29, ex4_29⟩ : ∃ y : Int32, y = v4 + 1 := ⟨_, rfl⟩
          have hw := hw x4_29 ex4_29
          refine p_iinc (pc := 112) (v := x4_29) (lv' := [(0, .ref v0), (4, .int x4_29)]) cx dX3_divisor_112 1 rfl (by rw [ex4_29]; rfl) (by decide) [1, 0] rfl ?_
          refine p_goto (pc := 115) (tgt := 70) cx dX3_divisor_115 (by decide) ?_
          exact ih v0 x4_29 M28 hM28 hv0 hw
set_option maxHeartbeats 4000000 in
set_option maxRecDepth 100000 in
theorem x_X3_divisor_51 {p : Program} {l : Launch} {e : Env} {s : State} {m : MethodId} {args : Array Value} {below : List Frame} {meth : Method} {c : Code} {D : va_G} {G : SH} {Qp : Nat → MS → Prop}  (cx : CX p s m args c D G cX3_divisor 5 RX3) (hr : meth.sig.returnType = (some (.object "GcdMill$Whole"))) (hlk : meth.locks = false)  (v0 : Nat) (s0 : Nat) (s1 : Nat) (M : MS) (hT : TYR G M.2.2.1) (hv0 : Is G 3 v0) (hs0 : Is G 8 s0) (hs1 : Is G 8 s1) (hw : w_X3_divisor_51 G Qp v0 s0 s1 M) : PW p l e rm_X3_divisor s m args below meth c D G 5 (MQ below (va_Qr (fun _ : MS => True) (fun N a t => Qp a N ∧ Is G 8 a ∧ POST D G N t) (AG G)) args s 0 0 (AG G)) 51 [(0, .ref v0)] [.ref s0, .ref s1] M := by
  unfold w_X3_divisor_51 at hw
  refine p_callVv (pc := 51) [.ref s0] cx (c_X9_copy cx.2.2.2.2.2.2 hT hs1 hs0 hw) cf_X9_copy cv_X9_copy t3_74 hs1 ⟨by decide, rfl, rfl⟩ ⟨rfl, rfl⟩ ⟨Nat.le_of_ble_eq_true rfl, Nat.le_of_ble_eq_true rfl⟩ rfl rfl (Nat.le_of_ble_eq_true rfl) dX3_divisor_51 (fun M7 hw hM7 => ?_)
  refine p_aload_n (pc := 54) cx dX3_divisor_54 rfl 0 rfl ?_
  refine gf_3_4 (pc := 55) cx hv0 t1_126 dX3_divisor_55 ?_
  have hr_8 : Is G 8 (mR M7 v0 4) := TYR.at hM7 hv0 4 8 rfl (by decide)
  refine p_iconst (pc := 58) (v := 0) cx dX3_divisor_58 (by decide) ?_
  refine pf_8_2 (pc := 59) (by decide) cx hr_8 t1_62 dX3_divisor_59 ?_
  refine p_mem (fun M9 eM9 => ?_)
  have hw := hw M9 eM9
  have hM9 : TYR G M9.2.2.1 := by rw [eM9]; exact hM7
  refine p_aload_n (pc := 62) cx dX3_divisor_62 rfl 0 rfl ?_
  refine p_iconst (pc := 63) (v := 0) cx dX3_divisor_63 (by decide) ?_
  refine pf_3_0 (pc := 64) cx hv0 t1_121 dX3_divisor_64 ?_
  refine p_mem (fun M10 eM10 => ?_)
  have hw := hw M10 eM10
  have hM10 : TYR G M10.2.2.1 := by rw [eM10]; exact hM9
  refine p_iconst (pc := 67) (v := 0) cx dX3_divisor_67 (by decide) ?_
  refine p_istore (pc := 68) (lv' := [(0, .ref v0), (4, .int (0 : Int32))]) cx dX3_divisor_68 (by decide) [1, 0] rfl ?_
  obtain ⟨n1, hw⟩ := hw
  exact x_X3_divisor_70 cx hr hlk n1 v0 0 M10 hM10 hv0 hw
set_option maxHeartbeats 4000000 in
set_option maxRecDepth 100000 in
theorem x_X3_divisor_27 {p : Program} {l : Launch} {e : Env} {s : State} {m : MethodId} {args : Array Value} {below : List Frame} {meth : Method} {c : Code} {D : va_G} {G : SH} {Qp : Nat → MS → Prop}  (cx : CX p s m args c D G cX3_divisor 5 RX3) (hr : meth.sig.returnType = (some (.object "GcdMill$Whole"))) (hlk : meth.locks = false)  (v0 : Nat) (v1 : Nat) (v2 : Nat) (v3 : Int32) (s0 : Nat) (s1 : Nat) (M : MS) (hT : TYR G M.2.2.1) (hv0 : Is G 3 v0) (hv1 : Is G 8 v1) (hv2 : Is G 8 v2) (hs0 : Is G 8 s0) (hs1 : Is G 8 s1) (hw : w_X3_divisor_27 G Qp v0 v1 v2 v3 s0 s1 M) : PW p l e rm_X3_divisor s m args below meth c D G 5 (MQ below (va_Qr (fun _ : MS => True) (fun N a t => Qp a N ∧ Is G 8 a ∧ POST D G N t) (AG G)) args s 0 0 (AG G)) 27 [(0, .ref v0), (1, .ref v1), (2, .ref v2), (3, .int v3)] [.ref s0, .ref s1] M := by
  unfold w_X3_divisor_27 at hw
  refine p_callVv (pc := 27) [.ref s0] cx (c_X9_copy cx.2.2.2.2.2.2 hT hs1 hs0 hw) cf_X9_copy cv_X9_copy t3_74 hs1 ⟨by decide, rfl, rfl⟩ ⟨rfl, rfl⟩ ⟨Nat.le_of_ble_eq_true rfl, Nat.le_of_ble_eq_true rfl⟩ rfl rfl (Nat.le_of_ble_eq_true rfl) dX3_divisor_27 (fun M3 hw hM3 => ?_)
  refine p_aload_n (pc := 30) cx dX3_divisor_30 rfl 0 rfl ?_
  refine gf_3_3 (pc := 31) cx hv0 t1_125 dX3_divisor_31 ?_
  have hr_4 : Is G 8 (mR M3 v0 3) := TYR.at hM3 hv0 3 8 rfl (by decide)
  refine p_iconst (pc := 34) (v := 0) cx dX3_divisor_34 (by decide) ?_
  refine pf_8_2 (pc := 35) (by decide) cx hr_4 t1_62 dX3_divisor_35 ?_
  refine p_mem (fun M5 eM5 => ?_)
  have hw := hw M5 eM5
  have hM5 : TYR G M5.2.2.1 := by rw [eM5]; exact hM3
  refine p_aload_n (pc := 38) cx dX3_divisor_38 rfl 0 rfl ?_
  refine gf_3_4 (pc := 39) cx hv0 t1_126 dX3_divisor_39 ?_
  have hr_6 : Is G 8 (mR M5 v0 4) := TYR.at hM5 hv0 4 8 rfl (by decide)
  refine p_iload_n (pc := 42) cx dX3_divisor_42 rfl 3 rfl ?_
  refine p_if_eq (pc := 43) (tgt := 50) cx dX3_divisor_43 (by decide) (fun hc => ?_) (fun hc => ?_)
  · have hw := hw.1 hc
    refine p_aload_n (pc := 50) cx dX3_divisor_50 rfl 1 rfl ?_
    refine p_perm (lv' := [(0, .ref v0)]) [0] rfl ?_
    exact x_X3_divisor_51 cx hr hlk v0 v1 (mR M5 v0 4) M5 hM5 hv0 hv1 hr_6 hw
  · have hw := hw.2 hc
    refine p_aload_n (pc := 46) cx dX3_divisor_46 rfl 2 rfl ?_
    refine p_goto (pc := 47) (tgt := 51) cx dX3_divisor_47 (by decide) ?_
    refine p_perm (lv' := [(0, .ref v0)]) [0] rfl ?_
    exact x_X3_divisor_51 cx hr hlk v0 v2 (mR M5 v0 4) M5 hM5 hv0 hv2 hr_6 hw
set_option maxHeartbeats 4000000 in
set_option maxRecDepth 100000 in
theorem x_X3_divisor_13 {p : Program} {l : Launch} {e : Env} {s : State} {m : MethodId} {args : Array Value} {below : List Frame} {meth : Method} {c : Code} {D : va_G} {G : SH} {Qp : Nat → MS → Prop}  (cx : CX p s m args c D G cX3_divisor 5 RX3) (hr : meth.sig.returnType = (some (.object "GcdMill$Whole"))) (hlk : meth.locks = false)  (v0 : Nat) (v1 : Nat) (v2 : Nat) (s0 : Int32) (M : MS) (hT : TYR G M.2.2.1) (hv0 : Is G 3 v0) (hv1 : Is G 8 v1) (hv2 : Is G 8 v2) (hw : w_X3_divisor_13 G Qp v0 v1 v2 s0 M) : PW p l e rm_X3_divisor s m args below meth c D G 5 (MQ below (va_Qr (fun _ : MS => True) (fun N a t => Qp a N ∧ Is G 8 a ∧ POST D G N t) (AG G)) args s 0 0 (AG G)) 13 [(0, .ref v0), (1, .ref v1), (2, .ref v2)] [.int s0] M := by
  unfold w_X3_divisor_13 at hw
  refine p_istore_n (pc := 13) (lv' := [(0, .ref v0), (1, .ref v1), (2, .ref v2), (3, .int s0)]) cx dX3_divisor_13 rfl (by decide) [1, 2, 3, 0] rfl ?_
  refine p_aload_n (pc := 14) cx dX3_divisor_14 rfl 0 rfl ?_
  refine gf_3_3 (pc := 15) cx hv0 t1_125 dX3_divisor_15 ?_
  have hr_2 : Is G 8 (mR M v0 3) := TYR.at hT hv0 3 8 rfl (by decide)
  refine p_iload_n (pc := 18) cx dX3_divisor_18 rfl 3 rfl ?_
  refine p_if_eq (pc := 19) (tgt := 26) cx dX3_divisor_19 (by decide) (fun hc => ?_) (fun hc => ?_)
  · have hw := hw.1 hc
    refine p_aload_n (pc := 26) cx dX3_divisor_26 rfl 2 rfl ?_
    exact x_X3_divisor_27 cx hr hlk v0 v1 v2 s0 v2 (mR M v0 3) M hT hv0 hv1 hv2 hv2 hr_2 hw
  · have hw := hw.2 hc
    refine p_aload_n (pc := 22) cx dX3_divisor_22 rfl 1 rfl ?_
    refine p_goto (pc := 23) (tgt := 27) cx dX3_divisor_23 (by decide) ?_
    exact x_X3_divisor_27 cx hr hlk v0 v1 v2 s0 v1 (mR M v0 3) M hT hv0 hv1 hv2 hv1 hr_2 hw
set_option maxHeartbeats 4000000 in
set_option maxRecDepth 100000 in
theorem c_X3_divisor {l : Launch} {D : va_G} {G : SH} (hND : ND G) {a0 : Nat} {a1 : Nat} {a2 : Nat} {M : MS} {Qp : Nat → MS → Prop} (hT : TYR G M.2.2.1) (ha0 : Is G 3 a0) (ha1 : Is G 8 a1) (ha2 : Is G 8 a2) (hw : w_X3_divisor G a0 a1 a2 M Qp) : MeR l D G yX3_divisor (Cond.code yX3_divisor cX3_divisor 5 (some (.object "GcdMill$Whole")) :: GW) rm_X3_divisor [.ref a0, .ref a1, .ref a2] M Qp := by
  unfold MeR
  refine p_method (by decide) rfl (Nat.le_of_ble_eq_true rfl) hND ?_
  intro p e s m args below meth c cx hr hlk
  have cx : CX p s m args c D G cX3_divisor 5 RX3 := cx
  unfold w_X3_divisor at hw
  refine p_aload_n (pc := 0) cx dX3_divisor_0 rfl 1 rfl ?_
  refine p_aload_n (pc := 1) cx dX3_divisor_1 rfl 2 rfl ?_
  refine p_callSi (pc := 2) [.ref a1, .ref a2] cx (c_X7_order cx.2.2.2.2.2.2 hT ha1 ha2 hw) cf_X7_order cv_X7_order t3_73 ⟨rfl, rfl⟩ ⟨Nat.le_of_ble_eq_true rfl, Nat.le_of_ble_eq_true rfl⟩ rfl rfl (Nat.le_of_ble_eq_true rfl) dX3_divisor_2 (fun r1 M1 hw hM1 => ?_)
  refine p_if_lt (pc := 5) (tgt := 12) cx dX3_divisor_5 (by decide) (fun hc => ?_) (fun hc => ?_)
  · have hw := hw.1 hc
    refine p_iconst (pc := 12) (v := 0) cx dX3_divisor_12 (by decide) ?_
    exact x_X3_divisor_13 cx hr hlk a0 a1 a2 0 M1 hM1 ha0 ha1 ha2 hw
  · have hw := hw.2 hc
    refine p_iconst (pc := 8) (v := 1) cx dX3_divisor_8 (by decide) ?_
    refine p_goto (pc := 9) (tgt := 13) cx dX3_divisor_9 (by decide) ?_
    exact x_X3_divisor_13 cx hr hlk a0 a1 a2 1 M1 hM1 ha0 ha1 ha2 hw
