/-! registerOrThrow and the calls that may throw: both ends of each -/
theorem va_nst {D : va_G} {cl : List vw_C} {q : Nat × va_E} {H : Heap} {cell : Cell} (h : va_at D cl q H) (hc : H[q.1]? = some cell) : cell.vm.isStatics = false := by
  obtain ⟨a, e⟩ := q
  cases e with
  | inl x =>
    have h1 : H[a]? = some (vp_cell x.1 x.2) := h
    cases hc.symm.trans h1
    obtain ⟨cA, n, f⟩ := x
    rcases f with f | f | f | f | f <;> rfl
  | inr o =>
    obtain ⟨r, h1, c2, h2, h3, h4, -⟩ := h
    cases hc.symm.trans h2
    rw [h4]
    rfl
theorem ts_22 : Cond.selects yX10_registerOrThrow.cls yX10_registerOrThrow yX10_registerOrThrow ∈ GW := gw_s (n := 14) (List.mem_of_getElem? (i := 22) (by decide +kernel)) rfl
theorem cf_X10_reg : CF yX10_registerOrThrow cX10_registerOrThrow 2 (some (.object "GcdMill$Whole")) 1 := ⟨gw_t4 43 rfl rfl, t1_1, by decide +kernel⟩
theorem cv_X10_reg : CFV yX10_registerOrThrow := ⟨gw_t4 42 rfl rfl, ts_22⟩
theorem cf_X10_sign : CF yX10_sign cX10_sign 3 (some .int) 1 := ⟨gw_t4 39 rfl rfl, t1_1, by decide +kernel⟩
theorem cv_X10_sign : CFV yX10_sign := ⟨gw_t4 37 rfl rfl, gw_t4 38 rfl rfl⟩
theorem cf_X10_length : CF yX10_length cX10_length 2 (some .int) 1 := ⟨gw_t4 115 rfl rfl, t1_1, by decide +kernel⟩
theorem cv_X10_length : CFV yX10_length := ⟨gw_t4 113 rfl rfl, gw_t4 114 rfl rfl⟩
theorem cf_X10_limbAt : CF yX10_limbAt cX10_limbAt 3 (some .int) 2 := ⟨gw_t4 122 rfl rfl, t1_1, by decide +kernel⟩
theorem cv_X10_limbAt : CFV yX10_limbAt := ⟨gw_t4 120 rfl rfl, gw_t4 121 rfl rfl⟩
theorem cf_X10_write : CF yX10_write cX10_write 2 (some .int) 1 := ⟨gw_t4 130 rfl rfl, t1_1, by decide +kernel⟩
theorem cv_X10_write : CFV yX10_write := ⟨gw_t4 128 rfl rfl, gw_t4 129 rfl rfl⟩
theorem cf_X10_count : CF yX10_count cX10_count 2 (some .int) 1 := ⟨gw_t4 28 rfl rfl, t1_1, by decide +kernel⟩
theorem cv_X10_count : CFV yX10_count := ⟨gw_t4 26 rfl rfl, gw_t4 27 rfl rfl⟩
abbrev rm_reg : Room := { frames := 1, cells := 0, slots := 0, locals := 30 }
abbrev rm_get : Room := { frames := 5, cells := 0, slots := 0, locals := 90 }
section Ret
variable {l : Launch} {D : va_G} {G : SH} {a0 : Nat} {r : Int32} {M : MS}
theorem wis_ok {Qp : Int32 → MS → Prop} (h0 : ¬ r < 0) (h1 : ¬ nI (G.2.2.1 (mR M a0 1)) ≤ r) (hq : Qp 1 M) : w_X10_isRegister G a0 r M Qp := ⟨fun h => absurd h h0, fun _ => ⟨fun h => absurd h h1, fun _ => hq⟩⟩
theorem wis_no {Qp : Int32 → MS → Prop} (h0 : r < 0 ∨ nI (G.2.2.1 (mR M a0 1)) ≤ r) (hq : Qp 0 M) : w_X10_isRegister G a0 r M Qp := ⟨fun _ => hq, fun h => ⟨fun _ => hq, fun h' => absurd h0 (by rintro (q | q); exact h q; exact h' q)⟩⟩
theorem c_X10_reg {Qp : Nat → MS → Prop} (hND : ND G) (hT : TYR G M.2.2.1) (ha0 : Is G 9 a0) (h0 : ¬ r < 0) (h1 : ¬ nI (G.2.2.1 (mR M a0 1)) ≤ r) (hin : vp_in r (G.2.2.1 (mR M a0 1))) (hq : Qp (mR M (mR M a0 1) r.toNatClampNeg) M) : MeR l D G yX10_registerOrThrow (Cond.code yX10_registerOrThrow cX10_registerOrThrow 2 (some (.object "GcdMill$Whole")) :: GW) rm_reg [.ref a0, .int r] M Qp := by
  unfold MeR
  refine p_method (by decide) rfl (Nat.le_of_ble_eq_true rfl) hND ?_
  intro p e s m args below meth c cx hr hlk
  have cx : CX p s m args c D G cX10_registerOrThrow 2 RX10 := cx
  refine p_aload_n (pc := 0) cx dX10_registerOrThrow_0 rfl 0 rfl ?_
  refine p_iload_n (pc := 1) cx dX10_registerOrThrow_1 rfl 1 rfl ?_
  refine p_callVi (pc := 2) (Qp := fun x N => x = 1 ∧ N = M) [.int r] cx (c_X10_isRegister cx.2.2.2.2.2.2 hT ha0 (wis_ok h0 h1 ⟨rfl, rfl⟩)) cf_X10_isRegister cv_X10_isRegister t2_120 ha0 ⟨by decide, rfl, rfl⟩ ⟨rfl, rfl⟩ ⟨Nat.le_of_ble_eq_true rfl, Nat.le_of_ble_eq_true rfl⟩ rfl rfl (Nat.le_of_ble_eq_true rfl) dX10_registerOrThrow_2 (fun r1 M1 hw hM1 => ?_)
  obtain ⟨rfl, rfl⟩ := hw
  refine p_if_ne (pc := 5) (tgt := 18) cx dX10_registerOrThrow_5 (by decide) (fun hc => ?_) (fun hc => absurd hc (by decide))
  refine p_aload_n (pc := 18) cx dX10_registerOrThrow_18 rfl 0 rfl ?_
  refine gf_9_1 (pc := 19) cx ha0 t2_74 dX10_registerOrThrow_19 ?_
  have hr_2 : Is G 13 (mR M1 a0 1) := TYR.at hT ha0 1 13 rfl (by decide)
  refine p_iload_n (pc := 22) cx dX10_registerOrThrow_22 rfl 1 rfl ?_
  refine p_aald (pc := 23) cx hr_2 hin dX10_registerOrThrow_23 ?_
  exact p_aret (pc := 24) cx hr hlk dX10_registerOrThrow_24 (TYR.el hT hr_2 hin) hT hq
theorem c_X10_sign_ret {Qp : Int32 → MS → Prop} (hND : ND G) (hT : TYR G M.2.2.1) (ha0 : Is G 9 a0) (h0 : ¬ r < 0) (h1 : ¬ nI (G.2.2.1 (mR M a0 1)) ≤ r) (hin : vp_in r (G.2.2.1 (mR M a0 1))) (hq : (mI M (mR M (mR M a0 1) r.toNatClampNeg) 1 = 0 → Qp 0 M) ∧ (¬ mI M (mR M (mR M a0 1) r.toNatClampNeg) 1 = 0 → (mI M (mR M (mR M a0 1) r.toNatClampNeg) 2 = 0 → Qp 1 M) ∧ (¬ mI M (mR M (mR M a0 1) r.toNatClampNeg) 2 = 0 → Qp (-1) M))) : MeI l D G yX10_sign (Cond.code yX10_sign cX10_sign 3 (some .int) :: GW) rm_get [.ref a0, .int r] M Qp := by
  unfold MeI
  refine p_method (by decide) rfl (Nat.le_of_ble_eq_true rfl) hND ?_
  intro p e s m args below meth c cx hr hlk
  have cx : CX p s m args c D G cX10_sign 3 RX10 := cx
  refine p_aload_n (pc := 0) cx dX10_sign_0 rfl 0 rfl ?_
  refine p_iload_n (pc := 1) cx dX10_sign_1 rfl 1 rfl ?_
  refine p_callVr (pc := 2) (Qp := fun x N => x = mR M (mR M a0 1) r.toNatClampNeg ∧ N = M) [.int r] cx (c_X10_reg cx.2.2.2.2.2.2 hT ha0 h0 h1 hin ⟨rfl, rfl⟩) cf_X10_reg cv_X10_reg (gw_t4 40 rfl rfl) ha0 ⟨by decide, rfl, rfl⟩ ⟨rfl, rfl⟩ ⟨Nat.le_of_ble_eq_true rfl, Nat.le_of_ble_eq_true rfl⟩ rfl rfl (Nat.le_of_ble_eq_true rfl) dX10_sign_2 (fun r1 M1 hw h8 hM1 => ?_)
  obtain ⟨rfl, rfl⟩ := hw
  refine p_astore_n (pc := 5) cx dX10_sign_5 rfl (by decide) [1, 2, 0] rfl ?_
  refine p_aload_n (pc := 6) cx dX10_sign_6 rfl 2 rfl ?_
  refine gf_8_1 (pc := 7) cx h8 t1_59 dX10_sign_7 ?_
  refine p_if_ne (pc := 10) (tgt := 15) cx dX10_sign_10 (by decide) (fun hc => ?_) (fun hc => ?_)
  · refine p_aload_n (pc := 15) cx dX10_sign_15 rfl 2 rfl ?_
    refine gf_8_2 (pc := 16) cx h8 t1_63 dX10_sign_16 ?_
    refine p_if_eq (pc := 19) (tgt := 26) cx dX10_sign_19 (by decide) (fun hc2 => ?_) (fun hc2 => ?_)
    · refine p_iconst (pc := 26) (v := 1) cx dX10_sign_26 (by decide) ?_
      exact p_iret (pc := 27) cx hr hlk dX10_sign_27 hT ((hq.2 hc).1 hc2)
    · refine p_iconst (pc := 22) (v := -1) cx dX10_sign_22 (by decide) ?_
      refine p_goto (pc := 23) (tgt := 27) cx dX10_sign_23 (by decide) ?_
      exact p_iret (pc := 27) cx hr hlk dX10_sign_27 hT ((hq.2 hc).2 hc2)
  · refine p_iconst (pc := 13) (v := 0) cx dX10_sign_13 (by decide) ?_
    exact p_iret (pc := 14) cx hr hlk dX10_sign_14 hT (hq.1 hc)
theorem c_X10_length_ret {Qp : Int32 → MS → Prop} (hND : ND G) (hT : TYR G M.2.2.1) (ha0 : Is G 9 a0) (h0 : ¬ r < 0) (h1 : ¬ nI (G.2.2.1 (mR M a0 1)) ≤ r) (hin : vp_in r (G.2.2.1 (mR M a0 1))) (hq : Qp (mI M (mR M (mR M a0 1) r.toNatClampNeg) 1) M) : MeI l D G yX10_length (Cond.code yX10_length cX10_length 2 (some .int) :: GW) rm_get [.ref a0, .int r] M Qp := by
  unfold MeI
  refine p_method (by decide) rfl (Nat.le_of_ble_eq_true rfl) hND ?_
  intro p e s m args below meth c cx hr hlk
  have cx : CX p s m args c D G cX10_length 2 RX10 := cx
  refine p_aload_n (pc := 0) cx dX10_length_0 rfl 0 rfl ?_
  refine p_iload_n (pc := 1) cx dX10_length_1 rfl 1 rfl ?_
  refine p_callVr (pc := 2) (Qp := fun x N => x = mR M (mR M a0 1) r.toNatClampNeg ∧ N = M) [.int r] cx (c_X10_reg cx.2.2.2.2.2.2 hT ha0 h0 h1 hin ⟨rfl, rfl⟩) cf_X10_reg cv_X10_reg (gw_t4 40 rfl rfl) ha0 ⟨by decide, rfl, rfl⟩ ⟨rfl, rfl⟩ ⟨Nat.le_of_ble_eq_true rfl, Nat.le_of_ble_eq_true rfl⟩ rfl rfl (Nat.le_of_ble_eq_true rfl) dX10_length_2 (fun r1 M1 hw h8 hM1 => ?_)
  obtain ⟨rfl, rfl⟩ := hw
  refine gf_8_1 (pc := 5) cx h8 t1_59 dX10_length_5 ?_
  exact p_iret (pc := 8) cx hr hlk dX10_length_8 hT hq
theorem c_X10_limbAt_ret {i : Int32} {Qp : Int32 → MS → Prop} (hND : ND G) (hT : TYR G M.2.2.1) (ha0 : Is G 9 a0) (h0 : ¬ r < 0) (h1 : ¬ nI (G.2.2.1 (mR M a0 1)) ≤ r) (hin : vp_in r (G.2.2.1 (mR M a0 1))) (hq : w_X9_limb G (mR M (mR M a0 1) r.toNatClampNeg) i M (fun v N => Qp v.toInt32 N)) : MeI l D G yX10_limbAt (Cond.code yX10_limbAt cX10_limbAt 3 (some .int) :: GW) rm_get [.ref a0, .int r, .int i] M Qp := by
  unfold MeI
  refine p_method (by decide) rfl (Nat.le_of_ble_eq_true rfl) hND ?_
  intro p e s m args below meth c cx hr hlk
  have cx : CX p s m args c D G cX10_limbAt 3 RX10 := cx
  refine p_aload_n (pc := 0) cx dX10_limbAt_0 rfl 0 rfl ?_
  refine p_iload_n (pc := 1) cx dX10_limbAt_1 rfl 1 rfl ?_
  refine p_callVr (pc := 2) (Qp := fun x N => x = mR M (mR M a0 1) r.toNatClampNeg ∧ N = M) [.int r] cx (c_X10_reg cx.2.2.2.2.2.2 hT ha0 h0 h1 hin ⟨rfl, rfl⟩) cf_X10_reg cv_X10_reg (gw_t4 40 rfl rfl) ha0 ⟨by decide, rfl, rfl⟩ ⟨rfl, rfl⟩ ⟨Nat.le_of_ble_eq_true rfl, Nat.le_of_ble_eq_true rfl⟩ rfl rfl (Nat.le_of_ble_eq_true rfl) dX10_limbAt_2 (fun r1 M1 hw h8 hM1 => ?_)
  obtain ⟨rfl, rfl⟩ := hw
  refine p_iload_n (pc := 5) cx dX10_limbAt_5 rfl 2 rfl ?_
  refine p_callVl (pc := 6) [.int i] cx (c_X9_limb cx.2.2.2.2.2.2 hT h8 hq) cf_X9_limb cv_X9_limb (gw_t4 123 rfl rfl) h8 ⟨by decide, rfl, rfl⟩ ⟨rfl, rfl⟩ ⟨Nat.le_of_ble_eq_true rfl, Nat.le_of_ble_eq_true rfl⟩ rfl rfl (Nat.le_of_ble_eq_true rfl) dX10_limbAt_6 (fun v N hw hM => ?_)
  refine p_l2i (pc := 9) cx dX10_limbAt_9 ?_
  exact p_iret (pc := 10) cx hr hlk dX10_limbAt_10 hM hw
theorem c_X10_write_ret {Qp : Int32 → MS → Prop} (hND : ND G) (hT : TYR G M.2.2.1) (ha0 : Is G 9 a0) (h0 : ¬ r < 0) (h1 : ¬ nI (G.2.2.1 (mR M a0 1)) ≤ r) (hin : vp_in r (G.2.2.1 (mR M a0 1))) (hq : w_X4_print G (mR M a0 9) (mR M (mR M a0 1) r.toNatClampNeg) M (fun N => Qp (mI N (mR N a0 9) 0) N)) : MeI l D G yX10_write (Cond.code yX10_write cX10_write 2 (some .int) :: GW) rm_get [.ref a0, .int r] M Qp := by
  unfold MeI
  refine p_method (by decide) rfl (Nat.le_of_ble_eq_true rfl) hND ?_
  intro p e s m args below meth c cx hr hlk
  have cx : CX p s m args c D G cX10_write 2 RX10 := cx
  refine p_aload_n (pc := 0) cx dX10_write_0 rfl 0 rfl ?_
  refine gf_9_9 (pc := 1) cx ha0 t2_82 dX10_write_1 ?_
  have hr_1 : Is G 4 (mR M a0 9) := TYR.at hT ha0 9 4 rfl (by decide)
  refine p_aload_n (pc := 4) cx dX10_write_4 rfl 0 rfl ?_
  refine p_iload_n (pc := 5) cx dX10_write_5 rfl 1 rfl ?_
  refine p_callVr (pc := 6) (Qp := fun x N => x = mR M (mR M a0 1) r.toNatClampNeg ∧ N = M) [.int r] cx (c_X10_reg cx.2.2.2.2.2.2 hT ha0 h0 h1 hin ⟨rfl, rfl⟩) cf_X10_reg cv_X10_reg (gw_t4 40 rfl rfl) ha0 ⟨by decide, rfl, rfl⟩ ⟨rfl, rfl⟩ ⟨Nat.le_of_ble_eq_true rfl, Nat.le_of_ble_eq_true rfl⟩ rfl rfl (Nat.le_of_ble_eq_true rfl) dX10_write_6 (fun r1 M1 hw h8 hM1 => ?_)
  obtain ⟨rfl, rfl⟩ := hw
  refine p_callVv (pc := 9) [.ref (mR M1 (mR M1 a0 1) r.toNatClampNeg)] cx (c_X4_print cx.2.2.2.2.2.2 hT hr_1 h8 hq) cf_X4_print cv_X4_print (gw_t4 131 rfl rfl) hr_1 ⟨by decide, rfl, rfl⟩ ⟨rfl, rfl⟩ ⟨Nat.le_of_ble_eq_true rfl, Nat.le_of_ble_eq_true rfl⟩ rfl rfl (Nat.le_of_ble_eq_true rfl) dX10_write_9 (fun N hw hM => ?_)
  refine p_aload_n (pc := 12) cx dX10_write_12 rfl 0 rfl ?_
  refine gf_9_9 (pc := 13) cx ha0 t2_82 dX10_write_13 ?_
  refine gf_4_0 (pc := 16) cx (TYR.at hM ha0 9 4 rfl (by decide)) t2_61 dX10_write_16 ?_
  exact p_iret (pc := 19) cx hr hlk dX10_write_19 hM hw
end Ret
