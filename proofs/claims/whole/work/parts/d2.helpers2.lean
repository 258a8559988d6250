/-! the four helpers, both ends (made by wip/gen/helpers.py) -/
section Helpers2
variable {l : Launch} {D : va_G} {G : SH} {lc : ClassId} {o a0 : Nat} {r i : Int32} {M : MS × Int64}
theorem h_sign_ret {Qi : Int32 → MS → Prop} (hND : ND G) (ho : o ∉ G.1) (ha0 : Is G 9 a0) (hM : MeI l D G yX10_sign (Cond.code yX10_sign cX10_sign 3 (some .int) :: GW) rm_get [.ref a0, .int r] M.1 Qi) : MeH l D G lc o yL_sign (Cond.codeWith yL_sign cL_sign 4 (some .int) hh9 :: GW) rm_h [.ref a0, .int r, .ref o] M (fun v N => v = 0 ∧ ∃ u N1, Qi u N1 ∧ N = (N1, u.toInt64)) := by
  refine h_method (by decide) rfl (Nat.le_of_ble_eq_true rfl) hND ho ?_
  intro p e s m args below meth c cx hTW hex hr hlk
  have cx : CY p s m args c D G cL_sign 4 RL lc o (AO G o) := cx
  refine q_aload_n (pc := 0) cx dL_sign_0 rfl 2 rfl ?_
  refine q_iconst (pc := 1) (v := 0) cx dL_sign_1 (by decide) ?_
  refine q_aload_n (pc := 2) cx dL_sign_2 rfl 0 rfl ?_
  refine q_iload_n (pc := 3) cx dL_sign_3 rfl 1 rfl ?_
  refine q_callVi (pc := 4) (rest := [.int 0, .ref o]) [.int r] cx hM cf_X10_sign cv_X10_sign (gw_t4 36 rfl rfl) ha0 ⟨by decide, rfl, rfl⟩ ⟨rfl, rfl⟩ ⟨Nat.le_of_ble_eq_true rfl, Nat.le_of_ble_eq_true rfl⟩ ⟨Nat.zero_le _, Nat.zero_le _⟩ rfl rfl (Nat.le_of_ble_eq_true rfl) dL_sign_4 (fun u N hq hN => ?_)
  refine q_i2l (pc := 7) cx dL_sign_7 ?_
  refine q_last (pc := 8) cx dL_sign_8 ?_
  refine q_goto (pc := 9) (tgt := 15) cx dL_sign_9 (by decide) ?_
  refine q_iconst (pc := 15) (v := 0) cx dL_sign_15 (by decide) ?_
  exact h_iret (pc := 16) cx (Nat.zero_le _) (Nat.zero_le _) hr hlk dL_sign_16 hN ⟨rfl, u, N, hq, rfl⟩
theorem h_sign_thr (hND : ND G) (ho : o ∉ G.1) (ha0 : Is G 9 a0) (hT : TYR G M.1.2.2.1) (hM : MeT l D G yX10_sign (Cond.code yX10_sign cX10_sign 3 (some .int) :: GW) rm_getT [.ref a0, .int r] M.1) : MeH l D G lc o yL_sign (Cond.codeWith yL_sign cL_sign 4 (some .int) hh9 :: GW) rm_h [.ref a0, .int r, .ref o] M (fun v N => v = 1 ∧ N = M) := by
  refine h_method (by decide) rfl (Nat.le_of_ble_eq_true rfl) hND ho ?_
  intro p e s m args below meth c cx hTW hex hr hlk
  have cx : CY p s m args c D G cL_sign 4 RL lc o (AO G o) := cx
  refine q_aload_n (pc := 0) cx dL_sign_0 rfl 2 rfl ?_
  refine q_iconst (pc := 1) (v := 0) cx dL_sign_1 (by decide) ?_
  refine q_aload_n (pc := 2) cx dL_sign_2 rfl 0 rfl ?_
  refine q_iload_n (pc := 3) cx dL_sign_3 rfl 1 rfl ?_
  refine h_catch (pc := 4) (rest := [.int 0, .ref o]) [.int r] cx hTW hex (by decide) (by decide) (gw_t4 35 rfl rfl) hM cf_X10_sign cv_X10_sign (gw_t4 36 rfl rfl) ha0 ⟨by decide, rfl, rfl⟩ ⟨rfl, rfl⟩ ⟨Nat.le_of_ble_eq_true rfl, Nat.le_of_ble_eq_true rfl⟩ ⟨Nat.le_refl 1, Nat.le_refl 6⟩ rfl rfl (Nat.le_of_ble_eq_true rfl) dL_sign_4 (fun z => ?_)
  refine q_astore_n (pc := 12) cx dL_sign_12 rfl (by decide) [1, 2, 3, 0] rfl ?_
  refine q_iconst (pc := 13) (v := 1) cx dL_sign_13 (by decide) ?_
  exact h_iret (pc := 14) cx (Nat.le_refl _) (Nat.le_refl _) hr hlk dL_sign_14 hT ⟨rfl, rfl⟩
theorem h_length_ret {Qi : Int32 → MS → Prop} (hND : ND G) (ho : o ∉ G.1) (ha0 : Is G 9 a0) (hM : MeI l D G yX10_length (Cond.code yX10_length cX10_length 2 (some .int) :: GW) rm_get [.ref a0, .int r] M.1 Qi) : MeH l D G lc o yL_length (Cond.codeWith yL_length cL_length 4 (some .int) hh9 :: GW) rm_h [.ref a0, .int r, .ref o] M (fun v N => v = 0 ∧ ∃ u N1, Qi u N1 ∧ N = (N1, u.toInt64)) := by
  refine h_method (by decide) rfl (Nat.le_of_ble_eq_true rfl) hND ho ?_
  intro p e s m args below meth c cx hTW hex hr hlk
  have cx : CY p s m args c D G cL_length 4 RL lc o (AO G o) := cx
  refine q_aload_n (pc := 0) cx dL_length_0 rfl 2 rfl ?_
  refine q_iconst (pc := 1) (v := 0) cx dL_length_1 (by decide) ?_
  refine q_aload_n (pc := 2) cx dL_length_2 rfl 0 rfl ?_
  refine q_iload_n (pc := 3) cx dL_length_3 rfl 1 rfl ?_
  refine q_callVi (pc := 4) (rest := [.int 0, .ref o]) [.int r] cx hM cf_X10_length cv_X10_length (gw_t4 112 rfl rfl) ha0 ⟨by decide, rfl, rfl⟩ ⟨rfl, rfl⟩ ⟨Nat.le_of_ble_eq_true rfl, Nat.le_of_ble_eq_true rfl⟩ ⟨Nat.zero_le _, Nat.zero_le _⟩ rfl rfl (Nat.le_of_ble_eq_true rfl) dL_length_4 (fun u N hq hN => ?_)
  refine q_i2l (pc := 7) cx dL_length_7 ?_
  refine q_last (pc := 8) cx dL_length_8 ?_
  refine q_goto (pc := 9) (tgt := 15) cx dL_length_9 (by decide) ?_
  refine q_iconst (pc := 15) (v := 0) cx dL_length_15 (by decide) ?_
  exact h_iret (pc := 16) cx (Nat.zero_le _) (Nat.zero_le _) hr hlk dL_length_16 hN ⟨rfl, u, N, hq, rfl⟩
theorem h_length_thr (hND : ND G) (ho : o ∉ G.1) (ha0 : Is G 9 a0) (hT : TYR G M.1.2.2.1) (hM : MeT l D G yX10_length (Cond.code yX10_length cX10_length 2 (some .int) :: GW) rm_getT [.ref a0, .int r] M.1) : MeH l D G lc o yL_length (Cond.codeWith yL_length cL_length 4 (some .int) hh9 :: GW) rm_h [.ref a0, .int r, .ref o] M (fun v N => v = 1 ∧ N = M) := by
  refine h_method (by decide) rfl (Nat.le_of_ble_eq_true rfl) hND ho ?_
  intro p e s m args below meth c cx hTW hex hr hlk
  have cx : CY p s m args c D G cL_length 4 RL lc o (AO G o) := cx
  refine q_aload_n (pc := 0) cx dL_length_0 rfl 2 rfl ?_
  refine q_iconst (pc := 1) (v := 0) cx dL_length_1 (by decide) ?_
  refine q_aload_n (pc := 2) cx dL_length_2 rfl 0 rfl ?_
  refine q_iload_n (pc := 3) cx dL_length_3 rfl 1 rfl ?_
  refine h_catch (pc := 4) (rest := [.int 0, .ref o]) [.int r] cx hTW hex (by decide) (by decide) (gw_t4 35 rfl rfl) hM cf_X10_length cv_X10_length (gw_t4 112 rfl rfl) ha0 ⟨by decide, rfl, rfl⟩ ⟨rfl, rfl⟩ ⟨Nat.le_of_ble_eq_true rfl, Nat.le_of_ble_eq_true rfl⟩ ⟨Nat.le_refl 1, Nat.le_refl 6⟩ rfl rfl (Nat.le_of_ble_eq_true rfl) dL_length_4 (fun z => ?_)
  refine q_astore_n (pc := 12) cx dL_length_12 rfl (by decide) [1, 2, 3, 0] rfl ?_
  refine q_iconst (pc := 13) (v := 1) cx dL_length_13 (by decide) ?_
  exact h_iret (pc := 14) cx (Nat.le_refl _) (Nat.le_refl _) hr hlk dL_length_14 hT ⟨rfl, rfl⟩
theorem h_limbAt_ret {Qi : Int32 → MS → Prop} (hND : ND G) (ho : o ∉ G.1) (ha0 : Is G 9 a0) (hM : MeI l D G yX10_limbAt (Cond.code yX10_limbAt cX10_limbAt 3 (some .int) :: GW) rm_get [.ref a0, .int r, .int i] M.1 Qi) : MeH l D G lc o yL_limbAt (Cond.codeWith yL_limbAt cL_limbAt 5 (some .int) hh10 :: GW) rm_h [.ref a0, .int r, .int i, .ref o] M (fun v N => v = 0 ∧ ∃ u N1, Qi u N1 ∧ N = (N1, u.toInt64)) := by
  refine h_method (by decide) rfl (Nat.le_of_ble_eq_true rfl) hND ho ?_
  intro p e s m args below meth c cx hTW hex hr hlk
  have cx : CY p s m args c D G cL_limbAt 5 RL lc o (AO G o) := cx
  refine q_aload_n (pc := 0) cx dL_limbAt_0 rfl 3 rfl ?_
  refine q_iconst (pc := 1) (v := 0) cx dL_limbAt_1 (by decide) ?_
  refine q_aload_n (pc := 2) cx dL_limbAt_2 rfl 0 rfl ?_
  refine q_iload_n (pc := 3) cx dL_limbAt_3 rfl 1 rfl ?_
  refine q_iload_n (pc := 4) cx dL_limbAt_4 rfl 2 rfl ?_
  refine q_callVi (pc := 5) (rest := [.int 0, .ref o]) [.int r, .int i] cx hM cf_X10_limbAt cv_X10_limbAt (gw_t4 119 rfl rfl) ha0 ⟨by decide, rfl, rfl⟩ ⟨rfl, rfl⟩ ⟨Nat.le_of_ble_eq_true rfl, Nat.le_of_ble_eq_true rfl⟩ ⟨Nat.zero_le _, Nat.zero_le _⟩ rfl rfl (Nat.le_of_ble_eq_true rfl) dL_limbAt_5 (fun u N hq hN => ?_)
  refine q_i2l (pc := 8) cx dL_limbAt_8 ?_
  refine q_last (pc := 9) cx dL_limbAt_9 ?_
  refine q_goto (pc := 10) (tgt := 17) cx dL_limbAt_10 (by decide) ?_
  refine q_iconst (pc := 17) (v := 0) cx dL_limbAt_17 (by decide) ?_
  exact h_iret (pc := 18) cx (Nat.zero_le _) (Nat.zero_le _) hr hlk dL_limbAt_18 hN ⟨rfl, u, N, hq, rfl⟩
theorem h_limbAt_thr (hND : ND G) (ho : o ∉ G.1) (ha0 : Is G 9 a0) (hT : TYR G M.1.2.2.1) (hM : MeT l D G yX10_limbAt (Cond.code yX10_limbAt cX10_limbAt 3 (some .int) :: GW) rm_getT [.ref a0, .int r, .int i] M.1) : MeH l D G lc o yL_limbAt (Cond.codeWith yL_limbAt cL_limbAt 5 (some .int) hh10 :: GW) rm_h [.ref a0, .int r, .int i, .ref o] M (fun v N => v = 1 ∧ N = M) := by
  refine h_method (by decide) rfl (Nat.le_of_ble_eq_true rfl) hND ho ?_
  intro p e s m args below meth c cx hTW hex hr hlk
  have cx : CY p s m args c D G cL_limbAt 5 RL lc o (AO G o) := cx
  refine q_aload_n (pc := 0) cx dL_limbAt_0 rfl 3 rfl ?_
  refine q_iconst (pc := 1) (v := 0) cx dL_limbAt_1 (by decide) ?_
  refine q_aload_n (pc := 2) cx dL_limbAt_2 rfl 0 rfl ?_
  refine q_iload_n (pc := 3) cx dL_limbAt_3 rfl 1 rfl ?_
  refine q_iload_n (pc := 4) cx dL_limbAt_4 rfl 2 rfl ?_
  refine h_catch (pc := 5) (rest := [.int 0, .ref o]) [.int r, .int i] cx hTW hex (by decide) (by decide) (gw_t4 35 rfl rfl) hM cf_X10_limbAt cv_X10_limbAt (gw_t4 119 rfl rfl) ha0 ⟨by decide, rfl, rfl⟩ ⟨rfl, rfl⟩ ⟨Nat.le_of_ble_eq_true rfl, Nat.le_of_ble_eq_true rfl⟩ ⟨Nat.le_refl 1, Nat.le_refl 6⟩ rfl rfl (Nat.le_of_ble_eq_true rfl) dL_limbAt_5 (fun z => ?_)
  refine q_astore (pc := 13) cx dL_limbAt_13 (by decide) [1, 2, 3, 4, 0] rfl ?_
  refine q_iconst (pc := 15) (v := 1) cx dL_limbAt_15 (by decide) ?_
  exact h_iret (pc := 16) cx (Nat.le_refl _) (Nat.le_refl _) hr hlk dL_limbAt_16 hT ⟨rfl, rfl⟩
theorem h_write_ret {Qi : Int32 → MS → Prop} (hND : ND G) (ho : o ∉ G.1) (ha0 : Is G 9 a0) (hM : MeI l D G yX10_write (Cond.code yX10_write cX10_write 2 (some .int) :: GW) rm_get [.ref a0, .int r] M.1 Qi) : MeH l D G lc o yL_write (Cond.codeWith yL_write cL_write 4 (some .int) hh9 :: GW) rm_h [.ref a0, .int r, .ref o] M (fun v N => v = 0 ∧ ∃ u N1, Qi u N1 ∧ N = (N1, u.toInt64)) := by
  refine h_method (by decide) rfl (Nat.le_of_ble_eq_true rfl) hND ho ?_
  intro p e s m args below meth c cx hTW hex hr hlk
  have cx : CY p s m args c D G cL_write 4 RL lc o (AO G o) := cx
  refine q_aload_n (pc := 0) cx dL_write_0 rfl 2 rfl ?_
  refine q_iconst (pc := 1) (v := 0) cx dL_write_1 (by decide) ?_
  refine q_aload_n (pc := 2) cx dL_write_2 rfl 0 rfl ?_
  refine q_iload_n (pc := 3) cx dL_write_3 rfl 1 rfl ?_
  refine q_callVi (pc := 4) (rest := [.int 0, .ref o]) [.int r] cx hM cf_X10_write cv_X10_write (gw_t4 127 rfl rfl) ha0 ⟨by decide, rfl, rfl⟩ ⟨rfl, rfl⟩ ⟨Nat.le_of_ble_eq_true rfl, Nat.le_of_ble_eq_true rfl⟩ ⟨Nat.zero_le _, Nat.zero_le _⟩ rfl rfl (Nat.le_of_ble_eq_true rfl) dL_write_4 (fun u N hq hN => ?_)
  refine q_i2l (pc := 7) cx dL_write_7 ?_
  refine q_last (pc := 8) cx dL_write_8 ?_
  refine q_goto (pc := 9) (tgt := 15) cx dL_write_9 (by decide) ?_
  refine q_iconst (pc := 15) (v := 0) cx dL_write_15 (by decide) ?_
  exact h_iret (pc := 16) cx (Nat.zero_le _) (Nat.zero_le _) hr hlk dL_write_16 hN ⟨rfl, u, N, hq, rfl⟩
theorem h_write_thr (hND : ND G) (ho : o ∉ G.1) (ha0 : Is G 9 a0) (hT : TYR G M.1.2.2.1) (hM : MeT l D G yX10_write (Cond.code yX10_write cX10_write 2 (some .int) :: GW) rm_getT [.ref a0, .int r] M.1) : MeH l D G lc o yL_write (Cond.codeWith yL_write cL_write 4 (some .int) hh9 :: GW) rm_h [.ref a0, .int r, .ref o] M (fun v N => v = 1 ∧ N = M) := by
  refine h_method (by decide) rfl (Nat.le_of_ble_eq_true rfl) hND ho ?_
  intro p e s m args below meth c cx hTW hex hr hlk
  have cx : CY p s m args c D G cL_write 4 RL lc o (AO G o) := cx
  refine q_aload_n (pc := 0) cx dL_write_0 rfl 2 rfl ?_
  refine q_iconst (pc := 1) (v := 0) cx dL_write_1 (by decide) ?_
  refine q_aload_n (pc := 2) cx dL_write_2 rfl 0 rfl ?_
  refine q_iload_n (pc := 3) cx dL_write_3 rfl 1 rfl ?_
  refine h_catch (pc := 4) (rest := [.int 0, .ref o]) [.int r] cx hTW hex (by decide) (by decide) (gw_t4 35 rfl rfl) hM cf_X10_write cv_X10_write (gw_t4 127 rfl rfl) ha0 ⟨by decide, rfl, rfl⟩ ⟨rfl, rfl⟩ ⟨Nat.le_of_ble_eq_true rfl, Nat.le_of_ble_eq_true rfl⟩ ⟨Nat.le_refl 1, Nat.le_refl 6⟩ rfl rfl (Nat.le_of_ble_eq_true rfl) dL_write_4 (fun z => ?_)
  refine q_astore_n (pc := 12) cx dL_write_12 rfl (by decide) [1, 2, 3, 0] rfl ?_
  refine q_iconst (pc := 13) (v := 1) cx dL_write_13 (by decide) ?_
  exact h_iret (pc := 14) cx (Nat.le_refl _) (Nat.le_refl _) hr hlk dL_write_14 hT ⟨rfl, rfl⟩
end Helpers2
