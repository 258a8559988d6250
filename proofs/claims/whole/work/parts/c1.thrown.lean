def QT (D : va_G) (G : SH) (M : MS) : Array Value → State → Addr → State → Prop := fun _ st x t => va_P D vwCl (PL G M) t.heap ∧ va_F (AG G) st t ∧ ∃ ce : Cell, t.heap[x]? = some ce ∧ st.vm.findClass nsE = some ce.cls ∧ ce.vm = .none
def PT (D : va_G) (G : SH) (M : MS) (U : State) : Prop := PRE D G M U ∧ TW (AG G) U U.heap
theorem PT_blind (av : List Value) (D : va_G) (G : SH) (M : MS) : FrameBlind (va_Pc av (PT D G M)) := fun a U g mk q => ⟨q.1, ⟨q.2.1.1, va_K.moved (u := U) (U := U.calling g mk a) (Vm.Alike.refl U.vm) q.2.1.2⟩, TW.same (u := U) rfl q.2.2⟩
def MeT (l : Launch) (D : va_G) (G : SH) (y : MethodName) (ws : List Cond) (rm : Room) (av : List Value) (M : MS) : Prop := MetT l y ws rm (va_Pc av (PT D G M)) (QT D G M) 1 6 (AG G)
section Thr
variable {l : Launch} {D : va_G} {G : SH} {a0 : Nat} {r : Int32} {M : MS}
theorem p_methodT {y : MethodName} {rm : Room} {cc : ByteArray} {maxL : Nat} {ret : Option FieldType} {av : List Value} {lv0 : List (Nat × Value)} (hst : l.stackTraces = false) (hy : plainName y.cls = true) (hlv : lv_args 0 av = lv0) (hn : (lg_sl av).length ≤ maxL) (hND : ND G)
    (body : ∀ (p : Program) (e : Env) (s : State) (m : MethodId) (args : Array Value) (below : List Frame) (meth : Method) (c : Code), CX p s m args c D G cc maxL y.cls → va_P D vwCl (PL G M) s.heap → TW (AG G) s s.heap → c.exceptionTable.toList = [] → meth.locks = false → e.platform.stackTraces = false → PW p l e rm s m args below meth c D G maxL (TQ below (QT D G M) args s 1 6 (AG G)) 0 lv0 [] M) :
    MeT l D G y (Cond.code y cc maxL ret :: GW) rm av M := by
  refine MetT.ofW (cc := cc) (maxL := maxL) (ret := ret) hy rfl ?_
  intro p e s m args below meth c s₁ B hml hex hv
  obtain ⟨rfl, ⟨hP, hK⟩, hW⟩ := hv
  have hts := atoms_spec (ws := Cond.code y cc maxL ret :: GW) B.pre
  have hown : s.vm.findClass y.cls = some m.cls := findClass_of_methodNamed B.named
  have hl := lv_entry av (n := maxL) hn
  rw [lg_entry_eq]
  rw [hlv] at hl
  exact body p e s m av.toArray below meth c ⟨B.exec, B.bytes, hml, hown, fun w h => hts w (List.mem_cons_of_mem _ h), hK, hND⟩ hP hW hex B.notSynchronized (by rw [B.admits.platform]; exact hst) s.heap [] _ hP va_S.rf hl
abbrev rm_regT : Room := { frames := 6, cells := 1, slots := 6, locals := 100 }
theorem c_X10_regT (hst : l.stackTraces = false) (hND : ND G) (hT : TYR G M.2.2.1) (ha0 : Is G 9 a0) (h0 : r < 0 ∨ nI (G.2.2.1 (mR M a0 1)) ≤ r) : MeT l D G yX10_registerOrThrow (Cond.code yX10_registerOrThrow cX10_registerOrThrow 2 (some (.object "GcdMill$Whole")) :: GW) rm_regT [.ref a0, .int r] M := by
  refine p_methodT hst (by decide) rfl (Nat.le_of_ble_eq_true rfl) hND ?_
  intro p e s m args below meth c cx hPs hTW hex hlk htr
  have cx : CX p s m args c D G cX10_registerOrThrow 2 RX10 := cx
  refine p_aload_n (pc := 0) cx dX10_registerOrThrow_0 rfl 0 rfl ?_
  refine p_iload_n (pc := 1) cx dX10_registerOrThrow_1 rfl 1 rfl ?_
  refine p_callVi (pc := 2) (Qp := fun x N => x = 0 ∧ N = M) [.int r] cx (c_X10_isRegister cx.2.2.2.2.2.2 hT ha0 (wis_no h0 ⟨rfl, rfl⟩)) cf_X10_isRegister cv_X10_isRegister t2_120 ha0 ⟨by decide, rfl, rfl⟩ ⟨rfl, rfl⟩ ⟨Nat.le_of_ble_eq_true rfl, Nat.le_of_ble_eq_true rfl⟩ rfl rfl (Nat.le_of_ble_eq_true rfl) dX10_registerOrThrow_2 (fun r1 M1 hw hM1 => ?_)
  obtain ⟨rfl, rfl⟩ := hw
  refine p_if_ne (pc := 5) (tgt := 18) cx dX10_registerOrThrow_5 (by decide) (fun hc => absurd rfl hc) (fun hc => ?_)
  intro H locs ls hP hS hl
  have hg := cx.2.2.2.2.1
  obtain ⟨cX, kX0, hfX, hkX0, -⟩ := Cond.instantiable_spec (hg _ (gw_t4 (w := .instantiable nsE 6) 45 rfl rfl))
  refine W.newcK (own := RX10) (C := nsE) (index := 248) (n := 6) cx.1 cx.2.1 cx.2.2.2.1 (hg _ (gw_t4 44 rfl rfl)) (hg _ (gw_t4 45 rfl rfl)) (hg _ (gw_t1 20 rfl rfl)) rfl dX10_registerOrThrow_8 (Nat.le_refl 1) (Nat.le_refl 6) hfX rfl fun H1 kC hkC e1 z1 o1 => ?_
  refine lv_dup (pc := 11) cx.1 cx.2.1 dX10_registerOrThrow_11 rfl ?_
  obtain ⟨q, hq⟩ := hTW.2.2
  refine va_ldcS (pc := 12) cx.1 cx.2.1 cx.2.2.2.1 hq dX10_registerOrThrow_12 ?_
  intro T hTh X
  obtain ⟨U, g1, g2, g3, g4, g5, ⟨ce, g6, g7, g8⟩, g9, g10⟩ := th_ctor (A := AG G) X cx.1 htr cx.2.2.2.1 hg hTW (fun x hx cell hc => by
      obtain ⟨i, hi⟩ := PL_get (f := ce G M1) (hS.2.2 x hx)
      exact va_nst (hPs i _ hi) hc) (a := H.size) hfX hkC (by rw [hTh]; exact e1) hS.1 (msg := .ref q) rfl (g := F0 m 14 ls [.ref q, .ref H.size, .ref H.size]) rfl (hl.1.trans cx.2.2.1.symm) rfl rfl rfl (by rw [cx.2.1]; exact dX10_registerOrThrow_14) (by rw [cx.2.1]; exact dX10_registerOrThrow_17) (fun x hx => by rw [hex] at hx; cases hx) (by decide) (by show 2 * 0 + 82 ≤ 100; decide) hlk
  have hkeep : ∀ k : Nat, k < H.size → U.heap[k]? = H[k]? := fun k hk => (g10 k (Nat.ne_of_lt hk)).trans (by rw [hTh]; exact o1 k hk)
  refine ⟨U, g1, H.size, g2, g3, ⟨hP.kept fun k x hx => hkeep _ (hP k x hx).lt, ⟨?_, fun k h1 h2 => (hkeep k (Nat.lt_of_lt_of_le h1 hS.1)).trans (hS.2.1 k h1 h2)⟩, ce, g6, by rw [g7]; exact hfX, g8⟩, g4, locs, g5, hS.2.2⟩
  rw [g9, hTh, z1]
  exact Nat.le_trans hS.1 (Nat.le_succ _)
/-- a call that throws, at the end of a prefix that only reads: the method throws -/
theorem p_callT {p : Program} {e : Env} {R : Room} {s : State} {m : MethodId} {args : Array Value} {below : List Frame} {meth : Method} {c : Code} {nL : Nat} {cc : ByteArray} {own : String} {pc : Nat} {lv : List (Nat × Value)} {st : List Value} {y : MethodName} {bytes : ByteArray} {maxL n index : Nat} {ret : Option FieldType} {rm : Room} {rest : List Value} (As : List Value) {b ci : Nat} {q : vw_C}
    (cx : CX p s m args c D G cc nL own) (hTW : TW (AG G) s s.heap) (hex : c.exceptionTable.toList = []) (hlk : meth.locks = false) (hM : MeT l D G y (Cond.code y bytes maxL ret :: GW) rm (.ref b :: As) M) (hF : CF y bytes maxL ret n) (hV : CFV y) (hlink : Cond.methodLink own index y ∈ GW) (hb : Is G ci b) (hci : ci < 11 ∧ vwCl[ci]? = some q ∧ q.1 = y.cls) (h0 : rm.cells = 1 ∧ rm.slots = 6) (hR : rm.frames + 1 ≤ R.frames ∧ 8 + (maxL + 11) + rm.locals ≤ R.locals) (hRc : 1 ≤ R.cells ∧ 6 ≤ R.slots) (hn : As.length = n) (hst : st = As.reverse ++ .ref b :: rest) (hW : (rest.map fun v => v.category).sum ≤ 8) (dg : decode cc pc = .ok (.invokevirtual index, 3)) :
    PW p l e R s m args below meth c D G nL (TQ below (QT D G M) args s 1 6 (AG G)) pc lv st M := fun H locs ls hP hS hl => by
  have hrc := p_recv cx hP hb hci.1 hci.2.1
  rw [hci.2.2] at hrc
  have hTH : TW (AG G) s H := hTW.kept hS.2.1
  have hB : CallB R s args own index y bytes maxL ret (Cond.code y bytes maxL ret :: GW) rm 1 6 n := callB_of n cx.2.2.2.2.1 (goodIn_g hF.1) rfl h0.1 h0.2 (cx.2.2.2.2.1 _ hF.2.1) (cx.2.2.2.2.1 _ hlink) hF.2.2 hR
  have hrun := th_runV (C := y.cls) (As := As) (rest := rest) (b := b) (g := F0 m pc ls st) (locs := locs) (cells := 0) (slots := 0) (e := e) (below := below) (meth := meth) (H := H) ⟨cx.1, cx.2.1, cx.2.2.1, cx.2.2.2.1, cx.2.2.2.2.1⟩ hM ⟨hB, cx.2.2.2.2.1 _ hV.1, cx.2.2.2.2.1 _ hV.2⟩ ⟨PT_blind _ _ _ _, hrc, fun U hU hW => ⟨rfl, ⟨by rw [hU]; exact hP, va_K.moved hW.alike cx.2.2.2.2.2.1⟩, by rw [hU]; exact hTH.warm hW⟩⟩ rfl hn hl.1 hst (lv_room hW) dg (by omega)
  refine th_out (cells := 0) (slots := 0) (mc := 1) (ms := 6) hrun hS.2.2 rfl rfl rfl hex hlk (fun st₀ x t t' e0 w0 hq e1 e2 => ?_)
  obtain ⟨q1, q2, ce, q3, q4, q5⟩ := hq
  refine ⟨by rw [e1]; exact q1, ⟨?_, fun k h1 h2 => ?_⟩, ce, by rw [e1]; exact q3, ?_, q5⟩
  · rw [e1]
    exact Nat.le_trans hS.1 (by rw [← e0]; exact q2.1)
  · rw [e1, q2.2 k (by rw [e0]; exact Nat.lt_of_lt_of_le h1 hS.1) h2, e0]
    exact hS.2.1 k h1 h2
  · rw [← w0.alike.findClass]
    exact q4
abbrev rm_getT : Room := { frames := 7, cells := 1, slots := 6, locals := 130 }
theorem c_X10_signT (hst : l.stackTraces = false) (hND : ND G) (hT : TYR G M.2.2.1) (ha0 : Is G 9 a0) (h0 : r < 0 ∨ nI (G.2.2.1 (mR M a0 1)) ≤ r) : MeT l D G yX10_sign (Cond.code yX10_sign cX10_sign 3 (some .int) :: GW) rm_getT [.ref a0, .int r] M := by
  refine p_methodT hst (by decide) rfl (Nat.le_of_ble_eq_true rfl) hND ?_
  intro p e s m args below meth c cx hPs hTW hex hlk htr
  have cx : CX p s m args c D G cX10_sign 3 RX10 := cx
  refine p_aload_n (pc := 0) cx dX10_sign_0 rfl 0 rfl ?_
  refine p_iload_n (pc := 1) cx dX10_sign_1 rfl 1 rfl ?_
  exact p_callT (pc := 2) (rest := []) [.int r] cx hTW hex hlk (c_X10_regT hst hND hT ha0 h0) cf_X10_reg cv_X10_reg (gw_t4 40 rfl rfl) ha0 ⟨by decide, rfl, rfl⟩ ⟨rfl, rfl⟩ ⟨Nat.le_of_ble_eq_true rfl, Nat.le_of_ble_eq_true rfl⟩ ⟨Nat.le_refl 1, Nat.le_refl 6⟩ rfl rfl (Nat.le_of_ble_eq_true rfl) dX10_sign_2
theorem c_X10_lengthT (hst : l.stackTraces = false) (hND : ND G) (hT : TYR G M.2.2.1) (ha0 : Is G 9 a0) (h0 : r < 0 ∨ nI (G.2.2.1 (mR M a0 1)) ≤ r) : MeT l D G yX10_length (Cond.code yX10_length cX10_length 2 (some .int) :: GW) rm_getT [.ref a0, .int r] M := by
  refine p_methodT hst (by decide) rfl (Nat.le_of_ble_eq_true rfl) hND ?_
  intro p e s m args below meth c cx hPs hTW hex hlk htr
  have cx : CX p s m args c D G cX10_length 2 RX10 := cx
  refine p_aload_n (pc := 0) cx dX10_length_0 rfl 0 rfl ?_
  refine p_iload_n (pc := 1) cx dX10_length_1 rfl 1 rfl ?_
  exact p_callT (pc := 2) (rest := []) [.int r] cx hTW hex hlk (c_X10_regT hst hND hT ha0 h0) cf_X10_reg cv_X10_reg (gw_t4 40 rfl rfl) ha0 ⟨by decide, rfl, rfl⟩ ⟨rfl, rfl⟩ ⟨Nat.le_of_ble_eq_true rfl, Nat.le_of_ble_eq_true rfl⟩ ⟨Nat.le_refl 1, Nat.le_refl 6⟩ rfl rfl (Nat.le_of_ble_eq_true rfl) dX10_length_2
theorem c_X10_limbAtT {i : Int32} (hst : l.stackTraces = false) (hND : ND G) (hT : TYR G M.2.2.1) (ha0 : Is G 9 a0) (h0 : r < 0 ∨ nI (G.2.2.1 (mR M a0 1)) ≤ r) : MeT l D G yX10_limbAt (Cond.code yX10_limbAt cX10_limbAt 3 (some .int) :: GW) rm_getT [.ref a0, .int r, .int i] M := by
  refine p_methodT hst (by decide) rfl (Nat.le_of_ble_eq_true rfl) hND ?_
  intro p e s m args below meth c cx hPs hTW hex hlk htr
  have cx : CX p s m args c D G cX10_limbAt 3 RX10 := cx
  refine p_aload_n (pc := 0) cx dX10_limbAt_0 rfl 0 rfl ?_
  refine p_iload_n (pc := 1) cx dX10_limbAt_1 rfl 1 rfl ?_
  exact p_callT (pc := 2) (rest := []) [.int r] cx hTW hex hlk (c_X10_regT hst hND hT ha0 h0) cf_X10_reg cv_X10_reg (gw_t4 40 rfl rfl) ha0 ⟨by decide, rfl, rfl⟩ ⟨rfl, rfl⟩ ⟨Nat.le_of_ble_eq_true rfl, Nat.le_of_ble_eq_true rfl⟩ ⟨Nat.le_refl 1, Nat.le_refl 6⟩ rfl rfl (Nat.le_of_ble_eq_true rfl) dX10_limbAt_2
theorem c_X10_writeT (hst : l.stackTraces = false) (hND : ND G) (hT : TYR G M.2.2.1) (ha0 : Is G 9 a0) (h0 : r < 0 ∨ nI (G.2.2.1 (mR M a0 1)) ≤ r) : MeT l D G yX10_write (Cond.code yX10_write cX10_write 2 (some .int) :: GW) rm_getT [.ref a0, .int r] M := by
  refine p_methodT hst (by decide) rfl (Nat.le_of_ble_eq_true rfl) hND ?_
  intro p e s m args below meth c cx hPs hTW hex hlk htr
  have cx : CX p s m args c D G cX10_write 2 RX10 := cx
  refine p_aload_n (pc := 0) cx dX10_write_0 rfl 0 rfl ?_
  refine gf_9_9 (pc := 1) cx ha0 t2_82 dX10_write_1 ?_
  refine p_aload_n (pc := 4) cx dX10_write_4 rfl 0 rfl ?_
  refine p_iload_n (pc := 5) cx dX10_write_5 rfl 1 rfl ?_
  exact p_callT (pc := 6) (rest := [.ref (mR M a0 9)]) [.int r] cx hTW hex hlk (c_X10_regT hst hND hT ha0 h0) cf_X10_reg cv_X10_reg (gw_t4 40 rfl rfl) ha0 ⟨by decide, rfl, rfl⟩ ⟨rfl, rfl⟩ ⟨Nat.le_of_ble_eq_true rfl, Nat.le_of_ble_eq_true rfl⟩ ⟨Nat.le_refl 1, Nat.le_refl 6⟩ rfl rfl (Nat.le_of_ble_eq_true rfl) dX10_write_6
end Thr
