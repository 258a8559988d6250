/-! count, and the calls that may throw, over the mill's state -/
section Mill2
variable {l : Launch} {D : va_G} {G : SH} {M0 M : MS} {E : EV} {s : ST} {r : Int32}
theorem p_tableIn {p : Program} {e : Env} {R : Room} {s : State} {m : MethodId} {args : Array Value} {below : List Frame} {meth : Method} {c : Code} {nL : Nat} {Q : State → Prop} {cc : ByteArray} {own : String} {pc : Nat} {lv : List (Nat × Value)} {st : List Value} (cx : CX p s m args c D G cc nL own) {dflt lo hi : Int} {offs : Array Int} {len : Nat} {x : Int32} {off : Int} {tgt : Nat} (dg : decode cc pc = .ok (.tableswitch dflt lo hi offs, len)) (h1 : ¬ x.toInt < lo) (h2 : ¬ hi < x.toInt) (ho : offs[(x.toInt - lo).toNat]? = some off) (ht : (pc : Int) + off = (tgt : Int)) (k : PW p l e R s m args below meth c D G nL Q tgt lv st M) : PW p l e R s m args below meth c D G nL Q pc lv (.int x :: st) M := fun H locs ls hP hS hl => lv_tableIn cx.1 cx.2.1 dg h1 h2 ho ht (k H locs ls hP hS hl)
theorem p_tableOut {p : Program} {e : Env} {R : Room} {s : State} {m : MethodId} {args : Array Value} {below : List Frame} {meth : Method} {c : Code} {nL : Nat} {Q : State → Prop} {cc : ByteArray} {own : String} {pc : Nat} {lv : List (Nat × Value)} {st : List Value} (cx : CX p s m args c D G cc nL own) {dflt lo hi : Int} {offs : Array Int} {len : Nat} {x : Int32} {tgt : Nat} (dg : decode cc pc = .ok (.tableswitch dflt lo hi offs, len)) (h : x.toInt < lo ∨ hi < x.toInt) (ht : (pc : Int) + dflt = (tgt : Int)) (k : PW p l e R s m args below meth c D G nL Q tgt lv st M) : PW p l e R s m args below meth c D G nL Q pc lv (.int x :: st) M := fun H locs ls hP hS hl => lv_tableOut cx.1 cx.2.1 dg h ht (k H locs ls hP hS hl)
theorem c_X10_count {a0 : Nat} {Qp : Int32 → MS → Prop} (hND : ND G) (hT : TYR G M.2.2.1) (ha0 : Is G 9 a0) (q0 : r = 0 → Qp (nI (G.2.2.1 (mR M a0 1))) M) (q1 : r = 1 → Qp (mI M a0 0) M) (q2 : r = 2 → Qp (mI M (mR M a0 8) 0) M) (q3 : r = 3 → Qp (mI M (mR M a0 9) 0) M) (q4 : r ≠ 0 → r ≠ 1 → r ≠ 2 → r ≠ 3 → Qp (-1) M) : MeI l D G yX10_count (Cond.code yX10_count cX10_count 2 (some .int) :: GW) rm_get [.ref a0, .int r] M Qp := by
  unfold MeI
  refine p_method (by decide) rfl (Nat.le_of_ble_eq_true rfl) hND ?_
  intro p e s m args below meth c cx hr hlk
  have cx : CX p s m args c D G cX10_count 2 RX10 := cx
  refine p_iload_n (pc := 0) cx dX10_count_0 rfl 1 rfl ?_
  by_cases c0 : r = 0
  · refine p_tableIn (pc := 1) (tgt := 32) (off := 31) cx dX10_count_1 (by rw [c0]; decide) (by rw [c0]; decide) (by rw [c0]; rfl) (by decide) ?_
    refine p_aload_n (pc := 32) cx dX10_count_32 rfl 0 rfl ?_
    refine gf_9_1 (pc := 33) cx ha0 t2_74 dX10_count_33 ?_
    refine p_alenW (pc := 36) cx (TYR.at hT ha0 1 13 rfl (by decide)) dX10_count_36 ?_
    exact p_iret (pc := 37) cx hr hlk dX10_count_37 hT (q0 c0)
  by_cases c1 : r = 1
  · refine p_tableIn (pc := 1) (tgt := 38) (off := 37) cx dX10_count_1 (by rw [c1]; decide) (by rw [c1]; decide) (by rw [c1]; rfl) (by decide) ?_
    refine p_aload_n (pc := 38) cx dX10_count_38 rfl 0 rfl ?_
    refine gf_9_0 (pc := 39) cx ha0 t2_73 dX10_count_39 ?_
    exact p_iret (pc := 42) cx hr hlk dX10_count_42 hT (q1 c1)
  by_cases c2 : r = 2
  · refine p_tableIn (pc := 1) (tgt := 43) (off := 42) cx dX10_count_1 (by rw [c2]; decide) (by rw [c2]; decide) (by rw [c2]; rfl) (by decide) ?_
    refine p_aload_n (pc := 43) cx dX10_count_43 rfl 0 rfl ?_
    refine gf_9_8 (pc := 44) cx ha0 t2_81 dX10_count_44 ?_
    refine gf_7_0 (pc := 47) cx (TYR.at hT ha0 8 7 rfl (by decide)) t2_43 dX10_count_47 ?_
    exact p_iret (pc := 50) cx hr hlk dX10_count_50 hT (q2 c2)
  by_cases c3 : r = 3
  · refine p_tableIn (pc := 1) (tgt := 51) (off := 50) cx dX10_count_1 (by rw [c3]; decide) (by rw [c3]; decide) (by rw [c3]; rfl) (by decide) ?_
    refine p_aload_n (pc := 51) cx dX10_count_51 rfl 0 rfl ?_
    refine gf_9_9 (pc := 52) cx ha0 t2_82 dX10_count_52 ?_
    refine gf_4_0 (pc := 55) cx (TYR.at hT ha0 9 4 rfl (by decide)) t2_61 dX10_count_55 ?_
    exact p_iret (pc := 58) cx hr hlk dX10_count_58 hT (q3 c3)
  refine p_tableOut (pc := 1) (tgt := 59) cx dX10_count_1 ?_ (by decide) ?_
  · have e0 : r.toInt ≠ 0 := fun h => c0 (Int32.toInt_inj.mp h)
    have e1 : r.toInt ≠ 1 := fun h => c1 (Int32.toInt_inj.mp h)
    have e2 : r.toInt ≠ 2 := fun h => c2 (Int32.toInt_inj.mp h)
    have e3 : r.toInt ≠ 3 := fun h => c3 (Int32.toInt_inj.mp h)
    omega
  · refine p_iconst (pc := 59) (v := -1) cx dX10_count_59 (by decide) ?_
    exact p_iret (pc := 60) cx hr hlk dX10_count_60 hT (q4 c0 c1 c2 c3)
abbrev RE (G : SH) (M0 : MS) (E : EV) (o : ST × Int32) : Int32 → MS → Prop := fun v N => v = o.2 ∧ MI G M0 N E o.1
theorem g_count (hE : SE G E) (h : MI G M0 M E s) (hND : ND G) (hT : TYR G M.2.2.1) (ha0 : Is G 9 (eA E 0)) : MeI l D G yX10_count (Cond.code yX10_count cX10_count 2 (some .int) :: GW) rm_get [.ref (eA E 0), .int r] M (RE G M0 E (oCnt (en E) (ew E) s r)) := by
  unfold RE oCnt
  refine c_X10_count hND hT ha0 (fun c => ⟨?_, h⟩) (fun c => ⟨?_, h⟩) (fun c => ⟨?_, h⟩) (fun c => ⟨?_, h⟩) (fun c0 c1 c2 c3 => ⟨?_, h⟩)
  · rw [c, if_pos rfl, h.len hE]
  · rw [c, if_neg (by decide), if_pos rfl, h.1.2.2.1]
  · rw [c, if_neg (by decide), if_neg (by decide), if_pos rfl, h.f 8, h.2.2.2.1.2.2.2.2.1]
  · rw [c, if_neg (by decide), if_neg (by decide), if_neg (by decide), if_pos rfl, h.f 9, h.2.2.2.2.1.1.2.2.2.2.1]
  · rw [if_neg c0, if_neg c1, if_neg c2, if_neg c3]
theorem MI.no (hE : SE G E) (h : MI G M0 M E s) (hr : ¬ isR (en E) r) : r < 0 ∨ nI (G.2.2.1 (mR M (eA E 0) 1)) ≤ r := by
  rw [h.len hE]
  by_cases c : r < 0
  · exact Or.inl c
  · exact Or.inr (Classical.not_not.mp fun q => hr ⟨c, q⟩)
theorem g_sign (hE : SE G E) (h : MI G M0 M E s) (hr : isR (en E) r) (hND : ND G) (hT : TYR G M.2.2.1) (ha0 : Is G 9 (eA E 0)) : MeI l D G yX10_sign (Cond.code yX10_sign cX10_sign 3 (some .int) :: GW) rm_get [.ref (eA E 0), .int r] M (RE G M0 E (oSgn (en E) s r)) := by
  obtain ⟨k, hk, e⟩ := isR_of hE.n31 hr
  have h16 := hE.1.2.1
  have hw := h.w hk
  have hnl := h.nl hk
  have h40 := hE.1.2.2.2
  refine c_X10_sign_ret hND hT ha0 hr.1 (by rw [h.len hE]; exact hr.2) (by rw [e]; exact h.vp hE hk) ?_
  unfold RE oSgn
  rw [if_pos hr, e, ix_nI (by omega), cl (show k < 2147483648 by omega), h.rg hk, hw.2.1, hw.2.2.2, nI_eq0 (by omega), nl_v0]
  unfold iS
  refine ⟨fun c => ⟨?_, h⟩, fun c => ⟨fun d => ⟨?_, h⟩, fun d => ⟨?_, h⟩⟩⟩
  · rw [if_neg (by omega), if_pos (by omega)]
  · by_cases q : s.1 k < 0
    · rw [decide_eq_true q] at d
      exact absurd d (by decide)
    · rw [if_neg q, if_neg (by omega)]
  · by_cases q : s.1 k < 0
    · rw [if_pos q]
    · rw [decide_eq_false q] at d
      exact absurd rfl d
theorem g_length (hE : SE G E) (h : MI G M0 M E s) (hr : isR (en E) r) (hND : ND G) (hT : TYR G M.2.2.1) (ha0 : Is G 9 (eA E 0)) : MeI l D G yX10_length (Cond.code yX10_length cX10_length 2 (some .int) :: GW) rm_get [.ref (eA E 0), .int r] M (RE G M0 E (oLen (en E) s r)) := by
  obtain ⟨k, hk, e⟩ := isR_of hE.n31 hr
  have h16 := hE.1.2.1
  have hw := h.w hk
  refine c_X10_length_ret hND hT ha0 hr.1 (by rw [h.len hE]; exact hr.2) (by rw [e]; exact h.vp hE hk) ?_
  unfold RE oLen
  rw [if_pos hr, e, ix_nI (by omega), cl (show k < 2147483648 by omega), h.rg hk, hw.2.1]
  exact ⟨rfl, h⟩
theorem g_limbAt {i : Int32} (hE : SE G E) (h : MI G M0 M E s) (hr : isR (en E) r) (hND : ND G) (hT : TYR G M.2.2.1) (ha0 : Is G 9 (eA E 0)) : MeI l D G yX10_limbAt (Cond.code yX10_limbAt cX10_limbAt 3 (some .int) :: GW) rm_get [.ref (eA E 0), .int r, .int i] M (RE G M0 E (oLimb (en E) s r i)) := by
  obtain ⟨k, hk, e⟩ := isR_of hE.n31 hr
  have h16 := hE.1.2.1
  have hw := h.w hk
  refine c_X10_limbAt_ret hND hT ha0 hr.1 (by rw [h.len hE]; exact hr.2) (by rw [e]; exact h.vp hE hk) ?_
  unfold RE oLimb
  rw [if_pos hr, e, ix_nI (by omega), cl (show k < 2147483648 by omega), h.rg hk]
  by_cases c : i < 0
  · rw [if_pos c]
    exact s_limb_neg c ⟨rfl, h⟩
  · rw [if_neg c]
    have hi0 : (0 : Int) ≤ i.toInt := by
      have := Int32.not_lt.mp c
      exact Int32.le_iff_toInt_le.mp this
    have hi1 : i.toInt < 2147483648 := Int32.toInt_lt i
    have ei : i = nI (ix i) := by
      apply Int32.toInt_inj.mp
      show i.toInt = (Int32.ofNat i.toNatClampNeg).toInt
      rw [Int32.toInt_ofNat_of_lt (by show i.toInt.toNat < 2147483648; omega)]
      show i.toInt = (i.toInt.toNat : Int)
      omega
    refine s_limb h.1.1 (hE.r8 hk) hw ei (by show i.toInt.toNat < 2147483648; omega) ⟨?_, h⟩
    rw [lN_lZ, lZ_i]
    rfl
theorem g_write (hE : SE G E) (h : MI G M0 M E s) (hr : isR (en E) r) (hND : ND G) (hT : TYR G M.2.2.1) (ha0 : Is G 9 (eA E 0)) : MeI l D G yX10_write (Cond.code yX10_write cX10_write 2 (some .int) :: GW) rm_get [.ref (eA E 0), .int r] M (RE G M0 E (oWri (en E) s r)) := by
  obtain ⟨k, hk, e⟩ := isR_of hE.n31 hr
  have h16 := hE.1.2.1
  have hw := h.w hk
  have hnl := h.nl hk
  have h40 := hE.1.2.2.2
  refine c_X10_write_ret hND hT ha0 hr.1 (by rw [h.len hE]; exact hr.2) (by rw [e]; exact h.vp hE hk) ?_
  unfold RE oWri
  rw [if_pos hr, e, ix_nI (by omega), cl (show k < 2147483648 by omega), h.rg hk, h.f 9]
  have t9 := h.2.2.2.2.1
  have hne : ∀ x, Is G 8 x → mR M x 0 ≠ eA E 16 := fun x hx z => by
    have z1 := (h.1.2.2.2.2.2.2.2.2.1 x hx).1
    rw [z, hE.2.2.2.2.2.1.2.2.2.2.1] at z1
    exact absurd z1 (by decide)
  refine s_print h.1.1 hE.i17 (hE.r8 hk) (hE.ner hk hE.t17) (hE.o8 (by decide)) (hne _ hE.i17) (hne _ (hE.r8 hk)) t9.1.1 t9.2 t9.1.2.1 t9.1.2.2.1 hw (by rw [h.1.2.2.2.2.2.1.2.2.2]; omega) (Nat.le_trans (OL_le hE.1.2.2.1 hnl) (by omega)) (fun N f fr tn => ?_)
  have hN := MI.out hE h f fr tn
  refine ⟨?_, hN⟩
  rw [hN.f 9]
  exact tn.2.2.2.2.1
end Mill2
