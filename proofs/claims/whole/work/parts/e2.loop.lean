/-! THE CLAIM OUT OF ONE WALK OF THE LAW'S BODY. Your part is whole_start (and what it stands on); all else here is the same for every law, but numbers. -/
def R_law : String := "GcdMillLaw"
def lw_P (b : Addr) (xs : List Int32) (args : Array Value) (s : State) : Prop := args = #[.ref b] ∧ s.IntsAt b xs ∧ xs.length ≤ 3074 ∧ (Jvm.Cond.and given_1 narrow_1).before args s = true
def lw_Q (_ : Array Value) (s : State) (o : Outcome) (t : State) : Prop := o = .returned (some (.int 1)) ∧ Framed s o t [] 601024 7293000
def lw_Z (below : List Frame) (a : Array Value) (s : State) : State → Prop := fun t => ∃ o, t.status = .running ∧ Ended t below o ∧ lw_Q a s o t
/-- the law's own end, with 1 on the stack, nothing written that was there before, its room as the claim has it -/
theorem lw_ret {p : Program} {l : Launch} {e : Env} {s : State} {m : MethodId} {below : List Frame} {meth : Method} {c : Code} {b : Nat} (hx : p.tables.exec = Jvm.exec) (hb : c.code = code) (hr : meth.sig.returnType = ret) (hlocks : meth.locks = false) {pc : Nat} {H : Heap} {ls : Array Slot} (hdg : decode code pc = .ok (.ireturn, 1)) : W p l e room_1 s m #[Value.ref b] below meth c H [] 601024 7293000 (lw_Z below #[Value.ref b] s) (F0 m pc ls [.int 1]) := by
  intro T hT X
  obtain ⟨fs, hret, hrun, hended, hW, hframe⟩ := X.leave (v := some (.int 1)) (hlocks := hlocks) (fun h => by rw [hr] at h; cases h)
  have hmeth' : T.vm.method? m = some meth := X.method'
  refine ⟨T.setFrames fs, ?_, .returned (some (.int 1)), hrun, hended, rfl, ⟨_, rfl⟩, hW, hframe⟩
  jvm_step X.here [X.here.top, hx, hb, hdg, hmeth', hr, ret, narrow_b1]
  (try refine ⟨rfl, ?_⟩); (try refine ⟨rfl, ?_⟩)
  first | (intro acts; rw [hret _ acts rfl rfl rfl]) | rw [hret _ _ rfl rfl rfl]
  exact Steps.refl _
/-- what holds at the law's entry: the machine, the code, the tables' words (any of lw_tbl by 'hts w (by decide +kernel)'), the script of L ints xs at the cell b, what the Statement gives of the start (any of its parts by flat_of_before) -/
def lw_At (p : Program) (s : State) (m : MethodId) (meth : Method) (c : Code) (b L : Nat) (xs : Nat → Int32) : Prop :=
  p.tables.exec = Jvm.exec ∧ c.code = code ∧ meth.sig.returnType = ret ∧ c.maxLocals = 7 ∧ s.vm.findClass R_law = some m.cls ∧ (∀ w ∈ lw_tbl, w.before #[Value.ref b] s = true) ∧ va_X b L xs s s.heap ∧ b < s.heap.size ∧ meth.locks = false ∧ (Jvm.Cond.and given_1 narrow_1).before #[Value.ref b] s = true
/-! the law's loop (made by wip/gen/lawloop.py) -/
section LawLoop
variable {p : Program} {l : Launch} {e : Env} {s : State} {m : MethodId} {below : List Frame} {meth : Method} {c : Code} {D : va_G} {G : SH} {lc : ClassId} {o b len cells slots : Nat} {E : EV} {L : LV} {xs : Nat → Int32} {i : Int32} {st : ST} {M : MS × Int64}
abbrev A0 (s : State) : Nat → Prop := fun q => s.heap.size ≤ q
theorem LW.widen {R : Room} {args : Array Value} {nL : Nat} {A : Nat → Prop} {Q : State → Prop} {pc : Nat} {lv : List (Nat × Value)} {sk : List Value} {k n : Nat} (h1 : cells ≤ k) (h2 : slots ≤ n) (kk : LW p l e R s m args below meth c D G nL lc o A k n Q pc lv sk M) : LW p l e R s m args below meth c D G nL lc o A cells slots Q pc lv sk M := fun H locs ls hP hS hl => W.widen h1 h2 (kk H locs ls hP hS hl)
theorem law_end (F : LCx p s m #[Value.ref b] c D G lc o (A0 s) E L b len xs) (hr : meth.sig.returnType = ret) (hlk : meth.locks = false) (h1 : cells ≤ 601024) (h2 : slots ≤ 7293000) : LW p l e room_1 s m #[Value.ref b] below meth c D G 7 lc o (A0 s) cells slots (lw_Z below #[Value.ref b] s) 1491 (lvL b E L o i) [] M := fun H locs ls hP hS hl =>
  lv_iconst (pc := 1491) (v := 1) F.1.1 F.1.2.1 dL_law_1491 (by decide) (va_forget hS.2.2 (W.widen h1 h2 (lw_ret F.1.1 F.1.2.1 hr hlk dL_law_1492)))
theorem law_switch (F : LCx p s m #[Value.ref b] c D G lc o (A0 s) E L b len xs) (hst : l.stackTraces = false) (hTW : TW (A0 s) s s.heap) (hv : HVx i len) (hRc : cells + 1 ≤ room_1.cells ∧ slots + 6 ≤ room_1.slots) (hI : LIv G E L st M.1) {x : Int32} {Q : State → Prop} (next : ∀ (N : MS × Int64) (st1 : ST), LIv G E L st1 N.1 → LW p l e room_1 s m #[Value.ref b] below meth c D G 7 lc o (A0 s) (cells + 1) (slots + 6) Q 1485 (lvL b E L o i) [] N) : LW p l e room_1 s m #[Value.ref b] below meth c D G 7 lc o (A0 s) cells slots Q 60 (lvL b E L o i) [.int x] M := by
  have hRd : cells ≤ room_1.cells ∧ slots ≤ room_1.slots := ⟨Nat.le_trans (Nat.le_succ _) hRc.1, Nat.le_trans (Nat.le_add_right _ _) hRc.2⟩
  have nx : ∀ (N : MS × Int64) (st1 : ST), LIv G E L st1 N.1 → LW p l e room_1 s m #[Value.ref b] below meth c D G 7 lc o (A0 s) cells slots Q 1485 (lvL b E L o i) [] N := fun N st1 h => LW.widen (Nat.le_succ _) (Nat.le_add_right _ _) (next N st1 h)
  by_cases c0 : x = 0
  · refine q_tableIn (pc := 60) (tgt := 192) (off := 132) F.1 dL_law_60 (by rw [c0]; decide) (by rw [c0]; decide) (by rw [c0]; rfl) (by decide) ?_
    exact law_0 F hv hRd hI nx
  by_cases c1 : x = 1
  · refine q_tableIn (pc := 60) (tgt := 229) (off := 169) F.1 dL_law_60 (by rw [c1]; decide) (by rw [c1]; decide) (by rw [c1]; rfl) (by decide) ?_
    exact law_1 F hv hRd hI nx
  by_cases c2 : x = 2
  · refine q_tableIn (pc := 60) (tgt := 254) (off := 194) F.1 dL_law_60 (by rw [c2]; decide) (by rw [c2]; decide) (by rw [c2]; rfl) (by decide) ?_
    exact law_2 F hv hRd hI nx
  by_cases c3 : x = 3
  · refine q_tableIn (pc := 60) (tgt := 291) (off := 231) F.1 dL_law_60 (by rw [c3]; decide) (by rw [c3]; decide) (by rw [c3]; rfl) (by decide) ?_
    exact law_3 F hv hRd hI nx
  by_cases c4 : x = 4
  · refine q_tableIn (pc := 60) (tgt := 340) (off := 280) F.1 dL_law_60 (by rw [c4]; decide) (by rw [c4]; decide) (by rw [c4]; rfl) (by decide) ?_
    exact law_4 F hv hRd hI nx
  by_cases c5 : x = 5
  · refine q_tableIn (pc := 60) (tgt := 389) (off := 329) F.1 dL_law_60 (by rw [c5]; decide) (by rw [c5]; decide) (by rw [c5]; rfl) (by decide) ?_
    exact law_5 F hv hRd hI nx
  by_cases c6 : x = 6
  · refine q_tableIn (pc := 60) (tgt := 438) (off := 378) F.1 dL_law_60 (by rw [c6]; decide) (by rw [c6]; decide) (by rw [c6]; rfl) (by decide) ?_
    exact law_6 F hv hRd hI nx
  by_cases c7 : x = 7
  · refine q_tableIn (pc := 60) (tgt := 499) (off := 439) F.1 dL_law_60 (by rw [c7]; decide) (by rw [c7]; decide) (by rw [c7]; rfl) (by decide) ?_
    exact law_7 F hv hRd hI nx
  by_cases c8 : x = 8
  · refine q_tableIn (pc := 60) (tgt := 548) (off := 488) F.1 dL_law_60 (by rw [c8]; decide) (by rw [c8]; decide) (by rw [c8]; rfl) (by decide) ?_
    exact law_8 F hv hRd hI nx
  by_cases c9 : x = 9
  · refine q_tableIn (pc := 60) (tgt := 585) (off := 525) F.1 dL_law_60 (by rw [c9]; decide) (by rw [c9]; decide) (by rw [c9]; rfl) (by decide) ?_
    exact law_9 F hv hRd hI nx
  by_cases c10 : x = 10
  · refine q_tableIn (pc := 60) (tgt := 634) (off := 574) F.1 dL_law_60 (by rw [c10]; decide) (by rw [c10]; decide) (by rw [c10]; rfl) (by decide) ?_
    exact law_10 F hv hRd hI nx
  by_cases c11 : x = 11
  · refine q_tableIn (pc := 60) (tgt := 683) (off := 623) F.1 dL_law_60 (by rw [c11]; decide) (by rw [c11]; decide) (by rw [c11]; rfl) (by decide) ?_
    exact law_11 F hv hRd hI nx
  by_cases c12 : x = 12
  · refine q_tableIn (pc := 60) (tgt := 732) (off := 672) F.1 dL_law_60 (by rw [c12]; decide) (by rw [c12]; decide) (by rw [c12]; rfl) (by decide) ?_
    exact law_12 F hv hRd hI nx
  by_cases c13 : x = 13
  · refine q_tableIn (pc := 60) (tgt := 745) (off := 685) F.1 dL_law_60 (by rw [c13]; decide) (by rw [c13]; decide) (by rw [c13]; rfl) (by decide) ?_
    exact law_13 F hv hRd hI nx
  by_cases c14 : x = 14
  · refine q_tableIn (pc := 60) (tgt := 818) (off := 758) F.1 dL_law_60 (by rw [c14]; decide) (by rw [c14]; decide) (by rw [c14]; rfl) (by decide) ?_
    exact law_14 F hv hRd hI nx
  by_cases c15 : x = 15
  · refine q_tableIn (pc := 60) (tgt := 867) (off := 807) F.1 dL_law_60 (by rw [c15]; decide) (by rw [c15]; decide) (by rw [c15]; rfl) (by decide) ?_
    exact law_15 F hv hRd hI nx
  by_cases c16 : x = 16
  · refine q_tableIn (pc := 60) (tgt := 928) (off := 868) F.1 dL_law_60 (by rw [c16]; decide) (by rw [c16]; decide) (by rw [c16]; rfl) (by decide) ?_
    exact law_16 F hv hRd hI nx
  by_cases c17 : x = 17
  · refine q_tableIn (pc := 60) (tgt := 965) (off := 905) F.1 dL_law_60 (by rw [c17]; decide) (by rw [c17]; decide) (by rw [c17]; rfl) (by decide) ?_
    exact law_17 F hv hRd hI nx
  by_cases c18 : x = 18
  · refine q_tableIn (pc := 60) (tgt := 1014) (off := 954) F.1 dL_law_60 (by rw [c18]; decide) (by rw [c18]; decide) (by rw [c18]; rfl) (by decide) ?_
    exact law_18 F hv hRd hI nx
  by_cases c19 : x = 19
  · refine q_tableIn (pc := 60) (tgt := 1039) (off := 979) F.1 dL_law_60 (by rw [c19]; decide) (by rw [c19]; decide) (by rw [c19]; rfl) (by decide) ?_
    exact law_19 F hv hRd hI nx
  by_cases c20 : x = 20
  · refine q_tableIn (pc := 60) (tgt := 1076) (off := 1016) F.1 dL_law_60 (by rw [c20]; decide) (by rw [c20]; decide) (by rw [c20]; rfl) (by decide) ?_
    exact law_20 F hst hTW hv hRc hI next
  by_cases c21 : x = 21
  · refine q_tableIn (pc := 60) (tgt := 1132) (off := 1072) F.1 dL_law_60 (by rw [c21]; decide) (by rw [c21]; decide) (by rw [c21]; rfl) (by decide) ?_
    exact law_21 F hst hTW hv hRc hI next
  by_cases c22 : x = 22
  · refine q_tableIn (pc := 60) (tgt := 1188) (off := 1128) F.1 dL_law_60 (by rw [c22]; decide) (by rw [c22]; decide) (by rw [c22]; rfl) (by decide) ?_
    exact law_22 F hst hTW hv hRc hI next
  by_cases c23 : x = 23
  · refine q_tableIn (pc := 60) (tgt := 1256) (off := 1196) F.1 dL_law_60 (by rw [c23]; decide) (by rw [c23]; decide) (by rw [c23]; rfl) (by decide) ?_
    exact law_23 F hv hRd hI nx
  by_cases c24 : x = 24
  · refine q_tableIn (pc := 60) (tgt := 1329) (off := 1269) F.1 dL_law_60 (by rw [c24]; decide) (by rw [c24]; decide) (by rw [c24]; rfl) (by decide) ?_
    exact law_24 F hv hRd hI nx
  by_cases c25 : x = 25
  · refine q_tableIn (pc := 60) (tgt := 1354) (off := 1294) F.1 dL_law_60 (by rw [c25]; decide) (by rw [c25]; decide) (by rw [c25]; rfl) (by decide) ?_
    exact law_25 F hv hRd hI nx
  by_cases c26 : x = 26
  · refine q_tableIn (pc := 60) (tgt := 1379) (off := 1319) F.1 dL_law_60 (by rw [c26]; decide) (by rw [c26]; decide) (by rw [c26]; rfl) (by decide) ?_
    exact law_26 F hst hTW hv hRc hI next
  by_cases c27 : x = 27
  · refine q_tableIn (pc := 60) (tgt := 1435) (off := 1375) F.1 dL_law_60 (by rw [c27]; decide) (by rw [c27]; decide) (by rw [c27]; rfl) (by decide) ?_
    exact law_27 F hv hRd hI nx
  by_cases c28 : x = 28
  · refine q_tableIn (pc := 60) (tgt := 1460) (off := 1400) F.1 dL_law_60 (by rw [c28]; decide) (by rw [c28]; decide) (by rw [c28]; rfl) (by decide) ?_
    exact law_28 F hv hRd hI nx
  refine q_tableOut (pc := 60) (tgt := 1485) F.1 dL_law_60 ?_ (by decide) (nx M st hI)
  have e0 : x.toInt ≠ 0 := fun h => c0 (Int32.toInt_inj.mp h)
  have e1 : x.toInt ≠ 1 := fun h => c1 (Int32.toInt_inj.mp h)
  have e2 : x.toInt ≠ 2 := fun h => c2 (Int32.toInt_inj.mp h)
  have e3 : x.toInt ≠ 3 := fun h => c3 (Int32.toInt_inj.mp h)
  have e4 : x.toInt ≠ 4 := fun h => c4 (Int32.toInt_inj.mp h)
  have e5 : x.toInt ≠ 5 := fun h => c5 (Int32.toInt_inj.mp h)
  have e6 : x.toInt ≠ 6 := fun h => c6 (Int32.toInt_inj.mp h)
  have e7 : x.toInt ≠ 7 := fun h => c7 (Int32.toInt_inj.mp h)
  have e8 : x.toInt ≠ 8 := fun h => c8 (Int32.toInt_inj.mp h)
  have e9 : x.toInt ≠ 9 := fun h => c9 (Int32.toInt_inj.mp h)
  have e10 : x.toInt ≠ 10 := fun h => c10 (Int32.toInt_inj.mp h)
  have e11 : x.toInt ≠ 11 := fun h => c11 (Int32.toInt_inj.mp h)
  have e12 : x.toInt ≠ 12 := fun h => c12 (Int32.toInt_inj.mp h)
  have e13 : x.toInt ≠ 13 := fun h => c13 (Int32.toInt_inj.mp h)
  have e14 : x.toInt ≠ 14 := fun h => c14 (Int32.toInt_inj.mp h)
  have e15 : x.toInt ≠ 15 := fun h => c15 (Int32.toInt_inj.mp h)
  have e16 : x.toInt ≠ 16 := fun h => c16 (Int32.toInt_inj.mp h)
  have e17 : x.toInt ≠ 17 := fun h => c17 (Int32.toInt_inj.mp h)
  have e18 : x.toInt ≠ 18 := fun h => c18 (Int32.toInt_inj.mp h)
  have e19 : x.toInt ≠ 19 := fun h => c19 (Int32.toInt_inj.mp h)
  have e20 : x.toInt ≠ 20 := fun h => c20 (Int32.toInt_inj.mp h)
  have e21 : x.toInt ≠ 21 := fun h => c21 (Int32.toInt_inj.mp h)
  have e22 : x.toInt ≠ 22 := fun h => c22 (Int32.toInt_inj.mp h)
  have e23 : x.toInt ≠ 23 := fun h => c23 (Int32.toInt_inj.mp h)
  have e24 : x.toInt ≠ 24 := fun h => c24 (Int32.toInt_inj.mp h)
  have e25 : x.toInt ≠ 25 := fun h => c25 (Int32.toInt_inj.mp h)
  have e26 : x.toInt ≠ 26 := fun h => c26 (Int32.toInt_inj.mp h)
  have e27 : x.toInt ≠ 27 := fun h => c27 (Int32.toInt_inj.mp h)
  have e28 : x.toInt ≠ 28 := fun h => c28 (Int32.toInt_inj.mp h)
  omega
theorem law_gt {j : Nat} (hlen : len ≤ 3074) (hj : 2 + 6 * j ≤ 3080) (h : len < 8 + 6 * j) : Int32.ofNat len - 6 < nI (2 + 6 * j) := by
  have e1 : (Int32.ofNat len).toInt = len := Int32.toInt_ofNat_of_lt (by omega)
  have e2 : (nI (2 + 6 * j)).toInt = ((2 + 6 * j : Nat) : Int) := Int32.toInt_ofNat_of_lt (by omega)
  have e3 : (Int32.ofNat len - 6).toInt = (len : Int) - 6 := by
    rw [Int32.toInt_sub, e1, show (6 : Int32).toInt = 6 from rfl]
    exact Int.bmod_eq_of_le (by omega) (by omega)
  rw [Int32.lt_iff_toInt_lt, e3, e2]
  omega
theorem law_loop (F : LCx p s m #[Value.ref b] c D G lc o (A0 s) E L b len xs) (hr : meth.sig.returnType = ret) (hlk : meth.locks = false) (hst : l.stackTraces = false) (hTW : TW (A0 s) s s.heap) (hlen : len ≤ 3074) :
    ∀ (r j cells slots : Nat) (M : MS × Int64) (st : ST), 3074 < 8 + 6 * j + 6 * r → 2 + 6 * j ≤ 3080 → cells + r ≤ 601024 → slots + 6 * r ≤ 7293000 → LIv G E L st M.1 → LW p l e room_1 s m #[Value.ref b] below meth c D G 7 lc o (A0 s) cells slots (lw_Z below #[Value.ref b] s) 43 (lvL b E L o (nI (2 + 6 * j))) [] M := by
  intro r
  induction r with
  | zero =>
    intro j cells slots M st h1 hj h2 h3 hI
    refine q_iload (pc := 43) F.1 dL_law_43 4 rfl ?_
    refine q_aload_n (pc := 45) F.1 dL_law_45 rfl 0 rfl ?_
    refine q_slen (pc := 46) F.1 F.2.2.1 F.2.2.2.1 F.2.2.2.2 dL_law_46 ?_
    refine q_bipush (pc := 47) (v := 6) F.1 dL_law_47 (by decide) ?_
    refine q_isub (pc := 49) F.1 dL_law_49 ?_
    refine q_icmp_gt (pc := 50) (tgt := 1491) F.1 dL_law_50 (by decide) (fun _ => law_end F hr hlk (by omega) (by omega)) (fun hc => absurd ?_ hc)
    exact law_gt hlen hj (by omega)
  | succ r ih =>
    intro j cells slots M st h1 hj h2 h3 hI
    refine q_iload (pc := 43) F.1 dL_law_43 4 rfl ?_
    refine q_aload_n (pc := 45) F.1 dL_law_45 rfl 0 rfl ?_
    refine q_slen (pc := 46) F.1 F.2.2.1 F.2.2.2.1 F.2.2.2.2 dL_law_46 ?_
    refine q_bipush (pc := 47) (v := 6) F.1 dL_law_47 (by decide) ?_
    refine q_isub (pc := 49) F.1 dL_law_49 ?_
    refine q_icmp_gt (pc := 50) (tgt := 1491) F.1 dL_law_50 (by decide) (fun _ => law_end F hr hlk (by omega) (by omega)) (fun hc => ?_)
    have hin : 8 + 6 * j ≤ len := Classical.byContradiction fun z => hc (law_gt hlen hj (by omega))
    have hvp : ∀ k, k ≤ 5 → vp_in (nI (2 + 6 * j) + nI k) len := fun k hk => by
      rw [nI_add]
      exact vp_in_nI (by omega) (by omega)
    refine q_aload_n (pc := 53) F.1 dL_law_53 rfl 0 rfl ?_
    refine q_iload (pc := 54) F.1 dL_law_54 4 rfl ?_
    refine q_sld (pc := 56) F.1 F.2.2.1 F.2.2.2.1 F.2.2.2.2 (vp_in_nI (by omega) (by omega)) dL_law_56 ?_
    refine q_bipush (pc := 57) (v := 31) F.1 dL_law_57 (by decide) ?_
    refine q_iand (pc := 59) F.1 dL_law_59 ?_
    refine law_switch F hst hTW ⟨hvp 1 (by decide), hvp 2 (by decide), hvp 3 (by decide), hvp 4 (by decide), hvp 5 (by decide)⟩ ⟨by show cells + 1 ≤ 601024; omega, by show slots + 6 ≤ 7293000; omega⟩ hI (fun N st1 hN => ?_)
    refine q_iinc (pc := 1485) F.1 dL_law_1485 4 rfl (v := nI (2 + 6 * (j + 1))) ?_ (by decide) [1, 2, 3, 4, 0] rfl ?_
    · show nI (2 + 6 * j) + nI 6 = nI (2 + 6 * (j + 1))
      rw [nI_add]
      congr 1
    · refine q_goto (pc := 1488) (tgt := 43) F.1 dL_law_1488 (by decide) ?_
      exact ih (j + 1) (cells + 1) (slots + 6) N st1 (by omega) (by omega) (by omega) (by omega) hN
end LawLoop
