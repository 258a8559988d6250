/-! the law's helpers: cell; sign, length, limbAt, write with their catch -/
abbrev hh9 : List (Nat × Nat × Nat × Nat) := [(0, 9, 12, 13)]
abbrev hh10 : List (Nat × Nat × Nat × Nat) := [(0, 10, 13, 13)]
def PREL (D : va_G) (G : SH) (lc : ClassId) (o : Nat) (M : MS × Int64) (U : State) : Prop := va_P D vwCl (OP lc o G M) U.heap ∧ va_K D vwCl ((lc, .long) :: tysG G) U ∧ TW (fun q => q = o ∨ q ∈ G.1) U U.heap
def POSTL (D : va_G) (G : SH) (lc : ClassId) (o : Nat) (M : MS × Int64) (t : State) : Prop := va_P D vwCl (OP lc o G M) t.heap ∧ va_K D vwCl ((lc, .long) :: tysG G) t ∧ TYR G M.1.2.2.1
abbrev AO (G : SH) (o : Nat) : Nat → Prop := fun q => q = o ∨ q ∈ G.1
theorem PREL_blind (av : List Value) (D : va_G) (G : SH) (lc : ClassId) (o : Nat) (M : MS × Int64) : FrameBlind (va_Pc av (PREL D G lc o M)) := fun a U g mk q => ⟨q.1, q.2.1, va_K.moved (u := U) (U := U.calling g mk a) (Vm.Alike.refl U.vm) q.2.2.1, TW.same (u := U) rfl q.2.2.2⟩
/-- the contract of a helper: 0 and the answer laid down, or 1 -/
def MeH (l : Launch) (D : va_G) (G : SH) (lc : ClassId) (o : Nat) (y : MethodName) (ws : List Cond) (rm : Room) (av : List Value) (M : MS × Int64) (Qp : Int32 → MS × Int64 → Prop) : Prop := Met l y ws rm (va_Pc av (PREL D G lc o M)) (va_Qi Qp (POSTL D G lc o) (AO G o)) 1 6 (AO G o)
abbrev rm_h : Room := { frames := 8, cells := 1, slots := 6, locals := 160 }
section Helpers
variable {l : Launch} {D : va_G} {G : SH} {lc : ClassId} {o a0 : Nat} {r : Int32} {M : MS × Int64}
theorem h_method {y : MethodName} {cc : ByteArray} {maxL : Nat} {ret : Option FieldType} {hh : List (Nat × Nat × Nat × Nat)} {av : List Value} {lv0 : List (Nat × Value)} {Qp : Int32 → MS × Int64 → Prop} (hy : plainName y.cls = true) (hlv : lv_args 0 av = lv0) (hn : (lg_sl av).length ≤ maxL) (hND : ND G) (ho : o ∉ G.1)
    (body : ∀ (p : Program) (e : Env) (s : State) (m : MethodId) (args : Array Value) (below : List Frame) (meth : Method) (c : Code), CY p s m args c D G cc maxL y.cls lc o (AO G o) → TW (AO G o) s s.heap → c.exceptionTable.toList = tableOf hh → meth.sig.returnType = ret → meth.locks = false → LW p l e rm_h s m args below meth c D G maxL lc o (AO G o) 0 0 (MQ below (va_Qi Qp (POSTL D G lc o) (AO G o)) args s 1 6 (AO G o)) 0 lv0 [] M) :
    MeH l D G lc o y (Cond.codeWith y cc maxL ret hh :: GW) rm_h av M Qp := by
  refine va_MetW (cc := cc) (maxL := maxL) (ret := ret) (hh := hh) hy rfl ?_
  intro p e s m args below meth c s₁ B hml hv
  obtain ⟨rfl, hP, hK, hW⟩ := hv
  have hts := atoms_spec (ws := Cond.codeWith y cc maxL ret hh :: GW) B.pre
  have hown : s.vm.findClass y.cls = some m.cls := findClass_of_methodNamed B.named
  have hl := lv_entry av (n := maxL) hn
  rw [lg_entry_eq]
  rw [hlv] at hl
  have htab : c.exceptionTable.toList = tableOf hh := by
    obtain ⟨m', meth', c', hn', hm', hc', -, -, ht', -⟩ := Cond.codeWith_spec (hts _ List.mem_cons_self)
    cases B.named.symm.trans hn'
    cases B.method.symm.trans hm'
    cases (Stand.of_body B).code.symm.trans hc'
    rw [← ht', table_eq]
  exact body p e s m av.toArray below meth c ⟨B.exec, B.bytes, hml, hown, fun w h => hts w (List.mem_cons_of_mem _ h), hK, hND, ho, fun q h => h⟩ hW htab B.returns B.notSynchronized s.heap [] _ hP va_S.rf hl
theorem h_iret {p : Program} {e : Env} {R : Room} {s : State} {m : MethodId} {args : Array Value} {below : List Frame} {meth : Method} {c : Code} {nL cells slots : Nat} {cc : ByteArray} {own : String} {pc : Nat} {lv : List (Nat × Value)} {Qp : Int32 → MS × Int64 → Prop} {v : Int32} (cx : CY p s m args c D G cc nL own lc o (AO G o)) (h1 : cells ≤ 1) (h2 : slots ≤ 6) (hr : meth.sig.returnType = some .int) (hlk : meth.locks = false) (dg : decode cc pc = .ok (.ireturn, 1)) (hT : TYR G M.1.2.2.1) (hq : Qp v M) : LW p l e R s m args below meth c D G nL lc o (AO G o) cells slots (MQ below (va_Qi Qp (POSTL D G lc o) (AO G o)) args s 1 6 (AO G o)) pc lv [.int v] M := fun H locs ls hP hS hl => W.widen h1 h2 (W.iret (v := v) cx.1 cx.2.1 hr (fun t ht hW => ⟨⟨v, M, rfl, hq, by rw [ht]; exact hP, va_K.moved hW.alike cx.2.2.2.2.2.1, hT⟩, hS.F ht⟩) hS.2.2 dg hlk)
/-- the call that throws, caught -/
theorem h_catch {p : Program} {e : Env} {R : Room} {s : State} {m : MethodId} {args : Array Value} {below : List Frame} {meth : Method} {c : Code} {nL : Nat} {cc : ByteArray} {own : String} {pc : Nat} {lv : List (Nat × Value)} {st : List Value} {Q : State → Prop} {y : MethodName} {bytes : ByteArray} {maxL n index : Nat} {ret : Option FieldType} {rm : Room} {rest : List Value} (As : List Value) {b ci : Nat} {q : vw_C} {x : ExceptionTableEntry}
    (cx : CY p s m args c D G cc nL own lc o (AO G o)) (hTW : TW (AO G o) s s.heap) (hex : c.exceptionTable.toList = [x]) (hcov : covers x pc = true) (hx0 : x.catchType ≠ 0) (hcl : Cond.classLink own x.catchType nsE ∈ GW) (hM : MeT l D G y (Cond.code y bytes maxL ret :: GW) rm (.ref b :: As) M.1) (hF : CF y bytes maxL ret n) (hV : CFV y) (hlink : Cond.methodLink own index y ∈ GW) (hb : Is G ci b) (hci : ci < 11 ∧ vwCl[ci]? = some q ∧ q.1 = y.cls) (h0 : rm.cells = 1 ∧ rm.slots = 6) (hR : rm.frames + 1 ≤ R.frames ∧ 8 + (maxL + 11) + rm.locals ≤ R.locals) (hRc : 1 ≤ R.cells ∧ 6 ≤ R.slots) (hn : As.length = n) (hst : st = As.reverse ++ .ref b :: rest) (hW : (rest.map fun v => v.category).sum ≤ 8) (dg : decode cc pc = .ok (.invokevirtual index, 3))
    (kk : ∀ z : Nat, LW p l e R s m args below meth c D G nL lc o (AO G o) 1 6 Q x.handlerPc lv [.ref z] M) :
    LW p l e R s m args below meth c D G nL lc o (AO G o) 0 0 Q pc lv st M := fun H locs ls hP hS hl => by
  have hrc := q_recv cx hP hb hci.1 hci.2.1
  rw [hci.2.2] at hrc
  have hTH : TW (AG G) s H := (hTW.kept hS.2.1).narrow (fun q h => Or.inr h)
  have hB : CallB R s args own index y bytes maxL ret (Cond.code y bytes maxL ret :: GW) rm 1 6 n := callB_of n cx.2.2.2.2.1 (goodIn_g hF.1) rfl h0.1 h0.2 (cx.2.2.2.2.1 _ hF.2.1) (cx.2.2.2.2.1 _ hlink) hF.2.2 hR
  have hrun := th_runV (C := y.cls) (As := As) (rest := rest) (b := b) (g := F0 m pc ls st) (locs := locs) (cells := 0) (slots := 0) (e := e) (below := below) (meth := meth) (H := H) ⟨cx.1, cx.2.1, cx.2.2.1, cx.2.2.2.1, cx.2.2.2.2.1⟩ hM ⟨hB, cx.2.2.2.2.1 _ hV.1, cx.2.2.2.2.1 _ hV.2⟩ ⟨PT_blind _ _ _ _, hrc, fun U hU hW => ⟨rfl, ⟨by rw [hU]; exact hP.tl, va_K.moved hW.alike cx.2.2.2.2.2.1.tl⟩, by rw [hU]; exact hTH.warm hW⟩⟩ rfl hn hl.1 hst (lv_room hW) dg (by omega)
  obtain ⟨cl, -, hfc, -⟩ := Cond.instantiable_spec (cx.2.2.2.2.1 _ (gw_t4 (w := .instantiable nsE 6) 45 rfl rfl))
  refine th_catch (cells := 0) (slots := 0) (mc := 1) (ms := 6) (g := F0 m pc ls st) hrun rfl hex hcov hx0 cx.2.2.2.1 (cx.2.2.2.2.1 _ hcl) hfc (fun st₀ z t e0 w0 hq => ?_) (fun st₀ z t L e0 w0 hq hL => ?_)
  · obtain ⟨-, -, ce, q3, q4, q5⟩ := hq
    rw [w0.alike.findClass] at q4
    exact ⟨ce, q3, Option.some.inj (q4.symm.trans hfc), q5⟩
  · obtain ⟨q1, ⟨q2, q3⟩, -⟩ := hq
    rw [e0] at q2 q3
    refine kk z t.heap (locs ++ L) ls (va_P.cons ((hP 0 _ rfl).kept (q3 o (hP 0 _ rfl).lt cx.2.2.2.2.2.2.2.1)) q1) ⟨Nat.le_trans hS.1 q2, fun k h1 h2 => (q3 k (Nat.lt_of_lt_of_le h1 hS.1) (fun z => h2 (Or.inr z))).trans (hS.2.1 k h1 h2), fun k hk => (List.mem_append.mp hk).elim (hS.2.2 k) (fun z => Or.inr (hL k z))⟩ hl
end Helpers
