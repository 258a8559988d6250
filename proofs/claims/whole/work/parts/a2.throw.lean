/-- a contract that ends in a throw -/
def MetT (l : Launch) (y : MethodName) (ws : List Cond) (rm : Room) (Pc : Array Value → State → Prop) (Qt : Array Value → State → Addr → State → Prop) (mc ms : Nat) (free : Addr → Prop) : Prop :=
  MetFree l y (headSpec ws rm) Pc (fun _ _ _ _ _ => True) (fun a st o t => ∃ x, o = .threw x ∧ Qt a st x t ∧ st.WarmedH t.vm ∧ ∃ L, st.sameButNew ({ t with vm := st.vm } : State) L mc ms ∧ ∀ q ∈ L, free q.base)
def TQ (below : List Frame) (Qt : Array Value → State → Addr → State → Prop) (a : Array Value) (s : State) (mc ms : Nat) (free : Addr → Prop) : State → Prop := fun t =>
  ∃ x, t.status = .running ∧ Ended t below (.threw x) ∧ Qt a s x t ∧ s.WarmedH t.vm ∧ ∃ L, s.sameButNew ({ t with vm := s.vm } : State) L mc ms ∧ ∀ q ∈ L, free q.base
theorem MetT.ofW {l : Launch} {y : MethodName} {ws ws' : List Cond} {rm : Room} {Pc : Array Value → State → Prop} {Qt : Array Value → State → Addr → State → Prop} {mc ms : Nat} {free : Addr → Prop} {cc : ByteArray} {maxL : Nat} {ret : Option FieldType}
    (hy : plainName y.cls = true) (hw : ws = Cond.code y cc maxL ret :: ws')
    (body : ∀ p e s m args below meth c s₁, BodyLoose p l y (headSpec ws rm) cc maxL ret e s m args below meth c s₁ → c.maxLocals = maxL → c.exceptionTable.toList = [] → Pc args s →
      W p l e (headSpec ws rm).room s m args below meth c s.heap [] 0 0 (TQ below Qt args s mc ms free) (entryFrame m args maxL)) : MetT l y ws rm Pc Qt mc ms free := by
  refine MetFree.of_bodyS (code := cc) (maxLocals := maxL) (ret := ret) hy ?_ ?_
  · intro args s m h hn
    obtain ⟨meth, c, h1, h2, h3, h4, h5, h6, -, -⟩ := Cond.code_spec hn (atoms_spec (ws := ws) h _ (by rw [hw]; exact List.mem_cons_self))
    exact ⟨meth, c, h1, h2, h3, h4, h5, h6⟩
  · intro p e s m args below meth c s₁ B hml hP _
    have hh0 : s₁.heap = s.heap := by rw [B.state]; rfl
    have he := B.noHandlers (atoms_spec (ws := ws) B.pre _ (by rw [hw]; exact List.mem_cons_self))
    have h0 : c.exceptionTable.size = 0 := by simpa [Array.isEmpty] using he
    obtain ⟨t, a1, x, b1, b2, b3⟩ := body p e s m args below meth c s₁ B hml (List.eq_nil_of_length_eq_zero (by simpa using h0)) hP s₁ hh0 (Stand.of_body B)
    exact ⟨t, .threw x, a1, b1, b2, x, rfl, b3⟩
section ThCall
variable {p : Program} {l : Launch} {e : Env} {R : Room} {s : State} {m : MethodId} {args : Array Value} {below : List Frame} {meth : Method} {c : Code} {H : Heap} {locs : List Loc} {cells slots : Nat} {Q : State → Prop}
theorem th_of {T : State} {y : MethodName} {ws : List Cond} {rm : Room} {Pc : Array Value → State → Prop} {Qt : Array Value → State → Addr → State → Prop} {mc ms maxL : Nat} {free : Addr → Prop} {bytes : ByteArray} {ret : Option FieldType}
    (X : Stand p l e R s m args below meth c T locs cells slots) (hM : MetT l y ws rm Pc Qt mc ms free) (hbl : FrameBlind Pc) (hrc : rm.cells = mc) (hrs : rm.slots = ms) (hfr : rm.frames + 1 ≤ R.frames) (hlo : 8 + (maxL + 11) + rm.locals ≤ R.locals)
    (hws : ∀ w ∈ ws, ∀ (a' : Array Value) (U : State), s.WarmedH U.vm → w.before a' U = true) (hcw : Cond.code y bytes maxL ret ∈ ws) (hini : (Cond.initialized y.cls).before args s = true)
    {g : JFrame} (hg : g.method = m) (hsize : g.locals.size = c.maxLocals) {ig : Instr} (hdg : decode c.code g.pc = .ok (ig, 3)) (hW : 2 * g.monitorRoom + (g.stack.map fun v => v.category).sum ≤ 8) {mk : MethodId} (hn : T.methodNamed? y = some mk) {a : Array Value} (hPc : Pc a T) (hf : cells + mc ≤ R.cells ∧ slots + ms ≤ R.slots) :
    ∃ (x : Addr) (t T' : State) (L : List Loc), Stand p l e R s m args below meth c T' (locs ++ L) (cells + mc) (slots + ms) ∧ (∀ q ∈ L, free q.base) ∧ T'.heap = t.heap ∧ T'.vm = t.vm ∧ Qt a (T.calling g mk a) x t ∧ Steps p.tables e below (doInvoke e (T.setTop g) [] mk a).1 ((T'.setTop g).pushFrame (.throwing x)) := by
  obtain ⟨methY, cY, hmY, hcY, -, hlY, -, -, -, -⟩ := Cond.code_spec hn (hws _ hcw a T X.warmed)
  obtain ⟨kY, hkY, -⟩ := className_of_methodNamed hn
  have hini' : (Cond.initialized y.cls).before a T = true := word_at X.warmed (Or.inl (by first | rfl | simp [Cond.onTables, Cond.keeps, Cond.steady])) hini
  have hinitY : kY.init = .initialized := Cond.initialized_spec (findClass_of_methodNamed hn) hkY hini'
  have h : At T g.method c below := by rw [hg]; exact X.here
  have happ : (headSpec ws rm).appliesLoose y e.platform (T.calling g mk a) = true :=
    Spec.appliesLoose_calling (g := g) h hdg hn hkY hinitY
      (X.room_calling (g := g) (R' := rm) hsize hmY hcY hfr (by rw [hlY]; omega) (by rw [hrc]; exact hf.1) (by rw [hrs]; exact hf.2)) (atoms_intro fun w hw => hws w hw _ _ X.warmed)
  obtain ⟨g₀, hfr0⟩ := X.frames_eq
  have hfr : (T.setTop g).frames = [.java g] ++ below := by rw [State.frames_setTop _ hfr0]; rfl
  obtain ⟨o, s₂, hsteps, -, hend, x, rfl, hq, hW₂, L, hsame, hL⟩ := Steps.callFree hM p X.admits X.cas X.clock (acts := []) hfr happ (hbl _ _ _ _ hPc) trivial
  rw [hfr] at hend
  obtain ⟨T', X', hW', hB, ht⟩ := X.outOfThrown (g := g) hg (mk := mk) (a := a) (t := s₂) (x := x) hend hW₂ hsame
  refine ⟨x, s₂, T', L, X', hL, ?_, ?_, hq, by rw [← ht]; exact hsteps⟩
  · rw [ht]; exact (Stand.throwing_heap _ _ _).symm
  · rw [ht]; exact (Stand.throwing_vm _ _ _).symm
def CallThr (p : Program) (l : Launch) (e : Env) (R : Room) (s : State) (m : MethodId) (args : Array Value) (below : List Frame) (meth : Method) (c : Code) (H : Heap) (locs : List Loc) (cells slots mc ms : Nat) (g : JFrame) (rest : List Value) (Qa : State → Addr → State → Prop) (free : Addr → Prop) : Prop :=
  ∀ T : State, T.heap = H → Stand p l e R s m args below meth c T locs cells slots → ∃ (x : Addr) (st₀ t T' : State) (L : List Loc), st₀.heap = H ∧ s.WarmedH st₀.vm ∧ Stand p l e R s m args below meth c T' (locs ++ L) (cells + mc) (slots + ms) ∧ (∀ q ∈ L, free q.base) ∧ T'.heap = t.heap ∧ T'.vm = t.vm ∧ Qa st₀ x t ∧
    ∀ target, Steps p.tables e below ((T'.setTop { g with stack := rest }).pushFrame (.throwing x)) target → Steps p.tables e below (T.setTop g) target
theorem th_runV {y : MethodName} {ws : List Cond} {rm : Room} {Pc : Array Value → State → Prop} {Qt : Array Value → State → Addr → State → Prop} {mc ms maxL nL n index : Nat} {free : Addr → Prop} {bytes cc : ByteArray} {ret : Option FieldType} {own C : String} {Ts : List Cond} {b : Addr} {As rest : List Value} {g : JFrame}
    (S : CallFix p m c cc nL s args Ts own) (hM : MetT l y ws rm Pc Qt mc ms free) (cw : CallW R s args own C index y bytes maxL ret ws rm mc ms n) (hp : PreV s H C b Pc As)
    (hg : g.method = m) (hn : As.length = n) (hsize : g.locals.size = nL) (hstack : g.stack = As.reverse ++ .ref b :: rest) (hW : 2 * g.monitorRoom + (rest.map fun v => v.category).sum ≤ 8) (hdg : decode cc g.pc = .ok (.invokevirtual index, 3)) (hf : cells + mc ≤ R.cells ∧ slots + ms ≤ R.slots) :
    CallThr p l e R s m args below meth c H locs cells slots mc ms g rest (Qt (Value.ref b :: As).toArray) free := by
  obtain ⟨⟨hrc, hrs, hfr, hlo, hws, hcw, hcode, hini, hy, hlen, hl⟩, hin, hse⟩ := cw
  obtain ⟨hx, hb, hml, ho, -⟩ := S
  obtain ⟨hbl, ⟨cellB, hcB, hoB, hclB⟩, hPc⟩ := hp
  intro T hT X
  obtain ⟨mk, methM, hnamed, hmethM, hstM, habM⟩ := Cond.instanceMethod_spec hin
  obtain ⟨methM', cM, hmethM', -, -, -, -, -, -, hsigM⟩ := Cond.code_spec hnamed hcode
  cases hmethM.symm.trans hmethM'
  obtain ⟨c2, r2, m2, q1, q2, q3, q4, kP, hkP, hkPi⟩ := Cond.selects_spec hse
  cases hclB.symm.trans q1
  cases (State.methodFound?_of_named hnamed hy).symm.trans q2
  cases hnamed.symm.trans q3
  have hselP : selectMethod e.platform s.vm cellB.cls mk = .method mk := by rw [Launch.admits_selectMethod X.admits]; exact q4
  obtain ⟨vm₁, X₁, hstep₁⟩ := X.invokevirtual hx ho hl hnamed hmethM hstM hkP hkPi hy (a := b) (cell := cellB) (by rw [hT]; exact hcB)
    (fun z h => by rw [h] at hoB; cases hoB) hselP hmethM habM hkP hkPi (g := g) hg (argsL := As) (rest := rest) (hn.trans (hlen _ hsigM)) hstack (by rw [hb]; exact hdg)
  obtain ⟨x, t, T', L, X', hL, e1, e2, hq, hst⟩ := th_of X₁ hM hbl hrc hrs hfr hlo hws hcw hini (g := { g with stack := rest }) hg (hsize.trans hml.symm) (by rw [hb]; exact hdg) hW (X₁.named hnamed) (a := (Value.ref b :: As).toArray) (hPc (T.setVm vm₁) hT X₁.warmed) hf
  exact ⟨x, (T.setVm vm₁).calling { g with stack := rest } mk (Value.ref b :: As).toArray, t, T', L, hT, X₁.warmed, X', hL, e1, e2, hq, fun target h => hstep₁ _ fun acts => by rw [doInvoke_state]; exact hst.trans h⟩
/-- the throw goes on out of the method -/
theorem th_out {Qa : State → Addr → State → Prop} {Qt : Array Value → State → Addr → State → Prop} {mc ms : Nat} {g : JFrame} {rest : List Value} {free : Addr → Prop} (hr : CallThr p l e R s m args below meth c H locs cells slots mc ms g rest Qa free) (hlo : ∀ q ∈ locs, free q.base)
    (hg : g.method = m) (hlocked : g.locked = none) (hentered : g.entered = []) (hout : c.exceptionTable.toList = []) (hlocks : meth.locks = false)
    (hq : ∀ (st₀ : State) (x : Addr) (t t' : State), st₀.heap = H → s.WarmedH st₀.vm → Qa st₀ x t → t'.heap = t.heap → t'.vm = t.vm → Qt args s x t') :
    W p l e R s m args below meth c H locs cells slots (TQ below Qt args s (cells + mc) (slots + ms) free) g := by
  intro T hT X
  obtain ⟨x, st₀, t, T', L, e0, w0, X', hL, e1, e2, hqa, go⟩ := hr T hT X
  obtain ⟨h1, h2, h3, h4, h5⟩ := X'.leaveThrown x (g := { g with stack := rest }) hg hlocked hentered (fun y hy => by rw [hout] at hy; cases hy) hlocks
  exact ⟨_, go _ h1, x, h2, h3, hq st₀ x t _ e0 w0 hqa e1 e2, h4, locs ++ L, h5, fun q hq' => (List.mem_append.mp hq').elim (hlo q) (hL q)⟩
/-- the search finds the one row, its class not looked up before -/
theorem th_find {S : State} {f : JFrame} {a : Addr} {x : ExceptionTableEntry} {cl : ClassId} {cell : Cell} (hm : S.vm.method? f.method = some meth) (hc : meth.code = some c) (ht : c.exceptionTable.toList = [x]) (hx : covers x f.pc = true) (h0 : x.catchType ≠ 0)
    (hl : S.vm.ClassLinks e.platform f.method.cls x.catchType cl) (hcell : S.heap[a]? = some cell) (hobj : ∀ k, cell.vm ≠ .statics k) (hk : ∃ k, S.vm.classes[cell.cls]? = some k) (hcl : ∃ k, S.vm.classes[cl]? = some k) (hfit : S.vm.assignable cell.cls cl = true)
    (Q : Handler → Pre) (E : CtlPost) (d : Bool) (acts : List Action) : wp (findHandler f a) Q E e d acts S ↔ Q (.found x.handlerPc) d acts (S.setVm (S.vm.noted f.method.cls x.catchType (.cls cl))) := by
  rw [W.findHandler_eq hm hc, ht]
  simp only [covers] at hx
  obtain ⟨ha, ht'⟩ := (resolveClass_links e.toSetting hl).op (op := VmOp.resolveClass f.method.cls x.catchType) rfl
  have hal : S.vm.Alike (S.vm.noted f.method.cls x.catchType (.cls cl)) := (Vm.Alike.refl S.vm).noted _ _ _
  obtain ⟨k1, hk1⟩ := hk
  obtain ⟨k2, hk2⟩ := hcl
  obtain ⟨k1', hk1', -⟩ := hal.2.2 _ _ hk1
  obtain ⟨k2', hk2', -⟩ := hal.2.2 _ _ hk2
  have hfit' : (S.vm.noted f.method.cls x.catchType (.cls cl)).assignable cell.cls cl = true := by rw [hal.assignable]; exact hfit
  simp [findHandler.go, hx, h0, ha, ht', hcell, hobj, hk1', hk2', hfit', VmOp.dirties, VmOp.acts]
theorem th_step {S : State} {f : JFrame} {a : Addr} {r : List Frame} {pc : Nat} {vm' : Vm} (hfind : ∀ (Q : Handler → Pre) (E : CtlPost) (d : Bool) (acts : List Action), wp (findHandler f a) Q E e d acts S ↔ Q (.found pc) d acts (S.setVm vm')) :
    (stepThrowing e S a (.java f :: r)).Is ((S.setVm vm').setFrames (.java { f with pc := pc, stack := [.ref a] } :: r)) [] := by
  simp only [stepThrowing, searchFrame, vmDo]
  generalize hr : Sem.go _ e false [] S = res
  obtain ⟨as, rfl, ha⟩ := Sem.eq_ok_of hr (a := Handler.found pc) (s' := S.setVm vm') (acts' := []) (by simp [hfind _ _ _ _])
  exact ⟨rfl, ha⟩
theorem th_caught {T : State} {g : JFrame} {a : Addr} {target : State} {pc : Nat} {vm' : Vm} (h : At T g.method c below)
    (hfind : ∀ (Q : Handler → Pre) (E : CtlPost) (d : Bool) (acts : List Action), wp (findHandler g a) Q E e d acts ((T.setTop g).pushFrame (.throwing a)) ↔ Q (.found pc) d acts (((T.setTop g).pushFrame (.throwing a)).setVm vm'))
    (hrest : Steps p.tables e below ((T.setVm vm').setTop { g with pc := pc, stack := [.ref a] }) target) : Steps p.tables e below ((T.setTop g).pushFrame (.throwing a)) target := by
  obtain ⟨hgo, hw⟩ := h.throwing a
  refine Steps.head hgo hw ?_
  rw [stepThread_throwing (frames_entered h.top _), (th_step (S := (T.setTop g).pushFrame (.throwing a)) hfind).1]
  obtain ⟨g₀, hg⟩ := Option.isSome_iff_exists.mp h.top
  obtain ⟨r, hr⟩ := State.topJava?_eq_some.mp hg
  have hr' : (T.setVm vm').frames = .java g₀ :: r := hr
  have e1 : (((T.setTop g).pushFrame (.throwing a)).setVm vm').setFrames (.java { g with pc := pc, stack := [.ref a] } :: T.frames.tail) = (T.setVm vm').setTop { g with pc := pc, stack := [.ref a] } := by
    rw [State.setTop_of_frames _ hr', hr, List.tail_cons, State.pushFrame, State.setTop_of_frames _ hr]
    show (((T.setFrames (.java g :: r)).setFrames _).setVm vm').setFrames _ = _
    rw [State.setFrames_setFrames]
    show ((T.setFrames _).setFrames _).setVm vm' = _
    rw [State.setFrames_setFrames]
    rfl
  rw [e1]
  exact hrest
/-- the throw is caught at the one row of the method's table -/
theorem th_catch {Qa : State → Addr → State → Prop} {mc ms : Nat} {g : JFrame} {rest : List Value} {free : Addr → Prop} (hr : CallThr p l e R s m args below meth c H locs cells slots mc ms g rest Qa free)
    (hg : g.method = m) {x : ExceptionTableEntry} (ht : c.exceptionTable.toList = [x]) (hx : covers x g.pc = true) (h0 : x.catchType ≠ 0) {own nm : String} {cl : ClassId} (hown : s.vm.findClass own = some m.cls) (hlink : (Cond.classLink own x.catchType nm).before args s = true) (hcl : s.vm.findClass nm = some cl)
    (hq : ∀ (st₀ : State) (y : Addr) (t : State), st₀.heap = H → s.WarmedH st₀.vm → Qa st₀ y t → ∃ ce : Cell, t.heap[y]? = some ce ∧ ce.cls = cl ∧ ce.vm = .none)
    (kk : ∀ (st₀ : State) (y : Addr) (t : State) (L : List Loc), st₀.heap = H → s.WarmedH st₀.vm → Qa st₀ y t → (∀ q ∈ L, free q.base) → W p l e R s m args below meth c t.heap (locs ++ L) (cells + mc) (slots + ms) Q { g with pc := x.handlerPc, stack := [.ref y] }) :
    W p l e R s m args below meth c H locs cells slots Q g := by
  intro T hT X
  obtain ⟨y, st₀, t, T', L, e0, w0, X', hL, e1, e2, hqa, go⟩ := hr T hT X
  obtain ⟨ce, c1, c2, c3⟩ := hq st₀ y t e0 w0 hqa
  have hpl : e.platform.magicAccessors = ({} : Platform).magicAccessors := by rw [X.admits.platform]
  obtain ⟨c', hc', hcl'⟩ := Cond.classLink_spec hown hlink e.platform hpl
  cases hcl.symm.trans hc'
  obtain ⟨dk, _, _, kt, hd, _, _, _, _, hkt, _, hopen⟩ := hcl'.here
  have hcl₀ := X'.warmed.classLinks hcl'
  have hW' : s.WarmedH (T'.vm.noted m.cls x.catchType (.cls cl)) := X'.warmed.noted hd hopen (State.rightAt_cls hcl')
  obtain ⟨kt', hkt', -⟩ := X'.warmed.alike.2.2 _ _ hkt
  obtain ⟨tt, a1, b1⟩ := kk st₀ y t L e0 w0 hqa hL (T'.setVm (T'.vm.noted m.cls x.catchType (.cls cl))) e1 (X'.noted hW')
  subst hg
  refine ⟨tt, go _ (th_caught (g := { g with stack := rest }) (pc := x.handlerPc) (vm' := T'.vm.noted g.method.cls x.catchType (.cls cl)) X'.here (fun Q E d acts => ?_) a1), b1⟩
  have hvm : ((T'.setTop { g with stack := rest }).pushFrame (.throwing y)).vm = T'.vm := Stand.throwing_vm _ _ _
  have hhp : ((T'.setTop { g with stack := rest }).pushFrame (.throwing y)).heap = T'.heap := Stand.throwing_heap _ _ _
  have hf := th_find (e := e) (S := (T'.setTop { g with stack := rest }).pushFrame (.throwing y)) (f := { g with stack := rest }) (a := y) (x := x) (cl := cl) (cell := ce) (meth := meth) (c := c) (by rw [hvm]; exact X'.method') X'.code ht hx h0 (by rw [hvm]; exact hcl₀) (by rw [hhp, e1]; exact c1) (fun k h => by rw [c3] at h; cases h) (by rw [hvm, c2]; exact ⟨kt', hkt'⟩) (by rw [hvm]; exact ⟨kt', hkt'⟩) (by rw [c2]; exact va_asg _ _) Q E d acts
  rw [hvm] at hf
  exact hf
end ThCall
