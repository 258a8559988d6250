/-! THROWING: what registerOrThrow needs of Throwable's statics, the making of its exception, calls that throw, and the catch. -/
def nsE : String := "java/util/NoSuchElementException"
def rtE : String := "java/lang/RuntimeException"
def exE : String := "java/lang/Exception"
/-- a static of Throwable that holds a reference or null -/
def tw1 (n d : String) (A : Nat → Prop) (U : State) (H : Heap) : Prop := ∃ (c : ClassId) (k : Class) (i : Nat) (f : Field) (a : Nat) (cell : Cell) (v : RefV), U.vm.findClass Bundle.tN = some c ∧ U.fieldFound? Bundle.tN n d = some (c, k, i, f) ∧ f.isStatic = true ∧ k.statics = some a ∧ H[a]? = some cell ∧ cell.vm.isStatics = true ∧ cell.cls = c ∧ f.slot < cell.slots.size ∧ k.staticTypes[f.slot]? = some f.type ∧ cell.slots[f.slot]? = some v.v ∧ ¬ A a
theorem tw1.moved {n d : String} {A : Nat → Prop} {u U : State} {H : Heap} (hvm : u.vm.Alike U.vm) (h : tw1 n d A u H) : tw1 n d A U H := by
  obtain ⟨c, k, i, f, a, cell, v, h0, h1, h2, h3, h4, h5, h6, h7, h8, h9⟩ := h
  obtain ⟨k', hi', he⟩ := State.fieldFound?_setVm hvm h1
  exact ⟨c, k', i, f, a, cell, v, by rw [hvm.findClass]; exact h0, hi', h2, by rw [he]; exact h3, h4, h5, h6, h7, by rw [he]; exact h8, h9⟩
theorem tw1.kept {n d : String} {A : Nat → Prop} {U : State} {H H1 : Heap} (h : tw1 n d A U H) (hq : ∀ a : Nat, a < H.size → ¬ A a → H1[a]? = H[a]?) : tw1 n d A U H1 := by
  obtain ⟨c, k, i, f, a, cell, v, h0, h1, h2, h3, h4, h5, h6, h7, h8, h9, h10⟩ := h
  exact ⟨c, k, i, f, a, cell, v, h0, h1, h2, h3, by rw [hq a (Array.getElem?_eq_some_iff.mp h4).1 h10]; exact h4, h5, h6, h7, h8, h9, h10⟩
theorem tw1.narrow {n d : String} {A B : Nat → Prop} {U : State} {H : Heap} (h : tw1 n d A U H) (hAB : ∀ q, B q → A q) : tw1 n d B U H := by
  obtain ⟨c, k, i, f, a, cell, v, h0, h1, h2, h3, h4, h5, h6, h7, h8, h9, h10⟩ := h
  exact ⟨c, k, i, f, a, cell, v, h0, h1, h2, h3, h4, h5, h6, h7, h8, h9, fun z => h10 (hAB a z)⟩
theorem tw1.of {args : Array Value} {s : State} {n d : String} {A : Nat → Prop} (hl : (Cond.laysStatic Bundle.tN n d).before args s = true) (h : (Cond.isRef (.static Bundle.tN n d)).before args s = true) (hA : ∀ a : Nat, a < s.heap.size → ¬ A a) : tw1 n d A s s.heap := by
  obtain ⟨c, k, i, f, a, cell, hc, hi, hst, ha, hcell, hs, hcls, hlt, hty⟩ := Cond.laysStatic_spec hl
  obtain ⟨v, hv⟩ := Cond.staticRefV hi hst ha hcell hs h
  exact ⟨c, k, i, f, a, cell, v, hc, hi, hst, ha, hcell, hs, hcls, hlt, hty, hv, hA a (Array.getElem?_eq_some_iff.mp hcell).1⟩
theorem tw1.lays {args : Array Value} {U : State} {n d : String} {A : Nat → Prop} (h : tw1 n d A U U.heap) : (Cond.laysStatic Bundle.tN n d).before args U = true := by
  obtain ⟨c, k, i, f, a, cell, v, h0, h1, h2, h3, h4, h5, h6, h7, h8, h9, h10⟩ := h
  exact Cond.laysStatic_of h0 h1 h2 h3 h4 h5 h6 h7 h8
theorem tw1.isRef {args : Array Value} {U : State} {n d : String} {A : Nat → Prop} (h : tw1 n d A U U.heap) : (Cond.isRef (.static Bundle.tN n d)).before args U = true := by
  obtain ⟨c, k, i, f, a, cell, v, h0, h1, h2, h3, h4, h5, h6, h7, h8, h9, h10⟩ := h
  have he : (Term.static Bundle.tN n d).eval args U none [] U = some v.v := by
    simp [Term.eval, State.fieldNamed?, h1, h2, h3, h4, h5, h9]
  obtain ⟨w, hr⟩ := v
  simp only [Cond.before, Cond.holds, Cond.value, he]
  cases w <;> first | rfl | cases hr
/-- the world that a throw needs -/
def TW (A : Nat → Prop) (U : State) (H : Heap) : Prop := tw1 "UNASSIGNED_STACK" Bundle.steD A U H ∧ tw1 "SUPPRESSED_SENTINEL" Bundle.listD A U H ∧ ∃ q : Nat, vk_R RX10 250 "no such register" q U
theorem TW.warm {A : Nat → Prop} {u U : State} {H : Heap} (hW : u.WarmedH U.vm) (h : TW A u H) : TW A U H := ⟨h.1.moved hW.alike, h.2.1.moved hW.alike, h.2.2.elim fun q hq => ⟨q, vk_R.warm hW hq⟩⟩
theorem TW.same {A : Nat → Prop} {u U : State} {H : Heap} (hv : U.vm = u.vm) (h : TW A u H) : TW A U H := ⟨h.1.moved (by rw [hv]; exact Vm.Alike.refl _), h.2.1.moved (by rw [hv]; exact Vm.Alike.refl _), h.2.2.elim fun q hq => ⟨q, vk_R.same hv hq⟩⟩
theorem TW.kept {A : Nat → Prop} {U : State} {H H1 : Heap} (h : TW A U H) (hq : ∀ a : Nat, a < H.size → ¬ A a → H1[a]? = H[a]?) : TW A U H1 := ⟨h.1.kept hq, h.2.1.kept hq, h.2.2⟩
theorem TW.narrow {A B : Nat → Prop} {U : State} {H : Heap} (h : TW A U H) (hAB : ∀ q, B q → A q) : TW B U H := ⟨h.1.narrow hAB, h.2.1.narrow hAB, h.2.2⟩
theorem th_decl {args : Array Value} {s : State} {y : MethodName} {bytes : ByteArray} {maxL : Nat} {ret : Option FieldType} (h1 : (Cond.instanceMethod y).before args s = true) (h2 : (Cond.code y bytes maxL ret).before args s = true) : (Cond.declares y).before args s = true := by
  obtain ⟨m, meth, hn, hm, hst, -⟩ := Cond.instanceMethod_spec h1
  obtain ⟨meth', c, hm', -, -, -, -, -, -, hsig⟩ := Cond.code_spec hn h2
  cases hm.symm.trans hm'
  simp [Cond.before, Cond.holds, Cond.value, hn, hm, hst, hsig]
def thL : List Cond := [.methodLink RX10 252 (Bundle.initS nsE), .instantiable nsE 6, .selects nsE Bundle.tFill0 Bundle.tFill0, .selects nsE Bundle.tFill Bundle.tFill, .lays nsE Bundle.tN "cause" "Ljava/lang/Throwable;", .lays nsE Bundle.tN "stackTrace" Bundle.steD, .lays nsE Bundle.tN "suppressedExceptions" Bundle.listD, .lays nsE Bundle.tN "detailMessage" "Ljava/lang/String;", .fieldLink Bundle.tN 198 Bundle.tN "backtrace" "Ljava/lang/Object;", .lays Bundle.tN Bundle.tN "backtrace" "Ljava/lang/Object;", .lays nsE Bundle.tN "backtrace" "Ljava/lang/Object;"]
section ThAtoms
variable {args : Array Value} {s : State} {A : Nat → Prop}
theorem th_a1 (hg : ∀ w ∈ GW, w.before args s = true) (hT : TW A s s.heap) : ∀ w ∈ Bundle.throwableAtoms, w.before args s = true := by
  unfold Bundle.throwableAtoms
  refine List.forall_mem_cons.mpr ⟨hg _ (gw_t1 17 rfl rfl), ?_⟩
  refine List.forall_mem_cons.mpr ⟨hg _ (gw_t4 66 rfl rfl), ?_⟩
  refine List.forall_mem_cons.mpr ⟨hg _ (gw_t4 75 rfl rfl), ?_⟩
  refine List.forall_mem_cons.mpr ⟨hg _ (gw_t4 77 rfl rfl), ?_⟩
  refine List.forall_mem_cons.mpr ⟨hg _ (gw_t4 80 rfl rfl), ?_⟩
  refine List.forall_mem_cons.mpr ⟨hg _ (gw_t4 82 rfl rfl), ?_⟩
  refine List.forall_mem_cons.mpr ⟨hg _ (gw_t4 67 rfl rfl), ?_⟩
  refine List.forall_mem_cons.mpr ⟨hg _ (gw_t4 68 rfl rfl), ?_⟩
  refine List.forall_mem_cons.mpr ⟨hg _ (gw_t1 27 rfl rfl), ?_⟩
  refine List.forall_mem_cons.mpr ⟨hg _ (gw_t1 28 rfl rfl), ?_⟩
  refine List.forall_mem_cons.mpr ⟨hg _ (gw_t4 69 rfl rfl), ?_⟩
  refine List.forall_mem_cons.mpr ⟨hg _ (gw_t4 74 rfl rfl), ?_⟩
  refine List.forall_mem_cons.mpr ⟨hg _ (gw_t4 78 rfl rfl), ?_⟩
  refine List.forall_mem_cons.mpr ⟨hg _ (gw_t4 98 rfl rfl), ?_⟩
  refine List.forall_mem_cons.mpr ⟨hg _ (gw_t4 56 rfl rfl), ?_⟩
  refine List.forall_mem_cons.mpr ⟨hg _ (gw_t4 99 rfl rfl), ?_⟩
  refine List.forall_mem_cons.mpr ⟨hg _ (gw_t4 58 rfl rfl), ?_⟩
  refine List.forall_mem_cons.mpr ⟨hg _ (gw_t4 100 rfl rfl), ?_⟩
  refine List.forall_mem_cons.mpr ⟨hg _ (gw_t4 60 rfl rfl), ?_⟩
  refine List.forall_mem_cons.mpr ⟨hg _ (gw_t4 70 rfl rfl), ?_⟩
  refine List.forall_mem_cons.mpr ⟨hT.1.lays, ?_⟩
  refine List.forall_mem_cons.mpr ⟨hg _ (gw_t4 72 rfl rfl), ?_⟩
  refine List.forall_mem_cons.mpr ⟨hT.2.1.lays, ?_⟩
  refine List.forall_mem_cons.mpr ⟨hg _ (gw_t4 62 rfl rfl), fun _ h => absurd h List.not_mem_nil⟩
theorem th_a2 (hg : ∀ w ∈ GW, w.before args s = true) : ∀ w ∈ Bundle.throwableSAtoms, w.before args s = true := by
  unfold Bundle.throwableSAtoms
  refine List.forall_mem_cons.mpr ⟨hg _ (gw_t4 94 rfl rfl), ?_⟩
  refine List.forall_mem_cons.mpr ⟨hg _ (gw_t4 95 rfl rfl), ?_⟩
  refine List.forall_mem_cons.mpr ⟨hg _ (gw_t4 97 rfl rfl), ?_⟩
  refine List.forall_mem_cons.mpr ⟨hg _ (gw_t4 62 rfl rfl), fun _ h => absurd h List.not_mem_nil⟩
theorem th_p1 (hg : ∀ w ∈ GW, w.before args s = true) : ∀ w ∈ Bundle.passSAtoms nsE rtE 13 prog_22_method_4_code, w.before args s = true := by
  unfold Bundle.passSAtoms
  refine List.forall_mem_cons.mpr ⟨hg _ (gw_t4 85 rfl rfl), ?_⟩
  refine List.forall_mem_cons.mpr ⟨hg _ (gw_t4 86 rfl rfl), ?_⟩
  refine List.forall_mem_cons.mpr ⟨hg _ (gw_t4 87 rfl rfl), ?_⟩
  refine List.forall_mem_cons.mpr ⟨hg _ (gw_t4 88 rfl rfl), ?_⟩
  refine List.forall_mem_cons.mpr ⟨th_decl (hg _ (gw_t4 88 rfl rfl)) (hg _ (gw_t4 89 rfl rfl)), fun _ h => absurd h List.not_mem_nil⟩
theorem th_p2 (hg : ∀ w ∈ GW, w.before args s = true) : ∀ w ∈ Bundle.passSAtoms rtE exE 7 Bundle.six, w.before args s = true := by
  unfold Bundle.passSAtoms
  refine List.forall_mem_cons.mpr ⟨hg _ (gw_t4 88 rfl rfl), ?_⟩
  refine List.forall_mem_cons.mpr ⟨hg _ (gw_t4 89 rfl rfl), ?_⟩
  refine List.forall_mem_cons.mpr ⟨hg _ (gw_t4 90 rfl rfl), ?_⟩
  refine List.forall_mem_cons.mpr ⟨hg _ (gw_t4 91 rfl rfl), ?_⟩
  refine List.forall_mem_cons.mpr ⟨th_decl (hg _ (gw_t4 91 rfl rfl)) (hg _ (gw_t4 92 rfl rfl)), fun _ h => absurd h List.not_mem_nil⟩
theorem th_p3 (hg : ∀ w ∈ GW, w.before args s = true) : ∀ w ∈ Bundle.passSAtoms exE Bundle.tN 7 Bundle.six, w.before args s = true := by
  unfold Bundle.passSAtoms
  refine List.forall_mem_cons.mpr ⟨hg _ (gw_t4 91 rfl rfl), ?_⟩
  refine List.forall_mem_cons.mpr ⟨hg _ (gw_t4 92 rfl rfl), ?_⟩
  refine List.forall_mem_cons.mpr ⟨hg _ (gw_t4 93 rfl rfl), ?_⟩
  refine List.forall_mem_cons.mpr ⟨hg _ (gw_t4 94 rfl rfl), ?_⟩
  refine List.forall_mem_cons.mpr ⟨th_decl (hg _ (gw_t4 94 rfl rfl)) (hg _ (gw_t4 95 rfl rfl)), fun _ h => absurd h List.not_mem_nil⟩
theorem th_l (hg : ∀ w ∈ GW, w.before args s = true) : ∀ w ∈ thL, w.before args s = true := by
  unfold thL
  refine List.forall_mem_cons.mpr ⟨hg _ (gw_t4 84 rfl rfl), ?_⟩
  refine List.forall_mem_cons.mpr ⟨hg _ (gw_t4 45 rfl rfl), ?_⟩
  refine List.forall_mem_cons.mpr ⟨hg _ (gw_t4 53 rfl rfl), ?_⟩
  refine List.forall_mem_cons.mpr ⟨hg _ (gw_t4 54 rfl rfl), ?_⟩
  refine List.forall_mem_cons.mpr ⟨hg _ (gw_t4 55 rfl rfl), ?_⟩
  refine List.forall_mem_cons.mpr ⟨hg _ (gw_t4 57 rfl rfl), ?_⟩
  refine List.forall_mem_cons.mpr ⟨hg _ (gw_t4 59 rfl rfl), ?_⟩
  refine List.forall_mem_cons.mpr ⟨hg _ (gw_t4 61 rfl rfl), ?_⟩
  refine List.forall_mem_cons.mpr ⟨hg _ (gw_t4 65 rfl rfl), ?_⟩
  refine List.forall_mem_cons.mpr ⟨hg _ (gw_t4 64 rfl rfl), ?_⟩
  refine List.forall_mem_cons.mpr ⟨hg _ (gw_t4 63 rfl rfl), fun _ h => absurd h List.not_mem_nil⟩
end ThAtoms
