/-! CONSTRUCTORS: the cells made, a block from the address a on (this part is made by wip/gen/buildrules.py) -/
abbrev tyc (ca : Nat → ClassId) : List (ClassId × FieldType) := [(ca 0, .byte), (ca 1, .int), (ca 2, .object "GcdMill$Whole")]
abbrev BM : Type := Nat × (Nat → va_E)
def BPx (D : va_G) (a : Nat) (M : BM) (H : Heap) : Prop := va_P D vwCl (va_pl (List.range' a M.1) M.2) H
def CBx (p : Program) (s : State) (m : MethodId) (args : Array Value) (meth : Method) (c : Code) (D : va_G) (ca : Nat → ClassId) (cc : ByteArray) (nL : Nat) (own : String) (a : Nat) : Prop := p.tables.exec = Jvm.exec ∧ c.code = cc ∧ c.maxLocals = nL ∧ s.vm.findClass own = some m.cls ∧ (∀ w ∈ GW, w.before args s = true) ∧ va_K D vwCl (tyc ca) s ∧ meth.name = "<init>" ∧ meth.sig.returnType = none ∧ meth.locks = false ∧ s.heap.size = a + 1
def BW (p : Program) (l : Launch) (e : Env) (R : Room) (s : State) (m : MethodId) (args : Array Value) (below : List Frame) (meth : Method) (c : Code) (D : va_G) (nL : Nat) (a : Nat) (cells slots : Nat) (Q : State → Prop) (pc : Nat) (lv : List (Nat × Value)) (st : List Value) (M : BM) : Prop :=
  ∀ (H : Heap) (locs : List Loc) (ls : Array Slot), BPx D a M H → va_S (fun q => a ≤ q) s.heap H locs → lv_has ls nL lv → W p l e R s m args below meth c H locs cells slots Q (F0 m pc ls st)
theorem rg_D {a K : Nat} {f : Nat → va_E} : va_D (fun q => a ≤ q) (va_pl (List.range' a K) f) := by
  have key : ∀ (i : Nat) (x : Nat × va_E), (va_pl (List.range' a K) f)[i]? = some x → x.1 = a + i ∧ i < K := fun i x hx => by
    unfold va_pl at hx
    rw [List.getElem?_map] at hx
    cases h : (List.range' a K)[i]? with
    | none => rw [h] at hx; cases hx
    | some y =>
      rw [h] at hx
      cases hx
      obtain ⟨h1, h2⟩ := List.getElem?_eq_some_iff.mp h
      rw [List.length_range'] at h1
      rw [List.getElem_range'] at h2
      exact ⟨by show y = a + i; omega, h1⟩
  refine ⟨fun i j x y hx hy e => ?_, fun i x hx => ?_⟩
  · have h1 := (key i x hx).1
    have h2 := (key j y hy).1
    omega
  · have h1 := (key i x hx).1
    show a ≤ x.1
    omega
theorem rg_mem {a K q : Nat} (h : a ≤ q ∧ q < a + K) : q ∈ List.range' a K := List.mem_range'_1.mpr h
theorem BPx.push {D : va_G} {a : Nat} {M : BM} {H H1 : Heap} {x : va_E} (h : BPx D a M H) (hx : va_at D vwCl (a + M.1, x) H1) (o : ∀ q, q < H.size → H1[q]? = H[q]?) : BPx D a (M.1 + 1, va_up M.2 (a + M.1) x) H1 := by
  have e : va_pl (List.range' a (M.1 + 1)) (va_up M.2 (a + M.1) x) = va_pl (List.range' a M.1) M.2 ++ [(a + M.1, x)] := by
    rw [List.range'_1_concat, va_pl_push (fun q => by have := List.mem_range'_1.mp q; omega)]
  show va_P D vwCl (va_pl (List.range' a (M.1 + 1)) (va_up M.2 (a + M.1) x)) H1
  rw [e]
  refine (h.kept fun k q hk => o _ ((h k q hk).lt)).app (fun k q hk => ?_)
  cases k with
  | zero => cases hk; exact hx
  | succ k => cases hk
theorem BPx.lt {D : va_G} {a q : Nat} {M : BM} {H : Heap} (h : BPx D a M H) (hq : a ≤ q ∧ q < a + M.1) : q < H.size := by
  obtain ⟨i, hi⟩ := va_pl_get (X := []) (f := M.2) (rg_mem hq)
  exact (h i _ hi).lt
theorem BPx.size {p : Program} {l : Launch} {e : Env} {R : Room} {s : State} {m : MethodId} {args : Array Value} {below : List Frame} {meth : Method} {c : Code} {T : State} {locs : List Loc} {cells slots : Nat} {D : va_G} {a : Nat} {M : BM} {H : Heap} (h : BPx D a M H) (hT : T.heap = H) (X : Stand p l e R s m args below meth c T locs cells slots) (hs : s.heap.size = a + 1) (hk : M.1 = cells + 1) : H.size = a + M.1 := by
  have h1 := X.heapSize
  have h2 := h.lt (q := a + cells) ⟨by omega, by omega⟩
  rw [hT] at h1
  omega
section BuildRules
variable {p : Program} {l : Launch} {e : Env} {R : Room} {s : State} {m : MethodId} {args : Array Value} {below : List Frame} {meth : Method} {c : Code} {D : va_G} {ca : Nat → ClassId} {nL a : Nat} {cells slots : Nat} {Q : State → Prop} {cc : ByteArray} {own : String} {pc : Nat} {lv : List (Nat × Value)} {st : List Value} {M : BM}
theorem b_iconst (cx : CBx p s m args meth c D ca cc nL own a) {n : Int} {v : Int32} (dg : decode cc pc = .ok (.iconst n, 1)) (hv : Int32.ofInt n = v) (k : BW p l e R s m args below meth c D nL a cells slots Q (pc + 1) lv (.int v :: st) M) : BW p l e R s m args below meth c D nL a cells slots Q pc lv st M := fun H locs ls hP hS hl => lv_iconst cx.1 cx.2.1 dg hv (k H locs ls hP hS hl)
theorem b_bipush (cx : CBx p s m args meth c D ca cc nL own a) {n : Int} {v : Int32} (dg : decode cc pc = .ok (.bipush n, 2)) (hv : (Int8.ofInt n).toInt32 = v) (k : BW p l e R s m args below meth c D nL a cells slots Q (pc + 2) lv (.int v :: st) M) : BW p l e R s m args below meth c D nL a cells slots Q pc lv st M := fun H locs ls hP hS hl => lv_bipush cx.1 cx.2.1 dg hv (k H locs ls hP hS hl)
theorem b_sipush (cx : CBx p s m args meth c D ca cc nL own a) {n : Int} {v : Int32} (dg : decode cc pc = .ok (.sipush n, 3)) (hv : (Int16.ofInt n).toInt32 = v) (k : BW p l e R s m args below meth c D nL a cells slots Q (pc + 3) lv (.int v :: st) M) : BW p l e R s m args below meth c D nL a cells slots Q pc lv st M := fun H locs ls hP hS hl => lv_sipush cx.1 cx.2.1 dg hv (k H locs ls hP hS hl)
theorem b_iload_n (cx : CBx p s m args meth c D ca cc nL own a) {q : Fin 4} {i : Nat} {x : Int32} (dg : decode cc pc = .ok (.iload_n q, 1)) (hi : (q : Nat) = i) (n : Nat) (hk : lv[n]? = some (i, .int x)) (k : BW p l e R s m args below meth c D nL a cells slots Q (pc + 1) lv (.int x :: st) M) : BW p l e R s m args below meth c D nL a cells slots Q pc lv st M := fun H locs ls hP hS hl => lv_iload_n cx.1 cx.2.1 dg hi (lv_at hl n hk) (k H locs ls hP hS hl)
theorem b_iload (cx : CBx p s m args meth c D ca cc nL own a) {i : Nat} {x : Int32} (dg : decode cc pc = .ok (.iload i, 2)) (n : Nat) (hk : lv[n]? = some (i, .int x)) (k : BW p l e R s m args below meth c D nL a cells slots Q (pc + 2) lv (.int x :: st) M) : BW p l e R s m args below meth c D nL a cells slots Q pc lv st M := fun H locs ls hP hS hl => lv_iload cx.1 cx.2.1 dg (lv_at hl n hk) (k H locs ls hP hS hl)
theorem b_aload_n (cx : CBx p s m args meth c D ca cc nL own a) {q : Fin 4} {i : Nat} {x : Nat} (dg : decode cc pc = .ok (.aload_n q, 1)) (hi : (q : Nat) = i) (n : Nat) (hk : lv[n]? = some (i, .ref x)) (k : BW p l e R s m args below meth c D nL a cells slots Q (pc + 1) lv (.ref x :: st) M) : BW p l e R s m args below meth c D nL a cells slots Q pc lv st M := fun H locs ls hP hS hl => lv_aload_n cx.1 cx.2.1 dg hi (lv_at hl n hk) (k H locs ls hP hS hl)
theorem b_istore_n (cx : CBx p s m args meth c D ca cc nL own a) {q : Fin 4} {i : Nat} {x : Int32} {lv' : List (Nat × Value)} (dg : decode cc pc = .ok (.istore_n q, 1)) (hi : (q : Nat) = i) (hn : i < nL) (ks : List Nat) (hl0 : lv_pick ((i, Value.int x) :: lv.filter (fun q => !(q.1 == i) && !(q.1 + 1 == i && q.2.category == 2))) ks = lv') (k : BW p l e R s m args below meth c D nL a cells slots Q (pc + 1) lv' st M) : BW p l e R s m args below meth c D nL a cells slots Q pc lv (.int x :: st) M := fun H locs ls hP hS hl => lv_istore_n cx.1 cx.2.1 dg hi hl hn rfl (fun ls1 hl1 => k H locs ls1 hP hS (lv_sub hl1 ks hl0))
theorem b_iinc (cx : CBx p s m args meth c D ca cc nL own a) {i : Nat} {d : Int} {x v : Int32} {lv' : List (Nat × Value)} (dg : decode cc pc = .ok (.iinc i d, 3)) (n : Nat) (hk : lv[n]? = some (i, .int x)) (hv : x + Int32.ofInt d = v) (hn : i < nL) (ks : List Nat) (hl0 : lv_pick ((i, Value.int v) :: lv.filter (fun q => !(q.1 == i) && !(q.1 + 1 == i && q.2.category == 2))) ks = lv') (k : BW p l e R s m args below meth c D nL a cells slots Q (pc + 3) lv' st M) : BW p l e R s m args below meth c D nL a cells slots Q pc lv st M := fun H locs ls hP hS hl => lv_iinc cx.1 cx.2.1 dg hl hk hv hn rfl (fun ls1 hl1 => k H locs ls1 hP hS (lv_sub hl1 ks hl0))
theorem b_iadd (cx : CBx p s m args meth c D ca cc nL own a) {x y : Int32} (dg : decode cc pc = .ok (.iadd, 1)) (k : BW p l e R s m args below meth c D nL a cells slots Q (pc + 1) lv (.int (x + y) :: st) M) : BW p l e R s m args below meth c D nL a cells slots Q pc lv (.int y :: .int x :: st) M := fun H locs ls hP hS hl => lv_iadd cx.1 cx.2.1 dg (k H locs ls hP hS hl)
theorem b_imul (cx : CBx p s m args meth c D ca cc nL own a) {x y : Int32} (dg : decode cc pc = .ok (.imul, 1)) (k : BW p l e R s m args below meth c D nL a cells slots Q (pc + 1) lv (.int (x * y) :: st) M) : BW p l e R s m args below meth c D nL a cells slots Q pc lv (.int y :: .int x :: st) M := fun H locs ls hP hS hl => lv_imul cx.1 cx.2.1 dg (k H locs ls hP hS hl)
theorem b_dup (cx : CBx p s m args meth c D ca cc nL own a) {va : Value} (dg : decode cc pc = .ok (.dup, 1)) (hc : va.category = 1) (k : BW p l e R s m args below meth c D nL a cells slots Q (pc + 1) lv (va :: va :: st) M) : BW p l e R s m args below meth c D nL a cells slots Q pc lv (va :: st) M := fun H locs ls hP hS hl => lv_dup cx.1 cx.2.1 dg hc (k H locs ls hP hS hl)
theorem b_if_ge (cx : CBx p s m args meth c D ca cc nL own a) {x : Int32} {off : Int} {tgt : Nat} (dg : decode cc pc = .ok (.ifCond .ge off, 3)) (ht : (pc : Int) + off = (tgt : Int)) (kt : 0 ≤ x → BW p l e R s m args below meth c D nL a cells slots Q tgt lv st M) (kf : ¬ 0 ≤ x → BW p l e R s m args below meth c D nL a cells slots Q (pc + 3) lv st M) : BW p l e R s m args below meth c D nL a cells slots Q pc lv (.int x :: st) M := fun H locs ls hP hS hl => lv_if_ge cx.1 cx.2.1 dg ht (fun h => kt h H locs ls hP hS hl) (fun h => kf h H locs ls hP hS hl)
theorem b_icmp_ge (cx : CBx p s m args meth c D ca cc nL own a) {x y : Int32} {off : Int} {tgt : Nat} (dg : decode cc pc = .ok (.if_icmp .ge off, 3)) (ht : (pc : Int) + off = (tgt : Int)) (kt : y ≤ x → BW p l e R s m args below meth c D nL a cells slots Q tgt lv st M) (kf : ¬ y ≤ x → BW p l e R s m args below meth c D nL a cells slots Q (pc + 3) lv st M) : BW p l e R s m args below meth c D nL a cells slots Q pc lv (.int y :: .int x :: st) M := fun H locs ls hP hS hl => lv_icmp_ge cx.1 cx.2.1 dg ht (fun h => kt h H locs ls hP hS hl) (fun h => kf h H locs ls hP hS hl)
theorem b_icmp_le (cx : CBx p s m args meth c D ca cc nL own a) {x y : Int32} {off : Int} {tgt : Nat} (dg : decode cc pc = .ok (.if_icmp .le off, 3)) (ht : (pc : Int) + off = (tgt : Int)) (kt : x ≤ y → BW p l e R s m args below meth c D nL a cells slots Q tgt lv st M) (kf : ¬ x ≤ y → BW p l e R s m args below meth c D nL a cells slots Q (pc + 3) lv st M) : BW p l e R s m args below meth c D nL a cells slots Q pc lv (.int y :: .int x :: st) M := fun H locs ls hP hS hl => lv_icmp_le cx.1 cx.2.1 dg ht (fun h => kt h H locs ls hP hS hl) (fun h => kf h H locs ls hP hS hl)
theorem b_icmp_gt (cx : CBx p s m args meth c D ca cc nL own a) {x y : Int32} {off : Int} {tgt : Nat} (dg : decode cc pc = .ok (.if_icmp .gt off, 3)) (ht : (pc : Int) + off = (tgt : Int)) (kt : y < x → BW p l e R s m args below meth c D nL a cells slots Q tgt lv st M) (kf : ¬ y < x → BW p l e R s m args below meth c D nL a cells slots Q (pc + 3) lv st M) : BW p l e R s m args below meth c D nL a cells slots Q pc lv (.int y :: .int x :: st) M := fun H locs ls hP hS hl => lv_icmp_gt cx.1 cx.2.1 dg ht (fun h => kt h H locs ls hP hS hl) (fun h => kf h H locs ls hP hS hl)
theorem b_goto (cx : CBx p s m args meth c D ca cc nL own a) {off : Int} {tgt : Nat} (dg : decode cc pc = .ok (.goto off, 3)) (ht : (pc : Int) + off = (tgt : Int)) (k : BW p l e R s m args below meth c D nL a cells slots Q tgt lv st M) : BW p l e R s m args below meth c D nL a cells slots Q pc lv st M := fun H locs ls hP hS hl => lv_goto cx.1 cx.2.1 dg ht (k H locs ls hP hS hl)
theorem b_perm (ks : List Nat) {lv' : List (Nat × Value)} (h : lv_pick lv ks = lv') (k : BW p l e R s m args below meth c D nL a cells slots Q pc lv' st M) : BW p l e R s m args below meth c D nL a cells slots Q pc lv st M := fun H locs ls hP hS hl => k H locs ls hP hS (lv_sub hl ks h)
theorem b_topi {x : Int32} (k : ∀ y : Int32, y = x → BW p l e R s m args below meth c D nL a cells slots Q pc lv (.int y :: st) M) : BW p l e R s m args below meth c D nL a cells slots Q pc lv (.int x :: st) M := k x rfl
theorem BW.widen {k n : Nat} (h1 : cells ≤ k) (h2 : slots ≤ n) (kk : BW p l e R s m args below meth c D nL a k n Q pc lv st M) : BW p l e R s m args below meth c D nL a cells slots Q pc lv st M := fun H locs ls hP hS hl => W.widen h1 h2 (kk H locs ls hP hS hl)
theorem b_max {index : Nat} {x y : Int32} (cx : CBx p s m args meth c D ca cc nL own a) (hl1 : Cond.methodLink own index Lib.Math.max.name ∈ GW) (hR : 1 ≤ R.frames ∧ (st.map fun v => v.category).sum + 13 ≤ R.locals) (hRc : cells ≤ R.cells ∧ slots ≤ R.slots) (dg : decode cc pc = .ok (.invokestatic index, 3)) (kk : BW p l e R s m args below meth c D nL a cells slots Q (pc + 3) lv (.int (if x < y then y else x) :: st) M) : BW p l e R s m args below meth c D nL a cells slots Q pc lv (.int y :: .int x :: st) M := fun H locs ls hP hS hl => va_mmax cx.1 cx.2.1 (cx.2.2.1.trans hl.1.symm) cx.2.2.2.1 (cx.2.2.2.2.1 _ hl1) (cx.2.2.2.2.1 _ t1_33) (cx.2.2.2.2.1 _ t1_2) (cx.2.2.2.2.1 _ t1_34) hR.1 hR.2 hRc.1 hRc.2 dg (kk H locs ls hP hS hl)
theorem b_min {index : Nat} {x y : Int32} (cx : CBx p s m args meth c D ca cc nL own a) (hl1 : Cond.methodLink own index Lib.Math.min.name ∈ GW) (hR : 1 ≤ R.frames ∧ (st.map fun v => v.category).sum + 13 ≤ R.locals) (hRc : cells ≤ R.cells ∧ slots ≤ R.slots) (dg : decode cc pc = .ok (.invokestatic index, 3)) (kk : BW p l e R s m args below meth c D nL a cells slots Q (pc + 3) lv (.int (if y < x then y else x) :: st) M) : BW p l e R s m args below meth c D nL a cells slots Q pc lv (.int y :: .int x :: st) M := fun H locs ls hP hS hl => va_mmin cx.1 cx.2.1 (cx.2.2.1.trans hl.1.symm) cx.2.2.2.1 (cx.2.2.2.2.1 _ hl1) (cx.2.2.2.2.1 _ t1_30) (cx.2.2.2.2.1 _ t1_2) (cx.2.2.2.2.1 _ t1_31) hR.1 hR.2 hRc.1 hRc.2 dg (kk H locs ls hP hS hl)
theorem b_obj {index q : Nat} (cx : CBx p s m args meth c D ca cc nL own a) (hlink : Cond.methodLink own index Lib.objectInit ∈ GW) (hR : 1 ≤ R.frames ∧ (st.map fun v => v.category).sum + 12 ≤ R.locals) (dg : decode cc pc = .ok (.invokespecial index, 3)) (kk : BW p l e R s m args below meth c D nL a cells slots Q (pc + 3) lv st M) : BW p l e R s m args below meth c D nL a cells slots Q pc lv (.ref q :: st) M := fun H locs ls hP hS hl => W.objInit cx.1 cx.2.1 cx.2.2.2.1 (cx.2.2.2.2.1 _ hlink) (cx.2.2.2.2.1 _ (gw_t1 27 rfl rfl)) (cx.2.2.2.2.1 _ (gw_t1 28 rfl rfl)) rfl (hl.1.trans cx.2.2.1.symm) rfl dg hR.1 (by show 2 * 0 + (st.map fun v => v.category).sum + 12 ≤ R.locals; omega) (kk H locs ls hP hS hl)
theorem b_get {ci k q : Nat} {C : String} {T : u_T} {N index : Nat} {vs : List Value} {v : Value} (hcl : vwCl[ci]? = some (C, T, N)) (hin : ∀ w ∈ u_ws C T N, w ∈ GW) (hk : k < N) (cx : CBx p s m args meth c D ca cc nL own a) (hq : a ≤ q ∧ q < a + M.1) (hf : M.2 q = .inr (ci, vs)) (hv : vs[k]? = some v) (hw : Cond.fieldLink own index (T k).1 (T k).2.1 (T k).2.2.1 ∈ GW) (dg : decode cc pc = .ok (.getfield index, 3)) (kk : BW p l e R s m args below meth c D nL a cells slots Q (pc + 3) lv (v :: st) M) : BW p l e R s m args below meth c D nL a cells slots Q pc lv (.ref q :: st) M := fun H locs ls hP hS hl => by
  obtain ⟨i, hi⟩ := va_pl_get (X := []) (f := M.2) (rg_mem hq)
  rw [hf] at hi
  exact va_get cx.1 cx.2.1 cx.2.2.2.2.1 hin cx.2.2.2.1 cx.2.2.2.2.2.1 hP i hi hcl k hk (cx.2.2.2.2.1 _ hw) (fun _ h => h) hv dg (kk H locs ls hP hS hl)
theorem b_put {ci k q : Nat} {C : String} {T : u_T} {N index : Nat} {vs : List Value} {v : Value} {ty : FieldType} (hcl : vwCl[ci]? = some (C, T, N)) (hin : ∀ w ∈ u_ws C T N, w ∈ GW) (hk : k < N) (ty0 : Nat → FieldType) (hty : ∀ k, k < N → parseFieldDescriptor (T k).2.2.1 = some (ty0 k)) (hnm : ∀ a, a < N → ∀ b, b < N → a ≠ b → (T a).2.1 ≠ (T b).2.1) (hfin : (T k).2.2.2 = false) (hd : parseFieldDescriptor (T k).2.2.1 = some ty) (hnr : narrow ty v = v) (hfit : fits ty v = true) (cx : CBx p s m args meth c D ca cc nL own a) (hq : a ≤ q ∧ q < a + M.1) (hf : M.2 q = .inr (ci, vs)) (hl0 : k < vs.length) (hw : Cond.fieldLink own index (T k).1 (T k).2.1 (T k).2.2.1 ∈ GW) (dg : decode cc pc = .ok (.putfield index, 3)) (kk : BW p l e R s m args below meth c D nL a cells slots Q (pc + 3) lv st (M.1, va_up M.2 q (.inr (ci, vs.set k v)))) : BW p l e R s m args below meth c D nL a cells slots Q pc lv (v :: .ref q :: st) M := fun H locs ls hP hS hl => by
  obtain ⟨i, hi⟩ := va_pl_get (X := []) (f := M.2) (rg_mem hq)
  have hi2 := hi
  rw [hf] at hi2
  refine va_put (H0 := s.heap) cx.1 cx.2.1 cx.2.2.2.2.1 hin ty0 hty hnm cx.2.2.2.1 cx.2.2.2.2.2.1 hP rg_D hS i hi2 hcl k hk (cx.2.2.2.2.1 _ hw) (fun _ h => h) hfin hd hnr hfit hl0 dg (fun H1 locs1 hP1 hD1 hS1 => ?_)
  have e := va_pl_set (X := []) (e := .inr (ci, vs.set k v)) (rg_D (a := a) (K := M.1) (f := M.2)) (rg_mem hq) hi
  refine kk H1 locs1 ls ?_ hS1 hl
  show va_P D vwCl (va_pl (List.range' a M.1) (va_up M.2 q (.inr (ci, vs.set k v)))) H1
  rw [← List.nil_append (va_pl _ _), ← e]
  exact hP1
theorem b_putF {ci k q : Nat} {C : String} {T : u_T} {N index : Nat} {vs : List Value} {v : Value} {ty : FieldType} (hcl : vwCl[ci]? = some (C, T, N)) (hin : ∀ w ∈ u_ws C T N, w ∈ GW) (hk : k < N) (ty0 : Nat → FieldType) (hty : ∀ k, k < N → parseFieldDescriptor (T k).2.2.1 = some (ty0 k)) (hnm : ∀ a, a < N → ∀ b, b < N → a ≠ b → (T a).2.1 ≠ (T b).2.1) (hfin : (T k).2.2.2 = true) (hdecl : (T k).1 = own) (hd : parseFieldDescriptor (T k).2.2.1 = some ty) (hnr : narrow ty v = v) (hfit : fits ty v = true) (cx : CBx p s m args meth c D ca cc nL own a) (hq : a ≤ q ∧ q < a + M.1) (hf : M.2 q = .inr (ci, vs)) (hl0 : k < vs.length) (hw : Cond.fieldLink own index (T k).1 (T k).2.1 (T k).2.2.1 ∈ GW) (dg : decode cc pc = .ok (.putfield index, 3)) (kk : BW p l e R s m args below meth c D nL a cells slots Q (pc + 3) lv st (M.1, va_up M.2 q (.inr (ci, vs.set k v)))) : BW p l e R s m args below meth c D nL a cells slots Q pc lv (v :: .ref q :: st) M := fun H locs ls hP hS hl => by
  obtain ⟨i, hi⟩ := va_pl_get (X := []) (f := M.2) (rg_mem hq)
  have hi2 := hi
  rw [hf] at hi2
  refine va_putF (H0 := s.heap) cx.1 cx.2.1 cx.2.2.2.2.1 hin ty0 hty hnm cx.2.2.2.1 cx.2.2.2.2.2.1 hP rg_D hS i hi2 hcl k hk (cx.2.2.2.2.1 _ hw) (fun _ h => h) hfin cx.2.2.2.2.2.2.1 hdecl hd hnr hfit hl0 dg (fun H1 locs1 hP1 hD1 hS1 => ?_)
  have e := va_pl_set (X := []) (e := .inr (ci, vs.set k v)) (rg_D (a := a) (K := M.1) (f := M.2)) (rg_mem hq) hi
  refine kk H1 locs1 ls ?_ hS1 hl
  show va_P D vwCl (va_pl (List.range' a M.1) (va_up M.2 q (.inr (ci, vs.set k v)))) H1
  rw [← List.nil_append (va_pl _ _), ← e]
  exact hP1
theorem b_new {ci index N : Nat} {C : String} {T : u_T} (hcl : vwCl[ci]? = some (C, T, N)) (hin : ∀ w ∈ u_ws C T N, w ∈ GW) (ty0 : Nat → FieldType) (hty : ∀ k, k < N → parseFieldDescriptor (T k).2.2.1 = some (ty0 k)) {fs : List Value} (hfs : ∀ j, j < N → defaultValue (ty0 j) = vp_V fs j) (cx : CBx p s m args meth c D ca cc nL own a) (hlink : Cond.classLink own index C ∈ GW) (hinst : Cond.instantiable C N ∈ GW) (hini : Cond.initialized C ∈ GW) (hk : M.1 = cells + 1) (hRc : cells + 1 ≤ R.cells ∧ slots + N ≤ R.slots) (dg : decode cc pc = .ok (.new index, 3)) (kk : BW p l e R s m args below meth c D nL a (cells + 1) (slots + N) Q (pc + 3) lv (.ref (a + M.1) :: st) (M.1 + 1, va_up M.2 (a + M.1) (.inr (ci, fs)))) : BW p l e R s m args below meth c D nL a cells slots Q pc lv st M := by
  intro H locs ls hP hS hl T0 hT X
  have hsz := hP.size hT X cx.2.2.2.2.2.2.2.2.2 hk
  have hKn := cx.2.2.2.2.2.1.1 ci _ hcl
  refine W.newcK (g := F0 m pc ls st) (own := own) (C := C) (index := index) (n := N) cx.1 cx.2.1 cx.2.2.2.1 (cx.2.2.2.2.1 _ hlink) (cx.2.2.2.2.1 _ hinst) (cx.2.2.2.2.1 _ hini) rfl dg hRc.1 hRc.2 hKn.2.1 hsz (fun H1 kC hkC e1 z1 o1 => ?_) T0 hT X
  rw [← hsz] at o1
  exact kk H1 locs ls (hP.push ⟨_, hcl, (u_born ty0 cx.2.2.2.2.1 hin hKn hkC e1 hty).to hfs⟩ o1) ⟨Nat.le_trans hS.1 (by omega), fun q h1 h2 => (o1 q (Nat.lt_of_lt_of_le h1 hS.1)).trans (hS.2.1 q h1 h2), hS.2.2⟩ hl
theorem b_newI {n : Int32} {N : Nat} (cx : CBx p s m args meth c D ca cc nL own a) (hn : ¬ n < 0) (hN : n.toNatClampNeg = N) (hb : N ≤ 20000) (hk : M.1 = cells + 1) (hRc : cells + 1 ≤ R.cells ∧ slots + N ≤ R.slots) (dg : decode cc pc = .ok (.newarray .int, 2)) (kk : BW p l e R s m args below meth c D nL a (cells + 1) (slots + N) Q (pc + 2) lv (.ref (a + M.1) :: st) (M.1 + 1, va_up M.2 (a + M.1) (.inl (ca 1, N, .inl (fun _ => 0))))) : BW p l e R s m args below meth c D nL a cells slots Q pc lv (.int n :: st) M := by
  intro H locs ls hP hS hl T0 hT X
  have hsz := hP.size hT X cx.2.2.2.2.2.2.2.2.2 hk
  refine va_newaK (atype := .int) (g := F0 m pc ls (.int n :: st)) cx.1 cx.2.1 (cx.2.2.2.2.1 (.arrayClass .int) (gw_t1 (w := .arrayClass .int) 76 rfl rfl)) rfl dg (rest := st) rfl hn hN (by show N * 4 ≤ 536870912; omega) hRc.1 hRc.2 hsz (fun H1 cA e1 z1 o1 hAr hNm => ?_) T0 hT X
  have eA : cA = ca 1 := Option.some.inj (hNm.symm.trans (cx.2.2.2.2.2.1.2 1 _ rfl).2)
  subst eA
  rw [← hsz] at o1
  exact kk H1 locs ls (hP.push e1 o1) ⟨Nat.le_trans hS.1 (by omega), fun q h1 h2 => (o1 q (Nat.lt_of_lt_of_le h1 hS.1)).trans (hS.2.1 q h1 h2), hS.2.2⟩ hl
theorem b_newB {n : Int32} {N : Nat} (cx : CBx p s m args meth c D ca cc nL own a) (hn : ¬ n < 0) (hN : n.toNatClampNeg = N) (hb : N ≤ 20000) (hk : M.1 = cells + 1) (hRc : cells + 1 ≤ R.cells ∧ slots + N ≤ R.slots) (dg : decode cc pc = .ok (.newarray .byte, 2)) (kk : BW p l e R s m args below meth c D nL a (cells + 1) (slots + N) Q (pc + 2) lv (.ref (a + M.1) :: st) (M.1 + 1, va_up M.2 (a + M.1) (.inl (ca 0, N, .inl (fun _ => 0))))) : BW p l e R s m args below meth c D nL a cells slots Q pc lv (.int n :: st) M := by
  intro H locs ls hP hS hl T0 hT X
  have hsz := hP.size hT X cx.2.2.2.2.2.2.2.2.2 hk
  refine va_newaK (atype := .byte) (g := F0 m pc ls (.int n :: st)) cx.1 cx.2.1 (cx.2.2.2.2.1 (.arrayClass .byte) (gw_t2 (w := .arrayClass .byte) 50 rfl rfl)) rfl dg (rest := st) rfl hn hN (by show N * 1 ≤ 536870912; omega) hRc.1 hRc.2 hsz (fun H1 cA e1 z1 o1 hAr hNm => ?_) T0 hT X
  have eA : cA = ca 0 := Option.some.inj (hNm.symm.trans (cx.2.2.2.2.2.1.2 0 _ rfl).2)
  subst eA
  rw [← hsz] at o1
  exact kk H1 locs ls (hP.push e1 o1) ⟨Nat.le_trans hS.1 (by omega), fun q h1 h2 => (o1 q (Nat.lt_of_lt_of_le h1 hS.1)).trans (hS.2.1 q h1 h2), hS.2.2⟩ hl
/-- a constructor of an object at x, the last cell of the heap: afterwards the K cells from x on are LY -/
def MeC (l : Launch) (D : va_G) (ca : Nat → ClassId) (y : MethodName) (ws : List Cond) (rm : Room) (x ci : Nat) (vs : List Value) (av : List Value) (mc ms : Nat) (LY : Nat → va_E) : Prop := Met l y ws rm (va_Pc (.ref x :: av) (fun U => va_at D vwCl (x, .inr (ci, vs)) U.heap ∧ U.heap.size = x + 1 ∧ va_K D vwCl (tyc ca) U)) (fun _ st oc t => oc = .returned none ∧ va_P D vwCl (va_pl (List.range' x (mc + 1)) (fun q => LY (q - x))) t.heap ∧ st.heap.size ≤ t.heap.size ∧ ∀ q, q < x → t.heap[q]? = st.heap[q]?) mc ms (fun q => x ≤ q)
theorem b_method {l : Launch} {D : va_G} {ca : Nat → ClassId} {y : MethodName} {cc : ByteArray} {maxL : Nat} {rm : Room} {x ci mc ms : Nat} {vs av : List Value} {LY : Nat → va_E} {lv0 : List (Nat × Value)} (hy : plainName y.cls = true) (hy2 : y.name = "<init>") (hlv : lv_args 0 (.ref x :: av) = lv0) (hn : (lg_sl (.ref x :: av)).length ≤ maxL)
    (body : ∀ (p : Program) (e : Env) (s : State) (m : MethodId) (args : Array Value) (below : List Frame) (meth : Method) (c : Code), CBx p s m args meth c D ca cc maxL y.cls x → BW p l e rm s m args below meth c D maxL x 0 0 (MQ below (fun _ st oc t => oc = .returned none ∧ va_P D vwCl (va_pl (List.range' x (mc + 1)) (fun q => LY (q - x))) t.heap ∧ st.heap.size ≤ t.heap.size ∧ ∀ q, q < x → t.heap[q]? = st.heap[q]?) args s mc ms (fun q => x ≤ q)) 0 lv0 [] (1, fun _ => .inr (ci, vs))) :
    MeC l D ca y (Cond.code y cc maxL none :: GW) rm x ci vs av mc ms LY := by
  refine Met.ofW (cc := cc) (maxL := maxL) (ret := none) hy rfl ?_
  intro p e s m args below meth c s₁ B hml hv
  obtain ⟨rfl, hat, hsz, hK⟩ := hv
  have hts := atoms_spec (ws := Cond.code y cc maxL none :: GW) B.pre
  have hown : s.vm.findClass y.cls = some m.cls := findClass_of_methodNamed B.named
  have hl := lv_entry (.ref x :: av) (n := maxL) hn
  rw [lg_entry_eq]
  rw [hlv] at hl
  have hnm : meth.name = "<init>" := by rw [(name_of_methodNamed B.named B.method).1, hy2]
  refine body p e s m (Value.ref x :: av).toArray below meth c ⟨B.exec, B.bytes, hml, hown, fun w h => hts w (List.mem_cons_of_mem _ h), hK, hnm, B.returns, B.notSynchronized, hsz⟩ s.heap [] _ (fun k q hk => ?_) va_S.rf hl
  cases k with
  | zero => cases hk; exact hat
  | succ k => cases hk
theorem b_ret {mc ms : Nat} {LY : Nat → va_E} (cx : CBx p s m args meth c D ca cc nL own a) (h1 : cells = mc) (h2 : slots ≤ ms) (hk : M.1 = mc + 1) (hf : ∀ d, d < mc + 1 → M.2 (a + d) = LY d) (dg : decode cc pc = .ok (.return_, 1)) : BW p l e R s m args below meth c D nL a cells slots (MQ below (fun _ st oc t => oc = .returned none ∧ va_P D vwCl (va_pl (List.range' a (mc + 1)) (fun q => LY (q - a))) t.heap ∧ st.heap.size ≤ t.heap.size ∧ ∀ q, q < a → t.heap[q]? = st.heap[q]?) args s mc ms (fun q => a ≤ q)) pc lv [] M := fun H locs ls hP hS hl => by
  subst h1
  refine W.widen (Nat.le_refl _) h2 (W.vret cx.1 cx.2.1 cx.2.2.2.2.2.2.2.1 (fun t ht hW => ⟨rfl, ?_, by rw [ht]; exact hS.1, fun q hq => by rw [ht]; exact hS.2.1 q (by have := cx.2.2.2.2.2.2.2.2.2; omega) (fun z => absurd hq (Nat.not_lt.mpr z))⟩) hS.2.2 dg cx.2.2.2.2.2.2.2.2.1)
  rw [ht]
  have e : va_pl (List.range' a (cells + 1)) (fun q => LY (q - a)) = va_pl (List.range' a M.1) M.2 := by
    unfold va_pl
    rw [hk]
    refine List.map_congr_left fun q hq => ?_
    have := List.mem_range'_1.mp hq
    have h3 := hf (q - a) (by omega)
    rw [show a + (q - a) = q by omega] at h3
    rw [h3]
  rw [e]
  exact hP
/-- a constructor is called on the last cell -/
theorem b_callC {y : MethodName} {bytes : ByteArray} {maxL n index ci x mc ms : Nat} {rm : Room} {vs rest : List Value} {LY : Nat → va_E} (As : List Value) (cx : CBx p s m args meth c D ca cc nL own a) (hM : MeC l D ca y (Cond.code y bytes maxL none :: GW) rm x ci vs As mc ms LY) (hF : CF y bytes maxL none n) (hy : y.name = "<init>") (hI : Cond.instanceMethod y ∈ GW) (hlink : Cond.methodLink own index y ∈ GW) (hk : M.1 = cells + 1) (hx : a + cells = x) (hc1 : 1 ≤ cells) (hf : M.2 x = .inr (ci, vs)) (h0 : rm.cells = mc ∧ rm.slots = ms) (hR : rm.frames + 1 ≤ R.frames ∧ 8 + (maxL + 11) + rm.locals ≤ R.locals) (hRc : cells + mc ≤ R.cells ∧ slots + ms ≤ R.slots) (hn : As.length = n) (hst : st = As.reverse ++ .ref x :: rest) (hW : (rest.map fun v => v.category).sum ≤ 8) (dg : decode cc pc = .ok (.invokespecial index, 3))
    (kk : BW p l e R s m args below meth c D nL a (cells + mc) (slots + ms) Q (pc + 3) lv rest (M.1 + mc, fun q => if q < x then M.2 q else LY (q - x))) : BW p l e R s m args below meth c D nL a cells slots Q pc lv st M := by
  intro H locs ls hP hS hl T0 hT X
  have hsz := hP.size hT X cx.2.2.2.2.2.2.2.2.2 hk
  have hB : CallB R s args own index y bytes maxL none (Cond.code y bytes maxL none :: GW) rm mc ms n := callB_of n cx.2.2.2.2.1 (goodIn_g hF.1) rfl h0.1 h0.2 (cx.2.2.2.2.1 _ hF.2.1) (cx.2.2.2.2.1 _ hlink) hF.2.2 hR
  obtain ⟨i, hi⟩ := va_pl_get (X := []) (f := M.2) (rg_mem (a := a) (K := M.1) (q := x) ⟨by omega, by omega⟩)
  have hat := hP i _ hi
  rw [hf] at hat
  obtain ⟨v, st₀, t, T', L, h0', X', hL, e1, e2, ⟨hv, hPt, hge, hkeep⟩, go⟩ := va_runI (As := As) (rest := rest) (b := x) (g := F0 m pc ls st) (e := e) (below := below) (meth := meth) (locs := locs) (cells := cells) (slots := slots) (H := H) ⟨cx.1, cx.2.1, cx.2.2.1, cx.2.2.2.1, cx.2.2.2.2.1⟩ hM ⟨hB, hy, cx.2.2.2.2.1 _ hI⟩ ⟨fun A U g mk q => ⟨q.1, q.2.1, q.2.2.1, va_K.moved (u := U) (U := U.calling g mk A) (Vm.Alike.refl U.vm) q.2.2.2⟩, fun U hU hW => ⟨rfl, by rw [hU]; exact hat, by rw [hU, hsz]; omega, va_K.moved hW.alike cx.2.2.2.2.2.1⟩⟩ rfl hn hl.1 hst (lv_room hW) dg hRc T0 hT X
  cases hv
  rw [h0'] at hge hkeep
  have hBP : BPx D a (M.1 + mc, fun q => if q < x then M.2 q else LY (q - x)) T'.heap := by
    intro k q hq
    rw [e1]
    unfold va_pl at hq
    rw [List.getElem?_map] at hq
    cases hr : (List.range' a (M.1 + mc))[k]? with
    | none => rw [hr] at hq; cases hq
    | some z =>
      rw [hr] at hq
      cases hq
      have hz := List.mem_range'_1.mp (List.mem_of_getElem? hr)
      by_cases c1 : z < x
      · obtain ⟨j, hj⟩ := va_pl_get (X := []) (f := M.2) (rg_mem (a := a) (K := M.1) (q := z) ⟨hz.1, by omega⟩)
        have hz2 := hP j _ hj
        show va_at D vwCl (z, if z < x then M.2 z else LY (z - x)) t.heap
        rw [if_pos c1]
        exact hz2.kept (hkeep z c1)
      · obtain ⟨j, hj⟩ := va_pl_get (X := []) (f := fun q => LY (q - x)) (rg_mem (a := x) (K := mc + 1) (q := z) ⟨by omega, by omega⟩)
        show va_at D vwCl (z, if z < x then M.2 z else LY (z - x)) t.heap
        rw [if_neg c1]
        exact hPt j _ hj
  have hSS : va_S (fun q => a ≤ q) s.heap T'.heap (locs ++ L) := by
    refine ⟨Nat.le_trans hS.1 (by rw [e1]; exact hge), fun q h1 h2 => ?_, fun q hq => ?_⟩
    · have h4 : q < a := Nat.not_le.mp h2
      rw [e1, hkeep q (by omega)]
      exact hS.2.1 q h1 h2
    · rcases List.mem_append.mp hq with h | h
      · exact hS.2.2 q h
      · have h5 : x ≤ q.base := hL q h
        show a ≤ q.base
        omega
  obtain ⟨t2, a1, b1⟩ := kk T'.heap (locs ++ L) ls hBP hSS hl T' rfl X'
  exact ⟨t2, go t2 a1, b1⟩
end BuildRules
