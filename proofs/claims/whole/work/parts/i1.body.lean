/-! the law's body, from its entry to its loop -/
def CLx (p : Program) (s : State) (m : MethodId) (args : Array Value) (c : Code) (D : va_G) (ca : Nat → ClassId) : Prop := p.tables.exec = Jvm.exec ∧ c.code = cL_law ∧ c.maxLocals = 7 ∧ s.vm.findClass RL = some m.cls ∧ (∀ w ∈ GW, w.before args s = true) ∧ va_K D vwCl (tyc ca) s
section Body
variable {p : Program} {l : Launch} {e : Env} {R : Room} {s : State} {m : MethodId} {args : Array Value} {below : List Frame} {meth : Method} {c : Code} {D : va_G} {ca : Nat → ClassId} {cells slots : Nat} {Q : State → Prop} {pc : Nat} {lv : List (Nat × Value)} {st : List Value} {M : BM}
theorem BPx.size0 {T : State} {locs : List Loc} {H : Heap} (h : BPx D s.heap.size M H) (hS : va_S (fun q => s.heap.size ≤ q) s.heap H locs) (hT : T.heap = H) (X : Stand p l e R s m args below meth c T locs cells slots) (hk : M.1 = cells) : H.size = s.heap.size + M.1 := by
  have h1 := X.heapSize
  have h3 := hS.1
  rw [hT] at h1
  by_cases c0 : cells = 0
  · omega
  · have h2 := h.lt (q := s.heap.size + (cells - 1)) ⟨by omega, by omega⟩
    omega
theorem t_iconst (cx : CLx p s m args c D ca) {n : Int} {v : Int32} (dg : decode cL_law pc = .ok (.iconst n, 1)) (hv : Int32.ofInt n = v) (k : BW p l e R s m args below meth c D 7 s.heap.size cells slots Q (pc + 1) lv (.int v :: st) M) : BW p l e R s m args below meth c D 7 s.heap.size cells slots Q pc lv st M := fun H locs ls hP hS hl => lv_iconst cx.1 cx.2.1 dg hv (k H locs ls hP hS hl)
theorem t_aload_n (cx : CLx p s m args c D ca) {q : Fin 4} {i : Nat} {x : Nat} (dg : decode cL_law pc = .ok (.aload_n q, 1)) (hi : (q : Nat) = i) (n : Nat) (hk : lv[n]? = some (i, .ref x)) (k : BW p l e R s m args below meth c D 7 s.heap.size cells slots Q (pc + 1) lv (.ref x :: st) M) : BW p l e R s m args below meth c D 7 s.heap.size cells slots Q pc lv st M := fun H locs ls hP hS hl => lv_aload_n cx.1 cx.2.1 dg hi (lv_at hl n hk) (k H locs ls hP hS hl)
theorem t_astore_n (cx : CLx p s m args c D ca) {q : Fin 4} {i : Nat} {x : Nat} {lv' : List (Nat × Value)} (dg : decode cL_law pc = .ok (.astore_n q, 1)) (hi : (q : Nat) = i) (hn : i < 7) (ks : List Nat) (hl0 : lv_pick ((i, Value.ref x) :: lv.filter (fun q => !(q.1 == i) && !(q.1 + 1 == i && q.2.category == 2))) ks = lv') (k : BW p l e R s m args below meth c D 7 s.heap.size cells slots Q (pc + 1) lv' st M) : BW p l e R s m args below meth c D 7 s.heap.size cells slots Q pc lv (.ref x :: st) M := fun H locs ls hP hS hl => lv_astore_n cx.1 cx.2.1 dg hi hl hn rfl (fun ls1 hl1 => k H locs ls1 hP hS (lv_sub hl1 ks hl0))
theorem t_dup (cx : CLx p s m args c D ca) {va : Value} (dg : decode cL_law pc = .ok (.dup, 1)) (hc : va.category = 1) (k : BW p l e R s m args below meth c D 7 s.heap.size cells slots Q (pc + 1) lv (va :: va :: st) M) : BW p l e R s m args below meth c D 7 s.heap.size cells slots Q pc lv (va :: st) M := fun H locs ls hP hS hl => lv_dup cx.1 cx.2.1 dg hc (k H locs ls hP hS hl)
theorem t_cell {b len k : Nat} {xs : Nat → Int32} (cx : CLx p s m args c D ca) (hk : k < 100) (hlen : len ≤ 3074) (hX : va_X b len xs s s.heap) (hbl : b < s.heap.size) (hR : 1 ≤ R.frames ∧ 21 ≤ R.locals) (hRc : cells ≤ R.cells ∧ slots ≤ R.slots) (hW : (st.map fun v => v.category).sum ≤ 8) (dg : decode cL_law pc = .ok (.invokestatic 25, 3)) (kk : BW p l e R s m args below meth c D 7 s.heap.size cells slots Q (pc + 3) lv (.int (cellV len xs k) :: st) M) : BW p l e R s m args below meth c D 7 s.heap.size cells slots Q pc lv (.int (nI k) :: .ref b :: st) M := fun H locs ls hP hS hl =>
  q_cell (b := b) (len := len) (k := k) (index := 25) (xs := xs) ⟨cx.1, cx.2.1, cx.2.2.1, cx.2.2.2.1, cx.2.2.2.2.1⟩ hk hlen (hX.kept (hS.2.1 b hbl (Nat.not_le.mpr hbl))) hl.1 (gw_t4 29 rfl rfl) hR hRc hW dg (kk H locs ls hP hS hl)
theorem t_new {ci index N x : Nat} {C : String} {T : u_T} (hcl : vwCl[ci]? = some (C, T, N)) (hin : ∀ w ∈ u_ws C T N, w ∈ GW) (ty0 : Nat → FieldType) (hty : ∀ k, k < N → parseFieldDescriptor (T k).2.2.1 = some (ty0 k)) {fs : List Value} (hfs : ∀ j, j < N → defaultValue (ty0 j) = vp_V fs j) (cx : CLx p s m args c D ca) (hlink : Cond.classLink RL index C ∈ GW) (hinst : Cond.instantiable C N ∈ GW) (hini : Cond.initialized C ∈ GW) (hk : M.1 = cells) (hx : s.heap.size + M.1 = x) (hRc : cells + 1 ≤ R.cells ∧ slots + N ≤ R.slots) (dg : decode cL_law pc = .ok (.new index, 3)) (kk : BW p l e R s m args below meth c D 7 s.heap.size (cells + 1) (slots + N) Q (pc + 3) lv (.ref x :: st) (M.1 + 1, va_up M.2 x (.inr (ci, fs)))) : BW p l e R s m args below meth c D 7 s.heap.size cells slots Q pc lv st M := by
  subst hx
  intro H locs ls hP hS hl T0 hT X
  have hsz := hP.size0 hS hT X hk
  have hKn := cx.2.2.2.2.2.1 ci _ hcl
  refine W.newcK (g := F0 m pc ls st) (own := RL) (C := C) (index := index) (n := N) cx.1 cx.2.1 cx.2.2.2.1 (cx.2.2.2.2.1 _ hlink) (cx.2.2.2.2.1 _ hinst) (cx.2.2.2.2.1 _ hini) rfl dg hRc.1 hRc.2 hKn.2.1 hsz (fun H1 kC hkC e1 z1 o1 => ?_) T0 hT X
  rw [← hsz] at o1
  exact kk H1 locs ls (hP.push ⟨_, hcl, (u_born ty0 cx.2.2.2.2.1 hin hKn hkC e1 hty).to hfs⟩ o1) ⟨Nat.le_trans hS.1 (by omega), fun q h1 h2 => (o1 q (Nat.lt_of_lt_of_le h1 hS.1)).trans (hS.2.1 q h1 h2), hS.2.2⟩ hl
/-- a constructor is called on the last cell -/
theorem t_call {y : MethodName} {bytes : ByteArray} {maxL n index ci x mc ms : Nat} {rm : Room} {vs rest : List Value} {LY : Nat → va_E} {PX : State → Prop} (As : List Value) (cx : CLx p s m args c D ca) (hM : Met l y (Cond.code y bytes maxL none :: GW) rm (va_Pc (.ref x :: As) PX) (fun _ st oc t => oc = .returned none ∧ va_P D vwCl (va_pl (List.range' x (mc + 1)) (fun q => LY (q - x))) t.heap ∧ st.heap.size ≤ t.heap.size ∧ ∀ q, q < x → t.heap[q]? = st.heap[q]?) mc ms (fun q => x ≤ q))
    (hp1 : ∀ (U U' : State), U.vm.Alike U'.vm → U'.heap = U.heap → PX U → PX U') (hp2 : ∀ U : State, s.vm.Alike U.vm → va_at D vwCl (x, .inr (ci, vs)) U.heap → U.heap.size = x + 1 → PX U)
    (hF : CF y bytes maxL none n) (hy : y.name = "<init>") (hI : Cond.instanceMethod y ∈ GW) (hlink : Cond.methodLink RL index y ∈ GW) (hk : M.1 = cells) (hx : s.heap.size + cells = x + 1) (hc1 : 1 ≤ cells) (hf : M.2 x = .inr (ci, vs)) (h0 : rm.cells = mc ∧ rm.slots = ms) (hR : rm.frames + 1 ≤ R.frames ∧ 8 + (maxL + 11) + rm.locals ≤ R.locals) (hRc : cells + mc ≤ R.cells ∧ slots + ms ≤ R.slots) (hn : As.length = n) (hst : st = As.reverse ++ .ref x :: rest) (hW : (rest.map fun v => v.category).sum ≤ 8) (dg : decode cL_law pc = .ok (.invokespecial index, 3))
    (kk : BW p l e R s m args below meth c D 7 s.heap.size (cells + mc) (slots + ms) Q (pc + 3) lv rest (M.1 + mc, fun q => if q < x then M.2 q else LY (q - x))) : BW p l e R s m args below meth c D 7 s.heap.size cells slots Q pc lv st M := by
  intro H locs ls hP hS hl T0 hT X
  have hsz := hP.size0 hS hT X hk
  have hB : CallB R s args RL index y bytes maxL none (Cond.code y bytes maxL none :: GW) rm mc ms n := callB_of n cx.2.2.2.2.1 (goodIn_g hF.1) rfl h0.1 h0.2 (cx.2.2.2.2.1 _ hF.2.1) (cx.2.2.2.2.1 _ hlink) hF.2.2 hR
  obtain ⟨i, hi⟩ := va_pl_get (X := []) (f := M.2) (rg_mem (a := s.heap.size) (K := M.1) (q := x) ⟨by omega, by omega⟩)
  have hat := hP i _ hi
  rw [hf] at hat
  obtain ⟨v, st₀, t, T', L, h0', X', hL, e1, e2, ⟨hv, hPt, hge, hkeep⟩, go⟩ := va_runI (As := As) (rest := rest) (b := x) (g := F0 m pc ls st) (e := e) (below := below) (meth := meth) (locs := locs) (cells := cells) (slots := slots) (H := H) ⟨cx.1, cx.2.1, cx.2.2.1, cx.2.2.2.1, cx.2.2.2.2.1⟩ hM ⟨hB, hy, cx.2.2.2.2.1 _ hI⟩ ⟨fun A U g mk q => ⟨q.1, hp1 U (U.calling g mk A) (Vm.Alike.refl U.vm) rfl q.2⟩, fun U hU hW => ⟨rfl, hp2 U hW.alike (by rw [hU]; exact hat) (by rw [hU, hsz]; omega)⟩⟩ rfl hn hl.1 hst (lv_room hW) dg hRc T0 hT X
  cases hv
  rw [h0'] at hge hkeep
  have hBP : BPx D s.heap.size (M.1 + mc, fun q => if q < x then M.2 q else LY (q - x)) T'.heap := by
    intro k q hq
    rw [e1]
    unfold va_pl at hq
    rw [List.getElem?_map] at hq
    cases hr : (List.range' s.heap.size (M.1 + mc))[k]? with
    | none => rw [hr] at hq; cases hq
    | some z =>
      rw [hr] at hq
      cases hq
      have hz := List.mem_range'_1.mp (List.mem_of_getElem? hr)
      by_cases c1 : z < x
      · obtain ⟨j, hj⟩ := va_pl_get (X := []) (f := M.2) (rg_mem (a := s.heap.size) (K := M.1) (q := z) ⟨hz.1, by omega⟩)
        have hz2 := hP j _ hj
        show va_at D vwCl (z, if z < x then M.2 z else LY (z - x)) t.heap
        rw [if_pos c1]
        exact hz2.kept (hkeep z c1)
      · obtain ⟨j, hj⟩ := va_pl_get (X := []) (f := fun q => LY (q - x)) (rg_mem (a := x) (K := mc + 1) (q := z) ⟨by omega, by omega⟩)
        show va_at D vwCl (z, if z < x then M.2 z else LY (z - x)) t.heap
        rw [if_neg c1]
        exact hPt j _ hj
  have hSS : va_S (fun q => s.heap.size ≤ q) s.heap T'.heap (locs ++ L) := by
    refine ⟨Nat.le_trans hS.1 (by rw [e1]; exact hge), fun q h1 h2 => ?_, fun q hq => ?_⟩
    · have h4 : q < s.heap.size := h1
      rw [e1, hkeep q (by omega)]
      exact hS.2.1 q h1 h2
    · rcases List.mem_append.mp hq with h | h
      · exact hS.2.2 q h
      · have h5 : x ≤ q.base := hL q h
        show s.heap.size ≤ q.base
        omega
  obtain ⟨t2, a1, b1⟩ := kk T'.heap (locs ++ L) ls hBP hSS hl T' rfl X'
  exact ⟨t2, go t2 a1, b1⟩
end Body
