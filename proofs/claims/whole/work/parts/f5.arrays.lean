section BArr
variable {p : Program} {l : Launch} {e : Env} {R : Room} {s : State} {m : MethodId} {args : Array Value} {below : List Frame} {meth : Method} {c : Code} {D : va_G} {ca : Nat → ClassId} {nL a : Nat} {cells slots : Nat} {Q : State → Prop} {cc : ByteArray} {own : String} {pc : Nat} {lv : List (Nat × Value)} {st : List Value} {M : BM}
theorem b_newq {n : Int32} {N index : Nat} (cx : CBx p s m args meth c D ca cc nL own a) (hAO : va_AO "GcdMill$Whole" s) (hlink : Cond.classLink own index "GcdMill$Whole" ∈ GW) (hn : ¬ n < 0) (hN : n.toNatClampNeg = N) (hb : N ≤ 20000) (hk : M.1 = cells + 1) (hRc : cells + 1 ≤ R.cells ∧ slots + N ≤ R.slots) (dg : decode cc pc = .ok (.anewarray index, 3)) (kk : BW p l e R s m args below meth c D nL a (cells + 1) (slots + N) Q (pc + 3) lv (.ref (a + M.1) :: st) (M.1 + 1, va_up M.2 (a + M.1) (.inl (ca 2, N, .inr (.inr (.inr (.inr (fun _ => none)))))))) : BW p l e R s m args below meth c D nL a cells slots Q pc lv (.int n :: st) M := by
  intro H locs ls hP hS hl T0 hT X
  have hsz := hP.size hT X cx.2.2.2.2.2.2.2.2.2 hk
  subst hN
  refine W.anew (g := F0 m pc ls (.int n :: st)) (own := own) (C := "GcdMill$Whole") (index := index) cx.1 cx.2.1 cx.2.2.2.1 (cx.2.2.2.2.1 _ hlink) (va_AO.use hAO) rfl dg (rest := st) rfl hn (by omega) hRc.1 hRc.2 (fun cA kA comp f1 f2 f3 f4 => ?_) T0 hT X
  have eA : cA = ca 2 := by
    obtain ⟨kA', comp', g1, g2, g3, g4⟩ := (cx.2.2.2.2.2.1.2 2 _ rfl).2
    exact Option.some.inj (f1.symm.trans g4)
  subst eA
  have e1 : (H.push ({ cls := ca 2, slots := Array.replicate n.toNatClampNeg .null, vm := .none } : Cell))[a + M.1]? = some (arrV (ca 2) n.toNatClampNeg (fun _ => .null)) := by rw [← hsz, Array.getElem?_push_size, ← arrV_new]
  have o1 : ∀ q : Nat, q < H.size → (H.push ({ cls := ca 2, slots := Array.replicate n.toNatClampNeg .null, vm := .none } : Cell))[q]? = H[q]? := fun q hq => by rw [Array.getElem?_push, if_neg (Nat.ne_of_lt hq)]
  rw [hsz]
  refine kk _ locs ls (hP.push e1 o1) ⟨?_, fun q h1 h2 => (o1 q (Nat.lt_of_lt_of_le h1 hS.1)).trans (hS.2.1 q h1 h2), hS.2.2⟩ hl
  rw [Array.size_push]
  exact Nat.le_trans hS.1 (Nat.le_succ _)
theorem b_alenW {q N : Nat} {f : Nat → Option Nat} (cx : CBx p s m args meth c D ca cc nL own a) (hq : a ≤ q ∧ q < a + M.1) (hf : M.2 q = .inl (ca 2, N, .inr (.inr (.inr (.inr f))))) (dg : decode cc pc = .ok (.arraylength, 1)) (kk : BW p l e R s m args below meth c D nL a cells slots Q (pc + 1) lv (.int (nI N) :: st) M) : BW p l e R s m args below meth c D nL a cells slots Q pc lv (.ref q :: st) M := by
  intro H locs ls hP hS hl
  obtain ⟨i, hi⟩ := va_pl_get (X := []) (f := M.2) (rg_mem hq)
  rw [hf] at hi
  exact va_alen cx.1 cx.2.1 cx.2.2.2.2.2.1 hP i 2 hi rfl rfl dg (kk H locs ls hP hS hl)
theorem b_aast {q v N : Nat} {f : Nat → Option Nat} {vs : List Value} {i : Int32} (cx : CBx p s m args meth c D ca cc nL own a) (hq : a ≤ q ∧ q < a + M.1) (hf : M.2 q = .inl (ca 2, N, .inr (.inr (.inr (.inr f))))) (hv : a ≤ v ∧ v < a + M.1) (hfv : M.2 v = .inr (8, vs)) (hin : vp_in i N) (dg : decode cc pc = .ok (.aastore, 1)) (kk : BW p l e R s m args below meth c D nL a cells slots Q (pc + 1) lv st (M.1, va_up M.2 q (.inl (ca 2, N, .inr (.inr (.inr (.inr (va_up f i.toNatClampNeg (some v))))))))) : BW p l e R s m args below meth c D nL a cells slots Q pc lv (.ref v :: .int i :: .ref q :: st) M := by
  intro H locs ls hP hS hl
  obtain ⟨k, hk⟩ := va_pl_get (X := []) (f := M.2) (rg_mem hq)
  obtain ⟨k2, hk2⟩ := va_pl_get (X := []) (f := M.2) (rg_mem hv)
  have hk' := hk
  rw [hf] at hk'
  rw [hfv] at hk2
  refine va_astq (H0 := s.heap) (r := (RX9, TX9, 3)) cx.1 cx.2.1 cx.2.2.2.2.2.1 hP rg_D hS k 2 k2 8 hk' rfl hk2 rfl hin dg (fun H1 locs1 hP1 hD1 hS1 => ?_)
  have e := va_pl_set (X := []) (e := .inl (ca 2, N, .inr (.inr (.inr (.inr (va_up f i.toNatClampNeg (some v))))))) (rg_D (a := a) (K := M.1) (f := M.2)) (rg_mem hq) hk
  refine kk H1 locs1 ls ?_ hS1 hl
  show va_P D vwCl (va_pl (List.range' a M.1) (va_up M.2 q _)) H1
  rw [← List.nil_append (va_pl _ _), ← e]
  exact hP1
end BArr
/-- the mill's constructor -/
def MeM (l : Launch) (D : va_G) (ca : Nat → ClassId) (rm : Room) (x : Nat) (vs : List Value) (av : List Value) (mc ms : Nat) (LY : Nat → va_E) : Prop := Met l yX10_init (Cond.code yX10_init cX10_init 4 none :: GW) rm (va_Pc (.ref x :: av) (fun U => va_at D vwCl (x, .inr (9, vs)) U.heap ∧ U.heap.size = x + 1 ∧ va_K D vwCl (tyc ca) U ∧ va_AO "GcdMill$Whole" U)) (fun _ st oc t => oc = .returned none ∧ va_P D vwCl (va_pl (List.range' x (mc + 1)) (fun q => LY (q - x))) t.heap ∧ st.heap.size ≤ t.heap.size ∧ ∀ q, q < x → t.heap[q]? = st.heap[q]?) mc ms (fun q => x ≤ q)
theorem m_method {l : Launch} {D : va_G} {ca : Nat → ClassId} {rm : Room} {x mc ms : Nat} {vs av : List Value} {LY : Nat → va_E} {lv0 : List (Nat × Value)} (hlv : lv_args 0 (.ref x :: av) = lv0) (hn : (lg_sl (.ref x :: av)).length ≤ 4)
    (body : ∀ (p : Program) (e : Env) (s : State) (m : MethodId) (args : Array Value) (below : List Frame) (meth : Method) (c : Code), CBx p s m args meth c D ca cX10_init 4 RX10 x → va_AO "GcdMill$Whole" s → BW p l e rm s m args below meth c D 4 x 0 0 (MQ below (fun _ st oc t => oc = .returned none ∧ va_P D vwCl (va_pl (List.range' x (mc + 1)) (fun q => LY (q - x))) t.heap ∧ st.heap.size ≤ t.heap.size ∧ ∀ q, q < x → t.heap[q]? = st.heap[q]?) args s mc ms (fun q => x ≤ q)) 0 lv0 [] (1, fun _ => .inr (9, vs))) :
    MeM l D ca rm x vs av mc ms LY := by
  refine Met.ofW (cc := cX10_init) (maxL := 4) (ret := none) (by decide) rfl ?_
  intro p e s m args below meth c s₁ B hml hv
  obtain ⟨rfl, hat, hsz, hK, hAO⟩ := hv
  have hts := atoms_spec (ws := Cond.code yX10_init cX10_init 4 none :: GW) B.pre
  have hown : s.vm.findClass RX10 = some m.cls := findClass_of_methodNamed B.named
  have hl := lv_entry (.ref x :: av) (n := 4) hn
  rw [lg_entry_eq]
  rw [hlv] at hl
  have hnm : meth.name = "<init>" := by rw [(name_of_methodNamed B.named B.method).1]; rfl
  refine body p e s m (Value.ref x :: av).toArray below meth c ⟨B.exec, B.bytes, hml, hown, fun w h => hts w (List.mem_cons_of_mem _ h), hK, hnm, B.returns, B.notSynchronized, hsz⟩ hAO s.heap [] _ (fun k q hk => ?_) va_S.rf hl
  cases k with
  | zero => cases hk; exact hat
  | succ k => cases hk
