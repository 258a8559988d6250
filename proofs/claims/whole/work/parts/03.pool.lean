/-! THE POOL: all objects and arrays by address. I: int and boolean fields, J: long fields, R: references (fields, elements of Whole[]), A: contents of int[] and byte[]. -/
abbrev MS : Type := (Nat → Nat → Int32) × (Nat → Nat → Int64) × (Nat → Nat → Nat) × (Nat → Nat → Int32)
def mI (M : MS) (a k : Nat) : Int32 := M.1 a k
def mJ (M : MS) (a k : Nat) : Int64 := M.2.1 a k
def mR (M : MS) (a k : Nat) : Nat := M.2.2.1 a k
def mA (M : MS) (a : Nat) : Nat → Int32 := M.2.2.2 a
def up2 {α : Type} (f : Nat → Nat → α) (a k : Nat) (v : α) : Nat → Nat → α := fun b j => if b = a ∧ j = k then v else f b j
def wI (M : MS) (a k : Nat) (v : Int32) : MS := (up2 M.1 a k v, M.2)
def wJ (M : MS) (a k : Nat) (v : Int64) : MS := (M.1, up2 M.2.1 a k v, M.2.2)
def wR (M : MS) (a k : Nat) (v : Nat) : MS := (M.1, M.2.1, up2 M.2.2.1 a k v, M.2.2.2)
def wA (M : MS) (a : Nat) (f : Nat → Int32) : MS := (M.1, M.2.1, M.2.2.1, fun b => if b = a then f else M.2.2.2 b)
/-- the shape: addresses, the kind of each, lengths of arrays, numbers of the array classes -/
abbrev SH : Type := List Nat × (Nat → Nat) × (Nat → Nat) × (Nat → ClassId)
/-- the fields of a kind: 0 int, 1 long, 2 reference -/
def fT : Nat → List Nat
  | 0 => [2]
  | 1 => [2, 2, 2, 2, 2]
  | 2 => [2, 2, 2, 2, 2, 2, 2, 2, 2, 2]
  | 3 => [0, 2, 2, 2, 2, 2, 2, 1, 1, 1, 1]
  | 4 => [0, 2, 2]
  | 5 => [2, 2, 2, 2, 2, 2, 2, 2]
  | 6 => [2, 2, 2, 2, 2, 2, 2, 2, 2]
  | 7 => [0, 2]
  | 8 => [2, 0, 0]
  | 9 => [0, 2, 2, 2, 2, 2, 2, 2, 2, 2, 2, 2, 2, 0]
  | 10 => [2, 2, 2, 0, 0, 0, 0, 2, 2, 0, 0]
  | _ => []
/-- the kinds that references of a kind's fields point at; 99: no reference -/
def rT : Nat → List Nat
  | 0 => [8]
  | 1 => [0, 8, 8, 8, 8]
  | 2 => [8, 8, 8, 0, 8, 8, 8, 8, 8, 8]
  | 3 => [99, 0, 8, 8, 8, 8, 8, 99, 99, 99, 99]
  | 4 => [99, 11, 8]
  | 5 => [0, 8, 8, 8, 8, 8, 8, 8]
  | 6 => [0, 8, 8, 8, 8, 8, 8, 8, 8]
  | 7 => [99, 11]
  | 8 => [12, 99, 99]
  | 9 => [99, 13, 0, 1, 3, 2, 5, 6, 7, 4, 8, 8, 8, 99]
  | 10 => [12, 12, 12, 99, 99, 99, 99, 11, 11, 99, 99]
  | _ => []
def fv1 (M : MS) (a k t : Nat) : Value := if t = 0 then .int (mI M a k) else if t = 1 then .long (mJ M a k) else .ref (mR M a k)
def fv (M : MS) (a : Nat) : Nat → List Nat → List Value
  | _, [] => []
  | k, t :: ts => fv1 M a k t :: fv M a (k + 1) ts
def ce (G : SH) (M : MS) (a : Nat) : va_E :=
  if G.2.1 a = 11 then .inl (G.2.2.2 0, G.2.2.1 a, .inl (mA M a))
  else if G.2.1 a = 12 then .inl (G.2.2.2 1, G.2.2.1 a, .inl (mA M a))
  else if G.2.1 a = 13 then .inl (G.2.2.2 2, G.2.2.1 a, .inr (.inr (.inr (.inr (fun i => some (mR M a i))))))
  else .inr (G.2.1 a, fv M a 0 (fT (G.2.1 a)))
abbrev PL (G : SH) (M : MS) : va_W := va_pl G.1 (ce G M)
def Is (G : SH) (k a : Nat) : Prop := a ∈ G.1 ∧ G.2.1 a = k
def AG (G : SH) : Nat → Prop := fun q => q ∈ G.1
def ND (G : SH) : Prop := ∀ (i j a : Nat), G.1[i]? = some a → G.1[j]? = some a → i = j
def tysG (G : SH) : List (ClassId × FieldType) := [(G.2.2.2 0, .byte), (G.2.2.2 1, .int), (G.2.2.2 2, .object "GcdMill$Whole")]
/-- references point at what they must -/
def TYR (G : SH) (r : Nat → Nat → Nat) : Prop := (∀ (a c k t : Nat), Is G c a → (rT c)[k]? = some t → t < 99 → Is G t (r a k)) ∧ ∀ (a i : Nat), Is G 13 a → i < G.2.2.1 a → Is G 8 (r a i)
theorem TYR.at {G : SH} {M : MS} (h : TYR G M.2.2.1) {a c : Nat} (ha : Is G c a) (k t : Nat) (hk : (rT c)[k]? = some t) (ht : t < 99) : Is G t (mR M a k) := h.1 a c k t ha hk ht
theorem TYR.el {G : SH} {M : MS} (h : TYR G M.2.2.1) {a : Nat} (ha : Is G 13 a) {i : Int32} (hi : vp_in i (G.2.2.1 a)) : Is G 8 (mR M a i.toNatClampNeg) := by
  refine h.2 a _ ha ?_
  unfold vp_in at hi
  omega
theorem TYR.up {G : SH} {M : MS} (h : TYR G M.2.2.1) {a c v : Nat} (ha : Is G c a) (k t : Nat) (hc : c < 11) (hk : (rT c)[k]? = some t) (hv : Is G t v) : TYR G (wR M a k v).2.2.1 := by
  refine ⟨fun b c2 j t2 hb hj ht => ?_, fun b i hb hi => ?_⟩
  · show Is G t2 (up2 M.2.2.1 a k v b j)
    unfold up2
    by_cases hq : b = a ∧ j = k
    · rw [if_pos hq]
      obtain ⟨rfl, rfl⟩ := hq
      have e : c2 = c := hb.2.symm.trans ha.2
      subst e
      rw [hk] at hj
      cases hj
      exact hv
    · rw [if_neg hq]
      exact h.1 b c2 j t2 hb hj ht
  · show Is G 8 (up2 M.2.2.1 a k v b i)
    unfold up2
    by_cases hq : b = a ∧ i = k
    · have e : (13 : Nat) = c := hb.2.symm.trans (by rw [hq.1]; exact ha.2)
      omega
    · rw [if_neg hq]
      exact h.2 b i hb hi
theorem fv_congr {M N : MS} {a : Nat} (h1 : ∀ j, mI M a j = mI N a j) (h2 : ∀ j, mJ M a j = mJ N a j) (h3 : ∀ j, mR M a j = mR N a j) : ∀ (ts : List Nat) (k : Nat), fv M a k ts = fv N a k ts
  | [], _ => rfl
  | t :: ts, k => by
    rw [fv, fv, fv_congr h1 h2 h3 ts (k + 1)]
    unfold fv1
    rw [h1, h2, h3]
theorem ce_congr {G : SH} {M N : MS} {a : Nat} (h1 : ∀ j, mI M a j = mI N a j) (h2 : ∀ j, mJ M a j = mJ N a j) (h3 : ∀ j, mR M a j = mR N a j) (h4 : mA M a = mA N a) : ce G M a = ce G N a := by
  unfold ce
  rw [h4, fv_congr h1 h2 h3, show (fun i => some (mR M a i)) = (fun i => some (mR N a i)) from funext fun i => by rw [h3]]
theorem ce_obj {G : SH} {M : MS} {a ci : Nat} (h : Is G ci a) (hc : ci < 11) : ce G M a = .inr (ci, fv M a 0 (fT ci)) := by
  unfold ce
  rw [h.2, if_neg (by omega), if_neg (by omega), if_neg (by omega)]
theorem ce_B {G : SH} {M : MS} {a : Nat} (h : Is G 11 a) : ce G M a = .inl (G.2.2.2 0, G.2.2.1 a, .inl (mA M a)) := by
  unfold ce
  rw [h.2, if_pos rfl]
theorem ce_I {G : SH} {M : MS} {a : Nat} (h : Is G 12 a) : ce G M a = .inl (G.2.2.2 1, G.2.2.1 a, .inl (mA M a)) := by
  unfold ce
  rw [h.2, if_neg (by omega), if_pos rfl]
theorem ce_W {G : SH} {M : MS} {a : Nat} (h : Is G 13 a) : ce G M a = .inl (G.2.2.2 2, G.2.2.1 a, .inr (.inr (.inr (.inr (fun i => some (mR M a i)))))) := by
  unfold ce
  rw [h.2, if_neg (by omega), if_neg (by omega), if_pos rfl]
theorem fv_wI_lt {M : MS} {a k : Nat} {v : Int32} : ∀ (ts : List Nat) (j : Nat), k < j → fv (wI M a k v) a j ts = fv M a j ts
  | [], _, _ => rfl
  | t :: ts, j, h => by
    rw [fv, fv, fv_wI_lt ts (j + 1) (by omega)]
    have e : mI (wI M a k v) a j = mI M a j := by
      show up2 M.1 a k v a j = M.1 a j
      unfold up2
      rw [if_neg (by omega)]
    unfold fv1
    rw [e]
    rfl
theorem fv_wI {M : MS} {a : Nat} {v : Int32} : ∀ (ts : List Nat) (j d : Nat), ts[d]? = some 0 → fv (wI M a (j + d) v) a j ts = (fv M a j ts).set d (.int v)
  | [], _, _, h => by simp at h
  | t :: ts, j, 0, h => by
    simp only [List.getElem?_cons_zero, Option.some.injEq] at h
    subst h
    rw [fv, fv, fv_wI_lt ts (j + 1) (by omega), List.set_cons_zero]
    have e : mI (wI M a (j + 0) v) a j = v := by
      show up2 M.1 a (j + 0) v a j = v
      unfold up2
      rw [if_pos ⟨rfl, rfl⟩]
    unfold fv1
    rw [if_pos rfl, e]
  | t :: ts, j, d + 1, h => by
    simp only [List.getElem?_cons_succ] at h
    have ih := fv_wI (M := M) (a := a) (v := v) ts (j + 1) d h
    rw [show j + 1 + d = j + (d + 1) by omega] at ih
    rw [fv, fv, ih, List.set_cons_succ]
    have e : mI (wI M a (j + (d + 1)) v) a j = mI M a j := by
      show up2 M.1 a (j + (d + 1)) v a j = M.1 a j
      unfold up2
      rw [if_neg (by omega)]
    unfold fv1
    rw [e]
    rfl
theorem fv_wJ_lt {M : MS} {a k : Nat} {v : Int64} : ∀ (ts : List Nat) (j : Nat), k < j → fv (wJ M a k v) a j ts = fv M a j ts
  | [], _, _ => rfl
  | t :: ts, j, h => by
    rw [fv, fv, fv_wJ_lt ts (j + 1) (by omega)]
    have e : mJ (wJ M a k v) a j = mJ M a j := by
      show up2 M.2.1 a k v a j = M.2.1 a j
      unfold up2
      rw [if_neg (by omega)]
    unfold fv1
    rw [e]
    rfl
theorem fv_wJ {M : MS} {a : Nat} {v : Int64} : ∀ (ts : List Nat) (j d : Nat), ts[d]? = some 1 → fv (wJ M a (j + d) v) a j ts = (fv M a j ts).set d (.long v)
  | [], _, _, h => by simp at h
  | t :: ts, j, 0, h => by
    simp only [List.getElem?_cons_zero, Option.some.injEq] at h
    subst h
    rw [fv, fv, fv_wJ_lt ts (j + 1) (by omega), List.set_cons_zero]
    have e : mJ (wJ M a (j + 0) v) a j = v := by
      show up2 M.2.1 a (j + 0) v a j = v
      unfold up2
      rw [if_pos ⟨rfl, rfl⟩]
    unfold fv1
    rw [if_neg (by omega), if_pos rfl, e]
  | t :: ts, j, d + 1, h => by
    simp only [List.getElem?_cons_succ] at h
    have ih := fv_wJ (M := M) (a := a) (v := v) ts (j + 1) d h
    rw [show j + 1 + d = j + (d + 1) by omega] at ih
    rw [fv, fv, ih, List.set_cons_succ]
    have e : mJ (wJ M a (j + (d + 1)) v) a j = mJ M a j := by
      show up2 M.2.1 a (j + (d + 1)) v a j = M.2.1 a j
      unfold up2
      rw [if_neg (by omega)]
    unfold fv1
    rw [e]
    rfl
theorem fv_wR_lt {M : MS} {a k : Nat} {v : Nat} : ∀ (ts : List Nat) (j : Nat), k < j → fv (wR M a k v) a j ts = fv M a j ts
  | [], _, _ => rfl
  | t :: ts, j, h => by
    rw [fv, fv, fv_wR_lt ts (j + 1) (by omega)]
    have e : mR (wR M a k v) a j = mR M a j := by
      show up2 M.2.2.1 a k v a j = M.2.2.1 a j
      unfold up2
      rw [if_neg (by omega)]
    unfold fv1
    rw [e]
    rfl
theorem fv_wR {M : MS} {a : Nat} {v : Nat} : ∀ (ts : List Nat) (j d : Nat), ts[d]? = some 2 → fv (wR M a (j + d) v) a j ts = (fv M a j ts).set d (.ref v)
  | [], _, _, h => by simp at h
  | t :: ts, j, 0, h => by
    simp only [List.getElem?_cons_zero, Option.some.injEq] at h
    subst h
    rw [fv, fv, fv_wR_lt ts (j + 1) (by omega), List.set_cons_zero]
    have e : mR (wR M a (j + 0) v) a j = v := by
      show up2 M.2.2.1 a (j + 0) v a j = v
      unfold up2
      rw [if_pos ⟨rfl, rfl⟩]
    unfold fv1
    rw [if_neg (by omega), if_neg (by omega), e]
  | t :: ts, j, d + 1, h => by
    simp only [List.getElem?_cons_succ] at h
    have ih := fv_wR (M := M) (a := a) (v := v) ts (j + 1) d h
    rw [show j + 1 + d = j + (d + 1) by omega] at ih
    rw [fv, fv, ih, List.set_cons_succ]
    have e : mR (wR M a (j + (d + 1)) v) a j = mR M a j := by
      show up2 M.2.2.1 a (j + (d + 1)) v a j = M.2.2.1 a j
      unfold up2
      rw [if_neg (by omega)]
    unfold fv1
    rw [e]
    rfl
theorem up2_ne {α : Type} {f : Nat → Nat → α} {a k b : Nat} {v : α} (h : b ≠ a) (j : Nat) : up2 f a k v b j = f b j := by
  unfold up2
  rw [if_neg (fun q => h q.1)]
theorem ce_wI {G : SH} {M : MS} {a ci k : Nat} {v : Int32} (h : Is G ci a) (hc : ci < 11) (hk : (fT ci)[k]? = some 0) (b : Nat) : va_up (ce G M) a (.inr (ci, (fv M a 0 (fT ci)).set k (.int v))) b = ce G (wI M a k v) b := by
  unfold va_up
  by_cases hb : b = a
  · subst hb
    rw [if_pos rfl, ce_obj h hc]
    have e := fv_wI (M := M) (a := b) (v := v) (fT ci) 0 k hk
    rw [Nat.zero_add] at e
    rw [e]
  · rw [if_neg hb]
    exact ce_congr (fun j => (up2_ne hb j).symm) (fun j => rfl) (fun j => rfl) rfl
theorem ce_wJ {G : SH} {M : MS} {a ci k : Nat} {v : Int64} (h : Is G ci a) (hc : ci < 11) (hk : (fT ci)[k]? = some 1) (b : Nat) : va_up (ce G M) a (.inr (ci, (fv M a 0 (fT ci)).set k (.long v))) b = ce G (wJ M a k v) b := by
  unfold va_up
  by_cases hb : b = a
  · subst hb
    rw [if_pos rfl, ce_obj h hc]
    have e := fv_wJ (M := M) (a := b) (v := v) (fT ci) 0 k hk
    rw [Nat.zero_add] at e
    rw [e]
  · rw [if_neg hb]
    exact ce_congr (fun j => rfl) (fun j => (up2_ne hb j).symm) (fun j => rfl) rfl
theorem ce_wR {G : SH} {M : MS} {a ci k : Nat} {v : Nat} (h : Is G ci a) (hc : ci < 11) (hk : (fT ci)[k]? = some 2) (b : Nat) : va_up (ce G M) a (.inr (ci, (fv M a 0 (fT ci)).set k (.ref v))) b = ce G (wR M a k v) b := by
  unfold va_up
  by_cases hb : b = a
  · subst hb
    rw [if_pos rfl, ce_obj h hc]
    have e := fv_wR (M := M) (a := b) (v := v) (fT ci) 0 k hk
    rw [Nat.zero_add] at e
    rw [e]
  · rw [if_neg hb]
    exact ce_congr (fun j => rfl) (fun j => rfl) (fun j => (up2_ne hb j).symm) rfl
theorem mA_wA {M : MS} {a : Nat} {f : Nat → Int32} : mA (wA M a f) a = f := by
  show (if a = a then f else M.2.2.2 a) = f
  rw [if_pos rfl]
theorem mA_wA_ne {M : MS} {a b : Nat} {f : Nat → Int32} (h : b ≠ a) : mA (wA M a f) b = mA M b := by
  show (if b = a then f else M.2.2.2 b) = M.2.2.2 b
  rw [if_neg h]
theorem ce_wAI {G : SH} {M : MS} {a : Nat} {f : Nat → Int32} (h : Is G 12 a) (b : Nat) : va_up (ce G M) a (.inl (G.2.2.2 1, G.2.2.1 a, .inl f)) b = ce G (wA M a f) b := by
  unfold va_up
  by_cases hb : b = a
  · subst hb
    rw [if_pos rfl, ce_I h, mA_wA]
  · rw [if_neg hb]
    exact ce_congr (fun j => rfl) (fun j => rfl) (fun j => rfl) (mA_wA_ne hb).symm
theorem ce_wAB {G : SH} {M : MS} {a : Nat} {f : Nat → Int32} (h : Is G 11 a) (b : Nat) : va_up (ce G M) a (.inl (G.2.2.2 0, G.2.2.1 a, .inl f)) b = ce G (wA M a f) b := by
  unfold va_up
  by_cases hb : b = a
  · subst hb
    rw [if_pos rfl, ce_B h, mA_wA]
  · rw [if_neg hb]
    exact ce_congr (fun j => rfl) (fun j => rfl) (fun j => rfl) (mA_wA_ne hb).symm
theorem PL_get {G : SH} {f : Nat → va_E} {a : Nat} (h : a ∈ G.1) : ∃ i : Nat, (va_pl G.1 f)[i]? = some (a, f a) := va_pl_get (X := []) h
theorem PL_D {G : SH} (h : ND G) (f : Nat → va_E) : va_D (AG G) (va_pl G.1 f) := by
  have key : ∀ (i : Nat) (q : Nat × va_E), (va_pl G.1 f)[i]? = some q → G.1[i]? = some q.1 := by
    intro i q hq
    unfold va_pl at hq
    rw [List.getElem?_map] at hq
    cases hi : G.1[i]? with
    | none => rw [hi] at hq; cases hq
    | some x =>
      rw [hi] at hq
      cases hq
      rfl
  refine ⟨fun i j x y hx hy hxy => ?_, fun i q hq => List.mem_of_getElem? (key i q hq)⟩
  exact h i j x.1 (key i x hx) (by rw [hxy]; exact key j y hy)
theorem PL_set {G : SH} (h : ND G) {M N : MS} {a i : Nat} {x : va_E} (ha : a ∈ G.1) (hi : (PL G M)[i]? = some (a, ce G M a)) (hx : ∀ b, va_up (ce G M) a x b = ce G N b) : (PL G M).set i (a, x) = PL G N := by
  have e := va_pl_set (X := []) (e := x) (PL_D h (ce G M)) ha hi
  exact e.trans (va_pl_congr hx)
