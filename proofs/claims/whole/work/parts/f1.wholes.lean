/-- an object at a, behind it new numbers two cells each: es, their room and what lies in their lowest limb -/
def WF (ca : Nat → ClassId) (a ci : Nat) (vs : List Value) (es : List (Nat × Int32)) : Nat → va_E := fun q => if q = a then .inr (ci, vs) else if (q - a - 1) % 2 = 0 then .inr (8, [.ref (q + 1), .int (es.getD ((q - a - 1) / 2) (0, 0)).2, .int 0]) else .inl (ca 1, (es.getD ((q - a - 1) / 2) (0, 0)).1, .inl (fun i => if i = 0 then (es.getD ((q - a - 1) / 2) (0, 0)).2 else 0))
def LYW (ca : Nat → ClassId) (x N : Nat) : Nat → va_E := fun d => if d = 0 then .inr (8, [.ref (x + 1), .int 0, .int 0]) else .inl (ca 1, N, .inl (fun i => if i = 0 then 0 else 0))
theorem WF_at {ca : Nat → ClassId} {a ci : Nat} {vs : List Value} {es : List (Nat × Int32)} : WF ca a ci vs es a = .inr (ci, vs) := if_pos rfl
section Wholes
variable {p : Program} {l : Launch} {e : Env} {R : Room} {s : State} {m : MethodId} {args : Array Value} {below : List Frame} {meth : Method} {c : Code} {D : va_G} {ca : Nat → ClassId} {nL a : Nat} {cells slots : Nat} {Q : State → Prop} {cc : ByteArray} {own : String} {pc : Nat} {lv : List (Nat × Value)} {st : List Value} {M : BM}
theorem BW.congr {K : Nat} {f g : Nat → va_E} (h : ∀ q, a ≤ q → q < a + K → f q = g q) (kk : BW p l e R s m args below meth c D nL a cells slots Q pc lv st (K, g)) : BW p l e R s m args below meth c D nL a cells slots Q pc lv st (K, f) := by
  intro H locs ls hP hS hl
  refine kk H locs ls ?_ hS hl
  have e : va_pl (List.range' a K) f = va_pl (List.range' a K) g := by
    unfold va_pl
    refine List.map_congr_left fun q hq => ?_
    have := List.mem_range'_1.mp hq
    rw [h q this.1 this.2]
  show va_P D vwCl (va_pl (List.range' a K) g) H
  rw [← e]
  exact hP
theorem wf_step {ci x N : Nat} {vs vs' : List Value} {es : List (Nat × Int32)} {y : va_E} (hx : x = a + 1 + 2 * es.length) (q : Nat) (h1 : a ≤ q) (h2 : q < a + (1 + 2 * es.length + 2)) : va_up (fun q => if q < x then va_up (WF ca a ci vs es) x y q else LYW ca x N (q - x)) a (.inr (ci, vs')) q = WF ca a ci vs' (es ++ [(N, 0)]) q := by
  unfold va_up
  by_cases c0 : q = a
  · rw [if_pos c0, c0, WF_at]
  rw [if_neg c0]
  show (if q < x then (if q = x then y else WF ca a ci vs es q) else LYW ca x N (q - x)) = _
  by_cases c1 : q < x
  · rw [if_pos c1, if_neg (by omega)]
    unfold WF
    rw [if_neg c0, if_neg c0]
    have e : (es ++ [(N, (0 : Int32))]).getD ((q - a - 1) / 2) (0, 0) = es.getD ((q - a - 1) / 2) (0, 0) := by
      rw [List.getD_eq_getElem?_getD, List.getD_eq_getElem?_getD, List.getElem?_append_left (by omega)]
    rw [e]
  · rw [if_neg c1]
    unfold WF LYW
    rw [if_neg c0]
    have e : (es ++ [(N, (0 : Int32))]).getD ((q - a - 1) / 2) (0, 0) = (N, 0) := by
      rw [List.getD_eq_getElem?_getD, List.getElem?_append_right (by omega), show (q - a - 1) / 2 - es.length = 0 by omega]
      rfl
    rw [e]
    by_cases c2 : q = x
    · rw [if_pos (by omega), if_pos (by omega), c2]
    · rw [if_neg (by omega), if_neg (by omega)]
end Wholes
abbrev rm_W : Room := { frames := 1, cells := 1, slots := 100, locals := 40 }
theorem cf_X9_init : CF yX9_init cX9_init 2 none 1 := ⟨gw_t1 40 rfl rfl, gw_t1 3 rfl rfl, by decide +kernel⟩
theorem c_X9_init {l : Launch} {D : va_G} {ca : Nat → ClassId} {x N : Nat} {r : Int32} (hr : (if 1 < r then r else 1) = nI N) (hN : 1 ≤ N ∧ N ≤ 100) : MeC l D ca yX9_init (Cond.code yX9_init cX9_init 2 none :: GW) rm_W x 8 [.null, .int 0, .int 0] [.int r] 1 100 (LYW ca x N) := by
  refine b_method (by decide) rfl rfl (Nat.le_of_ble_eq_true rfl) ?_
  intro p e s m args below meth c cx
  have cx : CBx p s m args meth c D ca cX9_init 2 RX9 x := cx
  refine b_aload_n (pc := 0) cx dX9_init_0 rfl 0 rfl ?_
  refine b_obj (pc := 1) cx (gw_t1 41 rfl rfl) ⟨Nat.le_of_ble_eq_true rfl, Nat.le_of_ble_eq_true rfl⟩ dX9_init_1 ?_
  refine b_aload_n (pc := 4) cx dX9_init_4 rfl 0 rfl ?_
  refine b_iconst (pc := 5) (v := 1) cx dX9_init_5 (by decide) ?_
  refine b_iload_n (pc := 6) cx dX9_init_6 rfl 1 rfl ?_
  refine b_max (pc := 7) cx t1_42 ⟨Nat.le_of_ble_eq_true rfl, Nat.le_of_ble_eq_true rfl⟩ ⟨Nat.zero_le _, Nat.zero_le _⟩ dX9_init_7 ?_
  rw [hr]
  refine b_newI (pc := 10) (N := N) cx (nI_lt0 (by omega)) (cl (by omega)) (by omega) rfl ⟨Nat.le_refl 1, by show 0 + N ≤ 100; omega⟩ dX9_init_10 ?_
  refine b_putF (pc := 12) (ci := 8) (k := 0) (C := RX9) (T := TX9) (N := 3) (vs := [.null, .int 0, .int 0]) rfl in_X9 (by decide) tyX9 tyX9_ok nmX9 rfl rfl (ty := .array .int) (by decide +kernel) rfl rfl cx ⟨Nat.le_refl x, by show x < x + (1 + 1); omega⟩ ?_ (by decide) (gw_t1 43 rfl rfl) dX9_init_12 ?_
  · show va_up _ (x + 1) _ x = _
    unfold va_up
    rw [if_neg (by omega)]
  refine b_ret (pc := 15) cx rfl (by show 0 + N ≤ 100; omega) rfl (fun d hd => ?_) dX9_init_15
  have hd' : d = 0 ∨ d = 1 := by omega
  rcases hd' with rfl | rfl
  · show va_up _ x _ (x + 0) = LYW ca x N 0
    unfold va_up LYW
    rw [if_pos (by omega), if_pos rfl]
    rfl
  · show va_up (va_up _ (x + 1) _) x _ (x + 1) = LYW ca x N 1
    unfold va_up LYW
    rw [if_neg (by omega), if_pos rfl, if_neg (by decide)]
    congr 4
    funext i
    split <;> rfl
