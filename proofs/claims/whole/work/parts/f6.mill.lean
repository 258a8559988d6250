/-! the mill's constructor (made by wip/gen/mill.py) -/
def RB (ca : Nat → ClassId) (x n w i : Nat) : Nat → va_E := fun q => if q = x + 1 then .inl (ca 2, n, .inr (.inr (.inr (.inr (fun j => if j < i then some (x + 2 + 2 * j) else none))))) else if (q - x) % 2 = 0 then .inr (8, [.ref (q + 1), .int 0, .int 0]) else .inl (ca 1, w, .inl (fun i => if i = 0 then 0 else 0))
theorem RB_arr {ca : Nat → ClassId} {x n w i : Nat} : RB ca x n w i (x + 1) = .inl (ca 2, n, .inr (.inr (.inr (.inr (fun j => if j < i then some (x + 2 + 2 * j) else none))))) := if_pos rfl
theorem RB_ne {ca : Nat → ClassId} {x n w i q : Nat} (h : q ≠ x + 1) : RB ca x n w i q = if (q - x) % 2 = 0 then .inr (8, [.ref (q + 1), .int 0, .int 0]) else .inl (ca 1, w, .inl (fun i => if i = 0 then 0 else 0)) := if_neg h
abbrev rm_X10i (n : Nat) : Room := { frames := 6, cells := 87 + 2 * n, slots := 7124, locals := 200 }
theorem BW.norm {p : Program} {l : Launch} {e : Env} {R : Room} {s : State} {m : MethodId} {args : Array Value} {below : List Frame} {meth : Method} {c : Code} {D : va_G} {nL a : Nat} {Q : State → Prop} {pc : Nat} {lv : List (Nat × Value)} {st : List Value} {c1 c2 s1 s2 K1 K2 : Nat} {f g : Nat → va_E} (hc : c1 = c2) (hs : s1 ≤ s2) (hK : K1 = K2) (h : ∀ q, a ≤ q → q < a + K1 → f q = g q) (kk : BW p l e R s m args below meth c D nL a c2 s2 Q pc lv st (K2, g)) : BW p l e R s m args below meth c D nL a c1 s1 Q pc lv st (K1, f) := by
  subst hc
  subst hK
  exact BW.widen (Nat.le_refl _) hs (BW.congr h kk)
theorem nI_max {N : Nat} (h1 : 1 ≤ N) (h2 : N ≤ 100) : (if 1 < nI N then nI N else 1) = nI N := by
  by_cases c : 1 < nI N
  · rw [if_pos c]
  · rw [if_neg c]
    have e : (nI N).toInt = (N : Int) := Int32.toInt_ofNat_of_lt (by omega)
    have c' : ¬ ((1 : Int32).toInt < (nI N).toInt) := fun z => c (Int32.lt_iff_toInt_lt.mpr z)
    rw [e, show (1 : Int32).toInt = 1 from rfl] at c'
    rw [show N = 1 by omega]
    rfl
theorem rb_step {ca : Nat → ClassId} {x n w i z : Nat} {vs : List Value} {y : va_E} (hz : z = x + (2 + 2 * i)) (hi : i < 2147483648) (q : Nat) (h1 : x ≤ q) (h2 : q < x + (2 + 2 * i + 1 + 1)) : va_up (fun q => if q < z then va_up (TB x 9 vs (RB ca x n w i)) z y q else LYW ca z w (q - z)) (x + 1) (.inl (ca 2, n, .inr (.inr (.inr (.inr (va_up (fun j => if j < i then some (x + 2 + 2 * j) else none) (nI i).toNatClampNeg (some z))))))) q = TB x 9 vs (RB ca x n w (i + 1)) q := by
  by_cases c0 : q = x + 1
  · rw [c0, va_up_s, TB_ne (by omega), RB_arr]
    congr 7
    funext j
    rw [cl hi]
    unfold va_up
    by_cases c1 : j = i
    · rw [if_pos c1, if_pos (by omega), c1, hz, show x + (2 + 2 * i) = x + 2 + 2 * i by omega]
    · rw [if_neg c1]
      show (if j < i then some (x + 2 + 2 * j) else none) = _
      by_cases c2 : j < i
      · rw [if_pos c2, if_pos (by omega)]
      · rw [if_neg c2, if_neg (by omega)]
  · rw [va_up_n c0]
    show (if q < z then va_up (TB x 9 vs (RB ca x n w i)) z y q else LYW ca z w (q - z)) = _
    by_cases c1 : q < z
    · rw [if_pos c1, va_up_n (by omega)]
      by_cases c2 : q = x
      · rw [c2, TB_at, TB_at]
      · rw [TB_ne c2, TB_ne c2, RB_ne c0, RB_ne c0]
    · rw [if_neg c1, TB_ne (by omega), RB_ne c0]
      unfold LYW
      by_cases c2 : q = z
      · rw [if_pos (by omega), if_pos (by omega), c2]
      · rw [if_neg (by omega), if_neg (by omega)]
section MillLoop
variable {p : Program} {l : Launch} {e : Env} {s : State} {m : MethodId} {args : Array Value} {below : List Frame} {meth : Method} {c : Code} {D : va_G} {ca : Nat → ClassId} {x n w : Nat} {r v : Int32} {Q : State → Prop}
abbrev vs1 (x w : Nat) : List Value := [.int (nI w), .ref (x + 1), .null, .null, .null, .null, .null, .null, .null, .null, .null, .null, .null, .int 0]
theorem mill_loop (cx : CBx p s m args meth c D ca cX10_init 4 RX10 x) (hn : 1 ≤ n ∧ n ≤ 16) (hw : 1 ≤ w ∧ w ≤ 40) (next : BW p l e (rm_X10i n) s m args below meth c D 4 x (1 + 2 * n) (16 + 103 * n) Q 69 [(0, .ref x), (1, .int r), (2, .int v), (3, .int (nI n))] [] (2 + 2 * n, TB x 9 (vs1 x w) (RB ca x n w n))) :
    ∀ k i, i + k = n → BW p l e (rm_X10i n) s m args below meth c D 4 x (1 + 2 * i) (16 + 103 * i) Q 37 [(0, .ref x), (1, .int r), (2, .int v), (3, .int (nI i))] [] (2 + 2 * i, TB x 9 (vs1 x w) (RB ca x n w i)) := by
  intro k
  induction k with
  | zero =>
    intro i hi
    have : i = n := by omega
    subst this
    refine b_iload_n (pc := 37) cx dX10_init_37 rfl 3 rfl ?_
    refine b_aload_n (pc := 38) cx dX10_init_38 rfl 0 rfl ?_
    refine b_get (pc := 39) (ci := 9) (k := 1) (C := RX10) (T := TX10) (N := 14) (vs := vs1 x w) rfl in_X10 (by decide) cx ⟨Nat.le_refl x, by show x < x + (2 + 2 * i); omega⟩ TB_at rfl (gw_t2 74 rfl rfl) dX10_init_39 ?_
    refine b_alenW (pc := 42) (q := x + 1) cx ⟨by omega, by show x + 1 < x + (2 + 2 * i); omega⟩ ((TB_ne (by omega)).trans RB_arr) dX10_init_42 ?_
    exact b_icmp_ge (pc := 43) (tgt := 69) cx dX10_init_43 (by decide) (fun _ => next) (fun hc => absurd (Int32.le_refl _) hc)
  | succ k ih =>
    intro i hi
    refine b_iload_n (pc := 37) cx dX10_init_37 rfl 3 rfl ?_
    refine b_aload_n (pc := 38) cx dX10_init_38 rfl 0 rfl ?_
    refine b_get (pc := 39) (ci := 9) (k := 1) (C := RX10) (T := TX10) (N := 14) (vs := vs1 x w) rfl in_X10 (by decide) cx ⟨Nat.le_refl x, by show x < x + (2 + 2 * i); omega⟩ TB_at rfl (gw_t2 74 rfl rfl) dX10_init_39 ?_
    refine b_alenW (pc := 42) (q := x + 1) cx ⟨by omega, by show x + 1 < x + (2 + 2 * i); omega⟩ ((TB_ne (by omega)).trans RB_arr) dX10_init_42 ?_
    refine b_icmp_ge (pc := 43) (tgt := 69) cx dX10_init_43 (by decide) (fun hc => absurd hc (by rw [nI_leI (by omega) (by omega)]; omega)) (fun hc => ?_)
    refine b_aload_n (pc := 46) cx dX10_init_46 rfl 0 rfl ?_
    refine b_get (pc := 47) (ci := 9) (k := 1) (C := RX10) (T := TX10) (N := 14) (vs := vs1 x w) rfl in_X10 (by decide) cx ⟨Nat.le_refl x, by show x < x + (2 + 2 * i); omega⟩ TB_at rfl (gw_t2 74 rfl rfl) dX10_init_47 ?_
    refine b_iload_n (pc := 50) cx dX10_init_50 rfl 3 rfl ?_
    refine b_new (pc := 51) (ci := 8) (C := RX9) (T := TX9) (N := 3) rfl in_X9 tyX9 tyX9_ok (fs := [.null, .int 0, .int 0]) w9_fs cx (gw_t1 35 rfl rfl) (gw_t1 37 rfl rfl) (gw_t1 3 rfl rfl) (by dsimp only; omega) ⟨by show 1 + 2 * i + 1 ≤ 87 + 2 * n; omega, by show 16 + 103 * i + 3 ≤ 7124; omega⟩ dX10_init_51 ?_
    refine b_dup (pc := 54) cx dX10_init_54 rfl ?_
    refine b_aload_n (pc := 55) cx dX10_init_55 rfl 0 rfl ?_
    refine b_get (pc := 56) (ci := 9) (k := 0) (C := RX10) (T := TX10) (N := 14) (vs := vs1 x w) rfl in_X10 (by decide) cx ⟨Nat.le_refl x, by show x < x + (2 + 2 * i + 1); omega⟩ (TB_upx (by dsimp only; omega)) rfl (gw_t2 73 rfl rfl) dX10_init_56 ?_
    refine b_callC (pc := 59) (x := x + (2 + 2 * i)) (rest := [.ref (x + (2 + 2 * i)), .int (nI i), .ref (x + 1)]) [.int (nI w)] cx (c_X9_init (N := w) (nI_max hw.1 (by omega)) ⟨hw.1, by omega⟩) cf_X9_init rfl (gw_t1 39 rfl rfl) (gw_t1 38 rfl rfl) (by dsimp only; omega) (by omega) (by omega) va_up_s ⟨rfl, rfl⟩ ⟨Nat.le_of_ble_eq_true rfl, Nat.le_of_ble_eq_true rfl⟩ ⟨by show 1 + 2 * i + 1 + 1 ≤ 87 + 2 * n; omega, by show 16 + 103 * i + 3 + 100 ≤ 7124; omega⟩ rfl rfl (Nat.le_of_ble_eq_true rfl) dX10_init_59 ?_
    refine b_aast (pc := 62) (q := x + 1) (v := x + (2 + 2 * i)) (N := n) (f := fun j => if j < i then some (x + 2 + 2 * j) else none) (vs := [.ref (x + (2 + 2 * i) + 1), .int 0, .int 0]) cx ⟨by omega, by show x + 1 < x + (2 + 2 * i + 1 + 1); omega⟩ ?_ ⟨by omega, by show x + (2 + 2 * i) < x + (2 + 2 * i + 1 + 1); omega⟩ ?_ (vp_in_nI (by omega) (by omega)) dX10_init_62 ?_
    · show (if x + 1 < x + (2 + 2 * i) then va_up _ _ _ (x + 1) else _) = _
      rw [if_pos (by omega), va_up_n (by dsimp only; omega)]
      show TB x 9 (vs1 x w) (RB ca x n w i) (x + 1) = _
      rw [TB_ne (by omega), RB_arr]
    · show (if x + (2 + 2 * i) < x + (2 + 2 * i) then _ else LYW ca (x + (2 + 2 * i)) w (x + (2 + 2 * i) - (x + (2 + 2 * i)))) = _
      rw [if_neg (by omega), Nat.sub_self]
      rfl
    refine b_iinc (pc := 63) cx dX10_init_63 3 rfl (v := nI (i + 1)) (by show nI i + nI 1 = nI (i + 1); rw [nI_add]) (by decide) [1, 2, 3, 0] rfl ?_
    refine b_goto (pc := 66) (tgt := 37) cx dX10_init_66 (by decide) ?_
    exact BW.norm (by omega) (by omega) (by omega) (rb_step rfl (by omega)) (ih (i + 1) (by omega))
end MillLoop
