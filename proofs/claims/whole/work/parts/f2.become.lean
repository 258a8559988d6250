section Become
variable {p : Program} {l : Launch} {e : Env} {R : Room} {s : State} {m : MethodId} {args : Array Value} {below : List Frame} {meth : Method} {c : Code} {D : va_G} {ca : Nat → ClassId} {nL a : Nat} {cells slots : Nat} {Q : State → Prop} {cc : ByteArray} {own : String} {pc : Nat} {lv : List (Nat × Value)} {st : List Value} {M : BM}
theorem w9_fs : ∀ j, j < 3 → defaultValue (tyX9 j) = vp_V [.null, .int 0, .int 0] j := fun j hj => by
  have : j = 0 ∨ j = 1 ∨ j = 2 := by omega
  rcases this with rfl | rfl | rfl <;> rfl
theorem wf_this {ci x : Nat} {vs : List Value} {es : List (Nat × Int32)} {y : va_E} {LY : Nat → va_E} (hx : a < x) : (fun q => if q < x then va_up (WF ca a ci vs es) x y q else LY (q - x)) a = .inr (ci, vs) := by
  show (if a < x then va_up (WF ca a ci vs es) x y a else LY (a - x)) = _
  rw [if_pos hx]
  unfold va_up
  rw [if_neg (by omega), WF_at]
theorem wf_obj {ci j x : Nat} {vs : List Value} {es : List (Nat × Int32)} {N : Nat} (h : es[j]? = some (N, 0)) (hx : x = a + 1 + 2 * j := by omega) : WF ca a ci vs es x = .inr (8, [.ref (x + 1), .int 0, .int 0]) := by
  unfold WF
  rw [if_neg (by omega), if_pos (by omega), show (x - a - 1) / 2 = j by omega, List.getD_eq_getElem?_getD, h]
  rfl
theorem wf_arr {ci j x : Nat} {vs : List Value} {es : List (Nat × Int32)} {N : Nat} (h : es[j]? = some (N, 0)) (hx : x = a + 1 + 2 * j := by omega) : WF ca a ci vs es (x + 1) = .inl (ca 1, N, .inl (fun _ => 0)) := by
  unfold WF
  rw [if_neg (by omega), if_neg (by omega), show (x + 1 - a - 1) / 2 = j by omega, List.getD_eq_getElem?_getD, h]
  congr 4
  funext i
  split <;> rfl
theorem wf_one {ci x : Nat} {vs : List Value} {es : List (Nat × Int32)} (hx : x = a + 1 + 2 * es.length) (q : Nat) (h1 : a ≤ q) (h2 : q < a + (1 + 2 * es.length + 2)) : va_up (va_up (WF ca a ci vs (es ++ [(1, 0)])) x (.inr (8, [.ref (x + 1), .int 1, .int 0]))) (x + 1) (.inl (ca 1, 1, .inl (fun i => if i = 0 then 1 else 0))) q = WF ca a ci vs (es ++ [(1, 1)]) q := by
  unfold va_up
  by_cases c0 : q = x + 1
  · rw [if_pos c0]
    unfold WF
    rw [if_neg (by omega), if_neg (by omega), show (q - a - 1) / 2 = es.length by omega, List.getD_eq_getElem?_getD, List.getElem?_append_right (Nat.le_refl _), Nat.sub_self]
    rfl
  · rw [if_neg c0]
    by_cases c1 : q = x
    · rw [if_pos c1]
      unfold WF
      rw [if_neg (by omega), if_pos (by omega), show (q - a - 1) / 2 = es.length by omega, List.getD_eq_getElem?_getD, List.getElem?_append_right (Nat.le_refl _), Nat.sub_self, c1]
      rfl
    · rw [if_neg c1]
      unfold WF
      by_cases c2 : q = a
      · rw [if_pos c2, if_pos c2]
      · have e1 : (es ++ [(1, (0 : Int32))]).getD ((q - a - 1) / 2) (0, 0) = es.getD ((q - a - 1) / 2) (0, 0) := by
          rw [List.getD_eq_getElem?_getD, List.getD_eq_getElem?_getD, List.getElem?_append_left (by omega)]
        have e2 : (es ++ [(1, (1 : Int32))]).getD ((q - a - 1) / 2) (0, 0) = es.getD ((q - a - 1) / 2) (0, 0) := by
          rw [List.getD_eq_getElem?_getD, List.getD_eq_getElem?_getD, List.getElem?_append_left (by omega)]
        rw [if_neg c2, if_neg c2, e1, e2]
/-- the pool of one new number of one limb -/
abbrev G1 (ca : Nat → ClassId) (x : Nat) : SH := ([x, x + 1], fun q => if q = x then 8 else 12, fun _ => 1, ca)
abbrev M1 (x : Nat) : MS := (fun _ _ => 0, fun _ _ => 0, fun _ _ => x + 1, fun _ _ => 0)
theorem G1_ND {x : Nat} : ND (G1 ca x) := by
  intro i j b hi hj
  match i, j, hi, hj with
  | 0, 0, _, _ => rfl
  | 1, 1, _, _ => rfl
  | 0, 1, hi, hj => cases hi; simp at hj
  | 1, 0, hi, hj => cases hj; simp at hi
  | (k + 2), _, hi, _ => simp at hi
  | 0, (k + 2), _, hj => simp at hj
  | 1, (k + 2), _, hj => simp at hj
theorem G1_8 {x : Nat} : Is (G1 ca x) 8 x := ⟨List.mem_cons_self, if_pos rfl⟩
theorem G1_12 {x : Nat} : Is (G1 ca x) 12 (x + 1) := ⟨by simp, if_neg (by omega)⟩
theorem G1_T {x : Nat} : TYR (G1 ca x) (M1 x).2.2.1 := by
  refine ⟨fun b c k t hb hk ht => ?_, fun b i hb hi => ?_⟩
  · have hb1 := hb.1
    have hb2 := hb.2
    simp only [List.mem_cons, List.not_mem_nil, or_false] at hb1
    rcases hb1 with rfl | rfl
    · have : c = 8 := by rw [← hb2]; exact if_pos rfl
      subst this
      match k, hk with
      | 0, hk => cases hk; exact G1_12
      | 1, hk => cases hk; omega
      | 2, hk => cases hk; omega
      | (k + 3), hk => simp [rT] at hk
    · have : c = 12 := by rw [← hb2]; exact if_neg (by omega)
      subst this
      simp [rT] at hk
  · have hb2 := hb.2
    have hb1 := hb.1
    simp only [List.mem_cons, List.not_mem_nil, or_false] at hb1
    rcases hb1 with rfl | rfl
    · have : (8 : Nat) = 13 := by rw [← hb2]; exact (if_pos rfl).symm
      omega
    · have : (12 : Nat) = 13 := by rw [← hb2]; exact (if_neg (by omega)).symm
      omega
end Become
