section Become
variable {p : Program} {l : Launch} {e : Env} {R : Room} {s : State} {m : MethodId} {args : Array Value} {below : List Frame} {meth : Method} {c : Code} {D : va_G} {ca : Nat → ClassId} {nL a : Nat} {cells slots : Nat} {Q : State → Prop} {cc : ByteArray} {own : String} {pc : Nat} {lv : List (Nat × Value)} {st : List Value} {M : BM}
theorem w9_fs : ∀ j, j < 3 → defaultValue (tyX9 j) = vp_V [.null, .int 0, .int 0] j := fun j hj => by
  have : j = 0 ∨ j = 1 ∨ j = 2 := by omega
  rcases this with rfl | rfl | rfl <;> rfl
theorem wf_this {ci x : Nat} {vs : List Value} {es : List (Nat × Int32)} {y : va_E} {LY : Nat → va_E} (hx : a < x) : (fun q => if q < x then va_up (WF ca a ci vs es) x y q else LY (q - x)) a = .inr (ci, vs) := by
  show (if a < x then va_up (WF ca a ci vs es) x y a else LY (a - x)) = _
  rw [if_pos hx]
  unfold va_up
  rw [if_neg (by omega), WF_at]
theorem wf_obj {ci j x : Nat} {vs : List Value} {es : List (Nat × Int32)} {N : Nat} (h : es[j]? = some (N, 0)) (hx : x = a + 1 + 2 * j := by omega) : WF ca a ci vs es x = .inr (8, [.ref (x + 1), .int 0, .int 0]) := by
  unfold WF
  rw [if_neg (by omega), if_pos (by omega), show (x - a - 1) / 2 = j by omega, List.getD_eq_getElem?_getD, h]
  rfl
theorem wf_arr {ci j x : Nat} {vs : List Value} {es : List (Nat × Int32)} {N : Nat} (h : es[j]? = some (N, 0)) (hx : x = a + 1 + 2 * j := by omega) : WF ca a ci vs es (x + 1) = .inl (ca 1, N, .inl (fun _ => 0)) := by
  unfold WF
  rw [if_neg (by omega), if_neg (by omega), show (x + 1 - a - 1) / 2 = j by omega, List.getD_eq_getElem?_getD, h]
  congr 4
  funext i
  split <;> rfl
theorem wf_one {ci x : Nat} {vs : List Value} {es : List (Nat × Int32)} (hx : x = a + 1 + 2 * es.length) (q : Nat) (h1 : a ≤ q) (h2 : q < a + (1 + 2 * es.length + 2)) : va_up (va_up (WF ca a ci vs (es ++ [(1, 0)])) x (.inr (8, [.ref (x + 1), .int 1, .int 0]))) (x + 1) (.inl (ca 1, 1, .inl (fun i => if i = 0 then 1 else 0))) q = WF ca a ci vs (es ++ [(1, 1)]) q := by
  unfold va_up
  by_cases c0 : q = x + 1
  · rw [if_pos c0]
    unfold WF
    rw [if_neg (by omega), if_neg (by omega), show (q - a - 1) / 2 = es.length by omega, List.getD_eq_getElem?_getD, List.getElem?_append_right (Nat.le_refl _), Nat.sub_self]
    rfl
  · rw [if_neg c0]
    by_cases c1 : q = x
    · rw [if_pos c1]
      unfold WF
      rw [if_neg (by omega), if_pos (by omega), show (q - a - 1) / 2 = es.length by omega, List.getD_eq_getElem?_getD, List.getElem?_append_right (Nat.le_refl _), Nat.sub_self, c1]
      rfl
    · rw [if_neg c1]
      unfold WF
      by_cases c2 : q = a
      · rw [if_pos c2, if_pos c2]
      · have e1 : (es ++ [(1, (0 : Int32))]).getD ((q - a - 1) / 2) (0, 0) = es.getD ((q - a - 1) / 2) (0, 0) := by
          rw [List.getD_eq_getElem?_getD, List.getD_eq_getElem?_getD, List.getElem?_append_left (by omega)]
        have e2 : (es ++ [(1, (1 : Int32))]).getD ((q - a - 1) / 2) (0, 0) = es.getD ((q - a - 1) / 2) (0, 0) := by
          rw [List.getD_eq_getElem?_getD, List.getD_eq_getElem?_getD, List.getElem?_append_left (by omega)]
        rw [if_neg c2, if_neg c2, e1, e2]
/-- the pool of one new number of one limb -/
abbrev G1 (ca : Nat → ClassId) (x : Nat) : SH := ([x, x + 1], fun q => if q = x then 8 else 12, fun _ => 1, ca)
abbrev M1 (x : Nat) : MS := (fun _ _ => 0, fun _ _ => 0, fun _ _ => x + 1, fun _ _ => 0)
theorem G1_ND {x : Nat} : ND (G1 ca x) := by
  intro i j b hi hj
  match i, j, hi, hj with
  | 0, 0, _, _ => rfl
  | 1, 1, _, _ => rfl
  | 0, 1, hi, hj => cases hi; simp at hj
  | 1, 0, hi, hj => cases hj; simp at hi
  | (k + 2), _, hi, _ => simp at hi
  | 0, (k + 2), _, hj => simp at hj
  | 1, (k + 2), _, hj => simp at hj
theorem G1_8 {x : Nat} : Is (G1 ca x) 8 x := ⟨List.mem_cons_self, if_pos rfl⟩
theorem G1_12 {x : Nat} : Is (G1 ca x) 12 (x + 1) := ⟨by simp, if_neg (by omega)⟩
theorem G1_T {x : Nat} : TYR (G1 ca x) (M1 x).2.2.1 := by
  refine ⟨fun b c k t hb hk ht => ?_, fun b i hb hi => ?_⟩
  · have hb1 := hb.1
    have hb2 := hb.2
    simp only [List.mem_cons, List.not_mem_nil, or_false] at hb1
    rcases hb1 with rfl | rfl
    · have : c = 8 := by rw [← hb2]; exact if_pos rfl
      subst this
      match k, hk with
      | 0, hk => cases hk; exact G1_12
      | 1, hk => cases hk; omega
      | 2, hk => cases hk; omega
      | (k + 3), hk => simp [rT] at hk
    · have : c = 12 := by rw [← hb2]; exact if_neg (by omega)
      subst this
      simp [rT] at hk
  · have hb2 := hb.2
    have hb1 := hb.1
    simp only [List.mem_cons, List.not_mem_nil, or_false] at hb1
    rcases hb1 with rfl | rfl
    · have : (8 : Nat) = 13 := by rw [← hb2]; exact (if_pos rfl).symm
      omega
    · have : (12 : Nat) = 13 := by rw [← hb2]; exact (if_neg (by omega)).symm
      omega
/-- what become(1) leaves of it -/
def N1 (x : Nat) : MS := wI (wI (wA (M1 x) (x + 1) (upd (fun _ => 0) 0 1)) x 1 1) x 2 0
theorem wbec {x : Nat} {Qp : MS → Prop} (hq : Qp (N1 x)) : w_X9_become (G1 ca x) x 1 (M1 x) Qp := by
  unfold w_X9_become
  refine ⟨by show vp_in 0 1; unfold vp_in; decide, fun M2 e2 => ?_⟩
  unfold w_X9_keep
  intro y2 ey2 y3 ey3 M4 e4
  have h2 : y2 = 1 := by rw [ey2, e2]; rfl
  have h3 : y3 = 1 := by rw [ey3, h2]; rfl
  have e4' : M4 = wI (wA (M1 x) (x + 1) (upd (fun _ => 0) 0 1)) x 1 1 := by rw [e4, e2, h3]; rfl
  have hm : mI M4 x 1 = 1 := by
    rw [e4']
    show up2 _ x 1 1 x 1 = 1
    unfold up2
    rw [if_pos ⟨rfl, rfl⟩]
  have hA : mA M4 (x + 1) = upd (fun _ => 0) 0 1 := by
    rw [e4']
    show mA (wA (M1 x) (x + 1) _) (x + 1) = _
    rw [mA_wA]
  have hR : mR M4 x 0 = x + 1 := by rw [e4']; rfl
  refine ⟨1, ?_⟩
  unfold w_X9_keep_17
  rw [hm, hR, hA]
  refine ⟨fun z => absurd z (by decide), fun _ => ⟨by show vp_in (1 - 1) 1; unfold vp_in; decide, fun _ M7 e7 => ?_, fun z => absurd z (by decide)⟩⟩
  have : M7 = N1 x := by rw [e7, e4']; rfl
  rw [this]
  exact hq
theorem ce_N1 {x : Nat} : ce (G1 ca x) (N1 x) x = .inr (8, [.ref (x + 1), .int 1, .int 0]) := by
  rw [ce_obj G1_8 (by decide)]
  have h1 : mI (N1 x) x 1 = 1 := by
    show up2 (up2 _ x 1 1) x 2 0 x 1 = 1
    unfold up2
    rw [if_neg (fun z => absurd z.2 (by decide)), if_pos ⟨rfl, rfl⟩]
  have h2 : mI (N1 x) x 2 = 0 := by
    show up2 (up2 _ x 1 1) x 2 0 x 2 = 0
    unfold up2
    rw [if_pos ⟨rfl, rfl⟩]
  show Sum.inr (8, [Value.ref (mR (N1 x) x 0), .int (mI (N1 x) x 1), .int (mI (N1 x) x 2)]) = _
  rw [h1, h2]
  rfl
theorem ce_N2 {x : Nat} : ce (G1 ca x) (N1 x) (x + 1) = .inl (ca 1, 1, .inl (fun i => if i = 0 then 1 else 0)) := by
  rw [ce_I G1_12]
  have h1 : mA (N1 x) (x + 1) = fun i => if i = 0 then 1 else 0 := by
    show mA (wA (M1 x) (x + 1) (upd (fun _ => 0) 0 1)) (x + 1) = _
    rw [mA_wA]
    funext i
    rfl
  rw [h1]
theorem b_become {x index : Nat} (cx : CBx p s m args meth c D ca cc nL own a) (hlink : Cond.methodLink own index yX9_become ∈ GW) (hq : a ≤ x ∧ x + 1 < a + M.1) (hf : M.2 x = .inr (8, [.ref (x + 1), .int 0, .int 0])) (hf2 : M.2 (x + 1) = .inl (ca 1, 1, .inl (fun _ => 0))) (hR : rm_X9_become.frames + 1 ≤ R.frames ∧ 8 + (2 + 11) + rm_X9_become.locals ≤ R.locals) (hRc : cells ≤ R.cells ∧ slots ≤ R.slots) (dg : decode cc pc = .ok (.invokevirtual index, 3)) (hW : (st.map fun v => v.category).sum ≤ 8) (kk : BW p l e R s m args below meth c D nL a cells slots Q (pc + 3) lv st (M.1, va_up (va_up M.2 x (.inr (8, [.ref (x + 1), .int 1, .int 0]))) (x + 1) (.inl (ca 1, 1, .inl (fun i => if i = 0 then 1 else 0))))) : BW p l e R s m args below meth c D nL a cells slots Q pc lv (.int 1 :: .ref x :: st) M := by
  intro H locs ls hP hS hl
  have hP0 : va_P D vwCl (PL (G1 ca x) (M1 x)) H := by
    obtain ⟨i, hi⟩ := va_pl_get (X := []) (f := M.2) (rg_mem (a := a) (K := M.1) (q := x) ⟨hq.1, by omega⟩)
    obtain ⟨j, hj⟩ := va_pl_get (X := []) (f := M.2) (rg_mem (a := a) (K := M.1) (q := x + 1) ⟨by omega, hq.2⟩)
    have h1 := hP i _ hi
    have h2 := hP j _ hj
    rw [hf] at h1
    rw [hf2] at h2
    intro k q hk
    match k, hk with
    | 0, hk =>
      cases hk
      show va_at D vwCl (x, ce (G1 ca x) (M1 x) x) H
      rw [ce_obj G1_8 (by decide)]
      exact h1
    | 1, hk =>
      cases hk
      show va_at D vwCl (x + 1, ce (G1 ca x) (M1 x) (x + 1)) H
      rw [ce_I G1_12]
      exact h2
    | (k + 2), hk => simp [PL, va_pl] at hk
  have hB : CallB R s args own index yX9_become cX9_become 2 none (Cond.code yX9_become cX9_become 2 none :: GW) rm_X9_become 0 0 1 := callB_of 1 cx.2.2.2.2.1 (goodIn_g cf_X9_become.1) rfl rfl rfl (cx.2.2.2.2.1 _ cf_X9_become.2.1) (cx.2.2.2.2.1 _ hlink) cf_X9_become.2.2 hR
  have hrc : ∃ cell : Cell, H[x]? = some cell ∧ cell.vm.isStatics = false ∧ s.vm.findClass RX9 = some cell.cls := va_recv (q := (RX9, TX9, 3)) (ci := 8) cx.2.2.2.2.2.1 hP0 rfl (q0 := 0) (by show some (x, ce (G1 ca x) (M1 x) x) = _; rw [ce_obj G1_8 (by decide)])
  refine va_callv (A1 := AG (G1 ca x)) (va_runV (C := RX9) (As := [.int 1]) (rest := st) (b := x) (g := F0 m pc ls (.int 1 :: .ref x :: st)) ⟨cx.1, cx.2.1, cx.2.2.1, cx.2.2.2.1, cx.2.2.2.2.1⟩ (c_X9_become (Qp := fun N => N = N1 x) G1_ND G1_T G1_8 (wbec rfl)) ⟨hB, cx.2.2.2.2.1 _ cv_X9_become.1, cx.2.2.2.2.1 _ cv_X9_become.2⟩ ⟨PRE_blind _ _ _ _, hrc, fun U hU hW => ⟨rfl, by rw [hU]; exact hP0, va_K.moved hW.alike cx.2.2.2.2.2.1⟩⟩ rfl rfl hl.1 rfl (lv_room hW) dg hRc) hS (fun q _ h => ?_) (fun q h => ?_) (fun u t H1 locs1 ht hvm hp hB hz hk hS1 => kk H1 locs1 ls ?_ hS1 hl)
  · have h' : q ∈ [x, x + 1] := h
    have h2 := List.mem_cons.mp h'
    show a ≤ q
    rcases h2 with h2 | h2
    · rw [h2]; exact hq.1
    · rw [List.mem_singleton.mp h2]; exact Nat.le_succ_of_le hq.1
  · have h' : q ∈ [x, x + 1] := h
    have h2 := List.mem_cons.mp h'
    show a ≤ q
    rcases h2 with h2 | h2
    · rw [h2]; exact hq.1
    · rw [List.mem_singleton.mp h2]; exact Nat.le_succ_of_le hq.1
  · subst hp
    have hB1 := hB.1
    rw [ht] at hB1
    have b0 : va_at D vwCl (x, ce (G1 ca x) (N1 x) x) H1 := hB1 0 _ rfl
    have b1 : va_at D vwCl (x + 1, ce (G1 ca x) (N1 x) (x + 1)) H1 := hB1 1 _ rfl
    rw [ce_N1] at b0
    rw [ce_N2] at b1
    intro k q hq'
    unfold va_pl at hq'
    rw [List.getElem?_map] at hq'
    cases hr : (List.range' a M.1)[k]? with
    | none => rw [hr] at hq'; cases hq'
    | some z =>
      rw [hr] at hq'
      cases hq'
      unfold va_up
      by_cases c1 : z = x + 1
      · subst c1
        show va_at D vwCl (x + 1, if x + 1 = x + 1 then _ else _) H1
        rw [if_pos rfl]
        exact b1
      · by_cases c2 : z = x
        · subst c2
          show va_at D vwCl (z, if z = z + 1 then _ else if z = z then _ else _) H1
          rw [if_neg c1, if_pos rfl]
          exact b0
        · show va_at D vwCl (z, if z = x + 1 then _ else if z = x then _ else M.2 z) H1
          rw [if_neg c1, if_neg c2]
          obtain ⟨j, hj⟩ := va_pl_get (X := []) (f := M.2) (List.mem_of_getElem? hr)
          have h3 := hP j _ hj
          refine h3.kept (hk z h3.lt (fun hz' => ?_))
          have h' : z ∈ [x, x + 1] := hz'
          rcases List.mem_cons.mp h' with h2 | h2
          · exact c2 h2
          · exact c1 (List.mem_singleton.mp h2)
end Become
