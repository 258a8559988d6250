/-! what holds at the law's entry -/
theorem en_arr {s : State} {args : Array Value} {ty : FieldType} (h : (Cond.arrayClass ty).before args s = true) : ∃ c : ClassId, ArrOfT s c ty ∧ s.vm.findClass ("[" ++ ty.toString) = some c := by
  obtain ⟨c, k, comp, h1, h2, h3⟩ := Cond.arrayClass_spec h
  exact ⟨c, fun N z => ⟨(fun k h => by cases h), k, h2, comp, h3⟩, h1⟩
theorem en_K {s : State} {args : Array Value} (hg : ∀ w ∈ GW, w.before args s = true) (hAO : va_AO "GcdMill$Whole" s) : ∃ (D : va_G) (ca : Nat → ClassId) (lc : ClassId), va_K D vwCl ((lc, .long) :: tyc ca) s := by
  have h1 : ∀ (k : Nat) (q : vw_C), vwCl[k]? = some q → ∃ (cC : ClassId) (iS : Nat → Nat), u_Kn s q.1 q.2.1 q.2.2 cC iS := by
    intro k q hq
    match k, hq with
    | 0, hq => cases hq; exact u_known hg in_X0 (hg _ (gw_t1 78 rfl rfl))
    | 1, hq => cases hq; exact u_known hg in_X1 (hg _ (gw_t1 90 rfl rfl))
    | 2, hq => cases hq; exact u_known hg in_X2 (hg _ (gw_t1 157 rfl rfl))
    | 3, hq => cases hq; exact u_known hg in_X3 (hg _ (gw_t1 114 rfl rfl))
    | 4, hq => cases hq; exact u_known hg in_X4 (hg _ (gw_t2 52 rfl rfl))
    | 5, hq => cases hq; exact u_known hg in_X5 (hg _ (gw_t1 199 rfl rfl))
    | 6, hq => cases hq; exact u_known hg in_X6 (hg _ (gw_t1 232 rfl rfl))
    | 7, hq => cases hq; exact u_known hg in_X8 (hg _ (gw_t2 37 rfl rfl))
    | 8, hq => cases hq; exact u_known hg in_X9 (hg _ (gw_t1 37 rfl rfl))
    | 9, hq => cases hq; exact u_known hg in_X10 (hg _ (gw_t1 22 rfl rfl))
    | 10, hq => cases hq; exact u_known hg in_X11 (hg _ (gw_t4 156 rfl rfl))
    | (k + 11), hq => cases hq
  have h2 : ∀ k : Nat, ∃ d : ClassId × (Nat → Nat), ∀ q : vw_C, vwCl[k]? = some q → u_Kn s q.1 q.2.1 q.2.2 d.1 d.2 := fun k => by
    cases h : vwCl[k]? with
    | none => exact ⟨(0, fun _ => 0), fun q hq => by cases hq⟩
    | some q =>
      obtain ⟨u, v, hh⟩ := h1 k q h
      exact ⟨(u, v), fun q' hq' => by cases hq'; exact hh⟩
  obtain ⟨d, hd⟩ := Classical.axiomOfChoice h2
  obtain ⟨cB, b1, b2⟩ := en_arr (hg (.arrayClass .byte) (gw_t2 (w := .arrayClass .byte) 50 rfl rfl))
  obtain ⟨cI, i1, i2⟩ := en_arr (hg (.arrayClass .int) (gw_t1 (w := .arrayClass .int) 76 rfl rfl))
  obtain ⟨cL, l1, l2⟩ := en_arr (hg (.arrayClass .long) (gw_t5 (w := .arrayClass .long) 208 rfl rfl))
  obtain ⟨comp, cW, kW, w1, -, w3, w4, w5⟩ := Cond.arrayOver_spec (args := #[]) (first := s) (o := none) (idx := []) hAO
  refine ⟨(fun k => (d k).1, fun k => (d k).2), fun k => if k = 0 then cB else if k = 1 then cI else cW, cL, hd, fun k q hk => ?_⟩
  match k, hk with
  | 0, hk => cases hk; exact ⟨l1, l2⟩
  | 1, hk => cases hk; exact ⟨b1, b2⟩
  | 2, hk => cases hk; exact ⟨i1, i2⟩
  | 3, hk => cases hk; exact ⟨fun N z => ⟨(fun k h => by cases h), kW, w3, comp, w4⟩, kW, comp, w3, w4, w1, w5⟩
  | (k + 4), hk => cases hk
/-- both clamps give one number -/
theorem en_clamp (r T : Int32) (t : Nat) (hT : T = nI t) (ht : 1 ≤ t ∧ t ≤ 100) : ∃ n : Nat, (1 ≤ n ∧ n ≤ t) ∧ (if 1 < (if T < r then T else r) then (if T < r then T else r) else 1) = nI n ∧ (if 1 ≤ r then (if r ≤ T then r else T) else 1) = nI n := by
  have eT : T.toInt = (t : Int) := by rw [hT]; exact Int32.toInt_ofNat_of_lt (by omega)
  have e1 : (1 : Int32).toInt = 1 := rfl
  by_cases c1 : 1 ≤ r
  · have d1 : (1 : Int) ≤ r.toInt := by rw [← e1]; exact Int32.le_iff_toInt_le.mp c1
    by_cases c2 : r ≤ T
    · have d2 : r.toInt ≤ t := by rw [← eT]; exact Int32.le_iff_toInt_le.mp c2
      have er : r = nI r.toInt.toNat := by
        apply Int32.toInt_inj.mp
        rw [show (nI r.toInt.toNat).toInt = (r.toInt.toNat : Int) from Int32.toInt_ofNat_of_lt (by omega)]
        omega
      refine ⟨r.toInt.toNat, by omega, ?_, by rw [if_pos c1, if_pos c2]; exact er⟩
      have c3 : ¬ T < r := fun h => by have := Int32.lt_iff_toInt_lt.mp h; omega
      rw [if_neg c3]
      by_cases c4 : 1 < r
      · rw [if_pos c4]; exact er
      · rw [if_neg c4]
        have : ¬ (1 : Int32).toInt < r.toInt := fun h => c4 (Int32.lt_iff_toInt_lt.mpr h)
        rw [e1] at this
        rw [show r.toInt.toNat = 1 by omega]
        rfl
    · have d2 : ¬ r.toInt ≤ t := fun h => c2 (Int32.le_iff_toInt_le.mpr (by rw [eT]; exact h))
      have c3 : T < r := Int32.lt_iff_toInt_lt.mpr (by rw [eT]; omega)
      refine ⟨t, ⟨ht.1, Nat.le_refl _⟩, ?_, by rw [if_pos c1, if_neg c2, hT]⟩
      rw [if_pos c3]
      by_cases c4 : 1 < T
      · rw [if_pos c4, hT]
      · rw [if_neg c4]
        have : ¬ (1 : Int32).toInt < T.toInt := fun h => c4 (Int32.lt_iff_toInt_lt.mpr h)
        rw [e1, eT] at this
        rw [show t = 1 by omega]
        rfl
  · have d1 : ¬ (1 : Int) ≤ r.toInt := fun h => c1 (Int32.le_iff_toInt_le.mpr (by rw [e1]; exact h))
    refine ⟨1, ⟨Nat.le_refl _, ht.1⟩, ?_, by rw [if_neg c1]; rfl⟩
    have c3 : ¬ T < r := fun h => by have := Int32.lt_iff_toInt_lt.mp h; omega
    rw [if_neg c3, if_neg (fun h => by have := Int32.lt_iff_toInt_lt.mp h; omega)]
    rfl
theorem tb4 {w : Cond} (i : Nat) (h : tables_1_4[i]? = some w) : w ∈ lw_tbl := List.mem_append_right _ (List.mem_append_right _ (List.mem_append_right _ (List.mem_append_right _ (List.mem_append_left _ (List.mem_of_getElem? h)))))
theorem tb1 {w : Cond} (i : Nat) (h : tables_1_1[i]? = some w) : w ∈ lw_tbl := List.mem_append_right _ (List.mem_append_left _ (List.mem_of_getElem? h))
theorem en_TW {s : State} {b : Nat} (hts : ∀ w ∈ lw_tbl, w.before #[Value.ref b] s = true) (hgv : (Jvm.Cond.and given_1 narrow_1).before #[Value.ref b] s = true) (hown : ∃ c, s.vm.findClass RX10 = some c) : TW (A0 s) s s.heap := by
  have hf := flat_of_before _ hgv
  have hA : ∀ a : Nat, a < s.heap.size → ¬ A0 s a := fun a ha h => absurd ha (Nat.not_lt.mpr h)
  refine ⟨tw1.of (hts _ (tb4 71 rfl)) (hf _ (by decide +kernel)) hA, tw1.of (hts _ (tb4 73 rfl)) (hf _ (by decide +kernel)) hA, ?_⟩
  obtain ⟨c, hc⟩ := hown
  have hs : (Cond.stringRef RX10 250 "no such register").before #[Value.ref b] s = true := hts _ (tb4 83 rfl)
  obtain ⟨k, cf, i, a, -, -, -, -, -, he⟩ := Cond.stringRef_spec (args := #[]) (first := s) (o := none) (idx := []) hc hs
  exact ⟨a, hs, he⟩
