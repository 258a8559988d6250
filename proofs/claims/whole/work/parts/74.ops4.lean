/-! inverse, power, roots, Jacobi, tape -/
theorem FAC_x {B : Nat} : ∀ (s r x z y w : Nat) (odd : Bool), x ≤ B → z ≤ B → s * x + r * z ≤ B → (FAC r s x z y w odd).2.1 ≤ B := by
  intro s
  induction s using Nat.strongRecOn with
  | _ s ih =>
    intro r x z y w odd hx hz h
    by_cases hs : s = 0
    · rw [hs, FAC_0]; exact hx
    · rw [FAC_s hs]
      have e := fac_inv (r := r) (s := s) (x := x) (z := z)
      have hp : 0 < s := by omega
      exact ih (r % s) (Nat.mod_lt _ hp) s z (x + r / s * z) w (y + r / s * w) (!odd) hz (le_mul_of hp (by omega)) (by omega)
theorem FAC_y {A : Nat} : ∀ (s r x z y w : Nat) (odd : Bool), y ≤ A → w ≤ A → s * y + r * w ≤ A → (FAC r s x z y w odd).2.2.1 ≤ A := by
  intro s
  induction s using Nat.strongRecOn with
  | _ s ih =>
    intro r x z y w odd hx hz h
    by_cases hs : s = 0
    · rw [hs, FAC_0]; exact hx
    · rw [FAC_s hs]
      have e := fac_inv (r := r) (s := s) (x := y) (z := w)
      have hp : 0 < s := by omega
      exact ih (r % s) (Nat.mod_lt _ hp) s z (x + r / s * z) w (y + r / s * w) (!odd) hz (le_mul_of hp (by omega)) (by omega)
theorem SE.t5 {G : SH} {E : EV} (hE : SE G E) {c y : Nat} (h3 : 3 ≤ c) (h7 : c ≤ 7) (hy : y ∈ eX E c) (hn : y ≠ eA E 13) : eT E y = c := by
  rcases hE.2.2.2.2.1.2.2 c y h3 h7 hy with e | e
  · exact absurd e hn
  · exact e
def oInv (n : Nat) (s : ST) (d a m : Int32) : ST × Int32 :=
  if isR n d ∧ isR n a ∧ isR n m then
    (if ¬ 0 < s.1 (ix m) then (s, 2)
     else if (FA (modN (s.1 (ix a)).natAbs (decide (s.1 (ix a) < 0)) (s.1 (ix m)).natAbs) (s.1 (ix m)).natAbs).1 = 1 then
       (setR s (ix d) (modN (FA (modN (s.1 (ix a)).natAbs (decide (s.1 (ix a) < 0)) (s.1 (ix m)).natAbs) (s.1 (ix m)).natAbs).2.1 ((FA (modN (s.1 (ix a)).natAbs (decide (s.1 (ix a) < 0)) (s.1 (ix m)).natAbs) (s.1 (ix m)).natAbs).2.2.2 && decide (0 < (FA (modN (s.1 (ix a)).natAbs (decide (s.1 (ix a) < 0)) (s.1 (ix m)).natAbs) (s.1 (ix m)).natAbs).2.1)) (s.1 (ix m)).natAbs : Nat), 0)
     else (s, 2))
  else (s, 3)
theorem m_inv {G : SH} {M0 M : MS} {E : EV} {s : ST} {d a m : Int32} (hE : SE G E) (h : MI G M0 M E s) {Q : Int32 → MS → Prop} (hQ : ∀ N, MI G M0 N E (oInv (en E) s d a m).1 → Q (oInv (en E) s d a m).2 N) : w_X10_inverse G (eA E 0) d a m M Q := by
  unfold w_X10_inverse
  have hn := hE.n31
  unfold oInv at hQ
  refine m_are3 hE h (fun i j k hi hj hk ei ej ek => ⟨fun _ => ⟨by rw [ek]; exact h.vp hE hk, ?_⟩, fun z => absurd z (by decide)⟩) (fun z => ⟨fun z2 => absurd rfl z2, fun _ => ?_⟩)
  · subst ei ej ek
    rw [if_pos ⟨isR_nI hn hi, isR_nI hn hj, isR_nI hn hk⟩, ix_nI (by omega), ix_nI (by omega), ix_nI (by omega)] at hQ
    rw [cl (by omega), cl (by omega), h.rg hk]
    have nj := h.nl hj
    have nk := h.nl hk
    have hw1 := hE.1.2.2.1
    have hw40 := hE.1.2.2.2
    refine s_isAboveZero h.1.1 (hE.r8 hk) (h.w hk) ?_
    by_cases hpos : 0 < s.1 k
    · rw [if_neg (fun q => q hpos)] at hQ
      have hp2 : 0 < (s.1 k).natAbs := by omega
      rw [decide_eq_true hp2, decide_eq_false (show ¬ s.1 k < 0 by omega)]
      refine ⟨fun _ => ⟨h.vp hE hj, ?_⟩, fun z => absurd z (by decide)⟩
      rw [h.rg hj, h.f 6, h.f 11]
      have wk := h.w hk
      rw [decide_eq_false (show ¬ s.1 k < 0 by omega)] at wk
      obtain ⟨u, v, w, hR6, hm6, hnd6⟩ := h.2.2.1 6 (by decide) (by decide)
      have J : ∀ (k y : Nat), [eA E 13, eA E 22, eA E 23, eA E 24, eA E 25, u, v, w][k]? = some y → y ∈ eX E 6 := fun k y h => hm6 y (List.mem_of_getElem? h)
      have t22 : eT E (eA E 22) = 6 := hE.t5 (by decide) (by decide) (J 1 _ rfl) (hnd6.ne 1 0 rfl rfl (by decide))
      have i22 := hE.X8 (c := 6) (by decide) (by decide) _ (J 1 _ rfl)
      have r6 := h.rX (c := 6) (by decide) (by decide)
      refine s_reduce (rm := 2 * ew E + 2) h.1.1 hR6.1 hR6.2.1 hR6.2.2.1 hE.i13 i22 hE.i11 (hE.r8 hj) (hE.r8 hk) (ndl4 (tne hE.t13 t22) (tne hE.t13 hE.t11) (hE.ner hk hE.t13).symm (tne t22 hE.t11) (hE.ner hk t22).symm (hE.ner hk hE.t11).symm) (hE.ner hj hE.t13) (hE.ner hj t22) (hE.ner hj hE.t11) (h.w hj) wk hp2 (r6 _ (J 1 _ rfl)) h.r11 (r6 _ (J 0 _ rfl)) (by omega) (by omega) (fun M9 f9 w9 => ?_)
      have s22 : sct E (eA E 22) := hE.sX (by decide) (by decide) (J 1 _ rfl)
      have h9 := h.fr hE f9 (all3 s22 hE.s11 hE.s13)
      have hml := modN_lt (va := (s.1 j).natAbs) (sa := decide (s.1 j < 0)) hp2
      unfold FA at hQ
      generalize modN (s.1 j).natAbs (decide (s.1 j < 0)) (s.1 k).natAbs = R at *
      have nR : nl BB R ≤ ew E := Nat.le_trans (nl_mono BB1 (by omega)) nk
      rw [h9.f 5, h9.f 11]
      obtain ⟨fr, fs, ft, fx, fz, fy, fw, hR, hmem, hnd⟩ := h9.2.2.1 5 (by decide) (by decide)
      refine s_find (c := ew E) (rm := 2 * ew E + 2) (hE.X8 (c := 5) (by decide) (by decide)) h9.1.1 (hE.o8 (by decide)) (hE.ne (by decide) (by decide) (by decide)) (h9.rX (by decide) (by decide)) hw1 (by omega) (by omega) hR hmem hnd hE.i11 (hE.r8 hk) (hE.xX hE.t11 (by decide) (by decide) (by decide)) (hE.rX hk (by decide) (by decide)) w9 (h9.w hk) nR nk (fun N fr' fs' ft' fx' fz' fy' fw' f1 hR' hm' hd' wr wx wy => ?_)
      have hN := h9.scr hE f1 (hE.Xs (by decide) (by decide)) (all1 ⟨5, by decide, by decide, rfl, fr', fs', ft', fx', fz', fy', fw', hR', hm', hd'⟩)
      have I : ∀ (k y : Nat), [eA E 13, eA E 20, eA E 21, fr', fs', ft', fx', fz', fy', fw'][k]? = some y → y ∈ eX E 5 := fun k y h => hm' y (List.mem_of_getElem? h)
      have I8 := fun y hy => hE.X8 (c := 5) (by decide) (by decide) y hy
      have rN := hN.rX (c := 5) (by decide) (by decide)
      have l2 := wx.1
      rw [rN _ (I 6 fx' rfl)] at l2
      have tfx : eT E fx' = 5 := hE.t5 (by decide) (by decide) (I 6 fx' rfl) (hd'.ne 6 0 rfl rfl (by decide))
      have hFx := FAC_x (B := (s.1 k).natAbs) (s.1 k).natAbs R 1 0 0 1 false hp2 (Nat.zero_le _) (by omega)
      have nFx : nl BB (FAC R (s.1 k).natAbs 1 0 0 1 false).2.1 ≤ ew E := Nat.le_trans (nl_mono BB1 hFx) nk
      rw [hN.f 5, hR'.2.2.2.2.1, hN.f 12]
      refine s_order hN.1.1 (I8 _ (I 3 fr' rfl)) hE.i12 wr hN.one ?_
      have c0 : cmpN (FAC R (s.1 k).natAbs 1 0 0 1 false).1 1 = 0 ↔ (FAC R (s.1 k).natAbs 1 0 0 1 false).1 = 1 := by
        unfold cmpN
        by_cases q1 : 1 < (FAC R (s.1 k).natAbs 1 0 0 1 false).1
        · rw [if_pos q1]
          exact ⟨fun z => absurd z (by decide), fun z => by omega⟩
        · rw [if_neg q1]
          by_cases q2 : (FAC R (s.1 k).natAbs 1 0 0 1 false).1 = 1
          · rw [if_pos q2]
            exact ⟨fun _ => q2, fun _ => rfl⟩
          · rw [if_neg q2]
            exact ⟨fun z => absurd z (by decide), fun z => absurd z q2⟩
      rw [c0]
      refine ⟨fun h1 => ?_, fun h1 => ?_⟩
      · rw [if_pos h1] at hQ
        rw [hN.f 6, hN.f 10, hN.f 5, hR'.2.2.2.2.2.2.2.1]
        obtain ⟨u2, v2, w2, hR6', hm6', hnd6'⟩ := hN.2.2.1 6 (by decide) (by decide)
        have rN6 := hN.rX (c := 6) (by decide) (by decide)
        have wkN := hN.w hk
        rw [decide_eq_false (show ¬ s.1 k < 0 by omega)] at wkN
        refine s_reduce (rm := 2 * ew E + 2) hN.1.1 hR6'.1 hR6'.2.1 hR6'.2.2.1 hE.i13 i22 hE.i10 (I8 _ (I 6 fx' rfl)) (hE.r8 hk) (ndl4 (tne hE.t13 t22) (tne hE.t13 hE.t10) (hE.ner hk hE.t13).symm (tne t22 hE.t10) (hE.ner hk t22).symm (hE.ner hk hE.t10).symm) (hd'.ne 6 0 rfl rfl (by decide)) (tne tfx t22) (tne tfx hE.t10) wx wkN hp2 (rN6 _ (J 1 _ rfl)) hN.r10 (rN6 _ (J 0 _ rfl)) (by omega) (by omega) (fun M21 f21 w21 => ?_)
        have h21 := hN.fr hE f21 (all3 s22 hE.s10 hE.s13)
        have eb : (((FAC R (s.1 k).natAbs 1 0 0 1 false).2.2.2 != false) && decide (0 < (FAC R (s.1 k).natAbs 1 0 0 1 false).2.1)) = ((FAC R (s.1 k).natAbs 1 0 0 1 false).2.2.2 && decide (0 < (FAC R (s.1 k).natAbs 1 0 0 1 false).2.1)) := by
          cases (FAC R (s.1 k).natAbs 1 0 0 1 false).2.2.2 <;> rfl
        rw [eb] at w21
        rw [h21.f 10]
        refine m_put hE h21 hi rfl hE.i10 w21.z0 ?_
        have hm2 := modN_lt (va := (FAC R (s.1 k).natAbs 1 0 0 1 false).2.1) (sa := (FAC R (s.1 k).natAbs 1 0 0 1 false).2.2.2 && decide (0 < (FAC R (s.1 k).natAbs 1 0 0 1 false).2.1)) hp2
        rw [oPut_fit (by rw [Int.natAbs_natCast]; exact Nat.le_trans (nl_mono BB1 (Nat.le_of_lt hm2)) nk)]
        exact hQ
      · rw [if_neg h1] at hQ
        exact hQ N hN
    · rw [if_pos hpos] at hQ
      have e0 : (decide (0 < (s.1 k).natAbs) && !decide (s.1 k < 0)) = false := by
        by_cases q : s.1 k < 0
        · rw [decide_eq_true q]; simp
        · rw [decide_eq_false (show ¬ 0 < (s.1 k).natAbs by omega)]; rfl
      rw [e0]
      exact ⟨fun z => absurd rfl z, fun _ => hQ M h⟩
  · rw [if_neg z] at hQ
    exact hQ M h
