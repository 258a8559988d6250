/-! the divisors, Lehmer, factors -/
theorem nl_gcd {x y w : Nat} (hx : nl BB x ≤ w) (hy : nl BB y ≤ w) : nl BB (Nat.gcd x y) ≤ w := by
  rcases Nat.eq_zero_or_pos x with e | e
  · rw [e, Nat.gcd_zero_left]; exact hy
  · exact Nat.le_trans (nl_mono BB1 (Nat.gcd_le_left y e)) hx
theorem oPut_fit {w : Nat} {s : ST} {d : Nat} {z : Int} (h : nl BB z.natAbs ≤ w) : oPut w s d z = (setR s d z, 0) := by unfold oPut; rw [if_pos h]
theorem SE.X8 {G : SH} {E : EV} (hE : SE G E) {c : Nat} (h3 : 3 ≤ c) (h7 : c ≤ 7) : ∀ y ∈ eX E c, Is G 8 y := fun y hy => hE.2.2.1.2.2 c y h3 h7 hy
theorem SE.Xs {G : SH} {E : EV} (hE : SE G E) {c : Nat} (h3 : 3 ≤ c) (h7 : c ≤ 7) : ∀ y ∈ eX E c, sct E y := fun y hy => hE.sX h3 h7 hy
def oGcd (n : Nat) (s : ST) (d a b : Int32) : ST × Int32 := if isR n d ∧ isR n a ∧ isR n b then (setR s (ix d) (Nat.gcd (s.1 (ix a)).natAbs (s.1 (ix b)).natAbs : Nat), 0) else (s, 3)
theorem m_gcdB {G : SH} {M0 M : MS} {E : EV} {s : ST} {d a b : Int32} (hE : SE G E) (h : MI G M0 M E s) {Q : Int32 → MS → Prop} (hQ : ∀ N, MI G M0 N E (oGcd (en E) s d a b).1 → Q (oGcd (en E) s d a b).2 N) : w_X10_gcdBinary G (eA E 0) d a b M Q := by
  unfold w_X10_gcdBinary
  have hn := hE.n31
  unfold oGcd at hQ
  refine m_are3 hE h (fun i j k hi hj hk ei ej ek => ⟨fun _ => ⟨by rw [ej]; exact h.vp hE hj, by rw [ek]; exact h.vp hE hk, ?_⟩, fun z => absurd z (by decide)⟩) (fun z => ⟨fun z2 => absurd rfl z2, fun _ => ?_⟩)
  · subst ei ej ek
    rw [if_pos ⟨isR_nI hn hi, isR_nI hn hj, isR_nI hn hk⟩, ix_nI (by omega), ix_nI (by omega), ix_nI (by omega)] at hQ
    rw [cl (by omega), cl (by omega), h.rg hj, h.rg hk, h.f 3]
    have nj := h.nl hj
    have nk := h.nl hk
    obtain ⟨u, v, w, hR, m1, m2, m3, m4, m5, hnd⟩ := h.2.2.1 3 (by decide) (by decide)
    refine s_byHalves (hE.X8 (c := 3) (by decide) (by decide)) h.1.1 (hE.o8 (by decide)) (hE.ne (by decide) (by decide) (by decide)) hR m1 m2 m3 m4 m5 hnd (h.rX (by decide) (by decide)) (hE.r8 hj) (hE.r8 hk) (hE.rX hj (by decide) (by decide)) (hE.rX hk (by decide) (by decide)) (h.w hj) (h.w hk) (by omega) (by omega) (fun N u' v' w' r f1 hR' q3 q4 q5 hnd' qr wr => ?_)
    have h1 := h.scr hE f1 (hE.Xs (by decide) (by decide)) (all1 ⟨3, by decide, by decide, rfl, u', v', w', hR', m1, m2, q3, q4, q5, hnd'⟩)
    refine m_put hE h1 hi rfl (hE.X8 (by decide) (by decide) r qr) wr.z0 ?_
    rw [oPut_fit (by rw [Int.natAbs_natCast]; exact nl_gcd nj nk)]
    exact hQ
  · rw [if_neg z] at hQ
    exact hQ M h
theorem m_gcdE {G : SH} {M0 M : MS} {E : EV} {s : ST} {d a b : Int32} (hE : SE G E) (h : MI G M0 M E s) {Q : Int32 → MS → Prop} (hQ : ∀ N, MI G M0 N E (oGcd (en E) s d a b).1 → Q (oGcd (en E) s d a b).2 N) : w_X10_gcdEuclid G (eA E 0) d a b M Q := by
  unfold w_X10_gcdEuclid
  have hn := hE.n31
  unfold oGcd at hQ
  refine m_are3 hE h (fun i j k hi hj hk ei ej ek => ⟨fun _ => ⟨by rw [ej]; exact h.vp hE hj, by rw [ek]; exact h.vp hE hk, ?_⟩, fun z => absurd z (by decide)⟩) (fun z => ⟨fun z2 => absurd rfl z2, fun _ => ?_⟩)
  · subst ei ej ek
    rw [if_pos ⟨isR_nI hn hi, isR_nI hn hj, isR_nI hn hk⟩, ix_nI (by omega), ix_nI (by omega), ix_nI (by omega)] at hQ
    rw [cl (by omega), cl (by omega), h.rg hj, h.rg hk, h.f 3]
    have nj := h.nl hj
    have nk := h.nl hk
    obtain ⟨u, v, w, hR, m1, m2, m3, m4, m5, hnd⟩ := h.2.2.1 3 (by decide) (by decide)
    refine s_byQuotients (hE.X8 (c := 3) (by decide) (by decide)) h.1.1 (hE.o8 (by decide)) (hE.ne (by decide) (by decide) (by decide)) hR m1 m2 m3 m4 m5 hnd (h.rX (by decide) (by decide)) (hE.r8 hj) (hE.r8 hk) (hE.rX hj (by decide) (by decide)) (hE.rX hk (by decide) (by decide)) (h.w hj) (h.w hk) (by omega) (by omega) (fun N u' v' w' f1 hR' q3 q4 q5 hnd' wr => ?_)
    have h1 := h.scr hE f1 (hE.Xs (by decide) (by decide)) (all1 ⟨3, by decide, by decide, rfl, u', v', w', hR', m1, m2, q3, q4, q5, hnd'⟩)
    refine m_put hE h1 hi rfl (hE.X8 (by decide) (by decide) u' q3) wr.z0 ?_
    rw [oPut_fit (by rw [Int.natAbs_natCast]; exact nl_gcd nj nk)]
    exact hQ
  · rw [if_neg z] at hQ
    exact hQ M h
def setS (s : ST) (i : Int32) : ST := (s.1, s.2.1, s.2.2.1, s.2.2.2.1, s.2.2.2.2.1, i)
def oLeh (n : Nat) (s : ST) (d a b : Int32) : ST × Int32 := if isR n d ∧ isR n a ∧ isR n b then (setS (setR s (ix d) (Nat.gcd (s.1 (ix a)).natAbs (s.1 (ix b)).natAbs : Nat)) (nI (LST (s.1 (ix a)).natAbs (s.1 (ix b)).natAbs)), 0) else (s, 3)
theorem m_leh {G : SH} {M0 M : MS} {E : EV} {s : ST} {d a b : Int32} (hE : SE G E) (h : MI G M0 M E s) {Q : Int32 → MS → Prop} (hQ : ∀ N, MI G M0 N E (oLeh (en E) s d a b).1 → Q (oLeh (en E) s d a b).2 N) : w_X10_gcdLehmer G (eA E 0) d a b M Q := by
  unfold w_X10_gcdLehmer
  have hn := hE.n31
  unfold oLeh at hQ
  refine m_are3 hE h (fun i j k hi hj hk ei ej ek => ⟨fun _ => ⟨by rw [ej]; exact h.vp hE hj, by rw [ek]; exact h.vp hE hk, ?_⟩, fun z => absurd z (by decide)⟩) (fun z => ⟨fun z2 => absurd rfl z2, fun _ => ?_⟩)
  · subst ei ej ek
    rw [if_pos ⟨isR_nI hn hi, isR_nI hn hj, isR_nI hn hk⟩, ix_nI (by omega), ix_nI (by omega), ix_nI (by omega)] at hQ
    rw [cl (by omega), cl (by omega), h.rg hj, h.rg hk, h.f 4]
    have nj := h.nl hj
    have nk := h.nl hk
    have hw1 := hE.1.2.2.1
    have hw40 := hE.1.2.2.2
    obtain ⟨u, v, x, t, hR, hmem, hnd⟩ := h.2.2.1 4 (by decide) (by decide)
    refine s_lehmer (c := ew E) (rm := 2 * ew E + 2) (hE.X8 (c := 4) (by decide) (by decide)) h.1.1 (hE.o8 (by decide)) (hE.ne (by decide) (by decide) (by decide)) (h.rX (by decide) (by decide)) hw1 (by omega) (by omega) hR hmem hnd (hE.r8 hj) (hE.r8 hk) (hE.rX hj (by decide) (by decide)) (hE.rX hk (by decide) (by decide)) (h.w hj) (h.w hk) nj nk (fun N u' v' x' t' f1 hR' hm' hd' wu' hs' => ?_)
    have h1 := h.scr hE f1 (hE.Xs (by decide) (by decide)) (all1 ⟨4, by decide, by decide, rfl, u', v', x', t', hR', hm', hd'⟩)
    have hput := oPut_fit (w := ew E) (s := s) (d := i) (z := (Nat.gcd (s.1 j).natAbs (s.1 k).natAbs : Nat)) (by rw [Int.natAbs_natCast]; exact nl_gcd nj nk)
    unfold w_X10_put
    have wz := wu'.z0
    have iu := hE.X8 (c := 4) (by decide) (by decide) u' (hm' u' (by simp))
    have hgl := nl_gcd nj nk
    rw [wz.2.1, h1.1.2.2.1, Int.natAbs_natCast, nI_leI (by omega) (by omega), cl (by omega), h1.rg hi]
    refine ⟨fun q => ⟨h1.vp hE hi, ?_⟩, fun q => absurd hgl q⟩
    refine s_copy h1.1.1 (hE.r8 hi) iu wz (by rw [h1.1.2.2.2.2.1 i hi, Int.natAbs_natCast]; exact hgl) (fun P f2 w2 => ?_)
    have h2 := h1.put hE hi f2 w2
    intro M10 e10
    rw [h2.f 4, f2.io (hE.o8 (by decide)), hs'] at e10
    rw [e10]
    exact hQ _ (h2.step hE _)
  · rw [if_neg z] at hQ
    exact hQ M h
theorem m_last {G : SH} {M0 M : MS} {E : EV} {s : ST} (h : MI G M0 M E s) {Q : Int32 → MS → Prop} (hQ : ∀ N, MI G M0 N E s → Q s.2.2.2.2.2 N) : w_X10_lastSteps G (eA E 0) M Q := by
  unfold w_X10_lastSteps
  rw [h.2.2.2.2.2]
  exact hQ M h
/-- DIVISOR, sizes of the FACTORS, odd -/
abbrev FA (a b : Nat) : Nat × Nat × Nat × Bool := FAC a b 1 0 0 1 false
def oBez (n w : Nat) (s : ST) (g x y a b : Int32) : ST × Int32 :=
  if (isR n g ∧ isR n x ∧ isR n y) ∧ (isR n a ∧ isR n b) ∧ g ≠ x ∧ g ≠ y ∧ x ≠ y then
    (if nl BB (FA (s.1 (ix a)).natAbs (s.1 (ix b)).natAbs).1 ≤ w ∧ nl BB (FA (s.1 (ix a)).natAbs (s.1 (ix b)).natAbs).2.1 ≤ w ∧ nl BB (FA (s.1 (ix a)).natAbs (s.1 (ix b)).natAbs).2.2.1 ≤ w then
      (setR (setR (setR s (ix g) ((FA (s.1 (ix a)).natAbs (s.1 (ix b)).natAbs).1 : Nat)) (ix x) (sg (FA (s.1 (ix a)).natAbs (s.1 (ix b)).natAbs).2.1 ((FA (s.1 (ix a)).natAbs (s.1 (ix b)).natAbs).2.2.2 != decide (s.1 (ix a) < 0)))) (ix y) (sg (FA (s.1 (ix a)).natAbs (s.1 (ix b)).natAbs).2.2.1 ((FA (s.1 (ix a)).natAbs (s.1 (ix b)).natAbs).2.2.2 == decide (s.1 (ix b) < 0))), 0)
     else (s, 1))
  else (s, 3)
theorem m_bez {G : SH} {M0 M : MS} {E : EV} {s : ST} {g x y a b : Int32} (hE : SE G E) (h : MI G M0 M E s) {Q : Int32 → MS → Prop} (hQ : ∀ N, MI G M0 N E (oBez (en E) (ew E) s g x y a b).1 → Q (oBez (en E) (ew E) s g x y a b).2 N) : w_X10_bezout G (eA E 0) g x y a b M Q := by
  unfold w_X10_bezout
  have hn := hE.n31
  unfold oBez at hQ
  have no : ∀ {P : Prop}, ¬ ((isR (en E) g ∧ isR (en E) x ∧ isR (en E) y) ∧ (isR (en E) a ∧ isR (en E) b) ∧ g ≠ x ∧ g ≠ y ∧ x ≠ y) → Q 3 M := fun {_} z => by
    rw [if_neg z] at hQ
    exact hQ M h
  refine m_are3 hE h (fun i1 i2 i3 h1 h2 h3 e1 e2 e3 => ⟨fun z => absurd z (by decide), fun _ => ?_⟩) (fun z => ⟨fun _ => no (P := True) (fun q => z q.1), fun z2 => absurd rfl z2⟩)
  refine m_are2 hE h (fun i j hi hj ei ej => ⟨fun z => absurd z (by decide), fun _ => ⟨fun he => no (P := True) (fun q => q.2.2.1 he), fun n1 => ⟨fun he => no (P := True) (fun q => q.2.2.2.1 he), fun n2 => ⟨fun n3 => ?_, fun he => no (P := True) (fun q => q.2.2.2.2 he)⟩⟩⟩⟩) (fun z => ⟨fun _ => no (P := True) (fun q => z q.2.1), fun z2 => absurd rfl z2⟩)
  subst e1 e2 e3 ei ej
  rw [if_pos ⟨⟨isR_nI hn h1, isR_nI hn h2, isR_nI hn h3⟩, ⟨isR_nI hn hi, isR_nI hn hj⟩, n1, n2, n3⟩, ix_nI (by omega), ix_nI (by omega), ix_nI (by omega), ix_nI (by omega), ix_nI (by omega)] at hQ
  refine ⟨h.vp hE hi, h.vp hE hj, ?_⟩
  have ni := h.nl hi
  have nj := h.nl hj
  have hw1 := hE.1.2.2.1
  have hw40 := hE.1.2.2.2
  rw [cl (by omega), cl (by omega), h.rg hi, h.rg hj, h.f 5]
  obtain ⟨fr, fs, ft, fx, fz, fy, fw, hR, hmem, hnd⟩ := h.2.2.1 5 (by decide) (by decide)
  refine s_find (c := ew E) (rm := 2 * ew E + 2) (hE.X8 (c := 5) (by decide) (by decide)) h.1.1 (hE.o8 (by decide)) (hE.ne (by decide) (by decide) (by decide)) (h.rX (by decide) (by decide)) hw1 (by omega) (by omega) hR hmem hnd (hE.r8 hi) (hE.r8 hj) (hE.rX hi (by decide) (by decide)) (hE.rX hj (by decide) (by decide)) (h.w hi) (h.w hj) ni nj (fun N fr' fs' ft' fx' fz' fy' fw' f1 hR' hm' hd' wr wx wy => ?_)
  have hN := h.scr hE f1 (hE.Xs (by decide) (by decide)) (all1 ⟨5, by decide, by decide, rfl, fr', fs', ft', fx', fz', fy', fw', hR', hm', hd'⟩)
  have I : ∀ (k y : Nat), [eA E 13, eA E 20, eA E 21, fr', fs', ft', fx', fz', fy', fw'][k]? = some y → y ∈ eX E 5 := fun k y h => hm' y (List.mem_of_getElem? h)
  have I8 := fun y hy => hE.X8 (c := 5) (by decide) (by decide) y hy
  have rN := hN.rX (c := 5) (by decide) (by decide)
  have l1 := wr.1
  have l2 := wx.1
  have l3 := wy.1
  rw [rN _ (I 3 fr' rfl)] at l1
  rw [rN _ (I 6 fx' rfl)] at l2
  rw [rN _ (I 8 fy' rfl)] at l3
  unfold FA at hQ
  generalize FAC (s.1 i).natAbs (s.1 j).natAbs 1 0 0 1 false = T at *
  have e0 : mR N (eA E 5) 0 = fr' := hR'.2.2.2.2.1
  have e1 : mR N (eA E 5) 1 = fx' := hR'.2.2.2.2.2.2.2.1
  have e2 : mR N (eA E 5) 2 = fy' := hR'.2.2.2.2.2.2.2.2.2.1
  rw [hN.f 5, e0, e1, e2, wr.2.1, wx.2.1, wy.2.1, hN.1.2.2.1, nI_ltI (by omega) (by omega), nI_ltI (by omega) (by omega), nI_leI (by omega) (by omega), cl (by omega), hN.rg h1]
  refine ⟨fun z => ?_, fun z1 => ⟨fun z => ?_, fun z2 => ⟨fun z3 => ⟨hN.vp hE h1, ?_⟩, fun z => ?_⟩⟩⟩
  · rw [if_neg (by omega)] at hQ
    exact hQ N hN
  · rw [if_neg (by omega)] at hQ
    exact hQ N hN
  · rw [if_pos ⟨by omega, by omega, z3⟩] at hQ
    have sk : ∀ {y k : Nat}, y ∈ eX E 5 → k < en E → y ∉ [eR E k] := fun hy hk => ni1 (fun e => hE.rX hk (c := 5) (by decide) (by decide) (by rw [← e]; exact hy))
    refine s_copy hN.1.1 (hE.r8 h1) (I8 _ (I 3 fr' rfl)) wr (by rw [hN.1.2.2.2.2.1 i1 h1]; omega) (fun P1 g1 v1 => ?_)
    have hP1 := hN.put hE h1 g1 v1.z0
    refine ⟨hP1.vp hE h2, ?_⟩
    rw [cl (by omega), hP1.rg h2, hP1.f 5, g1.2.1, e1]
    refine s_copy hP1.1.1 (hE.r8 h2) (I8 _ (I 6 fx' rfl)) (g1.wh hN.1.1 (I8 _ (I 6 fx' rfl)) (sk (I 6 fx' rfl) h1) wx) (by rw [hP1.1.2.2.2.2.1 i2 h2]; omega) (fun P2 g2 v2 => ?_)
    have hP2 := hP1.put hE h2 g2 (v2.z rfl)
    refine ⟨hP2.vp hE h3, ?_⟩
    rw [cl (by omega), hP2.rg h3, hP2.f 5, g2.2.1, g1.2.1, e2]
    refine s_copy hP2.1.1 (hE.r8 h3) (I8 _ (I 8 fy' rfl)) (g2.wh hP1.1.1 (I8 _ (I 8 fy' rfl)) (sk (I 8 fy' rfl) h2) (g1.wh hN.1.1 (I8 _ (I 8 fy' rfl)) (sk (I 8 fy' rfl) h1) wy)) (by rw [hP2.1.2.2.2.2.1 i3 h3]; omega) (fun P3 g3 v3 => ?_)
    exact hQ P3 (hP2.put hE h3 g3 (v3.z rfl))
  · rw [if_neg (by omega)] at hQ
    exact hQ N hN
