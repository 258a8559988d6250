/-! divided -/
theorem iS_sg {n : Nat} {x y : Int} (hn : n ≠ 0) (hx : x ≠ 0) (hy : y ≠ 0) : iS x * iS y = iS (sg n (decide (x < 0) != decide (y < 0))) := by
  unfold sg
  by_cases q : x < 0
  · by_cases r : y < 0
    · rw [decide_eq_true q, decide_eq_true r, iS_neg q, iS_neg r, if_neg (by decide), iS_pos (by omega)]; decide
    · rw [decide_eq_true q, decide_eq_false r, iS_neg q, iS_pos (by omega), if_pos (by decide), iS_neg (by omega)]; decide
  · by_cases r : y < 0
    · rw [decide_eq_false q, decide_eq_true r, iS_pos (by omega), iS_neg r, if_pos (by decide), iS_neg (by omega)]; decide
    · rw [decide_eq_false q, decide_eq_false r, iS_pos (by omega), iS_pos (by omega), if_neg (by decide), iS_pos (by omega)]; decide
theorem iS_ge0 {z : Int} : 0 ≤ iS z ↔ 0 ≤ z := by
  rcases iS_cases z with ⟨h, e⟩ | ⟨h, e⟩ | ⟨h, e⟩ <;> rw [e]
  · exact ⟨fun q => absurd q (by decide), fun q => by omega⟩
  · exact ⟨fun _ => by omega, fun _ => by decide⟩
  · exact ⟨fun _ => by omega, fun _ => by decide⟩
theorem k_dv65 {G : SH} {M : MS} {K : KV} {q : Nat} {g : Nat → Int} {x y : Int} {n : Nat} (hI : KI G M K g) (c1 : q < 40) (hg : g q = (n : Int)) (hx : x ≠ 0 ∨ n = 0) (hy : y ≠ 0) {Q : MS → Prop} (hQ : ∀ N, KF K M N → KI G N K (setK g q (sg n (decide (x < 0) != decide (y < 0)))) → Q N) : w_X11_divided_65 G Q (kO K) (nI q) (iS x) (iS y) M := by
  unfold w_X11_divided_65
  obtain ⟨⟨e0, e1, e2⟩, ⟨g0, g1, g2⟩, n1, n2, n3⟩ := id hI.1
  rw [e2, g2, cl (by omega), (hI.2 q c1).1.2.1, hg, iS_eq0]
  refine ⟨vp_in_nI c1 (by decide), fun z => ?_, fun z => ⟨vp_in_nI c1 (by decide), fun N eN => ?_⟩⟩
  · refine hQ M KF.rf ?_
    have e : sg n (decide (x < 0) != decide (y < 0)) = g q := by
      have : n = 0 := by omega
      rw [hg, this]
      unfold sg
      split <;> rfl
    rw [e]
    exact KX_close (hI.x q) (hI.2 q c1)
  · have hn : n ≠ 0 := by omega
    have hx' : x ≠ 0 := by
      rcases hx with h | h
      · exact h
      · omega
    have h1 := hI.sg c1 (z := sg n (decide (x < 0) != decide (y < 0))) (i := iS x * iS y) (by rw [sg_abs, hg, Int.natAbs_natCast]) (iS_sg hn hx' hy)
    rw [← eN] at h1
    exact hQ N (by rw [eN]; exact KF.wS _) h1
theorem k_divided {G : SH} {M : MS} {K : KV} {q m a b : Nat} {f : Nat → Int} (hI : KI G M K f) (c1 : q < 40) (c2 : m < 40) (ca : a < 40) (c3 : b < 40) (c4 : q ≠ m) (c5 : b ≠ q) (c6 : b ≠ m) (d1 : q ≠ 16) (d2 : m ≠ 16) (d3 : b ≠ 16) (hb : f b ≠ 0) (hna : nl HB (f a).natAbs ≤ 258) {Q : MS → Prop}
    (hQ : ∀ (N : MS) (g : Nat → Int), KF K M N → KI G N K g → g q = sg (DQ (f a) (f b)) (decide (f a < 0) != decide (f b < 0)) → g m = ((modN (f a).natAbs (decide (f a < 0)) (f b).natAbs : Nat) : Int) → (∀ r, r ≠ q → r ≠ m → r ≠ 16 → g r = f r) → Q N) : w_X11_divided G (kO K) (nI q) (nI m) (nI a) (nI b) M Q := by
  unfold w_X11_divided
  obtain ⟨⟨e0, e1, e2⟩, ⟨g0, g1, g2⟩, n1, n2, n3⟩ := id hI.1
  have sa := hI.2 a ca
  have sb := hI.2 b c3
  have hD0 : 0 < (f b).natAbs := by omega
  rw [e2, g2, cl (c := a) (by omega), cl (c := b) (by omega), sa.1.2.1, sb.1.2.1]
  refine ⟨vp_in_nI ca (by decide), fun x ex => ⟨vp_in_nI c3 (by decide), fun y ey => ?_⟩⟩
  subst ex ey
  refine k_quotient hI c1 c2 ca c3 c4 c5 c6 hb hna (fun M5 f5 h5 => ?_)
  refine k_small h5 (d := 16) (by decide) (c := 1) (by decide) rfl (fun M6 f6 h6 => ?_)
  have hml : (f a).natAbs % (f b).natAbs < (f b).natAbs := Nat.mod_lt _ hD0
  have hdl : (f a).natAbs / (f b).natAbs ≤ (f a).natAbs := Nat.div_le_self _ _
  have hA0 : (f a).natAbs = 0 → (f a).natAbs / (f b).natAbs = 0 ∧ (f a).natAbs % (f b).natAbs = 0 := fun h => by rw [h, Nat.zero_div, Nat.zero_mod]; exact ⟨rfl, rfl⟩
  unfold DQ modN at hQ
  generalize (f a).natAbs / (f b).natAbs = qq at *
  generalize (f a).natAbs % (f b).natAbs = rr at *
  generalize hg : setK (setK (setK f q (qq : Int)) m (rr : Int)) 16 ((1 : Nat) : Int) = g at h6
  have gq : g q = (qq : Int) := by rw [← hg, setK_n _ _ d1, setK_n _ _ c4, setK_s]
  have gm : g m = (rr : Int) := by rw [← hg, setK_n _ _ d2, setK_s]
  have g16 : g 16 = 1 := by rw [← hg, setK_s]; rfl
  have gr : ∀ r, r ≠ q → r ≠ m → r ≠ 16 → g r = f r := fun r h1 h2 h3 => by rw [← hg, setK_n _ _ h3, setK_n _ _ h2, setK_n _ _ h1]
  have fr := f5.tr f6
  have plain : ¬ (f a < 0 ∧ rr ≠ 0) → w_X11_divided_65 G Q (kO K) (nI q) (iS (f a)) (iS (f b)) M6 := fun hn => by
    rw [if_neg hn, if_neg (fun z => hn ⟨of_decide_eq_true z.1, z.2⟩), Nat.add_zero] at hQ
    refine k_dv65 h6 c1 gq ?_ hb (fun N f7 h7 => ?_)
    · by_cases h : f a = 0
      · exact Or.inr (hA0 (by omega)).1
      · exact Or.inl h
    · refine hQ N _ (fr.tr f7) h7 (setK_s _ _ _) (by rw [setK_n _ _ c4.symm]; exact gm) (fun r h1 h2 h3 => by rw [setK_n _ _ h1]; exact gr r h1 h2 h3)
  rw [iS_ge0, h6.1.1.2.2, g2, cl (c := m) (by omega), (h6.2 m c2).1.2.1, gm, iS_eq0]
  refine ⟨fun z => plain (by omega), fun z => ⟨vp_in_nI c2 (by decide), fun z2 => plain (by omega), fun z2 => ?_⟩⟩
  have hn : f a < 0 ∧ rr ≠ 0 := by omega
  rw [if_pos hn, if_pos ⟨decide_eq_true hn.1, hn.2⟩] at hQ
  have nq : nl HB (g q).natAbs ≤ 258 := by rw [gq, Int.natAbs_natCast]; exact Nat.le_trans (nl_mono HB1 hdl) hna
  have n16 : nl HB (g 16).natAbs ≤ 258 := by
    rw [g16]
    have := (nl_le HB1 1 1).mpr (by decide)
    show nl HB 1 ≤ 258
    omega
  refine k_sum (g 16) h6 c1 c1 (b := 16) (by decide) (Or.inl ⟨rfl, rfl⟩) nq n16 (fun M11 f11 h11 => ?_)
  have hbg : setK g q (g q + g 16) b = f b := by rw [setK_n _ _ c5]; exact gr b c5 c6 d3
  have hmg : setK g q (g q + g 16) m = (rr : Int) := by rw [setK_n _ _ c4.symm]; exact gm
  refine k_sizeLess (((f b).natAbs - rr : Nat) : Int) h11 c2 c3 c2 (by rw [hbg, hmg, Int.natAbs_natCast]; omega) (by rw [hbg, hmg, Int.natAbs_natCast, Int.natAbs_natCast]) iS_nat (fun M12 f12 h12 => ?_)
  refine k_dv65 h12 c1 (n := qq + 1) ?_ (Or.inl (by omega)) hb (fun N f7 h7 => ?_)
  · rw [setK_n _ _ c4, setK_s, gq, g16]; rfl
  · refine hQ N _ (((fr.tr f11).tr f12).tr f7) h7 (setK_s _ _ _) ?_ (fun r h1 h2 h3 => ?_)
    · rw [setK_n _ _ c4.symm, setK_s]
    · rw [setK_n _ _ h1, setK_n _ _ h2, setK_n _ _ h1]; exact gr r h1 h2 h3
