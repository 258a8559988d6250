/-! push, compare, divide, shift of the reference -/
theorem k_cmp {G : SH} {M : MS} {L : LV} {n w : Nat} {s : ST} {a b : Int32} (h : KJ G M L n w s) {Q : Int32 → MS → Prop} (hQ : OQ G M L n w (oCmp n s a b) Q) : w_X11_compare G (kO L.1) a b M Q := by
  unfold w_X11_compare
  intro M1 e1
  obtain ⟨f, h1⟩ := h.go e1
  have hn := h1.n16
  unfold oCmp at hQ
  refine k_noA h1 (fun i hi ei => k_noB h1 (fun j hj ej => ?_) (fun z => ?_)) (fun z => ?_)
  · subst ei ej
    rw [if_pos ⟨isR_nI (by omega) hi, isR_nI (by omega) hj⟩, ix_nI (by omega), ix_nI (by omega), ← h1.rg hi, ← h1.rg hj] at hQ
    obtain ⟨⟨e0, e1, e2⟩, ⟨g0, g1, g2⟩, -⟩ := id h1.ki.1
    rw [e2, g2, cl (by omega), cl (by omega), (h1.ki.2 i (by omega)).1.2.1, (h1.ki.2 j (by omega)).1.2.1]
    have vi := vp_in_nI (n := i) (N := 40) (by omega) (by decide)
    have vj := vp_in_nI (n := j) (N := 40) (by omega) (by decide)
    refine ⟨vi, vj, fun q => ⟨vi, ?_⟩, fun q => ⟨vi, vj, ?_⟩⟩
    · refine k_sizes h1.ki (by omega) (by omega) ?_
      have hq := iS_inj q
      have e : iS (f i) * cmpN (f i).natAbs (f j).natAbs = (if f i < f j then -1 else if f i = f j then 0 else 1) := by
        unfold cmpN
        rcases iS_cases (f i) with ⟨hx, ex⟩ | ⟨hx, ex⟩ | ⟨hx, ex⟩ <;> rw [ex]
        · by_cases r : f i < f j
          · rw [if_pos r, if_pos (by omega)]; decide
          · rw [if_neg r, if_neg (by omega)]
            by_cases t : f i = f j
            · rw [if_pos t, if_pos (by omega)]; decide
            · rw [if_neg t, if_neg (by omega)]; decide
        · rw [if_neg (by omega), if_pos (by omega), if_neg (by omega), if_pos (by omega)]; decide
        · by_cases r : f i < f j
          · rw [if_pos r, if_neg (by omega), if_neg (by omega)]; decide
          · rw [if_neg r]
            by_cases t : f i = f j
            · rw [if_pos t, if_neg (by omega), if_pos (by omega)]; decide
            · rw [if_neg t, if_pos (by omega)]; decide
      rw [e]
      exact h1.same hQ
    · rcases iS_cases (f i) with ⟨hx, ex⟩ | ⟨hx, ex⟩ | ⟨hx, ex⟩ <;> rcases iS_cases (f j) with ⟨hy, ey⟩ | ⟨hy, ey⟩ | ⟨hy, ey⟩ <;> rw [ex, ey] at q ⊢
      · exact absurd rfl q
      · rw [if_pos (by omega)] at hQ; exact ⟨fun _ => h1.same hQ, fun r => absurd (by decide) r⟩
      · rw [if_pos (by omega)] at hQ; exact ⟨fun _ => h1.same hQ, fun r => absurd (by decide) r⟩
      · rw [if_neg (by omega), if_neg (by omega)] at hQ; exact ⟨fun r => absurd r (by decide), fun _ => h1.same hQ⟩
      · exact absurd rfl q
      · rw [if_pos (by omega)] at hQ; exact ⟨fun _ => h1.same hQ, fun r => absurd (by decide) r⟩
      · rw [if_neg (by omega), if_neg (by omega)] at hQ; exact ⟨fun r => absurd r (by decide), fun _ => h1.same hQ⟩
      · rw [if_neg (by omega), if_neg (by omega)] at hQ; exact ⟨fun r => absurd r (by decide), fun _ => h1.same hQ⟩
      · exact absurd rfl q
  · rw [if_neg (fun q => z q.2)] at hQ
    exact h1.same hQ
  · rw [if_neg (fun q => z q.1)] at hQ
    exact h1.same hQ
theorem k_pu_loop {G : SH} {M0 : MS} {L : LV} {n w r : Nat} {l s3 : Int32} {s : ST} {g : Nat → Int} (hr : r < n) (hs3 : s3 = iS (g r)) {Q : Int32 → MS → Prop} (hQ : OQ G M0 L n w (oPut w s r (sg ((g r).natAbs * BB + u32 l) (decide (g r < 0)))) Q) : ∀ (t k : Nat) (M : MS), k + t = nl HB (g r).natAbs → nl HB (g r).natAbs ≤ 80 → KG L M0 M → KR G M L n w s → mI M (kO L.1) 5 = 0 → (∀ i, i < n → g i = s.1 i) → (∀ i, i < n → nl BB (s.1 i).natAbs ≤ w) → KX G M L.1 19 g → (∀ j, j < k → hd M L.1 19 (j + 2) = hl (g r).natAbs j) → w_X11_pushLimb_33 G Q (t + 1) (kO L.1) (nI r) l s3 (nI (nl HB (g r).natAbs)) (nI k) M
  | 0, k, M, hk, h80, hG, hR, ht, hg, hb, hX, hj => by
    obtain ⟨⟨e0, e1, e2⟩, ⟨g0, g1, g2⟩, n1, n2, n3⟩ := id hX.1
    have hl16 := hR.1.2.1
    rw [w_X11_pushLimb_33, nI_leI (by omega) (by omega), e0, g0]
    refine ⟨fun _ => ⟨vp_in_nI (n := 4940) (by decide) (by decide), fun N eN => ?_⟩, fun q => absurd (by omega) q⟩
    have x1 : KX G N L.1 19 g := by rw [eN]; exact hX.wHx (k := 0) (by decide) _
    have f1 : KF L.1 M N := by rw [eN]; exact KF.wH _
    rw [x1.1.1.1, g0]
    refine ⟨vp_in_nI (n := 4941) (by decide) (by decide), fun P eP => ?_⟩
    have x2 : KX G P L.1 19 g := by rw [eP]; exact x1.wHx (k := 1) (by decide) _
    have f2 : KF L.1 N P := by rw [eP]; exact KF.wH _
    have ul := u32_lt l
    have d0 : hd P L.1 19 0 = u32 l % 65536 := by
      rw [eP]
      show hd (wA N (kH L.1) (upd (mA N (kH L.1)) (260 * 19 + 1) _)) L.1 19 0 = _
      rw [hd_wH (by decide), eN]
      show hd (wA M (kH L.1) (upd (mA M (kH L.1)) (260 * 19 + 0) _)) L.1 19 0 = _
      rw [hd_wHs, ← nI_u32 l, nx_mod, u32_nI_lt (by omega), u32_nI_lt (by omega)]
    have d1 : hd P L.1 19 1 = u32 l / 65536 := by
      rw [eP]
      show hd (wA N (kH L.1) (upd (mA N (kH L.1)) (260 * 19 + 1) _)) L.1 19 1 = _
      rw [hd_wHs]
      have e := us (16 : Int32) 16 (by decide) (n := u32 l) (by omega)
      rw [nI_u32] at e
      rw [e, u32_nI_lt (by omega)]
    have d2 : ∀ j, j < nl HB (g r).natAbs → hd P L.1 19 (j + 2) = hl (g r).natAbs j := fun j h => by
      rw [eP]
      show hd (wA N (kH L.1) (upd (mA N (kH L.1)) (260 * 19 + 1) _)) L.1 19 (j + 2) = _
      rw [hd_wH (by omega), eN]
      show hd (wA M (kH L.1) (upd (mA M (kH L.1)) (260 * 19 + 0) _)) L.1 19 (j + 2) = _
      rw [hd_wH (by omega)]
      exact hj j (by omega)
    generalize hz : sg ((g r).natAbs * BB + u32 l) (decide (g r < 0)) = z at hQ
    have zn : z.natAbs = (g r).natAbs * BB + u32 l := by rw [← hz, sg_abs]
    have hval : vl HB (hd P L.1 19) (nl HB (g r).natAbs + 2) = z.natAbs := by
      have e5 : vl HB (fun i => hd P L.1 19 (2 + i)) (nl HB (g r).natAbs) = (g r).natAbs := by
        rw [vl_congr (g := hl (g r).natAbs) (fun j h => by show hd P L.1 19 (2 + j) = _; rw [Nat.add_comm]; exact d2 j h), vl_hl, modH_all (Nat.le_refl _)]
      rw [Nat.add_comm _ 2, vl_low, e5, vl_s, vl_s, vl_0, d0, d1, Nat.pow_zero, Nat.pow_one, zn]
      show 0 + u32 l % 65536 * 1 + u32 l / 65536 * 65536 + 65536 ^ 2 * (g r).natAbs = (g r).natAbs * 4294967296 + u32 l
      omega
    have hlt : ∀ k, k < nl HB (g r).natAbs + 2 → hd P L.1 19 k < HB := fun k h => by
      show _ < 65536
      rcases Nat.lt_or_ge k 2 with q | q
      · rcases (show k = 0 ∨ k = 1 by omega) with e | e
        · rw [e, d0]; omega
        · rw [e, d1]; omega
      · obtain ⟨j, rfl⟩ : ∃ j, k = j + 2 := ⟨k - 2, by omega⟩
        rw [d2 j (by omega)]; exact hl_lt _ _
    have hnz : nl HB z.natAbs ≤ 259 := by
      have := (nl_le HB1 (nl HB (g r).natAbs + 2) z.natAbs).mpr (by rw [← hval]; exact vl_lt hlt)
      omega
    have fin : ∀ (c : Int32), (z ≠ 0 → c = iS z) → w_X11_trim G (kO L.1) (19 : Int32) (nI (nl HB (g r).natAbs) + 2) c P (fun (M11 : MS) => (w_X11_put G (kO L.1) (nI r) (19 : Int32) M11 (fun (r12 : Int32) (M12 : MS) => Q r12 M12))) := by
      intro c hc
      refine k_trim (d := 19) z x2 (by decide) (c := nl HB (g r).natAbs + 2) (by omega) (nI_add _ 2) hnz hval hlt hc (fun S f3 h3 => ?_)
      have fr := (f1.tr f2).tr f3
      exact k_put (g := setK g 19 z) ⟨hG.tr fr.kg, fr.kr hR, by rw [fr.2.2.1]; exact ht, h3, fun i hi => by rw [setK_n _ _ (by omega)]; exact hg i hi, hb⟩ hr (a := 19) (by decide) rfl (setK_s _ _ _) hQ
    rw [hs3, iS_eq0]
    refine ⟨fun q => fin _ (fun hz0 => ?_), fun q => fin 1 (fun hz0 => ?_)⟩
    · rw [← hz] at hz0 ⊢
      unfold sg at hz0 ⊢
      by_cases c : g r < 0
      · rw [decide_eq_true c, if_pos rfl] at hz0 ⊢
        rw [iS_neg c, iS_neg (by omega)]
      · rw [decide_eq_false c, if_neg (by decide)] at hz0 ⊢
        rw [iS_pos (by omega), iS_pos (by omega)]
    · rw [← hz] at hz0 ⊢
      unfold sg at hz0 ⊢
      rw [decide_eq_false (by omega), if_neg (by decide)] at hz0 ⊢
      rw [iS_pos (by omega)]
  | t + 1, k, M, hk, h80, hG, hR, ht, hg, hb, hX, hj => by
    obtain ⟨⟨e0, e1, e2⟩, ⟨g0, g1, g2⟩, n1, n2, n3⟩ := id hX.1
    have hl16 := hR.1.2.1
    have sr := hX.2 r (by omega) (by omega)
    have e4 : (4940 : Int32) + nI k + 2 = nI (260 * 19 + (k + 2)) := by
      rw [show (4940 : Int32) = nI 4940 from rfl, nI_add, show (2 : Int32) = nI 2 from rfl, nI_add]
      congr 1
    have ed := mA_hd (sr.hl (i := k) (by omega))
    rw [w_X11_pushLimb_33, nI_leI (by omega) (by omega), e0, g0, ixH, e4, cl (by omega), cl (by omega), ed]
    refine ⟨fun q => absurd q (by omega), fun _ => ⟨vp_in_nI (by omega) (by decide), vp_in_nI (by omega) (by decide), fun N eN x ex => ?_⟩⟩
    have x1 : KX G N L.1 19 g := by rw [eN]; exact hX.wHx (by omega) _
    have f1 : KF L.1 M N := by rw [eN]; exact KF.wH _
    have lh := hl_lt (g r).natAbs k
    rw [ex, nI_1]
    refine k_pu_loop hr hs3 hQ t (k + 1) N (by omega) h80 (hG.tr f1.kg) (f1.kr hR) (by rw [f1.2.2.1]; exact ht) hg hb x1 (fun j h => ?_)
    by_cases e : j = k
    · rw [e, eN, hd_wHs, u32_nI_lt (by omega)]
    · rw [eN, hd_wH (by omega)]; exact hj j (by omega)
theorem k_push {G : SH} {M : MS} {L : LV} {n w : Nat} {s : ST} {r l : Int32} (h : KJ G M L n w s) {Q : Int32 → MS → Prop} (hQ : OQ G M L n w (oPush n w s r l) Q) : w_X11_pushLimb G (kO L.1) r l M Q := by
  unfold w_X11_pushLimb
  intro M1 e1
  obtain ⟨f, h1⟩ := h.go e1
  have hn := h1.n16
  unfold oPush at hQ
  refine k_noB h1 (fun i hi ei => ?_) (fun z => ?_)
  · subst ei
    rw [if_pos (isR_nI (by omega) hi), ix_nI (by omega), ← h1.rg hi] at hQ
    obtain ⟨⟨e0, e1, e2⟩, ⟨g0, g1, g2⟩, -⟩ := id h1.ki.1
    rw [e1, g1, e2, g2, cl (by omega), (h1.ki.2 i (by omega)).1.2.1, (h1.ki.2 i (by omega)).1.1]
    refine ⟨vp_in_nI (by omega) (by decide), fun x ex => ⟨vp_in_nI (by omega) (by decide), fun y ey => ⟨nl HB (f i).natAbs + 1, ?_⟩⟩⟩
    rw [ey, ← nI_0]
    exact k_pu_loop hi ex hQ _ 0 M1 (by omega) (h1.nh hi) h1.1 h1.2.1 h1.2.2.1 h1.2.2.2.2.1 h1.2.2.2.2.2 (h1.ki.x 19) (fun j hj => absurd hj (Nat.not_lt_zero _))
  · rw [if_neg z] at hQ
    exact h1.same hQ
theorem KE.set2 {G : SH} {M0 M N : MS} {L : LV} {n w d e : Nat} {z y : Int} {s : ST} {g g' : Nat → Int} {c : Int32} (h : KE G M0 M L n w s g) (f : KF L.1 M N) (hI : KI G N L.1 g') (hd : d < n) (he : e < n) (hge : g' e = y) (hgd : d ≠ e → g' d = z) (hg : ∀ i, i < 16 → i ≠ d → i ≠ e → g' i = g i) (hz : nl BB z.natAbs ≤ w) (hy : nl BB y.natAbs ≤ w) {Q : Int32 → MS → Prop} (hQ : OQ G M0 L n w (setR (setR s d z) e y, c) Q) : Q c N := by
  obtain ⟨h1, h2, h3, h4, h5, h6⟩ := h
  have hn := h2.1.2.1
  refine hQ N (h1.tr f.kg) ⟨f.kr h2, ⟨g', hI, fun i hi => ?_⟩, fun i hi => ?_⟩ (by rw [f.2.2.1]; exact h3)
  · show g' i = if i = e then y else if i = d then z else s.1 i
    by_cases q : i = e
    · rw [if_pos q, q]; exact hge
    · rw [if_neg q]
      by_cases r : i = d
      · rw [if_pos r, r]; exact hgd (fun k => q (by omega))
      · rw [if_neg r, hg i (by omega) r q]; exact h5 i hi
  · show nl BB (if i = e then y else if i = d then z else s.1 i).natAbs ≤ w
    by_cases q : i = e
    · rw [if_pos q]; exact hy
    · rw [if_neg q]
      by_cases r : i = d
      · rw [if_pos r]; exact hz
      · rw [if_neg r]; exact h6 i hi
theorem k_div {G : SH} {M : MS} {L : LV} {n w : Nat} {s : ST} {q m a b : Int32} (h : KJ G M L n w s) {Q : Int32 → MS → Prop} (hQ : OQ G M L n w (oDiv n w s q m a b) Q) : w_X11_divide G (kO L.1) q m a b M Q := by
  unfold w_X11_divide
  intro M1 e1
  obtain ⟨f, h1⟩ := h.go e1
  have hn := h1.n16
  unfold oDiv at hQ
  have no : ¬ ((isR n q ∧ isR n m) ∧ (isR n a ∧ isR n b) ∧ q ≠ m) → Q 3 M1 := fun z => by
    rw [if_neg z] at hQ
    exact h1.same hQ
  refine k_noA h1 (fun i hi ei => k_noA h1 (fun j hj ej => k_noA h1 (fun k hk ek => k_noA h1 (fun l hl el => ⟨fun hne => ?_, fun he => no (fun z => z.2.2 he)⟩) (fun z => no (fun r => z r.2.1.2))) (fun z => no (fun r => z r.2.1.1))) (fun z => no (fun r => z r.1.2))) (fun z => no (fun r => z r.1.1))
  subst ei ej ek el
  rw [if_pos ⟨⟨isR_nI (by omega) hi, isR_nI (by omega) hj⟩, ⟨isR_nI (by omega) hk, isR_nI (by omega) hl⟩, hne⟩, ix_nI (by omega), ix_nI (by omega), ix_nI (by omega), ix_nI (by omega), ← h1.rg hk, ← h1.rg hl] at hQ
  have hij : i ≠ j := fun e => hne (by rw [e])
  obtain ⟨⟨e0, e1, e2⟩, ⟨g0, g1, g2⟩, -⟩ := id h1.ki.1
  rw [e2, g2, cl (by omega), (h1.ki.2 l (by omega)).1.2.1, iS_eq0]
  refine ⟨vp_in_nI (by omega) (by decide), fun hb => ?_, fun hb => ?_⟩
  · rw [if_neg hb] at hQ
    have nk := h1.nh hk
    have nL := h1.nh hl
    refine k_divided (q := 17) (m := 18) h1.ki (by decide) (by decide) (by omega) (by omega) (by decide) (by omega) (by omega) (by decide) (by decide) (by omega) hb (by omega) (fun M7 g f7 h7 q1 q2 q3 => ?_)
    have h8 := h1.up f7 h7 (fun i hi => q3 i (by omega) (by omega) (by omega))
    have hmod : nl BB ((modN (f k).natAbs (decide (f k < 0)) (f l).natAbs : Nat) : Int).natAbs ≤ w := by
      rw [Int.natAbs_natCast]
      refine Nat.le_trans (nl_mono BB1 (Nat.le_of_lt (modN_lt (by omega)))) ?_
      rw [h1.rg hl]; exact h1.2.2.2.2.2 l hl
    have k17 : nl BB (g 17).natAbs ≤ w ↔ nl BB (DQ (f k) (f l)) ≤ w := by rw [q1, sg_abs]
    refine k_fits h8 (a := 17) (by decide) (fun r => ⟨fun _ => ?_, fun z => absurd z (by decide)⟩) (fun r => ⟨fun z => absurd rfl z, fun _ => ?_⟩)
    · rw [if_pos (k17.mp r)] at hQ
      refine k_copy h7 (a := 17) (by omega) (by decide) (fun M9 f9 h9 => ?_)
      refine k_copy h9 (a := 18) (by omega) (by decide) (fun M10 f10 h10 => ?_)
      refine h8.set2 (f9.tr f10) h10 hi hj (y := ((modN (f k).natAbs (decide (f k < 0)) (f l).natAbs : Nat) : Int)) (z := sg (DQ (f k) (f l)) (decide (f k < 0) != decide (f l < 0))) ?_ (fun e => ?_) (fun x hx e1 e2 => ?_) ?_ hmod hQ
      · rw [setK_s, setK_n _ _ (by omega)]; exact q2
      · rw [setK_n _ _ e, setK_s]; exact q1
      · rw [setK_n _ _ e2, setK_n _ _ e1]
      · rw [← q1]; exact r
    · rw [if_neg (fun z => r (k17.mpr z))] at hQ
      exact h8.same hQ
  · rw [if_pos hb] at hQ
    exact h1.same hQ
