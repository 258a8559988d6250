/-! factors, bezout, inverse, power of the reference -/
theorem sg_step (p q z : Nat) (o : Bool) : sg p o + -((q : Int) * sg z (!o)) = sg (p + q * z) o := by
  unfold sg
  cases o
  · simp only [Bool.not_false, if_true, Bool.false_eq_true, if_false, Int.natCast_add, Int.natCast_mul, Int.mul_neg]
    omega
  · simp only [Bool.not_true, if_true, Bool.false_eq_true, if_false, Int.natCast_add, Int.natCast_mul]
    omega
theorem sg_bne (n : Nat) (o : Bool) (c : Prop) [Decidable c] : (if c then -(sg n o) else sg n o) = sg n (o != decide c) := by
  by_cases h : c
  · rw [if_pos h, decide_eq_true h]
    unfold sg
    cases o <;> simp
  · rw [if_neg h, decide_eq_false h]
    cases o <;> rfl
theorem iS_ng (z : Int) : -(iS z) = iS (-z) := by
  have := iS_mul z (-1)
  rw [Int.mul_neg, Int.mul_one] at this
  rw [← this]
  show -(iS z) = iS z * -1
  rw [Int32.mul_neg, Int32.mul_one]
theorem k_f181 {G : SH} {M : MS} {K : KV} {b : Nat} {f : Nat → Int} (hI : KI G M K f) (hb : b < 40) {Q : MS → Prop} (hQ : ∀ N, KF K M N → KI G N K (setK f 23 (if f b < 0 then -(f 23) else f 23)) → Q N) : w_X11_factors_181 G Q (kO K) (nI b) M := by
  unfold w_X11_factors_181
  obtain ⟨⟨e0, e1, e2⟩, ⟨g0, g1, g2⟩, -⟩ := id hI.1
  have v23 := vp_in_nI (n := 23) (N := 40) (by decide) (by decide)
  rw [e2, g2, cl (by omega), (hI.2 b hb).1.2.1, iS_ge0, show (23 : Int32).toNatClampNeg = 23 from rfl, (hI.2 23 (by decide)).1.2.1, iS_ng]
  refine ⟨vp_in_nI hb (by decide), fun q => ?_, fun q => ⟨v23, v23, fun N eN => ?_⟩⟩
  · rw [if_neg (by omega)] at hQ
    exact hQ M KF.rf (KX_close (hI.x 23) (hI.2 23 (by decide)))
  · rw [if_pos (by omega)] at hQ
    have h1 := hI.sg (d := 23) (by decide) (z := -(f 23)) (i := iS (-(f 23))) (by rw [Int.natAbs_neg]) rfl
    rw [← eN] at h1
    exact hQ N (by rw [eN]; exact KF.wS _) h1
theorem k_fac_loop {G : SH} {K : KV} {a b A B : Nat} {va vb : Int} {T : Nat × Nat × Nat × Bool} (ha : a < 16 ∨ a = 26 ∨ a = 28) (hb : b < 16 ∨ b = 26 ∨ b = 28) (nA : nl HB A ≤ 80) (nB : nl HB B ≤ 80) {Q : MS → Prop} : ∀ (n : Nat) (M : MS) (f : Nat → Int) (u v px pz py pw : Nat) (odd : Bool), KI G M K f → f a = va → f b = vb → f 20 = (u : Int) → f 21 = (v : Int) → f 22 = sg px odd → f 24 = sg pz (!odd) → f 23 = sg py (!odd) → f 30 = sg pw odd → nl HB u ≤ 80 → nl HB v ≤ 80 → px ≤ B → pz ≤ B → u * pz + v * px ≤ B → py ≤ A → pw ≤ A → u * pw + v * py ≤ A → FAC u v px pz py pw odd = T → EM u v < n → (∀ (N : MS) (g : Nat → Int), KF K M N → KI G N K g → g 20 = (T.1 : Int) → g 22 = sg T.2.1 (T.2.2.2 != decide (va < 0)) → g 23 = sg T.2.2.1 (T.2.2.2 == decide (vb < 0)) → (∀ r, r < 16 ∨ r = 26 ∨ r = 28 → g r = f r) → Q N) → w_X11_factors_42 G Q n (kO K) (nI a) (nI b) M
  | 0, M, f, u, v, px, pz, py, pw, odd, _, _, _, _, _, _, _, _, _, _, _, _, _, _, _, _, _, _, hn, _ => absurd hn (Nat.not_lt_zero _)
  | n + 1, M, f, u, v, px, pz, py, pw, odd, hI, fa, fb, f20, f21, f22, f24, f23, f30, nu, nv, bx, bz, iB, by', bw, iA, hT, hn, hQ => by
    obtain ⟨⟨e0, e1, e2⟩, ⟨g0, g1, g2⟩, -⟩ := id hI.1
    have s21 := (hI.2 21 (by decide)).1
    rw [f21, Int.natAbs_natCast] at s21
    have v21 := vp_in_nI (n := 21) (N := 40) (by decide) (by decide)
    have v22 := vp_in_nI (n := 22) (N := 40) (by decide) (by decide)
    rw [w_X11_factors_42, e1, g1, e2, g2, show (21 : Int32).toNatClampNeg = 21 from rfl, s21.1, nI_le0 (by omega), nlH0, cl (c := a) (by omega), (hI.2 a (by omega)).1.2.1, iS_ge0, show (22 : Int32).toNatClampNeg = 22 from rfl, (hI.2 22 (by decide)).1.2.1, iS_ng]
    refine ⟨v21, fun hz => ⟨vp_in_nI (by omega) (by decide), ?_⟩, fun hz => ?_⟩
    · subst hz
      rw [FAC_0] at hT
      subst hT
      have fin : ∀ (N : MS) (z : Int), KF K M N → KI G N K (setK f 22 z) → z = (if va < 0 then -(f 22) else f 22) → w_X11_factors_181 G Q (kO K) (nI b) N := by
        intro N z f1 h1 ez
        refine k_f181 h1 (by omega) (fun P f2 h2 => ?_)
        have c1 : setK f 22 z b = vb := by rw [setK_n _ _ (by omega)]; exact fb
        have c2 : setK f 22 z 23 = sg py (!odd) := f23
        rw [c1, c2, sg_bne] at h2
        refine hQ P _ (f1.tr f2) h2 f20 ?_ ?_ (fun r hr => by rw [setK_n _ _ (by omega), setK_n _ _ (by omega)])
        · show z = _
          rw [ez, f22, sg_bne]
        · show sg py ((!odd) != decide (vb < 0)) = sg py (odd == decide (vb < 0))
          cases odd <;> cases decide (vb < 0) <;> rfl
      rw [fa]
      refine ⟨fun q => fin M (f 22) KF.rf (KX_close (hI.x 22) (hI.2 22 (by decide))) (by rw [if_neg (by omega)]), fun q => ⟨v22, v22, fun N eN => ?_⟩⟩
      have h1 := hI.sg (d := 22) (by decide) (z := -(f 22)) (i := iS (-(f 22))) (by rw [Int.natAbs_neg]) rfl
      rw [← eN] at h1
      exact fin N (-(f 22)) (by rw [eN]; exact KF.wS _) h1 (by rw [if_pos (by omega)])
    · have hv0 : 0 < v := by omega
      have hEM := EM_lt (u := u) hv0
      rw [FAC_s (by omega)] at hT
      have jB := fac_inv (r := u) (s := v) (x := px) (z := pz)
      have jA := fac_inv (r := u) (s := v) (x := py) (z := pw)
      have zB : px + u / v * pz ≤ B := le_mul_of hv0 (by omega)
      have zA : py + u / v * pw ≤ A := le_mul_of hv0 (by omega)
      have nq : nl HB (u / v) ≤ 80 := Nat.le_trans (nl_mono HB1 (Nat.div_le_self _ _)) nu
      have small : ∀ {x Y : Nat}, x ≤ Y → nl HB Y ≤ 80 → nl HB x ≤ 80 := fun h1 h2 => Nat.le_trans (nl_mono HB1 h1) h2
      refine k_euc hI f20 f21 (by omega) (by omega) (fun N g f1 h1 q1 q2 q3 q4 => ?_)
      have g22 : g 22 = sg px odd := (q4 22 (by decide) (by decide) (by decide) (by decide)).trans f22
      have g24 : g 24 = sg pz (!odd) := (q4 24 (by decide) (by decide) (by decide) (by decide)).trans f24
      have g23 : g 23 = sg py (!odd) := (q4 23 (by decide) (by decide) (by decide) (by decide)).trans f23
      have g30 : g 30 = sg pw odd := (q4 30 (by decide) (by decide) (by decide) (by decide)).trans f30
      have nz := small bz nB
      have nx := small bx nB
      have nw := small bw nA
      have ny := small by' nA
      have nqz := small (show u / v * pz ≤ B by omega) nB
      have nqw := small (show u / v * pw ≤ A by omega) nA
      refine k_product (d := 25) (a := 17) (b := 24) h1 (by decide) (by decide) (by decide) (by decide) (by decide) (by rw [q1, g24, sg_abs, Int.natAbs_natCast]; omega) (fun N1 f2 h2 => ?_)
      rw [q1, g24] at h2
      refine k_sum (d := 19) (a := 22) (b := 25) (-(((u / v : Nat) : Int) * sg pz (!odd))) h2 (by decide) (by decide) (by decide) (Or.inr ⟨rfl, rfl⟩) (by show nl HB (g 22).natAbs ≤ 258; rw [g22, sg_abs]; omega) (by show nl HB (((u / v : Nat) : Int) * sg pz (!odd)).natAbs ≤ 258; rw [Int.natAbs_mul, sg_abs, Int.natAbs_natCast]; omega) (fun N2 f3 h3 => ?_)
      refine k_copy (d := 22) (a := 24) h3 (by decide) (by decide) (fun N3 f4 h4 => ?_)
      refine k_copy (d := 24) (a := 19) h4 (by decide) (by decide) (fun N4 f5 h5 => ?_)
      generalize hg5 : setK (setK (setK (setK g 25 (((u / v : Nat) : Int) * sg pz (!odd))) 19 (setK g 25 (((u / v : Nat) : Int) * sg pz (!odd)) 22 + -(((u / v : Nat) : Int) * sg pz (!odd)))) 22 (setK (setK g 25 (((u / v : Nat) : Int) * sg pz (!odd))) 19 (setK g 25 (((u / v : Nat) : Int) * sg pz (!odd)) 22 + -(((u / v : Nat) : Int) * sg pz (!odd))) 24)) 24 (setK (setK (setK g 25 (((u / v : Nat) : Int) * sg pz (!odd))) 19 (setK g 25 (((u / v : Nat) : Int) * sg pz (!odd)) 22 + -(((u / v : Nat) : Int) * sg pz (!odd)))) 22 (setK (setK g 25 (((u / v : Nat) : Int) * sg pz (!odd))) 19 (setK g 25 (((u / v : Nat) : Int) * sg pz (!odd)) 22 + -(((u / v : Nat) : Int) * sg pz (!odd))) 24) 19) = g5 at h5
      have a22 : g5 22 = sg pz (!odd) := by rw [← hg5]; exact g24
      have a24 : g5 24 = sg (px + u / v * pz) odd := by rw [← hg5, ← sg_step, ← g22]; rfl
      have a17 : g5 17 = ((u / v : Nat) : Int) := by rw [← hg5]; exact q1
      have a20 : g5 20 = (v : Int) := by rw [← hg5]; exact q2
      have a21 : g5 21 = ((u % v : Nat) : Int) := by rw [← hg5]; exact q3
      have a23 : g5 23 = sg py (!odd) := by rw [← hg5]; exact g23
      have a30 : g5 30 = sg pw odd := by rw [← hg5]; exact g30
      have ar : ∀ r, r < 16 ∨ r = 26 ∨ r = 28 → g5 r = f r := fun r hr => by rw [← hg5, setK_n _ _ (by omega), setK_n _ _ (by omega), setK_n _ _ (by omega), setK_n _ _ (by omega)]; exact q4 r (by omega) (by omega) (by omega) (by omega)
      refine k_product (d := 25) (a := 17) (b := 30) h5 (by decide) (by decide) (by decide) (by decide) (by decide) (by rw [a17, a30, sg_abs, Int.natAbs_natCast]; omega) (fun N5 f6 h6 => ?_)
      rw [a17, a30] at h6
      refine k_sum (d := 19) (a := 23) (b := 25) (-(((u / v : Nat) : Int) * sg pw odd)) h6 (by decide) (by decide) (by decide) (Or.inr ⟨rfl, rfl⟩) (by show nl HB (g5 23).natAbs ≤ 258; rw [a23, sg_abs]; omega) (by show nl HB (((u / v : Nat) : Int) * sg pw odd).natAbs ≤ 258; rw [Int.natAbs_mul, sg_abs, Int.natAbs_natCast]; omega) (fun N6 f7 h7 => ?_)
      refine k_copy (d := 23) (a := 30) h7 (by decide) (by decide) (fun N7 f8 h8 => ?_)
      refine k_copy (d := 30) (a := 19) h8 (by decide) (by decide) (fun N8 f9 h9 => ?_)
      have fr := (((((((f1.tr f2).tr f3).tr f4).tr f5).tr f6).tr f7).tr f8).tr f9
      have br : ∀ (x y z t : Int) (r : Nat), r < 16 ∨ r = 26 ∨ r = 28 → setK (setK (setK (setK g5 25 x) 19 y) 23 z) 30 t r = f r := fun x y z t r hr => by rw [setK_n _ _ (by omega), setK_n _ _ (by omega), setK_n _ _ (by omega), setK_n _ _ (by omega)]; exact ar r hr
      have b30 : ∀ o : Bool, o = !odd → sg py o + -(((u / v : Nat) : Int) * sg pw odd) = sg (py + u / v * pw) o := fun o ho => by
        have e : odd = !o := by rw [ho]; cases odd <;> rfl
        rw [e]
        exact sg_step _ _ _ _
      refine k_fac_loop ha hb nA nB n N8 _ v (u % v) pz (px + u / v * pz) pw (py + u / v * pw) (!odd) h9 ((br _ _ _ _ a ha).trans fa) ((br _ _ _ _ b hb).trans fb) a20 a21 a22 (by rw [Bool.not_not]; exact a24) (by rw [Bool.not_not]; exact a30) ?_ nv (small (Nat.le_of_lt (Nat.mod_lt _ hv0)) nv) bz zB (by omega) bw zA (by omega) hT (by omega) (fun P g' f10 h10 r1 r2 r3 r4 => hQ P g' (fr.tr f10) h10 r1 r2 r3 (fun r hr => (r4 r hr).trans (br _ _ _ _ r hr)))
      show g5 23 + _ = _
      rw [a23]
      exact b30 _ rfl
theorem k_factors {G : SH} {M : MS} {K : KV} {a b : Nat} {f : Nat → Int} (hI : KI G M K f) (ha : a < 16 ∨ a = 26 ∨ a = 28) (hb : b < 16 ∨ b = 26 ∨ b = 28) (na : nl HB (f a).natAbs ≤ 80) (nb : nl HB (f b).natAbs ≤ 80) {Q : MS → Prop} (hQ : ∀ (N : MS) (g : Nat → Int), KF K M N → KI G N K g → g 20 = ((FA (f a).natAbs (f b).natAbs).1 : Int) → g 22 = sg (FA (f a).natAbs (f b).natAbs).2.1 ((FA (f a).natAbs (f b).natAbs).2.2.2 != decide (f a < 0)) → g 23 = sg (FA (f a).natAbs (f b).natAbs).2.2.1 ((FA (f a).natAbs (f b).natAbs).2.2.2 == decide (f b < 0)) → (∀ r, r < 16 ∨ r = 26 ∨ r = 28 → g r = f r) → Q N) : w_X11_factors G (kO K) (nI a) (nI b) M Q := by
  unfold w_X11_factors
  refine k_sized (d := 20) hI (by decide) (by omega) (fun N1 f1 h1 => ?_)
  refine k_sized (d := 21) h1 (by decide) (by omega) (fun N2 f2 h2 => ?_)
  have e2 : setK f 20 ((f a).natAbs : Int) b = f b := setK_n _ _ (by omega)
  rw [e2] at h2
  refine k_small h2 (d := 22) (by decide) (c := 1) (by decide) rfl (fun N3 f3 h3 => ?_)
  refine k_small h3 (d := 24) (by decide) (c := 0) (by decide) rfl (fun N4 f4 h4 => ?_)
  refine k_small h4 (d := 23) (by decide) (c := 0) (by decide) rfl (fun N5 f5 h5 => ?_)
  refine k_small h5 (d := 30) (by decide) (c := 1) (by decide) rfl (fun N6 f6 h6 => ?_)
  have br : ∀ (x y : Int) (r : Nat), r < 16 ∨ r = 26 ∨ r = 28 → setK (setK (setK (setK (setK (setK f 20 x) 21 y) 22 ((1 : Nat) : Int)) 24 ((0 : Nat) : Int)) 23 ((0 : Nat) : Int)) 30 ((1 : Nat) : Int) r = f r := fun x y r hr => by rw [setK_n _ _ (by omega), setK_n _ _ (by omega), setK_n _ _ (by omega), setK_n _ _ (by omega), setK_n _ _ (by omega), setK_n _ _ (by omega)]
  have mx : ∀ {x : Nat}, nl HB x ≤ 80 → nl HB (max 1 x) ≤ 80 := fun {x} h => by
    rcases Nat.le_total 1 x with q | q
    · rw [Nat.max_eq_right q]; exact h
    · rw [Nat.max_eq_left q]
      exact Nat.le_trans ((nl_le HB1 1 1).mpr (by decide)) (by decide)
  refine ⟨_, k_fac_loop (A := max 1 (f a).natAbs) (B := max 1 (f b).natAbs) (va := f a) (vb := f b) ha hb (mx na) (mx nb) _ N6 _ (f a).natAbs (f b).natAbs 1 0 0 1 false h6 (br _ _ a ha) (br _ _ b hb) rfl rfl rfl rfl rfl rfl na nb (by omega) (by omega) (by omega) (by omega) (by omega) (by omega) rfl (Nat.lt_succ_self _) (fun N g f7 h7 r1 r2 r3 r4 => ?_)⟩
  exact hQ N g ((((((f1.tr f2).tr f3).tr f4).tr f5).tr f6).tr f7) h7 r1 r2 r3 (fun r hr => (r4 r hr).trans (br _ _ r hr))
