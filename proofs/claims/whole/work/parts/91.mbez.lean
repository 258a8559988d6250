/-! bezout, inverse, power of the reference -/
theorem KE.set3 {G : SH} {M0 M N : MS} {L : LV} {n w d e t : Nat} {x y z : Int} {s : ST} {g g' : Nat → Int} {c : Int32} (h : KE G M0 M L n w s g) (f : KF L.1 M N) (hI : KI G N L.1 g') (hd : d < n) (he : e < n) (ht : t < n) (hgt : g' t = z) (hge : e ≠ t → g' e = y) (hgd : d ≠ e → d ≠ t → g' d = x) (hg : ∀ i, i < 16 → i ≠ d → i ≠ e → i ≠ t → g' i = g i) (hx : nl BB x.natAbs ≤ w) (hy : nl BB y.natAbs ≤ w) (hz : nl BB z.natAbs ≤ w) {Q : Int32 → MS → Prop} (hQ : OQ G M0 L n w (setR (setR (setR s d x) e y) t z, c) Q) : Q c N := by
  obtain ⟨h1, h2, h3, h4, h5, h6⟩ := h
  have hn := h2.1.2.1
  refine hQ N (h1.tr f.kg) ⟨f.kr h2, ⟨g', hI, fun i hi => ?_⟩, fun i hi => ?_⟩ (by rw [f.2.2.1]; exact h3)
  · show g' i = if i = t then z else if i = e then y else if i = d then x else s.1 i
    by_cases p : i = t
    · rw [if_pos p, p]; exact hgt
    · rw [if_neg p]
      by_cases q : i = e
      · rw [if_pos q, q]; exact hge (by omega)
      · rw [if_neg q]
        by_cases r : i = d
        · rw [if_pos r, r]; exact hgd (by omega) (by omega)
        · rw [if_neg r, hg i (by omega) r q p]; exact h5 i hi
  · show nl BB (if i = t then z else if i = e then y else if i = d then x else s.1 i).natAbs ≤ w
    by_cases p : i = t
    · rw [if_pos p]; exact hz
    · rw [if_neg p]
      by_cases q : i = e
      · rw [if_pos q]; exact hy
      · rw [if_neg q]
        by_cases r : i = d
        · rw [if_pos r]; exact hx
        · rw [if_neg r]; exact h6 i hi
theorem k_bez {G : SH} {M : MS} {L : LV} {n w : Nat} {s : ST} {g x y a b : Int32} (h : KJ G M L n w s) {Q : Int32 → MS → Prop} (hQ : OQ G M L n w (oBez n w s g x y a b) Q) : w_X11_bezout G (kO L.1) g x y a b M Q := by
  unfold w_X11_bezout
  intro M1 e1
  obtain ⟨f, h1⟩ := h.go e1
  have hn := h1.n16
  unfold oBez at hQ
  have no : ¬ ((isR n g ∧ isR n x ∧ isR n y) ∧ (isR n a ∧ isR n b) ∧ g ≠ x ∧ g ≠ y ∧ x ≠ y) → Q 3 M1 := fun z => by
    rw [if_neg z] at hQ
    exact h1.same hQ
  refine k_noA h1 (fun i hi ei => k_noA h1 (fun j hj ej => k_noA h1 (fun k hk ek => k_noA h1 (fun l hl el => k_noA h1 (fun m hm em => ⟨fun he => no (fun z => z.2.2.1 he), fun n1 => ⟨fun he => no (fun z => z.2.2.2.1 he), fun n2 => ⟨fun n3 => ?_, fun he => no (fun z => z.2.2.2.2 he)⟩⟩⟩) (fun z => no (fun r => z r.2.1.2))) (fun z => no (fun r => z r.2.1.1))) (fun z => no (fun r => z r.1.2.2))) (fun z => no (fun r => z r.1.2.1))) (fun z => no (fun r => z r.1.1))
  subst ei ej ek el em
  rw [if_pos ⟨⟨isR_nI (by omega) hi, isR_nI (by omega) hj, isR_nI (by omega) hk⟩, ⟨isR_nI (by omega) hl, isR_nI (by omega) hm⟩, n1, n2, n3⟩, ix_nI (by omega), ix_nI (by omega), ix_nI (by omega), ix_nI (by omega), ix_nI (by omega), ← h1.rg hl, ← h1.rg hm] at hQ
  refine k_factors h1.ki (Or.inl (by omega)) (Or.inl (by omega)) (h1.nh hl) (h1.nh hm) (fun N g' f2 h2 r1 r2 r3 r4 => ?_)
  have h3 := h1.up f2 h2 (fun i hi => r4 i (Or.inl hi))
  generalize FA (f l).natAbs (f m).natAbs = T at *
  have b1 : nl BB (g' 20).natAbs ≤ w ↔ nl BB T.1 ≤ w := by rw [r1, Int.natAbs_natCast]
  have b2 : nl BB (g' 22).natAbs ≤ w ↔ nl BB T.2.1 ≤ w := by rw [r2, sg_abs]
  have b3 : nl BB (g' 23).natAbs ≤ w ↔ nl BB T.2.2.1 ≤ w := by rw [r3, sg_abs]
  have bad : ¬ (nl BB T.1 ≤ w ∧ nl BB T.2.1 ≤ w ∧ nl BB T.2.2.1 ≤ w) → Q 1 N := fun z => by
    rw [if_neg z] at hQ
    exact h3.same hQ
  refine k_fits h3 (a := 20) (by decide) (fun c1 => ⟨fun z => absurd z (by decide), fun _ => ?_⟩) (fun c => ⟨fun _ => bad (fun z => c (b1.mpr z.1)), fun z => absurd rfl z⟩)
  refine k_fits h3 (a := 22) (by decide) (fun c2 => ⟨fun z => absurd z (by decide), fun _ => ?_⟩) (fun c => ⟨fun _ => bad (fun z => c (b2.mpr z.2.1)), fun z => absurd rfl z⟩)
  refine k_fits h3 (a := 23) (by decide) (fun c3 => ⟨fun _ => ?_, fun z => absurd z (by decide)⟩) (fun c => ⟨fun z => absurd rfl z, fun _ => bad (fun z => c (b3.mpr z.2.2))⟩)
  rw [if_pos ⟨b1.mp c1, b2.mp c2, b3.mp c3⟩] at hQ
  refine k_copy h2 (a := 20) (by omega) (by decide) (fun N1 f3 h4 => ?_)
  refine k_copy h4 (a := 22) (by omega) (by decide) (fun N2 f4 h5 => ?_)
  refine k_copy h5 (a := 23) (by omega) (by decide) (fun N3 f5 h6 => ?_)
  refine h3.set3 ((f3.tr f4).tr f5) h6 hi hj hk ?_ (fun e => ?_) (fun e e2 => ?_) (fun i hi e e2 e3 => ?_) ?_ ?_ ?_ hQ
  · rw [setK_s, setK_n _ _ (by omega), setK_n _ _ (by omega)]; exact r3
  · rw [setK_n _ _ e, setK_s, setK_n _ _ (by omega)]; exact r2
  · rw [setK_n _ _ e2, setK_n _ _ e, setK_s]; exact r1
  · rw [setK_n _ _ e3, setK_n _ _ e2, setK_n _ _ e]
  · rw [← r1]; exact c1
  · rw [← r2]; exact c2
  · rw [← r3]; exact c3
theorem iS_ge1 {z : Int} : (1 : Int32) ≤ iS z ↔ 0 < z := by
  rcases iS_cases z with ⟨h, e⟩ | ⟨h, e⟩ | ⟨h, e⟩ <;> rw [e]
  · exact ⟨fun q => absurd q (by decide), fun q => by omega⟩
  · exact ⟨fun q => absurd q (by decide), fun q => by omega⟩
  · exact ⟨fun _ => h, fun _ => by decide⟩
theorem iS_lt0 {z : Int} : iS z < 0 ↔ z < 0 := by
  rcases iS_cases z with ⟨h, e⟩ | ⟨h, e⟩ | ⟨h, e⟩ <;> rw [e]
  · exact ⟨fun _ => h, fun _ => by decide⟩
  · exact ⟨fun q => absurd q (by decide), fun q => by omega⟩
  · exact ⟨fun q => absurd q (by decide), fun q => by omega⟩
theorem Sl_low {M : MS} {K : KV} {r c : Nat} (h : Sl M K r (c : Int)) (hc : 0 < c) : mA M (kH K) (260 * r) = nI (c % 65536) := by
  have hn : nl HB ((c : Int)).natAbs ≠ 0 := fun z => by rw [Int.natAbs_natCast, nlH0] at z; omega
  have e := mA_hd (h.hl (i := 0) (by omega))
  rw [Int.natAbs_natCast] at e
  have e3 : hl c 0 = c % 65536 := by
    unfold hl
    rw [Nat.pow_zero, Nat.div_one]
  rw [e3] at e
  exact e
theorem one_many {c : Nat} : nl HB c = 1 ∧ c % 65536 = 1 ↔ c = 1 := by
  constructor
  · intro h
    have := (nl_le HB1 1 c).mp (by omega)
    have e : HB ^ 1 = 65536 := rfl
    omega
  · intro h
    subst h
    exact ⟨nl_eq HB1 (by decide) (Or.inr (by decide)), rfl⟩
theorem modN_0 {n : Nat} {b : Bool} : modN 0 b n = 0 := by
  unfold modN
  rw [Nat.zero_mod, if_neg (fun z => z.2 rfl)]
theorem k_inv {G : SH} {M : MS} {L : LV} {n w : Nat} {s : ST} {d a m : Int32} (h : KJ G M L n w s) {Q : Int32 → MS → Prop} (hQ : OQ G M L n w (oInv n s d a m) Q) : w_X11_inverse G (kO L.1) d a m M Q := by
  unfold w_X11_inverse
  intro M1 e1
  obtain ⟨f, h1⟩ := h.go e1
  have hn := h1.n16
  unfold oInv at hQ
  have no : ¬ (isR n d ∧ isR n a ∧ isR n m) → Q 3 M1 := fun z => by
    rw [if_neg z] at hQ
    exact h1.same hQ
  refine k_noA h1 (fun i hi ei => k_noA h1 (fun j hj ej => k_noB h1 (fun k hk ek => ?_) (fun z => no (fun r => z r.2.2))) (fun z => no (fun r => z r.2.1))) (fun z => no (fun r => z r.1))
  subst ei ej ek
  rw [if_pos ⟨isR_nI (by omega) hi, isR_nI (by omega) hj, isR_nI (by omega) hk⟩, ix_nI (by omega), ix_nI (by omega), ix_nI (by omega), ← h1.rg hj, ← h1.rg hk] at hQ
  obtain ⟨⟨e0, e1, e2⟩, ⟨g0, g1, g2⟩, -⟩ := id h1.ki.1
  have nj := h1.nh hj
  have nk := h1.nh hk
  rw [e2, g2, cl (by omega), (h1.ki.2 k (by omega)).1.2.1, iS_ge1]
  refine ⟨vp_in_nI (by omega) (by decide), fun hp => ?_, fun hp => ?_⟩
  · rw [if_neg (fun z => z hp)] at hQ
    have hp2 : 0 < (f k).natAbs := by omega
    refine k_divided (q := 17) (m := 27) h1.ki (by decide) (by decide) (by omega) (by omega) (by decide) (by omega) (by omega) (by decide) (by decide) (by omega) (by omega) (by omega) (fun N g f2 h2 q1 q2 q3 => ?_)
    have hml := modN_lt (va := (f j).natAbs) (sa := decide (f j < 0)) hp2
    generalize modN (f j).natAbs (decide (f j < 0)) (f k).natAbs = R at *
    refine k_copy h2 (d := 26) (a := 27) (by decide) (by decide) (fun N1 f3 h3 => ?_)
    refine k_copy h3 (d := 28) (a := k) (by decide) (by omega) (fun N2 f4 h4 => ?_)
    rw [q2, setK_n _ _ (by omega), q3 k (by omega) (by omega) (by omega)] at h4
    have nR : nl HB R ≤ 80 := Nat.le_trans (nl_mono HB1 (Nat.le_of_lt hml)) nk
    refine k_factors (a := 26) (b := 28) h4 (by decide) (by decide) (by show nl HB ((R : Int)).natAbs ≤ 80; rw [Int.natAbs_natCast]; exact nR) nk (fun N3 g3 f5 h5 r1 r2 r3 r4 => ?_)
    have h26 : setK (setK g 26 (R : Int)) 28 (f k) 26 = (R : Int) := rfl
    have h28 : setK (setK g 26 (R : Int)) 28 (f k) 28 = f k := rfl
    rw [h26, h28, Int.natAbs_natCast] at r1 r2
    have e28 : g3 28 = f k := (r4 28 (by decide)).trans h28
    have er : ∀ r, r < 16 → g3 r = f r := fun r hr => by rw [r4 r (Or.inl hr), setK_n _ _ (by omega), setK_n _ _ (by omega)]; exact q3 r (by omega) (by omega) (by omega)
    have hFx := FAC_x (B := (f k).natAbs) (f k).natAbs R 1 0 0 1 false hp2 (Nat.zero_le _) (by omega)
    unfold FA at r1 r2 hQ
    generalize FAC R (f k).natAbs 1 0 0 1 false = T at *
    have h6 := h1.up (((f2.tr f3).tr f4).tr f5) h5 er
    have s20 := h5.2 20 (by decide)
    rw [r1] at s20
    have m20 := s20.1.1
    have b20 := s20.1.2.2
    rw [Int.natAbs_natCast] at m20 b20
    have v20 := vp_in_nI (n := 20) (N := 40) (by decide) (by decide)
    obtain ⟨⟨d0, d1, d2⟩, -⟩ := id h5.1
    have bad : T.1 ≠ 1 → Q 2 N3 := fun z => by
      rw [if_neg z] at hQ
      exact h6.same hQ
    rw [d1, g1, d0, g0, show (20 : Int32).toNatClampNeg = 20 from rfl, m20, show (1 : Int32) = nI 1 from rfl, nI_eq (by omega) (by decide)]
    refine ⟨v20, fun z => bad (fun e => z (one_many.mpr e).1), fun z => ⟨vp_in_nI (n := 5200) (by decide) (by decide), ?_⟩⟩
    have hT0 : 0 < T.1 := by
      rcases Nat.eq_zero_or_pos T.1 with e | e
      · rw [e, nl_0] at z; omega
      · exact e
    have lo := Sl_low s20 hT0
    have lo' : mA N3 (kH L.1) (5200 : Int32).toNatClampNeg = nI (T.1 % 65536) := lo
    rw [lo', nI_eq (by omega) (by decide)]
    refine ⟨fun z2 => ?_, fun z2 => bad (fun e => z2 (one_many.mpr e).2)⟩
    rw [if_pos (one_many.mp ⟨z, z2⟩)] at hQ
    have nT : nl HB T.2.1 ≤ 80 := Nat.le_trans (nl_mono HB1 hFx) nk
    refine k_divided (q := 17) (m := 27) (a := 22) (b := 28) h5 (by decide) (by decide) (by decide) (by decide) (by decide) (by decide) (by decide) (by decide) (by decide) (by decide) (by rw [e28]; omega) (by rw [r2, sg_abs]; omega) (fun N4 g4 f6 h7 t1 t2 t3 => ?_)
    have hsa : decide (g3 22 < 0) = (T.2.2.2 && decide (0 < T.2.1)) := by
      rw [r2, sg_neg]
      have : decide ((R : Int) < 0) = false := decide_eq_false (by omega)
      rw [this]
      cases T.2.2.2 <;> rfl
    rw [e28, hsa, r2, sg_abs] at t2
    refine k_copy h7 (a := 27) (by omega) (by decide) (fun N5 f7 h8 => ?_)
    have hm2 := modN_lt (va := T.2.1) (sa := T.2.2.2 && decide (0 < T.2.1)) hp2
    refine h6.set (f6.tr f7) h8 hi (by rw [setK_s]; exact t2) (fun r hr e => by rw [setK_n _ _ e]; exact t3 r (by omega) (by omega) (by omega)) ?_ hQ
    rw [Int.natAbs_natCast]
    refine Nat.le_trans (nl_mono BB1 (Nat.le_of_lt hm2)) ?_
    rw [h1.rg hk]; exact h1.2.2.2.2.2 k hk
  · rw [if_pos hp] at hQ
    exact h1.same hQ
theorem k_pow_loop {G : SH} {M0 : MS} {L : LV} {n w d e m R V : Nat} {s : ST} (hd : d < n) (he : e < n) (hm : m < n) (hV : 0 < V) (hR : R < V) (nV : nl HB V ≤ 80) (hVl : nl BB V ≤ w) {Q : Int32 → MS → Prop} {E : Nat} (hE : E < 1000000000 ∨ True) (hQ : OQ G M0 L n w (setR s d ((R ^ E % V : Nat) : Int), 0) Q) : ∀ (J : Nat) (M : MS) (g : Nat → Int), J < 100000 → KE G M0 M L n w s g → (g e).natAbs = E → g m = (V : Int) → g 27 = (R : Int) → g 26 = ((R ^ (E / 2 ^ J) % V : Nat) : Int) → w_X11_power_109 G Q (J + 1) (kO L.1) (nI d) (nI e) (nI m) (nI J - 1) M
  | 0, M, g, _, h, ge, gm, g27, g26 => by
    have hn := h.n16
    rw [w_X11_power_109]
    refine ⟨fun _ => ?_, fun q => absurd (by decide) q⟩
    rw [Nat.pow_zero, Nat.div_one] at g26
    refine k_copy h.ki (a := 26) (by omega) (by decide) (fun N f1 h1 => ?_)
    refine h.set f1 h1 hd (by rw [setK_s]; exact g26) (fun i _ e => setK_n _ _ e) ?_ hQ
    rw [Int.natAbs_natCast]
    exact Nat.le_trans (nl_mono BB1 (Nat.le_of_lt (Nat.mod_lt _ hV))) hVl
  | J + 1, M, g, hJ, h, ge, gm, g27, g26 => by
    have hn := h.n16
    have nR : nl HB R ≤ 80 := Nat.le_trans (nl_mono HB1 (Nat.le_of_lt hR)) nV
    have nP : ∀ x, nl HB (x % V) ≤ 80 := fun x => Nat.le_trans (nl_mono HB1 (Nat.le_of_lt (Nat.mod_lt _ hV))) nV
    have hpb := pow_bit (b := R) (e := E) (n := V) (k := J)
    have np : ∀ {a b : Nat}, nl HB a ≤ 80 → nl HB b ≤ 80 → nl HB (a * b) ≤ 258 := fun {a b} ha hb => by
      have h1 : nl HB (a * b) ≤ 160 := by
        rw [nl_le HB1] at ha hb ⊢
        rw [show (160 : Nat) = 80 + 80 from rfl, Nat.pow_add]
        exact Nat.mul_lt_mul'' ha hb
      omega
    have hsub : nI J + -1 = nI J - 1 := (Int32.sub_eq_add_neg ..).symm
    rw [nI_pred, w_X11_power_109, hsub]
    refine ⟨fun q => absurd q (nI_lt0 (by omega)), fun _ => ?_⟩
    have n26 : nl HB (g 26).natAbs ≤ 80 := by rw [g26, Int.natAbs_natCast]; exact nP _
    generalize R ^ (E / 2 ^ (J + 1)) % V = P at *
    have nPP : nl HB P ≤ 80 := by rw [g26, Int.natAbs_natCast] at n26; exact n26
    refine k_product (d := 25) (a := 26) (b := 26) h.ki (by decide) (by decide) (by decide) (by decide) (by decide) (by omega) (fun N1 f1 h1 => ?_)
    rw [g26, ← Int.natCast_mul] at h1
    have m1 : setK g 25 ((P * P : Nat) : Int) m = (V : Int) := by rw [setK_n _ _ (by omega)]; exact gm
    have a1 : setK g 25 ((P * P : Nat) : Int) 25 = ((P * P : Nat) : Int) := rfl
    refine k_quotient (q := 17) (m := 26) (a := 25) h1 (by decide) (by decide) (by decide) (by omega) (by decide) (by omega) (by omega) (by rw [m1]; omega) (by rw [a1, Int.natAbs_natCast]; exact np nPP nPP) (fun N2 f2 h2 => ?_)
    rw [m1, a1, Int.natAbs_natCast, Int.natAbs_natCast] at h2
    have h3 := h.up (f1.tr f2) h2 (fun i hi => by rw [setK_n _ _ (by omega), setK_n _ _ (by omega), setK_n _ _ (by omega)])
    have e2 : setK (setK (setK g 25 ((P * P : Nat) : Int)) 17 ((P * P / V : Nat) : Int)) 26 ((P * P % V : Nat) : Int) e = g e := by rw [setK_n _ _ (by omega), setK_n _ _ (by omega), setK_n _ _ (by omega)]
    refine k_bit h2 (by omega) (by omega) ?_
    rw [e2, ge]
    by_cases b : E / 2 ^ J % 2 = 1
    · rw [if_pos b] at hpb ⊢
      refine ⟨fun _ => ?_, fun q => absurd q (by decide)⟩
      refine k_product (d := 25) (a := 26) (b := 27) h2 (by decide) (by decide) (by decide) (by decide) (by decide) (by show nl HB ((P * P % V : Nat) : Int).natAbs + nl HB (g 27).natAbs ≤ 258; rw [g27, Int.natAbs_natCast, Int.natAbs_natCast]; have := nP (P * P); omega) (fun N3 f3 h4 => ?_)
      have c26 : setK (setK (setK g 25 ((P * P : Nat) : Int)) 17 ((P * P / V : Nat) : Int)) 26 ((P * P % V : Nat) : Int) 26 = ((P * P % V : Nat) : Int) := rfl
      have c27 : setK (setK (setK g 25 ((P * P : Nat) : Int)) 17 ((P * P / V : Nat) : Int)) 26 ((P * P % V : Nat) : Int) 27 = (R : Int) := g27
      rw [c26, c27, ← Int.natCast_mul] at h4
      generalize hg4 : setK (setK (setK (setK g 25 ((P * P : Nat) : Int)) 17 ((P * P / V : Nat) : Int)) 26 ((P * P % V : Nat) : Int)) 25 ((P * P % V * R : Nat) : Int) = g4 at h4
      have m4 : g4 m = (V : Int) := by rw [← hg4, setK_n _ _ (by omega), setK_n _ _ (by omega), setK_n _ _ (by omega), setK_n _ _ (by omega)]; exact gm
      have a4 : g4 25 = ((P * P % V * R : Nat) : Int) := by rw [← hg4]; rfl
      have r4 : ∀ i, i < 16 → g4 i = g i := fun i hi => by rw [← hg4, setK_n _ _ (by omega), setK_n _ _ (by omega), setK_n _ _ (by omega), setK_n _ _ (by omega)]
      have b4 : g4 27 = (R : Int) := by rw [← hg4]; exact g27
      refine k_quotient (q := 17) (m := 26) (a := 25) h4 (by decide) (by decide) (by decide) (by omega) (by decide) (by omega) (by omega) (by rw [m4]; omega) (by rw [a4, Int.natAbs_natCast]; exact np (nP _) nR) (fun N4 f4 h5 => ?_)
      rw [m4, a4, Int.natAbs_natCast, Int.natAbs_natCast] at h5
      intro x ex
      rw [ex]
      refine k_pow_loop hd he hm hV hR nV hVl (Or.inr trivial) hQ J N4 _ (by omega) (h.up (((f1.tr f2).tr f3).tr f4) h5 (fun i hi => by rw [setK_n _ _ (by omega), setK_n _ _ (by omega)]; exact r4 i hi)) ?_ ?_ b4 ?_
      · rw [setK_n _ _ (by omega), setK_n _ _ (by omega), r4 e (by omega)]; exact ge
      · rw [setK_n _ _ (by omega), setK_n _ _ (by omega)]; exact m4
      · rw [hpb]; rfl
    · rw [if_neg b] at hpb ⊢
      refine ⟨fun q => absurd rfl q, fun _ x ex => ?_⟩
      rw [ex]
      refine k_pow_loop hd he hm hV hR nV hVl (Or.inr trivial) hQ J N2 _ (by omega) h3 (by rw [e2]; exact ge) ?_ g27 ?_
      · rw [setK_n _ _ (by omega), setK_n _ _ (by omega), setK_n _ _ (by omega)]; exact gm
      · rw [hpb]; rfl
theorem k_pow {G : SH} {M : MS} {L : LV} {n w : Nat} {s : ST} {d a e m : Int32} (h : KJ G M L n w s) {Q : Int32 → MS → Prop} (hQ : OQ G M L n w (oPow n s d a e m) Q) : w_X11_power G (kO L.1) d a e m M Q := by
  unfold w_X11_power
  intro M1 e1
  obtain ⟨f, h1⟩ := h.go e1
  have hn := h1.n16
  unfold oPow at hQ
  have no : ¬ ((isR n d ∧ isR n a) ∧ (isR n e ∧ isR n m)) → Q 3 M1 := fun z => by
    rw [if_neg z] at hQ
    exact h1.same hQ
  refine k_noA h1 (fun i hi ei => k_noA h1 (fun j hj ej => k_noA h1 (fun k hk ek => k_noB h1 (fun l hl el => ?_) (fun z => no (fun r => z r.2.2))) (fun z => no (fun r => z r.2.1))) (fun z => no (fun r => z r.1.2))) (fun z => no (fun r => z r.1.1))
  subst ei ej ek el
  rw [if_pos ⟨⟨isR_nI (by omega) hi, isR_nI (by omega) hj⟩, isR_nI (by omega) hk, isR_nI (by omega) hl⟩, ix_nI (by omega), ix_nI (by omega), ix_nI (by omega), ix_nI (by omega), ← h1.rg hj, ← h1.rg hk, ← h1.rg hl] at hQ
  obtain ⟨⟨e0, e1, e2⟩, ⟨g0, g1, g2⟩, -⟩ := id h1.ki.1
  have nj := h1.nh hj
  have nk := h1.nh hk
  have nL := h1.nh hl
  rw [e2, g2, cl (by omega), cl (by omega), (h1.ki.2 k (by omega)).1.2.1, (h1.ki.2 l (by omega)).1.2.1, iS_ge1, iS_lt0]
  refine ⟨vp_in_nI (by omega) (by decide), fun hk0 => ?_, fun hk0 => ⟨vp_in_nI (by omega) (by decide), fun hp => ?_, fun hp => ?_⟩⟩
  · rw [if_pos (Or.inl hk0)] at hQ
    exact h1.same hQ
  · rw [if_neg (fun z => by rcases z with z | z; exact hk0 z; exact z hp)] at hQ
    have hp2 : 0 < (f l).natAbs := by omega
    refine k_divided (q := 17) (m := 27) h1.ki (by decide) (by decide) (by omega) (by omega) (by decide) (by omega) (by omega) (by decide) (by decide) (by omega) (by omega) (by omega) (fun N g f2 h2 q1 q2 q3 => ?_)
    have hml := modN_lt (va := (f j).natAbs) (sa := decide (f j < 0)) hp2
    generalize modN (f j).natAbs (decide (f j < 0)) (f l).natAbs = R at *
    refine k_small h2 (d := 26) (by decide) (c := 1) (by decide) rfl (fun N1 f3 h3 => ?_)
    have gl : setK g 26 ((1 : Nat) : Int) l = f l := by rw [setK_n _ _ (by omega)]; exact q3 l (by omega) (by omega) (by omega)
    have g26 : setK g 26 ((1 : Nat) : Int) 26 = ((1 : Nat) : Int) := rfl
    have n1 : nl HB 1 ≤ 1 := (nl_le HB1 1 1).mpr (by decide)
    refine k_quotient (q := 17) (m := 18) (a := 26) h3 (by decide) (by decide) (by decide) (by omega) (by decide) (by omega) (by omega) (by rw [gl]; omega) (by rw [g26, Int.natAbs_natCast]; omega) (fun N2 f4 h4 => ?_)
    rw [gl, g26, Int.natAbs_natCast] at h4
    refine k_copy h4 (d := 26) (a := 18) (by decide) (by decide) (fun N3 f5 h5 => ?_)
    generalize hg5 : setK (setK (setK (setK g 26 ((1 : Nat) : Int)) 17 ((1 / (f l).natAbs : Nat) : Int)) 18 ((1 % (f l).natAbs : Nat) : Int)) 26 (setK (setK (setK g 26 ((1 : Nat) : Int)) 17 ((1 / (f l).natAbs : Nat) : Int)) 18 ((1 % (f l).natAbs : Nat) : Int) 18) = g5 at h5
    have r5 : ∀ r, r < 16 → g5 r = f r := fun r hr => by rw [← hg5, setK_n _ _ (by omega), setK_n _ _ (by omega), setK_n _ _ (by omega), setK_n _ _ (by omega)]; exact q3 r (by omega) (by omega) (by omega)
    have h6 := h1.up (((f2.tr f3).tr f4).tr f5) h5 r5
    have nb : nl 2 (f k).natAbs ≤ 1280 := by
      rw [nl_le (by decide)]
      have := (nl_le HB1 80 (f k).natAbs).mp nk
      rw [HBp] at this
      exact this
    refine k_bits h5 (by omega) ?_
    rw [r5 k (by omega)]
    intro x ex
    refine ⟨nl 2 (f k).natAbs + 1, ?_⟩
    rw [ex]
    refine k_pow_loop (R := R) (V := (f l).natAbs) (E := (f k).natAbs) hi hk hl hp2 hml nL (by rw [h1.rg hl]; exact h1.2.2.2.2.2 l hl) (Or.inr trivial) hQ _ N3 g5 (by omega) h6 (by rw [r5 k (by omega)]) (by rw [r5 l (by omega)]; omega) (by rw [← hg5]; exact q2) ?_
    rw [Nat.div_eq_of_lt (lt_pow_nl (Nat.le_refl _)), Nat.pow_zero, ← hg5]
    rfl
  · rw [if_pos (Or.inr hp)] at hQ
    exact h1.same hQ
