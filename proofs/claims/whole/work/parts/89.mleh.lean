/-! Lehmer's way of the reference -/
theorem k_high_loop {G : SH} {M : MS} {K : KV} {a fm y : Nat} {f : Nat → Int} (hI : KI G M K f) (ha : a < 40) (hf : 1 ≤ fm) (hf2 : fm < 100000) (hy : (f a).natAbs / 2 ^ fm = y) (hyl : y < 4294967296) {Q : Int64 → MS → Prop} (hQ : Q (lN y) M) : ∀ (J : Nat), J ≤ 33 → w_X11_high_8 G Q (J + 1) (kO K) (nI a) (nI fm) (lN (y / 2 ^ J)) (nI (fm + J) - 1) M
  | 0, _ => by
    obtain ⟨c, rfl⟩ : ∃ c, fm = c + 1 := ⟨fm - 1, by omega⟩
    rw [w_X11_high_8, show c + 1 + 0 = c + 1 from rfl, nI_pred, nI_ltI (by omega) (by omega), Nat.pow_zero, Nat.div_one]
    exact ⟨fun _ => hQ, fun q => absurd (by omega) q⟩
  | J + 1, hJ => by
    rw [w_X11_high_8, show fm + (J + 1) = fm + J + 1 from rfl, nI_pred, nI_ltI (by omega) (by omega)]
    refine ⟨fun q => absurd q (by omega), fun _ => k_bit hI ha (by omega) ?_⟩
    have e1 : (f a).natAbs / 2 ^ (fm + J) % 2 = y / 2 ^ J % 2 := by rw [Nat.pow_add, ← Nat.div_div_eq_div_mul, hy]
    have e2 : y / 2 ^ (J + 1) = y / 2 ^ J / 2 := by rw [Nat.pow_succ, ← Nat.div_div_eq_div_mul]
    have hsub : nI (fm + J) + -1 = nI (fm + J) - 1 := (Int32.sub_eq_add_neg ..).symm
    have ih := k_high_loop hI ha hf hf2 hy hyl hQ J (by omega)
    rw [e1, e2, hsub, show (2 : Int64) = lN 2 from rfl, lN_mul]
    by_cases b : y / 2 ^ J % 2 = 1
    · rw [if_pos b]
      refine ⟨fun q => absurd q (by decide), fun _ x ex z ez => ?_⟩
      rw [ex, ez, show (1 : Int64) = lN 1 from rfl, lN_add, show 2 * (y / 2 ^ J / 2) + 1 = y / 2 ^ J by omega]
      exact ih
    · rw [if_neg b]
      refine ⟨fun _ x ex z ez => ?_, fun q => absurd rfl q⟩
      rw [ex, ez, show (0 : Int64) = lN 0 from rfl, lN_add, show 2 * (y / 2 ^ J / 2) + 0 = y / 2 ^ J by omega]
      exact ih
theorem k_high {G : SH} {M : MS} {K : KV} {a fm y : Nat} {f : Nat → Int} {i : Int32} (hI : KI G M K f) (ha : a < 40) (hf : 1 ≤ fm) (hf2 : fm < 100000) (hi : i = nI fm) (hy : (f a).natAbs / 2 ^ fm = y) (hyl : y < 4294967296) {Q : Int64 → MS → Prop} (hQ : Q (lN y) M) : w_X11_high G (kO K) (nI a) i M Q := by
  unfold w_X11_high
  intro x ex
  refine ⟨34, ?_⟩
  have h := k_high_loop hI ha hf hf2 hy hyl hQ 33 (Nat.le_refl _)
  rw [Nat.div_eq_of_lt (show y < 2 ^ 33 by have : (2 : Nat) ^ 33 = 8589934592 := rfl; omega), show fm + 33 = fm + 32 + 1 from rfl, nI_pred] at h
  rw [ex, hi, show (32 : Int32) = nI 32 from rfl, nI_add]
  exact h
theorem k_divl {G : SH} {M : MS} {a b : Int} (ha : 0 ≤ a) (ha2 : a < 9223372036854775808) (hb : 0 < b) (hb2 : b < 9223372036854775808) {Q : Int64 → MS → Prop} (hQ : Q (lZ (a / b)) M) : w_X11_divided_ G (lZ a) (lZ b) M Q := by
  unfold w_X11_divided_
  refine ⟨fun z => ?_, fun x ex y ey => ?_⟩
  · rw [lZ_0, lZ_eq (by omega) (by omega) (by decide) (by decide)] at z
    omega
  · rw [lZ_div ha ha2 hb hb2] at ex
    have h1 := Int.mul_ediv_add_emod a b
    have h2 := Int.emod_nonneg a (show b ≠ 0 by omega)
    have h3 := Int.emod_lt_of_pos a hb
    have e : a - a / b * b = a % b := by rw [Int.mul_comm]; omega
    rw [ex, lZ_mul, lZ_sub, e] at ey
    have hn : ¬ y < (0 : Int64) := by
      rw [ey, fa_lt64, lZ_toInt (by omega) (by omega)]
      exact fun q => absurd q (by show ¬ a % b < 0; omega)
    rw [ex]
    exact ⟨fun q => absurd q hn, fun _ => hQ⟩
theorem k_cof_loop {G : SH} {M : MS} {u v U0 V0 p v0 : Nat} {v1 : Int32} (hu : u / 2 ^ p = U0) (hv : v / 2 ^ p = V0) (hUl : U0 < 4294967296) (hVU : V0 ≤ U0) (hvu : v ≤ u) {T : Int × Int × Int × Int} {K85 : Nat → Int32 → MS → Prop} {Q : Int32 → MS → Prop}
    (hQ : ∀ U V x y, LI u v U0 V0 U V T.1 T.2.1 T.2.2.1 T.2.2.2 x y → (EM x y ≤ EM u v ∧ (T.2.1 ≠ 0 → EM x y < EM u v)) → w_X11_gcdLehmer_256 G K85 Q v0 v1 (lZ T.1) (lZ T.2.1) (lZ T.2.2.1) (lZ T.2.2.2) M) :
    ∀ (n : Nat) (U V A B C D : Int) (x y : Nat), LI u v U0 V0 U V A B C D x y → (EM x y ≤ EM u v ∧ (B ≠ 0 → EM x y < EM u v)) → LC n U V A B C D = T → EM (U + A).toNat (V + C).toNat < n → w_X11_gcdLehmer_142 G K85 Q n v0 v1 (lZ U) (lZ V) (lZ A) (lZ B) (lZ C) (lZ D) M
  | 0, U, V, A, B, C, D, x, y, _, _, _, hn => absurd hn (Nat.not_lt_zero _)
  | n + 1, U, V, A, B, C, D, x, y, hI, hem, hT, hn => by
    obtain ⟨-, ⟨p1, p2, p3, p4⟩, -, -, -, -, -, -, ⟨t1, t2, t3, t4⟩⟩ := id hI
    rw [w_X11_gcdLehmer_142, lZ_add, lZ_add, lZ_add, lZ_add, lZ_0, lZ_eq (by omega) (by omega) (by omega) (by omega), lZ_eq (by omega) (by omega) (by omega) (by omega)]
    rw [LC] at hT
    refine ⟨fun h => ?_, fun h1 => ⟨fun h => ?_, fun h2 => ?_⟩⟩
    · rw [if_pos (Or.inl h)] at hT
      subst hT
      exact hQ U V x y hI hem
    · rw [if_pos (Or.inr (Or.inl h))] at hT
      subst hT
      exact hQ U V x y hI hem
    · refine k_divl p1 (by omega) (by omega) (by omega) (k_divl p2 (by omega) (by omega) (by omega) ?_)
      have hq1 : 0 ≤ (U + A) / (V + C) := Int.ediv_nonneg p1 p3
      have hq2 : (U + A) / (V + C) ≤ U + A := Int.ediv_le_self _ p1
      have hq3 : 0 ≤ (U + B) / (V + D) := Int.ediv_nonneg p2 p4
      have hq4 : (U + B) / (V + D) ≤ U + B := Int.ediv_le_self _ p2
      rw [lZ_eq (by omega) (by omega) (by omega) (by omega)]
      refine ⟨fun hq x1 ex1 x2 ex2 x3 ex3 => ?_, fun hq => ?_⟩
      · rw [if_neg (fun z => z.elim h1 (fun z => z.elim h2 (fun z => z hq)))] at hT
        obtain ⟨hI2, hy0, hlt⟩ := LI_step hu hv hUl hVU hI h1 h2 hq hvu
        rw [lZ_mul, lZ_sub] at ex1 ex2 ex3
        have hem2 : EM y (x % y) ≤ EM u v ∧ (D ≠ 0 → EM y (x % y) < EM u v) := ⟨Nat.le_trans (Nat.le_of_lt (EM_lt hy0)) hem.1, fun _ => Nat.lt_of_lt_of_le (EM_lt hy0) hem.1⟩
        have hmod : (U - (U + A) / (V + C) * V) + (A - (U + A) / (V + C) * C) = (U + A) % (V + C) := by
          have := Int.mul_ediv_add_emod (U + A) (V + C)
          generalize (U + A) / (V + C) = q at *
          have e : (U - q * V) + (A - q * C) = (U + A) - (V + C) * q := by grind
          omega
        have hEM2 : EM (V + C).toNat ((U - (U + A) / (V + C) * V) + (A - (U + A) / (V + C) * C)).toNat < EM (U + A).toNat (V + C).toNat := by
          rw [hmod]
          have hc : ((U + A) % (V + C)).toNat = (U + A).toNat % (V + C).toNat := by
            have a1 : ((U + A).toNat : Int) = U + A := Int.toNat_of_nonneg p1
            have a2 : ((V + C).toNat : Int) = V + C := Int.toNat_of_nonneg p3
            have a3 : (((U + A).toNat % (V + C).toNat : Nat) : Int) = (U + A) % (V + C) := by rw [Int.natCast_emod, a1, a2]
            omega
          rw [hc]
          exact EM_lt (by omega)
        rw [ex1, ex2, ex3]
        exact k_cof_loop hu hv hUl hVU hvu hQ n V _ C D _ _ y (x % y) hI2 hem2 hT (by omega)
      · rw [if_pos (Or.inr (Or.inr hq))] at hT
        subst hT
        exact hQ U V x y hI hem
theorem k_num_loop {G : SH} {K : KV} {d S : Nat} {f : Nat → Int} {X : Int} {v2 : Int64} (hd' : d < 40) (hS : X.natAbs = S) (hSl : S < 4294967296) (h2 : (0 : Int64) ≤ v2 ↔ 0 ≤ X) {Q : MS → Prop} : ∀ (t k : Nat) (M : MS), k + t = 4 → KX G M K d f → (∀ j, j < k → hd M K d j = hl S j) → (∀ N, KF K M N → KI G N K (setK f d X) → Q N) → w_X11_number_17 G Q (t + 1) (kO K) (nI d) v2 (lN S) (nI k) M
  | 0, k, M, hk, hX, hj, hQ => by
    obtain rfl : k = 4 := by omega
    have p4 : HB ^ 4 = 18446744073709551616 := rfl
    have hn4 : nl HB S ≤ 4 := (nl_le HB1 4 S).mpr (by omega)
    have fin : ∀ c : Int32, (X ≠ 0 → c = iS X) → w_X11_trim G (kO K) (nI d) (4 : Int32) c M (fun N => Q N) := fun c hc => by
      refine k_trim X hX hd' (c := 4) (by decide) rfl (by rw [hS]; omega) ?_ (fun j h => by rw [hj j h]; exact hl_lt _ _) hc hQ
      rw [hS, vl_congr (g := hl S) hj, vl_hl, modH_all hn4]
    rw [w_X11_number_17, show (4 : Int32) = nI 4 from rfl, nI_leI (by decide) (by decide), h2]
    refine ⟨fun _ => ⟨fun q => fin 1 (fun z => (iS_pos (by omega)).symm), fun q => fin (-1) (fun z => (iS_neg (by omega)).symm)⟩, fun q => absurd (by decide) q⟩
  | t + 1, k, M, hk, hX, hj, hQ => by
    obtain ⟨⟨e0, e1, e2⟩, ⟨g0, g1, g2⟩, n1, n2, n3⟩ := id hX.1
    have hsh : lN S >>> ((nI (16 * k)).toInt64 &&& 63) = lN (S / 2 ^ (16 * k)) := by
      rw [lN_lZ, shr_lZ (16 * k) (by omega) (by omega) (by omega), lN_lZ]
      congr 1
    have hle : S / 2 ^ (16 * k) ≤ S := Nat.div_le_self _ _
    have hdg : S / 2 ^ (16 * k) % 65536 = hl S k := by
      unfold hl
      rw [HBp]
    rw [w_X11_number_17, show (4 : Int32) = nI 4 from rfl, nI_leI (by decide) (by omega), ixH, e0, g0, cl (by omega), show (16 : Int32) = nI 16 from rfl, pk_mul, hsh, maskH (by omega), lN_i, hdg]
    refine ⟨fun q => absurd q (by omega), fun _ => ⟨vp_in_nI (by omega) (by decide), fun N eN x ex => ?_⟩⟩
    have x1 : KX G N K d f := by rw [eN]; exact hX.wHx (by omega) _
    have f1 : KF K M N := by rw [eN]; exact KF.wH _
    have lh := hl_lt S k
    rw [ex, nI_1]
    refine k_num_loop hd' hS hSl h2 t (k + 1) N (by omega) x1 (fun j h => ?_) (fun P f2 hP => hQ P (f1.tr f2) hP)
    by_cases q : j = k
    · rw [q, eN, hd_wHs, u32_nI_lt (by omega)]
    · rw [eN, hd_wH (by omega)]; exact hj j (by omega)
theorem k_number {G : SH} {M : MS} {K : KV} {d : Nat} {f : Nat → Int} {X : Int} {v : Int64} (hI : KI G M K f) (hd' : d < 40) (hv : v = lZ X) (x1 : -4294967296 < X) (x2 : X < 4294967296) {Q : MS → Prop} (hQ : ∀ N, KF K M N → KI G N K (setK f d X) → Q N) : w_X11_number G (kO K) (nI d) v M Q := by
  unfold w_X11_number
  subst hv
  have h2 := lZ_ge0 (z := X) (by omega) (by omega)
  rw [← nI_0]
  refine ⟨fun q => ⟨5, ?_⟩, fun q x ex => ⟨5, ?_⟩⟩
  · have e : lZ X = lN X.natAbs := by
      rw [lN_lZ]
      congr 1
      have := h2.mp q
      omega
    have h := k_num_loop (v2 := lZ X) (X := X) hd' rfl (by omega) h2 4 0 M (by decide) (hI.x d) (fun j hj => absurd hj (Nat.not_lt_zero _)) hQ
    rw [← e] at h
    exact h
  · have e : x = lN X.natAbs := by
      rw [ex, lN_lZ]
      show -(Int64.ofInt X) = Int64.ofInt _
      rw [← Int64.ofInt_neg]
      congr 1
      have : ¬ 0 ≤ X := fun z => q (h2.mpr z)
      omega
    rw [e]
    exact k_num_loop (v2 := lZ X) (X := X) hd' rfl (by omega) h2 4 0 M (by decide) (hI.x d) (fun j hj => absurd hj (Nat.not_lt_zero _)) hQ
theorem k_mixed {G : SH} {M : MS} {K : KV} {d : Nat} {f : Nat → Int} {X Y : Int} {x y : Int64} (hI : KI G M K f) (hd1 : 27 ≤ d) (hd' : d < 40) (hx : x = lZ X) (hy : y = lZ Y) (x1 : -4294967296 < X) (x2 : X < 4294967296) (y1 : -4294967296 < Y) (y2 : Y < 4294967296) (nu : nl HB (f 20).natAbs ≤ 80) (nv : nl HB (f 21).natAbs ≤ 80) {Q : MS → Prop} (hQ : ∀ (N : MS) (g : Nat → Int), KF K M N → KI G N K g → g d = X * f 20 + Y * f 21 → (∀ r, r ≠ 22 → r ≠ 23 → r ≠ 25 → r ≠ 26 → r ≠ d → g r = f r) → Q N) : w_X11_mixed G (kO K) (nI d) x y M Q := by
  unfold w_X11_mixed
  have n2 : ∀ Z : Int, -4294967296 < Z → Z < 4294967296 → nl HB Z.natAbs ≤ 2 := fun Z a b => (nl_le HB1 2 _).mpr (by show _ < 4294967296; omega)
  have nX := n2 X x1 x2
  have nY := n2 Y y1 y2
  refine k_number (d := 22) hI (by decide) hx x1 x2 (fun N1 f1 h1 => ?_)
  refine k_number (d := 23) h1 (by decide) hy y1 y2 (fun N2 f2 h2 => ?_)
  refine k_product (d := 25) (a := 22) (b := 20) h2 (by decide) (by decide) (by decide) (by decide) (by decide) (by show nl HB X.natAbs + nl HB (f 20).natAbs ≤ 258; omega) (fun N3 f3 h3 => ?_)
  refine k_product (d := 26) (a := 23) (b := 21) h3 (by decide) (by decide) (by decide) (by decide) (by decide) (by show nl HB Y.natAbs + nl HB (f 21).natAbs ≤ 258; omega) (fun N4 f4 h4 => ?_)
  have np : ∀ {a b : Int}, nl HB a.natAbs ≤ 2 → nl HB b.natAbs ≤ 80 → nl HB (a * b).natAbs ≤ 82 := fun {a b} ha hb => by
    rw [nl_le HB1] at ha hb ⊢
    rw [Int.natAbs_mul, show (82 : Nat) = 2 + 80 from rfl, Nat.pow_add]
    exact Nat.mul_lt_mul'' ha hb
  have p1 := np nX nu
  have p2 := np nY nv
  refine k_sum (a := 25) (b := 26) (Y * f 21) h4 hd' (by decide) (by decide) (Or.inl ⟨rfl, rfl⟩) (by show nl HB (X * f 20).natAbs ≤ 258; omega) (by show nl HB (Y * f 21).natAbs ≤ 258; omega) (fun N5 f5 h5 => ?_)
  refine hQ N5 _ ((((f1.tr f2).tr f3).tr f4).tr f5) h5 (setK_s _ _ _) (fun r a b c e g => ?_)
  rw [setK_n _ _ g, setK_n _ _ e, setK_n _ _ c, setK_n _ _ b, setK_n _ _ a]
theorem KE.st {G : SH} {M0 M : MS} {L : LV} {n w : Nat} {s : ST} {g : Nat → Int} (h : KE G M0 M L n w s g) (x : Int32) : KE G M0 (wI M (kO L.1) 6 x) L n w (setS s x) g := by
  obtain ⟨h1, ⟨a0, z, ⟨i1, i2, i3, i4, i5⟩, b, t, o⟩, h3, h4, h5, h6⟩ := h
  exact ⟨h1.tr (KG.wI 6 x), ⟨a0, z, ⟨by rw [mI_wI_k M x (by decide)]; exact i1, by rw [mI_wI_k M x (by decide)]; exact i2, mI_wI_s M _ _ _, by rw [mI_wI_k M x (by decide)]; exact i4, by rw [mI_wI_k M x (by decide)]; exact i5⟩, b, t, o⟩, by rw [mI_wI_k M x (by decide)]; exact h3, h4, h5, h6⟩
theorem k_lfin {G : SH} {M0 M : MS} {L : LV} {n w d u v c : Nat} {s : ST} {g : Nat → Int} (h : KE G M0 M L n w s g) (hd : d < n) (hu : g 20 = (u : Int)) (hv : g 21 = (v : Int)) (nu : nl HB u ≤ 80) (nv : nl HB v ≤ 80) (hc : Nat.gcd u v = c) (hcl : nl BB c ≤ w) {Q : Int32 → MS → Prop} (hQ : OQ G M0 L n w (setR s d (c : Int), 0) Q) : w_X11_divisor G (kO L.1) M (fun (M11 : MS) => (w_X11_copy G (kO L.1) (nI d) (20 : Int32) M11 (fun (M12 : MS) => Q 0 M12))) := by
  unfold w_X11_divisor
  have hn := h.n16
  refine ⟨_, k_divisor_loop _ M g u v h.ki hu hv (by omega) (by omega) (Nat.lt_succ_self _) hc (fun N3 g3 f3 h4 q1 q2 => ?_)⟩
  refine k_copy (a := 20) h4 (by omega) (by decide) (fun N4 f4 h5 => ?_)
  refine h.set (f3.tr f4) h5 hd (by rw [setK_s]; exact q1) (fun x hx e => ?_) (by rw [Int.natAbs_natCast]; exact hcl) hQ
  rw [setK_n _ _ e, q2 x (by omega) (by omega) (by omega) (by omega)]
theorem k_step {G : SH} {M0 M : MS} {L : LV} {n w u v st : Nat} {s : ST} {g : Nat → Int} (h : KE G M0 M L n w (setS s (nI st)) g) (hu : g 20 = (u : Int)) (hv : g 21 = (v : Int)) (hv0 : v ≠ 0) (nu : nl HB u ≤ 80) {Q : MS → Prop} (hQ : ∀ (N : MS) (g' : Nat → Int), KE G M0 N L n w (setS s (nI (st + 1))) g' → g' 20 = (v : Int) → g' 21 = ((u % v : Nat) : Int) → Q N) : w_X11_step G (kO L.1) M Q := by
  unfold w_X11_step
  refine k_euc h.ki hu hv hv0 (by omega) (fun N g' f1 h1 q1 q2 q3 q4 => ?_)
  intro P eP
  have h2 := h.up f1 h1 (fun i hi => q4 i (by omega) (by omega) (by omega) (by omega))
  have e6 : mI N (kO L.1) 6 = nI st := h2.2.1.2.2.1.2.2.1
  rw [e6, nI_1] at eP
  have h3 := h2.st (nI (st + 1))
  rw [← eP] at h3
  exact hQ P g' h3 q2 q3
theorem nlH2 {v : Nat} : nl HB v ≤ 2 ↔ v < BB := by
  rw [← nl_le1, ← nlHB]
theorem k_leh_loop {G : SH} {M0 : MS} {L : LV} {nn w d c R : Nat} {s : ST} {T : Nat × Nat × Nat} (hd : d < nn) (hcl : nl BB c ≤ w) (hR : R = if 0 < T.2.1 ∧ BB ≤ T.1 then T.2.2 + 1 else T.2.2) {Q : Int32 → MS → Prop} (hQ : OQ G M0 L nn w (setS (setR s d (c : Int)) (nI R), 0) Q) : ∀ (n : Nat) (M : MS) (g : Nat → Int) (u v st : Nat), KE G M0 M L nn w (setS s (nI st)) g → g 20 = (u : Int) → g 21 = (v : Int) → v ≤ u → nl HB u ≤ 80 → Nat.gcd u v = c → LG n u v st = T → EM u v < n → w_X11_gcdLehmer_85 G Q n (kO L.1) (nI d) M
  | 0, M, g, u, v, st, _, _, _, _, _, _, _, hn => absurd hn (Nat.not_lt_zero _)
  | n + 1, M, g, u, v, st, h, hu, hv, hvu, nu, hg, hT, hn => by
    obtain ⟨⟨e0, e1, e2⟩, ⟨g0, g1, g2⟩, -⟩ := id h.ki.1
    have s20 := (h.ki.2 20 (by decide)).1
    have s21 := (h.ki.2 21 (by decide)).1
    rw [hu, Int.natAbs_natCast] at s20
    rw [hv, Int.natAbs_natCast] at s21
    have nv : nl HB v ≤ 80 := Nat.le_trans (nl_mono HB1 hvu) nu
    rw [LG] at hT
    rw [w_X11_gcdLehmer_85, e1, g1, show (21 : Int32).toNatClampNeg = 21 from rfl, show (20 : Int32).toNatClampNeg = 20 from rfl, s21.1, s20.1, show (2 : Int32) = nI 2 from rfl, nI_leI (by omega) (by decide), nI_leI (by omega) (by decide), nI_le0 (by omega), nlH0, nlH2, nlH2]
    have v21 := vp_in_nI (n := 21) (N := 40) (by decide) (by decide)
    have v20 := vp_in_nI (n := 20) (N := 40) (by decide) (by decide)
    refine ⟨v21, fun hb => ⟨v21, fun h0 => ?_, fun h0 => ⟨v20, fun hub => ?_, fun hub => ?_⟩⟩, fun hb => ?_⟩
    · rw [if_pos hb] at hT
      subst hT
      have hR : R = if 0 < v ∧ BB ≤ u then st + 1 else st := hR
      rw [if_neg (by omega)] at hR
      subst hR
      exact k_lfin h hd hu hv nu nv hg hcl hQ
    · rw [if_pos hb] at hT
      subst hT
      have hR : R = if 0 < v ∧ BB ≤ u then st + 1 else st := hR
      rw [if_neg (by omega)] at hR
      subst hR
      exact k_lfin h hd hu hv nu nv hg hcl hQ
    · rw [if_pos hb] at hT
      subst hT
      have hR : R = if 0 < v ∧ BB ≤ u then st + 1 else st := hR
      rw [if_pos (by omega)] at hR
      subst hR
      refine k_step h hu hv h0 nu (fun N g' h1 q1 q2 => ?_)
      refine k_lfin h1 hd q1 q2 nv (Nat.le_trans (nl_mono HB1 (Nat.le_of_lt (Nat.mod_lt _ (by omega)))) nv) ?_ hcl hQ
      rw [← hg, Nat.gcd_comm u v, Nat.gcd_rec v u, Nat.gcd_comm]
    · rw [if_neg hb] at hT
      have hb33 : 33 ≤ nl 2 u := by
        rcases Nat.lt_or_ge (nl 2 u) 33 with q | q
        · have := (nl_le (B := 2) (by decide) 32 u).mp (by omega)
          have e : (2 : Nat) ^ 32 = BB := rfl
          omega
        · exact q
      have nb : nl 2 u ≤ 1280 := by
        rw [nl_le (by decide)]
        have := (nl_le HB1 80 u).mp nu
        rw [HBp] at this
        exact this
      have tb := top_bits (u := u) (v := v) (by omega) hvu
      refine k_bits (a := 20) h.ki (by decide) ?_
      rw [hu, Int.natAbs_natCast, show (32 : Int32) = nI 32 from rfl, pk_sub (by omega)]
      refine k_high (a := 20) h.ki (by decide) (by omega) (by omega) rfl (by rw [hu, Int.natAbs_natCast]) tb.1 ?_
      refine k_high (a := 21) h.ki (by decide) (by omega) (by omega) rfl (by rw [hv, Int.natAbs_natCast]) (Nat.lt_of_le_of_lt tb.2 tb.1) ?_
      refine ⟨200, ?_⟩
      have hem : EM (((u / 2 ^ (nl 2 u - 32) : Nat) : Int) + 1).toNat (((v / 2 ^ (nl 2 u - 32) : Nat) : Int) + 0).toNat < 200 := by
        generalize u / 2 ^ (nl 2 u - 32) = a1 at tb ⊢
        generalize v / 2 ^ (nl 2 u - 32) = b1 at tb ⊢
        have b2 : BB ^ 2 = 18446744073709551616 := rfl
        have h1 : ((a1 : Int) + 1).toNat < BB ^ 2 := by rw [b2]; omega
        have h2 : ((b1 : Int) + 0).toNat < BB ^ 2 := by rw [b2, Int.add_zero, Int.toNat_natCast]; omega
        have := EM_le ((nl_le BB1 2 _).mpr h1) ((nl_le BB1 2 _).mpr h2)
        omega
      have h0l : (0 : Int64) = lZ 0 := rfl
      have h1l : (1 : Int64) = lZ 1 := rfl
      rw [lN_lZ, lN_lZ, h0l, h1l]
      refine k_cof_loop (T := LCF u v) rfl rfl tb.1 tb.2 hvu (fun U V x y hI hem2 => ?_) 200 _ _ 1 0 0 1 u v (LI_start tb.2 tb.1) ⟨Nat.le_refl _, fun h => absurd rfl h⟩ rfl hem
      have bb := hI.2.2.2.2.1
      have hI' := hI
      obtain ⟨-, -, -, -, -, ⟨ex, ey⟩, hgx, hdi, -⟩ := hI'
      unfold w_X11_gcdLehmer_256
      rw [lZ_0, lZ_eq (by omega) (by omega) (by decide) (by decide)]
      refine ⟨fun hB => ?_, fun hB => ?_⟩
      · rw [if_neg hB, ← ex, ← ey, Int.toNat_natCast, Int.toNat_natCast] at hT
        have hst2 : x ≤ v ∧ y < x := by
          rcases hdi with ⟨-, z, -, -⟩ | ⟨-, -, z1, z2⟩
          · exact absurd z hB
          · exact ⟨z1, z2⟩
        refine k_mixed (d := 28) h.ki (by decide) (by decide) rfl rfl (by omega) (by omega) (by omega) (by omega) (by rw [hu, Int.natAbs_natCast]; exact nu) (by rw [hv, Int.natAbs_natCast]; exact nv) (fun N1 g1 f1 h1 q1 q2 => ?_)
        have a20 : g1 20 = (u : Int) := by rw [q2 20 (by decide) (by decide) (by decide) (by decide) (by decide)]; exact hu
        have a21 : g1 21 = (v : Int) := by rw [q2 21 (by decide) (by decide) (by decide) (by decide) (by decide)]; exact hv
        refine k_mixed (d := 29) h1 (by decide) (by decide) rfl rfl (by omega) (by omega) (by omega) (by omega) (by rw [a20, Int.natAbs_natCast]; exact nu) (by rw [a21, Int.natAbs_natCast]; exact nv) (fun N2 g2 f2 h2 r1 r2 => ?_)
        refine k_copy (d := 20) (a := 28) h2 (by decide) (by decide) (fun N3 f3 h3 => ?_)
        refine k_copy (d := 21) (a := 29) h3 (by decide) (by decide) (fun N4 f4 h4 => ?_)
        have h5 := h.up (((f1.tr f2).tr f3).tr f4) h4 (fun i hi => by rw [setK_n _ _ (by omega), setK_n _ _ (by omega), r2 i (by omega) (by omega) (by omega) (by omega) (by omega), q2 i (by omega) (by omega) (by omega) (by omega) (by omega)])
        refine k_leh_loop hd hcl hR hQ n N4 _ x y st h5 ?_ ?_ (by omega) (Nat.le_trans (nl_mono HB1 (by omega)) nu) (by rw [hgx]; exact hg) hT (by have := hem2.2 hB; omega)
        · show g2 28 = _
          rw [r2 28 (by decide) (by decide) (by decide) (by decide) (by decide), q1, hu, hv, ex]
        · show g2 29 = _
          rw [r1, a20, a21, ey]
      · rw [if_pos hB] at hT
        have hv0 : v ≠ 0 := by have := BB1; omega
        refine k_step h hu hv hv0 nu (fun N g' h1 q1 q2 => ?_)
        have hEM := EM_lt (u := u) (show 0 < v by omega)
        have hm := Nat.mod_lt u (show 0 < v by omega)
        exact k_leh_loop hd hcl hR hQ n N g' v (u % v) (st + 1) h1 q1 q2 (by omega) nv (by rw [← hg, Nat.gcd_comm u v, Nat.gcd_rec v u, Nat.gcd_comm]) hT (by omega)
theorem k_leh {G : SH} {M : MS} {L : LV} {n w : Nat} {s : ST} {d a b : Int32} (h : KJ G M L n w s) {Q : Int32 → MS → Prop} (hQ : OQ G M L n w (oLeh n s d a b) Q) : w_X11_gcdLehmer G (kO L.1) d a b M Q := by
  unfold w_X11_gcdLehmer
  intro M1 e1
  obtain ⟨f, h1⟩ := h.go e1
  have hn := h1.n16
  unfold oLeh at hQ
  refine k_noA h1 (fun i hi ei => k_noA h1 (fun j hj ej => k_noB h1 (fun k hk ek => ?_) (fun z => ?_)) (fun z => ?_)) (fun z => ?_)
  · subst ei ej ek
    rw [if_pos ⟨isR_nI (by omega) hi, isR_nI (by omega) hj, isR_nI (by omega) hk⟩, ix_nI (by omega), ix_nI (by omega), ix_nI (by omega), ← h1.rg hj, ← h1.rg hk] at hQ
    have b1 := h1.nh hj
    have b2 := h1.nh hk
    intro M5 e5
    have h5 := h1.st 0
    rw [← e5] at h5
    have h5 : KE G M M5 L n w (setS s (nI 0)) f := h5
    refine k_sized (d := 20) h5.ki (by decide) (by omega) (fun N1 f1 h2 => ?_)
    refine k_sized (d := 21) h2 (by decide) (by omega) (fun N2 f2 h3 => ?_)
    have e2 : setK f 20 ((f j).natAbs : Int) k = f k := setK_n _ _ (by omega)
    rw [e2] at h3
    have hcl : nl BB (Nat.gcd (f j).natAbs (f k).natAbs) ≤ w := by
      refine nl_gcd ?_ ?_
      · rw [h1.rg hj]; exact h1.2.2.2.2.2 j hj
      · rw [h1.rg hk]; exact h1.2.2.2.2.2 k hk
    have h6 := h5.up (f1.tr f2) h3 (fun x hx => by rw [setK_n _ _ (by omega), setK_n _ _ (by omega)])
    unfold LST at hQ
    refine k_sizes (a := 20) (b := 21) h3 (by decide) (by decide) ?_
    have c0 : 0 ≤ cmpN (setK (setK f 20 ((f j).natAbs : Int)) 21 ((f k).natAbs : Int) 20).natAbs (setK (setK f 20 ((f j).natAbs : Int)) 21 ((f k).natAbs : Int) 21).natAbs ↔ (f k).natAbs ≤ (f j).natAbs := by
      show 0 ≤ cmpN (((f j).natAbs : Nat) : Int).natAbs (((f k).natAbs : Nat) : Int).natAbs ↔ _
      rw [Int.natAbs_natCast, Int.natAbs_natCast, ← Int32.not_lt, cmp_lt0]
      omega
    rw [c0]
    have em : ∀ {u v : Nat}, nl HB u ≤ 80 → nl HB v ≤ 80 → EM u v < 9000 := fun {u v} hu hv => by
      have := EM_le (n := 40) (nlHB.mp hu) (nlHB.mp hv)
      omega
    refine ⟨fun q => ⟨9000, ?_⟩, fun q => ?_⟩
    · rw [Nat.max_eq_left q, Nat.min_eq_right q] at hQ
      exact k_leh_loop hi hcl rfl hQ 9000 N2 _ (f j).natAbs (f k).natAbs 0 h6 rfl rfl q b1 rfl rfl (em b1 b2)
    · rw [Nat.max_eq_right (by omega), Nat.min_eq_left (by omega)] at hQ
      refine k_copy (d := 19) (a := 20) h3 (by decide) (by decide) (fun N3 f3 h7 => ?_)
      refine k_copy (d := 20) (a := 21) h7 (by decide) (by decide) (fun N4 f4 h8 => ?_)
      refine k_copy (d := 21) (a := 19) h8 (by decide) (by decide) (fun N5 f5 h9 => ⟨9000, ?_⟩)
      have h10 := h6.up ((f3.tr f4).tr f5) h9 (fun x hx => by rw [setK_n _ _ (by omega), setK_n _ _ (by omega), setK_n _ _ (by omega)])
      exact k_leh_loop hi hcl rfl hQ 9000 N5 _ (f k).natAbs (f j).natAbs 0 h10 rfl rfl (by omega) b2 (Nat.gcd_comm _ _) rfl (em b2 b1)
  · rw [if_neg (fun q => z q.2.2)] at hQ
    exact h1.same hQ
  · rw [if_neg (fun q => z q.2.1)] at hQ
    exact h1.same hQ
  · rw [if_neg (fun q => z q.1)] at hQ
    exact h1.same hQ
