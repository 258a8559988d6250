/-! quotient of the reference -/
theorem sp_stepH {A D j nb : Nat} {f g : Nat → Nat} (hD : 0 < D) (hDn : D < HB ^ nb) (hlow : ∀ t, t < j → g t = f t) (hR : vl HB f (j + 1 + nb) = A % (D * HB ^ (j + 1))) (hW : vl HB (fun t => g (j + t)) (nb + 1) = vl HB (fun t => f (j + t)) (nb + 1) % D) (hf : ∀ i, i < j → f i < HB) :
    vl HB (fun t => f (j + t)) (nb + 1) < D * HB ∧ vl HB (fun t => f (j + t)) (nb + 1) / D = hl (A / D) j ∧ vl HB g (j + nb) = A % (D * HB ^ j) ∧ g (j + nb) = 0 := by
  have e0 : j + 1 + nb = j + (nb + 1) := by omega
  rw [e0, vl_low] at hR
  have hl0 : vl HB f j < HB ^ j := vl_lt hf
  have hp := powHB_pos j
  generalize hWe : vl HB (fun t => f (j + t)) (nb + 1) = W at hR hW
  have hWR : W = A % (D * HB ^ (j + 1)) / HB ^ j := by rw [← hR, Nat.add_mul_div_left _ _ hp, Nat.div_eq_of_lt hl0, Nat.zero_add]
  have hlR : vl HB f j = A % (D * HB ^ (j + 1)) % HB ^ j := by rw [← hR, Nat.add_mul_mod_self_left, Nat.mod_eq_of_lt hl0]
  have hpos : 0 < D * HB ^ (j + 1) := Nat.mul_pos hD (powHB_pos _)
  have hlt : A % (D * HB ^ (j + 1)) < D * HB ^ (j + 1) := Nat.mod_lt _ hpos
  have hz : g (j + nb) = 0 := by
    rw [vl_s] at hW
    have h4 : W % D < HB ^ nb := Nat.lt_trans (Nat.mod_lt _ hD) hDn
    rcases Nat.eq_zero_or_pos (g (j + nb)) with z | z
    · exact z
    · have : 1 * HB ^ nb ≤ g (j + nb) * HB ^ nb := Nat.mul_le_mul_right _ z
      omega
  refine ⟨?_, ?_, ?_, hz⟩
  · rw [hWR, Nat.div_lt_iff_lt_mul hp]
    rw [Nat.pow_succ] at hlt
    have : D * HB * HB ^ j = D * (HB ^ j * HB) := by grind
    rw [this]
    exact hlt
  · rw [hWR, Nat.div_div_eq_div_mul, Nat.pow_succ, ← Nat.mul_assoc, Nat.mul_comm (HB ^ j) D, Nat.mod_mul_right_div_self]
    unfold hl
    rw [Nat.div_div_eq_div_mul]
  · have h1 : vl HB g (j + nb) = vl HB g j + HB ^ j * vl HB (fun t => g (j + t)) nb := vl_low nb
    have h2 : vl HB g j = vl HB f j := vl_congr hlow
    have h3 : vl HB (fun t => g (j + t)) nb = W % D := by
      rw [vl_s, hz, Nat.zero_mul, Nat.add_zero] at hW
      exact hW
    rw [h1, h2, h3, hlR, hWR, ← Nat.mod_mul, Nat.mul_comm D (HB ^ j)]
    refine Nat.mod_mod_of_dvd _ ?_
    rw [Nat.pow_succ]
    exact ⟨HB, by grind⟩
def wh (M : MS) (K : KV) (m j : Nat) : Nat → Nat := fun t => hd M K m (j + t)
theorem vl_wh_put {M : MS} {K : KV} {m j i n : Nat} {z : Int32} (h : n ≤ i) : vl HB (wh (wA M (kH K) (upd (mA M (kH K)) (260 * m + (j + i)) z)) K m j) n = vl HB (wh M K m j) n := vl_congr (fun t ht => hd_wH (by omega))
theorem wh_put_s {M : MS} {K : KV} {m j i : Nat} {z : Int32} : wh (wA M (kH K) (upd (mA M (kH K)) (260 * m + (j + i)) z)) K m j i = u32 z := hd_wHs
theorem lZ_lN (z : Int) : lZ z = lN (z % 18446744073709551616).toNat := by
  apply wb_inj
  rw [wb_tb]
  show (Int64.ofInt z).toBitVec = _
  rw [Int64.toBitVec_ofInt]
  apply BitVec.eq_of_toNat_eq
  rw [BitVec.toNat_ofInt, BitVec.toNat_ofNat]
  omega
theorem lZ_maskH (z : Int) : (lZ z &&& 65535).toInt32 = nI (z % 65536).toNat := by
  rw [lZ_lN, maskH (by omega), lN_i]
  congr 1
  omega
theorem shr_z16 {z : Int} (h1 : -9223372036854775808 ≤ z) (h2 : z < 9223372036854775808) : lZ z >>> ((16 : Int32).toInt64 &&& 63) = lZ (z / 65536) := shr_lZ 16 (by decide) h1 h2
/-- q, m written; b the divisor's row -/
def QE (q m b na w D : Nat) (f : Nat → Int) : Prop := (q < 40 ∧ m < 40 ∧ b < 40 ∧ q ≠ m ∧ b ≠ q ∧ b ≠ m) ∧ (f b).natAbs = D ∧ nl HB D = w ∧ 0 < D ∧ w ≤ na ∧ na ≤ 258
abbrev QP (q m : Nat) : Nat → Prop := fun r => r = m ∨ r = q
theorem QE.sl {G : SH} {M : MS} {K : KV} {q m b na w D : Nat} {f : Nat → Int} (h : QE q m b na w D f) (hX : KY G M K (QP q m) f) : Sl M K b (f b) := hX.2 b h.1.2.2.1 (fun z => by rcases z with z | z; exact h.1.2.2.2.2.2 z; exact h.1.2.2.2.2.1 z)
theorem qt_sub {G : SH} {M0 : MS} {K : KV} {q m b na w D j g : Nat} {dv : Int64} {f : Nat → Int} (hE : QE q m b na w D f) (hj : j + w ≤ na) (hg : g < 65536) (h0 : ∀ k, k < na + 1 → hd M0 K m k < HB) {K108 : Nat → Int32 → Int32 → Int32 → Int32 → Int32 → Int64 → Int32 → MS → Prop} {Q : MS → Prop}
    (hK : ∀ (N : MS) (bo : Int), KF K M0 N → KY G N K (QP q m) f → (∀ k, k < j ∨ j + w < k → hd N K m k = hd M0 K m k) → (∀ k, k < na + 1 → hd N K m k < HB) → (∀ k, k < 260 → hd N K q k = hd M0 K q k) → (vl HB (wh N K m j) (w + 1) : Int) + bo * (HB ^ (w + 1) : Nat) = vl HB (wh M0 K m j) (w + 1) - g * D → -65536 ≤ bo → bo ≤ 0 → ∃ n1, w_X11_quotient_273 G K108 Q n1 (kO K) (nI q) (nI m) (nI b) (nI na) (nI w) dv (nI j) (lN g) (lZ bo) N) :
    ∀ (t i : Nat) (M : MS) (bo : Int), i + t = w + 1 → KF K M0 M → KY G M K (QP q m) f → -65536 ≤ bo → bo ≤ 0 → (∀ k, k < j ∨ j + i ≤ k → hd M K m k = hd M0 K m k) → (∀ k, k < na + 1 → hd M K m k < HB) → (∀ k, k < 260 → hd M K q k = hd M0 K q k) → (vl HB (wh M K m j) i : Int) + bo * (HB ^ i : Nat) = vl HB (wh M0 K m j) i - g * (D % HB ^ i : Nat) → w_X11_quotient_178 G K108 Q (t + 1) (kO K) (nI q) (nI m) (nI b) (nI na) (nI w) dv (nI j) (lN g) (lZ bo) (nI i) M
  | 0, i, M, bo, hi, f1, hX, b1, b2, hk, hlt, hq, hF => by
    obtain ⟨⟨c1, c2, c3, c4, c5, c6⟩, hD, hw, hD0, hwn, hna⟩ := id hE
    obtain rfl : i = w + 1 := by omega
    rw [w_X11_quotient_178, nI_ltI (by omega) (by omega)]
    refine ⟨fun _ => hK M bo f1 hX (fun k h => hk k (by omega)) hlt hq ?_ b1 b2, fun z => absurd (by omega) z⟩
    rw [modH_all (by omega)] at hF
    exact hF
  | t + 1, i, M, bo, hi, f1, hX, b1, b2, hk, hlt, hq, hF => by
    obtain ⟨⟨c1, c2, c3, c4, c5, c6⟩, hD, hw, hD0, hwn, hna⟩ := id hE
    obtain ⟨⟨e0, e1, e2⟩, ⟨g0, g1, g2⟩, n1, n2, n3⟩ := id hX.1
    have sb := hE.sl hX
    have lb := hl_lt D i
    have lm : hd M K m (j + i) < 65536 := hlt (j + i) (by omega)
    have hm0 : hd M K m (j + i) = wh M0 K m j i := hk (j + i) (Or.inr (Nat.le_refl _))
    have hgb := mulH_le hg lb
    have fin : w_X11_quotient_229 G K108 (w_X11_quotient_178 G K108 Q (t + 1)) Q (kO K) (nI q) (nI m) (nI b) (nI na) (nI w) dv (nI j) (lN g) (lZ bo) (nI i) (nI (hl D i)) (lN g) ((mA M (kH K) (260 * m + (j + i))).toInt64) M := by
      unfold w_X11_quotient_229
      intro y ey
      rw [mA_hd (M := M) (K := K) (r := m) (k := j + i) rfl, nI_l (by omega), nI_l (by omega), lN_mul, lN_lZ, lN_lZ, lZ_sub, lZ_add] at ey
      generalize hS : (hd M K m (j + i) : Int) - ((g * hl D i : Nat) : Int) + bo = S at ey
      rw [ixH, nI_add, Nat.add_assoc, e0, g0, cl (by omega)]
      refine ⟨vp_in_nI (by omega) (by decide), fun N eN z ez x ex => ?_⟩
      rw [ey, lZ_maskH] at eN
      rw [ey, shr_z16 (by omega) (by omega)] at ez
      have x1 : KY G N K (QP q m) f := by rw [eN]; exact hX.wH (Or.inl rfl) (by omega) _
      have f2 : KF K M N := by rw [eN]; exact KF.wH _
      have hw3 : (S % 65536).toNat < 65536 := by omega
      rw [ex, nI_1, ez]
      refine qt_sub hE hj hg h0 hK t (i + 1) N (S / 65536) (by omega) (f1.tr f2) x1 (by omega) (by omega) (fun k h => by rw [eN, hd_wH (by omega)]; exact hk k (by omega)) (by rw [eN]; exact hdlt_any hlt (by rw [u32_nI_lt (by omega)]; exact hw3)) (fun k h => by rw [eN, hd_wH (by omega)]; exact hq k h) ?_
      rw [vl_s, vl_s, eN, vl_wh_put (Nat.le_refl _), wh_put_s, u32_nI_lt (by omega), mod_h, Nat.pow_succ, ← hm0]
      have hs2 : 65536 * (S / 65536) + S % 65536 = S := Int.mul_ediv_add_emod S 65536
      have hu : (((S % 65536).toNat : Nat) : Int) = S % 65536 := by omega
      generalize (S % 65536).toNat = ww at hu
      rw [← hu] at hs2
      generalize S / 65536 = bb at hs2
      generalize HB ^ i = X at hF
      generalize vl HB (wh M K m j) i = V at hF
      generalize vl HB (wh M0 K m j) i = V0 at hF
      generalize hd M K m (j + i) = o at hS
      generalize hl D i = dd at hS
      generalize D % X = Dm at hF
      have hBB : ((HB : Nat) : Int) = 65536 := rfl
      simp only [Int.natCast_add, Int.natCast_mul, hBB] at hS ⊢
      have a1 : (65536 * bb + (ww : Int)) * X = ((o : Int) - (g : Int) * (dd : Int) + bo) * X := by rw [hs2, hS]
      grind
    rw [w_X11_quotient_178, nI_ltI (by omega) (by omega), nI_leI (by omega) (by omega), ixH, ixH, nI_add, Nat.add_assoc, e0, g0, cl (c := 260 * m + (j + i)) (by omega)]
    refine ⟨fun z => absurd z (by omega), fun _ => ⟨vp_in_nI (by omega) (by decide), fun z => ?_, fun z => ⟨vp_in_nI (by omega) (by decide), ?_⟩⟩⟩
    · have e : hl D i = 0 := hl_big (by omega)
      rw [e] at fin
      exact fin
    · have e := mA_hd (sb.hl (i := i) (by rw [hD]; omega))
      rw [hD] at e
      rw [cl (by omega), e]
      exact fin
theorem qt_add {G : SH} {M0 : MS} {K : KV} {q m b na w D j : Nat} {dv v12 v14 : Int64} {f : Nat → Int} (hE : QE q m b na w D f) (hj : j + w ≤ na) {K108 : Nat → Int32 → Int32 → Int32 → Int32 → Int32 → Int64 → Int32 → MS → Prop} {K273 : Nat → Int32 → Int32 → Int32 → Int32 → Int32 → Int64 → Int32 → Int64 → Int64 → MS → Prop} {Q : MS → Prop}
    (hK : ∀ (N : MS) (cy : Nat), cy ≤ 1 → KF K M0 N → KY G N K (QP q m) f → (∀ k, k < j ∨ j + w < k → hd N K m k = hd M0 K m k) → (∀ k, k < na + 1 → hd N K m k < HB) → (∀ k, k < 260 → hd N K q k = hd M0 K q k) → vl HB (wh N K m j) (w + 1) + cy * HB ^ (w + 1) = vl HB (wh M0 K m j) (w + 1) + D → K273 (kO K) (nI q) (nI m) (nI b) (nI na) (nI w) dv (nI j) v12 (v14 + lN cy) N) :
    ∀ (t i : Nat) (M : MS) (cy : Nat), i + t = w + 1 → KF K M0 M → KY G M K (QP q m) f → cy ≤ 1 → (∀ k, k < j ∨ j + i ≤ k → hd M K m k = hd M0 K m k) → (∀ k, k < na + 1 → hd M K m k < HB) → (∀ k, k < 260 → hd M K q k = hd M0 K q k) → vl HB (wh M K m j) i + cy * HB ^ i = vl HB (wh M0 K m j) i + D % HB ^ i → w_X11_quotient_292 G K108 K273 Q (t + 1) (kO K) (nI q) (nI m) (nI b) (nI na) (nI w) dv (nI j) v12 v14 (nI cy) (nI i) M
  | 0, i, M, cy, hi, f1, hX, hcy, hk, hlt, hq, hF => by
    obtain ⟨⟨c1, c2, c3, c4, c5, c6⟩, hD, hw, hD0, hwn, hna⟩ := id hE
    obtain rfl : i = w + 1 := by omega
    rw [w_X11_quotient_292, nI_ltI (by omega) (by omega), nI_l (by omega)]
    refine ⟨fun _ x ex => ?_, fun z => absurd (by omega) z⟩
    rw [ex]
    rw [modH_all (by omega)] at hF
    exact hK M cy hcy f1 hX (fun k h => hk k (by omega)) hlt hq hF
  | t + 1, i, M, cy, hi, f1, hX, hcy, hk, hlt, hq, hF => by
    obtain ⟨⟨c1, c2, c3, c4, c5, c6⟩, hD, hw, hD0, hwn, hna⟩ := id hE
    obtain ⟨⟨e0, e1, e2⟩, ⟨g0, g1, g2⟩, n1, n2, n3⟩ := id hX.1
    have sb := hE.sl hX
    have lb := hl_lt D i
    have lm : hd M K m (j + i) < 65536 := hlt (j + i) (by omega)
    have hm0 : hd M K m (j + i) = wh M0 K m j i := hk (j + i) (Or.inr (Nat.le_refl _))
    have fin : w_X11_quotient_342 G K108 K273 (w_X11_quotient_292 G K108 K273 Q (t + 1)) Q (kO K) (nI q) (nI m) (nI b) (nI na) (nI w) dv (nI j) v12 v14 (nI i) (nI (hl D i)) (mA M (kH K) (260 * m + (j + i))) (nI cy) M := by
      unfold w_X11_quotient_342
      intro y ey
      rw [mA_hd (M := M) (K := K) (r := m) (k := j + i) rfl, nI_add, nI_add] at ey
      generalize hS : cy + (hd M K m (j + i) + hl D i) = S at ey
      rw [ixH, nI_add, Nat.add_assoc, e0, g0, cl (by omega)]
      refine ⟨vp_in_nI (by omega) (by decide), fun N eN z ez x ex => ?_⟩
      rw [ey, nx_mod] at eN
      rw [ey, shr16 (by omega)] at ez
      have x1 : KY G N K (QP q m) f := by rw [eN]; exact hX.wH (Or.inl rfl) (by omega) _
      have f2 : KF K M N := by rw [eN]; exact KF.wH _
      rw [ex, nI_1, ez]
      refine qt_add hE hj hK t (i + 1) N (S / 65536) (by omega) (f1.tr f2) x1 (by omega) (fun k h => by rw [eN, hd_wH (by omega)]; exact hk k (by omega)) (by rw [eN]; exact hdlt_any hlt (by rw [u32_nI_lt (by omega)]; show S % 65536 < 65536; omega)) (fun k h => by rw [eN, hd_wH (by omega)]; exact hq k h) ?_
      rw [vl_s, vl_s, eN, vl_wh_put (Nat.le_refl _), wh_put_s, u32_nI_lt (by omega), mod_h, Nat.pow_succ, ← hm0]
      have hs2 : 65536 * (S / 65536) + S % 65536 = S := Nat.div_add_mod _ _
      have e : S % 65536 * HB ^ i + S / 65536 * (HB ^ i * HB) = S * HB ^ i := by
        calc S % 65536 * HB ^ i + S / 65536 * (HB ^ i * HB) = (65536 * (S / 65536) + S % 65536) * HB ^ i := by show _ + S / 65536 * (HB ^ i * 65536) = _; grind
          _ = S * HB ^ i := by rw [hs2]
      have e2 : S * HB ^ i = cy * HB ^ i + hd M K m (j + i) * HB ^ i + hl D i * HB ^ i := by rw [← hS]; grind
      omega
    rw [w_X11_quotient_292, nI_ltI (by omega) (by omega), nI_leI (by omega) (by omega), ixH, ixH, nI_add, Nat.add_assoc, e0, g0, cl (c := 260 * m + (j + i)) (by omega)]
    refine ⟨fun z => absurd z (by omega), fun _ => ⟨vp_in_nI (by omega) (by decide), fun z => ?_, fun z => ⟨vp_in_nI (by omega) (by decide), ?_⟩⟩⟩
    · have e : hl D i = 0 := hl_big (by omega)
      rw [e] at fin
      exact fin
    · have e := mA_hd (sb.hl (i := i) (by rw [hD]; omega))
      rw [hD] at e
      rw [cl (by omega), e]
      exact fin
theorem lZ_ge0 {z : Int} (h1 : -9223372036854775808 ≤ z) (h2 : z < 9223372036854775808) : (0 : Int64) ≤ lZ z ↔ 0 ≤ z := by
  rw [fa_le64, lZ_toInt h1 h2]
  rfl
theorem sp_W {A D j nb : Nat} {f : Nat → Nat} (hD : 0 < D) (hR : vl HB f (j + 1 + nb) = A % (D * HB ^ (j + 1))) : vl HB (fun t => f (j + t)) (nb + 1) < D * HB := by
  have e0 : j + 1 + nb = j + (nb + 1) := by omega
  rw [e0, vl_low] at hR
  have hp := powHB_pos j
  have hpos : 0 < D * HB ^ (j + 1) := Nat.mul_pos hD (powHB_pos _)
  have hlt : A % (D * HB ^ (j + 1)) < D * HB ^ (j + 1) := Nat.mod_lt _ hpos
  rw [Nat.pow_succ] at hlt hR
  have e : D * (HB ^ j * HB) = HB ^ j * (D * HB) := by grind
  refine Nat.lt_of_mul_lt_mul_left (a := HB ^ j) ?_
  rw [← e]
  omega
theorem qt_fix {G : SH} {M0 : MS} {K : KV} {q m b na w D j W : Nat} {dv : Int64} {f : Nat → Int} (hE : QE q m b na w D f) (hj : j + w ≤ na) {K108 : Nat → Int32 → Int32 → Int32 → Int32 → Int32 → Int64 → Int32 → MS → Prop} {Q : MS → Prop}
    (hK : ∀ (N : MS), KF K M0 N → KY G N K (QP q m) f → (∀ k, k < na + 1 → k < j ∨ j + w < k → hd N K m k = hd M0 K m k) → (∀ k, k < na + 1 → hd N K m k < HB) → (∀ k, k < 260 → k ≠ j → hd N K q k = hd M0 K q k) → hd N K q j = W / D → vl HB (wh N K m j) (w + 1) = W % D → K108 (kO K) (nI q) (nI m) (nI b) (nI na) (nI w) dv (nI j - 1) N) :
    ∀ (g : Nat) (M : MS) (bo : Int), g < 65536 → KF K M0 M → KY G M K (QP q m) f → (∀ k, k < na + 1 → k < j ∨ j + w < k → hd M K m k = hd M0 K m k) → (∀ k, k < na + 1 → hd M K m k < HB) → (∀ k, k < 260 → hd M K q k = hd M0 K q k) → W / D ≤ g → ((bo = 0 ∧ vl HB (wh M K m j) (w + 1) + g * D = W) ∨ (bo = -1 ∧ vl HB (wh M K m j) (w + 1) + g * D = W + HB ^ (w + 1))) → w_X11_quotient_273 G K108 Q (g + 1) (kO K) (nI q) (nI m) (nI b) (nI na) (nI w) dv (nI j) (lN g) (lZ bo) M := by
  obtain ⟨⟨c1, c2, c3, c4, c5, c6⟩, hD, hw, hD0, hwn, hna⟩ := id hE
  have fin : ∀ (g n : Nat) (M : MS), g < 65536 → KF K M0 M → KY G M K (QP q m) f → (∀ k, k < na + 1 → k < j ∨ j + w < k → hd M K m k = hd M0 K m k) → (∀ k, k < na + 1 → hd M K m k < HB) → (∀ k, k < 260 → hd M K q k = hd M0 K q k) → W / D ≤ g → vl HB (wh M K m j) (w + 1) + g * D = W → w_X11_quotient_273 G K108 Q (n + 1) (kO K) (nI q) (nI m) (nI b) (nI na) (nI w) dv (nI j) (lN g) (lZ 0) M := by
    intro g n M hg f1 hX hk hlt hq hge hv
    obtain ⟨⟨e0, e1, e2⟩, ⟨g0, g1, g2⟩, n1, n2, n3⟩ := id hX.1
    have hgW : g ≤ W / D := (Nat.le_div_iff_mul_le hD0).mpr (by omega)
    obtain rfl : g = W / D := by omega
    have hdm := Nat.div_add_mod W D
    rw [Nat.mul_comm] at hdm
    rw [w_X11_quotient_273, lZ_ge0 (by decide) (by decide), ixH, e0, g0, cl (by omega), lN_i]
    refine ⟨fun _ => ⟨vp_in_nI (by omega) (by decide), fun N eN x ex => ?_⟩, fun z => absurd (by decide) z⟩
    rw [ex, show nI j + -1 = nI j - 1 from (Int32.sub_eq_add_neg ..).symm]
    have hm : ∀ k, k < na + 1 → hd N K m k = hd M K m k := fun k h => by rw [eN, hd_wH (by omega)]
    refine hK N (f1.tr (by rw [eN]; exact KF.wH _)) (by rw [eN]; exact hX.wH (Or.inr rfl) (by omega) _) (fun k h h2 => by rw [hm k h]; exact hk k h h2) (fun k h => by rw [hm k h]; exact hlt k h) (fun k h h2 => by rw [eN, hd_wH (by omega)]; exact hq k h) (by rw [eN, hd_wHs, u32_nI_lt (by omega)]) ?_
    have e : vl HB (wh N K m j) (w + 1) = vl HB (wh M K m j) (w + 1) := vl_congr (fun t ht => hm (j + t) (by omega))
    rw [e]
    omega
  intro g
  induction g with
  | zero =>
    intro M bo hg f1 hX hk hlt hq hge hor
    have lv : vl HB (wh M K m j) (w + 1) < HB ^ (w + 1) := vl_lt (fun t ht => hlt (j + t) (by omega))
    rcases hor with ⟨rfl, hv⟩ | ⟨rfl, hv⟩
    · exact fin 0 0 M hg f1 hX hk hlt hq hge hv
    · rw [Nat.zero_mul] at hv
      omega
  | succ g ih =>
    intro M bo hg f1 hX hk hlt hq hge hor
    have lv : vl HB (wh M K m j) (w + 1) < HB ^ (w + 1) := vl_lt (fun t ht => hlt (j + t) (by omega))
    rcases hor with ⟨rfl, hv⟩ | ⟨rfl, hv⟩
    · exact fin (g + 1) (g + 1) M hg f1 hX hk hlt hq hge hv
    · have hlt2 : W / D < g + 1 := by
        rw [Nat.div_lt_iff_lt_mul hD0]
        omega
      rw [w_X11_quotient_273, lZ_ge0 (by decide) (by decide)]
      refine ⟨fun z => absurd z (by decide), fun _ x ex => ⟨w + 2, ?_⟩⟩
      have ex2 : x = lN g := by
        rw [ex, show (1 : Int64) = lN 1 from rfl, lN_sub (by omega)]
        rfl
      rw [ex2, ← nI_0]
      refine qt_add (M0 := M) hE hj (fun N cy hcy f2 hX2 hk2 hlt2' hq2 hv2 => ?_) (w + 1) 0 M 0 (by omega) KF.rf hX (by decide) (fun _ _ => rfl) hlt (fun _ _ => rfl) (by rw [vl_0, Nat.pow_zero, Nat.mod_one])
      have hbo : lZ (-1) + lN cy = lZ (-1 + (cy : Int)) := by rw [lN_lZ, lZ_add]
      rw [hbo]
      refine ih N (-1 + (cy : Int)) (by omega) (f1.tr f2) hX2 (fun k h h2 => by rw [hk2 k h2]; exact hk k h h2) hlt2' (fun k h => by rw [hq2 k h]; exact hq k h) (by omega) ?_
      rw [Nat.add_mul, Nat.one_mul] at hv
      rcases Nat.eq_zero_or_pos cy with e | e
      · rw [e, Nat.zero_mul] at hv2
        exact Or.inr ⟨by omega, by omega⟩
      · have e1 : cy = 1 := by omega
        rw [e1, Nat.one_mul] at hv2
        exact Or.inl ⟨by omega, by omega⟩
theorem lN_div {a b : Nat} (ha : a < 9223372036854775808) (hb0 : 0 < b) (hb : b < 9223372036854775808) : lN a / lN b = lN (a / b) := by
  rw [lN_lZ, lN_lZ, lZ_div (by omega) (by omega) (by omega) (by omega), lN_lZ]
  rfl
theorem iS_nat {n : Nat} (h : (n : Int) ≠ 0) : (1 : Int32) = iS n := (iS_pos (by omega)).symm
theorem qt_loop {G : SH} {K : KV} {q m b na w D A : Nat} {f : Nat → Int} (hE : QE q m b na w D f) (hAD : nl HB (A / D) ≤ na - w + 1) (hA : nl HB A ≤ 259) {Q : MS → Prop} : ∀ (J : Nat) (M : MS), J + w ≤ na + 1 → KY G M K (QP q m) f → (∀ k, k < na + 1 → hd M K m k < HB) → (∀ k, J + w ≤ k → k < na + 1 → hd M K m k = 0) → vl HB (hd M K m) (J + w) = A % (D * HB ^ J) → (∀ t, J ≤ t → t < na - w + 1 → hd M K q t = hl (A / D) t) → (∀ N, KF K M N → KI G N K (setK (setK f q ((A / D : Nat) : Int)) m ((A % D : Nat) : Int)) → Q N) → w_X11_quotient_108 G Q (J + 1) (kO K) (nI q) (nI m) (nI b) (nI na) (nI w) (lN (D / HB ^ (w - 2))) (nI J - 1) M
  | 0, M, hJ, hX, hlt, hz, hv, hqd, hQ => by
    obtain ⟨⟨c1, c2, c3, c4, c5, c6⟩, hD, hw, hD0, hwn, hna⟩ := id hE
    rw [w_X11_quotient_108]
    refine ⟨fun _ => ?_, fun z => absurd (by decide) z⟩
    have e1 : nI na - nI w + 1 = nI (na - w + 1) := by
      rw [nI_iZ, nI_iZ, iZ_sub, ← nI_1, nI_iZ]
      congr 2
      omega
    have hAl : nl HB (A / D) ≤ 259 := by omega
    have hMl : nl HB (A % D) ≤ 259 := Nat.le_trans (nl_mono HB1 (Nat.mod_le A D)) hA
    refine k_trimY ((A / D : Nat) : Int) hX (Or.inr rfl) c1 (c := na - w + 1) (by omega) e1 (by rw [Int.natAbs_natCast]; exact hAl) ?_ (fun k hk => by rw [hqd k (Nat.zero_le _) hk]; exact hl_lt _ _) iS_nat (fun N f1 hH h1 => ?_)
    · rw [Int.natAbs_natCast, vl_congr (g := hl (A / D)) (fun j h => hqd j (Nat.zero_le _) h), vl_hl, modH_all hAD]
    · have ehd : hd N K m = hd M K m := by unfold hd; rw [hH]
      refine k_trimY ((A % D : Nat) : Int) h1 ⟨Or.inl rfl, c4.symm⟩ c2 (c := na + 1) (by omega) (nI_1 na) (by rw [Int.natAbs_natCast]; exact hMl) ?_ (by rw [ehd]; exact hlt) iS_nat (fun P f2 _ h2 => ?_)
      · rw [Int.natAbs_natCast, ehd, vl_pad (m := w) (na + 1) (by omega) (fun k h h2 => hz k (by omega) h2)]
        rw [Nat.zero_add, Nat.pow_zero, Nat.mul_one] at hv
        exact hv
      · exact hQ P (f1.tr f2) (h2.ki (fun r z => by
          rcases z.1.1 with e | e
          · exact z.2 e
          · exact z.1.2 e))
  | j + 1, M, hJ, hX, hlt, hz, hv, hqd, hQ => by
    obtain ⟨⟨c1, c2, c3, c4, c5, c6⟩, hD, hw, hD0, hwn, hna⟩ := id hE
    have hjw : j + w ≤ na := by omega
    have hDn : D < HB ^ w := (nl_le HB1 w D).mp (by omega)
    have hw0 : 0 < w := by
      rcases Nat.eq_zero_or_pos w with e | e
      · have := nlH0.mp (hw.trans e)
        omega
      · exact e
    have hDg : HB ^ (w - 1) ≤ D := (nl_lt_iff HB1 (w - 1) D).mp (by omega)
    generalize hW : vl HB (wh M K m j) (w + 1) = W
    have hWD : W < D * HB := by
      rw [← hW]
      exact sp_W (f := hd M K m) hD0 hv
    have hWl : W < HB ^ (w + 1) := by
      rw [← hW]
      exact vl_lt (fun t ht => hlt (j + t) (by omega))
    have hq0 : W / D < 65536 := by
      rw [Nat.div_lt_iff_lt_mul hD0, Nat.mul_comm]
      exact hWD
    rw [nI_pred, w_X11_quotient_108, nI_add]
    refine ⟨fun z => absurd z (nI_lt0 (by omega)), fun _ => ?_⟩
    have hp := powHB_pos (w - 2)
    have hdv0 : 0 < D / HB ^ (w - 2) := Nat.div_pos (Nat.le_trans (Nat.pow_le_pow_right (by decide) (by omega)) hDg) hp
    have hdvl : D / HB ^ (w - 2) < 4294967296 := by
      rw [Nat.div_lt_iff_lt_mul hp]
      have e : 4294967296 * HB ^ (w - 2) = HB ^ (2 + (w - 2)) := by rw [Nat.pow_add, show HB ^ 2 = 4294967296 from rfl]
      rw [e]
      exact Nat.lt_of_lt_of_le hDn (Nat.pow_le_pow_right (by decide) (by omega))
    have hovl : W / HB ^ (w - 2) < 281474976710656 := by
      rw [Nat.div_lt_iff_lt_mul hp]
      have e : 281474976710656 * HB ^ (w - 2) = HB ^ (3 + (w - 2)) := by rw [Nat.pow_add, show HB ^ 3 = 281474976710656 from rfl]
      rw [e]
      exact Nat.lt_of_lt_of_le hWl (Nat.pow_le_pow_right (by decide) (by omega))
    have hge : W / D ≤ W / HB ^ (w - 2) / (D / HB ^ (w - 2)) := by
      rw [Nat.le_div_iff_mul_le hdv0]
      refine kn1 (P := HB ^ (w - 2)) (D := D) (dl := D % HB ^ (w - 2)) (W := W) (wl := W % HB ^ (w - 2)) ?_ ?_ (Nat.mod_lt _ hp) (Nat.div_mul_le_self W D)
      · rw [Nat.add_comm]; exact (Nat.div_add_mod _ _).symm
      · rw [Nat.add_comm]; exact (Nat.div_add_mod _ _).symm
    have go : ∀ g, g < 65536 → W / D ≤ g → ∃ n1, w_X11_quotient_178 G (w_X11_quotient_108 G Q (j + 1)) Q n1 (kO K) (nI q) (nI m) (nI b) (nI na) (nI w) (lN (D / HB ^ (w - 2))) (nI j) (lN g) 0 0 M := by
      intro g hg hg2
      refine ⟨w + 2, ?_⟩
      have h0 : (0 : Int32) = nI 0 := rfl
      have h00 : (0 : Int64) = lZ 0 := rfl
      rw [h0, h00]
      refine qt_sub (M0 := M) hE hjw hg hlt (fun N bo f1 hX1 hk1 hlt1 hq1 hv1 b1 b2 => ⟨g + 1, ?_⟩) (w + 1) 0 M 0 (by omega) KF.rf hX (by decide) (by decide) (fun _ _ => rfl) hlt (fun _ _ => rfl) (by rw [vl_0, Nat.pow_zero, Nat.mod_one]; simp)
      refine qt_fix (M0 := M) (W := W) hE hjw (fun P f2 hX2 hk2 hlt2 hq2 hqj hw2 => ?_) g N bo hg f1 hX1 (fun k _ h => hk1 k h) hlt1 hq1 hg2 ?_
      · have st := sp_stepH (A := A) (D := D) (j := j) (nb := w) (f := hd M K m) (g := hd P K m) hD0 hDn (fun t ht => hk2 t (by omega) (Or.inl ht)) hv (by
          show vl HB (wh P K m j) (w + 1) = vl HB (wh M K m j) (w + 1) % D
          rw [hw2, hW]) (fun i hi => hlt i (by omega))
        have st2 : W / D = hl (A / D) j := by rw [← hW]; exact st.2.1
        refine qt_loop hE hAD hA j P (by omega) hX2 hlt2 (fun k h1 h2 => ?_) st.2.2.1 (fun t h1 h2 => ?_) (fun S f3 hS => hQ S (f2.tr f3) hS)
        · by_cases e : k = j + w
          · rw [e]; exact st.2.2.2
          · rw [hk2 k h2 (Or.inr (by omega))]; exact hz k (by omega) h2
        · by_cases e : t = j
          · rw [e, hqj, st2]
          · rw [hq2 t (by omega) e]; exact hqd t (by omega) h2
      · rw [hW] at hv1
        have lx : vl HB (wh N K m j) (w + 1) < HB ^ (w + 1) := vl_lt (fun t ht => hlt1 (j + t) (by omega))
        have hgD : g * D ≤ 65535 * D := Nat.mul_le_mul_right D (by omega)
        have hH : HB ^ (w + 1) = HB ^ w * 65536 := Nat.pow_succ _ _
        have cgD : ((g * D : Nat) : Int) = (g : Int) * (D : Int) := Int.natCast_mul _ _
        generalize vl HB (wh N K m j) (w + 1) = X at hv1 lx ⊢
        generalize HB ^ (w + 1) = H at hv1 lx hWl hH ⊢
        rcases (show bo = 0 ∨ bo = -1 ∨ bo ≤ -2 by omega) with e | e | e
        · rw [e, Int.zero_mul] at hv1
          exact Or.inl ⟨e, by omega⟩
        · rw [e] at hv1
          exact Or.inr ⟨e, by omega⟩
        · have : bo * (H : Int) ≤ -2 * (H : Int) := Int.mul_le_mul_of_nonneg_right e (by omega)
          omega
    have fin : ∀ ov, ov = W / HB ^ (w - 2) → w_X11_quotient_144 G (w_X11_quotient_108 G Q (j + 1)) Q (kO K) (nI q) (nI m) (nI b) (nI na) (nI w) (lN (D / HB ^ (w - 2))) (nI j) (lN ov) M := by
      intro ov hov
      unfold w_X11_quotient_144
      refine ⟨fun z => ?_, fun x ex => ?_⟩
      · have h00 : (0 : Int64) = lN 0 := rfl
        rw [h00, pk_lEQ (by omega) (by omega)] at z
        omega
      · rw [lN_div (by omega) hdv0 (by omega), hov] at ex
        have hql : W / HB ^ (w - 2) / (D / HB ^ (w - 2)) ≤ W / HB ^ (w - 2) := Nat.div_le_self _ _
        rw [ex, show (65535 : Int64) = lN 65535 from rfl, pk_lLE (by omega) (by omega)]
        exact ⟨fun z => go _ (by omega) hge, fun z => go 65535 (by decide) (by omega)⟩
    have top : ∀ n, w - 2 + n = w + 1 → vl HB (fun t => hd M K m (j + w + 1 - n + t)) n = W / HB ^ (w - 2) := by
      intro n hn
      rw [← hW, ← hn, vl_low]
      have e : (fun t => hd M K m (j + w + 1 - n + t)) = (fun t => wh M K m j (w - 2 + t)) := funext fun t => by
        show hd M K m _ = hd M K m _
        congr 1
        omega
      have l2 : vl HB (wh M K m j) (w - 2) < HB ^ (w - 2) := vl_lt (fun t ht => hlt (j + t) (by omega))
      rw [Nat.add_mul_div_left _ _ hp, Nat.div_eq_of_lt l2, Nat.zero_add, e]
    rw [show (1 : Int32) = nI 1 from rfl, nI_leI (by omega) (by decide)]
    refine ⟨fun z => ?_, fun z => ?_⟩
    · exact k_top hX.1 c2 (k := j + w) (n := 2) (by omega) (by omega) (by decide) rfl (fun t ht => hlt t (by omega)) (fin _ (top 2 (by omega)))
    · exact k_top hX.1 c2 (k := j + w) (n := 3) (by omega) (by omega) (by decide) rfl (fun t ht => hlt t (by omega)) (fin _ (top 3 (by omega)))
theorem KI.wtop {G : SH} {M : MS} {K : KV} {d k : Nat} {f : Nat → Int} {x : Int32} (h : KI G M K f) (hd' : d < 40) (hk : nl HB (f d).natAbs ≤ k) (hk2 : k < 260) : KI G (wA M (kH K) (upd (mA M (kH K)) (260 * d + k) x)) K f := by
  have h1 := KX_close (z := f d) ((h.x d).wHx hk2 x) (by
    obtain ⟨⟨a1, a2, a3⟩, a4, a5⟩ := h.2 d hd'
    obtain ⟨-, -, n1, n2, n3⟩ := id h.1
    have e : ∀ j, j < nl HB (f d).natAbs → hd (wA M (kH K) (upd (mA M (kH K)) (260 * d + k) x)) K d j = hd M K d j := fun j hj => hd_wH (by omega)
    exact ⟨⟨by rw [mA_wA_ne n1.symm]; exact a1, by rw [mA_wA_ne n2.symm]; exact a2, a3⟩, by rw [vl_congr e]; exact a4, fun j hj => by rw [e j hj]; exact a5 j hj⟩)
  have e : setK f d (f d) = f := funext fun i => by
    unfold setK
    by_cases q : i = d
    · rw [if_pos q, q]
    · rw [if_neg q]
  rw [e] at h1
  exact h1
theorem div_split {a p b x : Nat} (hp : 0 < p) (h : a + p * b = x) (ha : a < p) : x / p = b := by
  rw [← h, Nat.add_mul_div_left _ _ hp, Nat.div_eq_of_lt ha, Nat.zero_add]
theorem k_quotient {G : SH} {M : MS} {K : KV} {q m a b : Nat} {f : Nat → Int} (hI : KI G M K f) (c1 : q < 40) (c2 : m < 40) (ca : a < 40) (c3 : b < 40) (c4 : q ≠ m) (c5 : b ≠ q) (c6 : b ≠ m) (hb : f b ≠ 0) (hna : nl HB (f a).natAbs ≤ 258) {Q : MS → Prop} (hQ : ∀ N, KF K M N → KI G N K (setK (setK f q (((f a).natAbs / (f b).natAbs : Nat) : Int)) m (((f a).natAbs % (f b).natAbs : Nat) : Int)) → Q N) : w_X11_quotient G (kO K) (nI q) (nI m) (nI a) (nI b) M Q := by
  unfold w_X11_quotient
  obtain ⟨⟨e0, e1, e2⟩, ⟨g0, g1, g2⟩, n1, n2, n3⟩ := id hI.1
  have sa := hI.2 a ca
  have sb := hI.2 b c3
  have b3 := sb.1.2.2
  have hD0 : 0 < (f b).natAbs := by omega
  rw [e1, g1, cl (c := a) (by omega), cl (c := b) (by omega), sa.1.1, sb.1.1]
  refine ⟨vp_in_nI ca (by decide), fun x5 ex5 => ⟨vp_in_nI c3 (by decide), fun x6 ex6 => ?_⟩⟩
  subst ex5 ex6
  refine k_copy hI c2 ca (fun M5 f5 h5 => ?_)
  rw [ixH, h5.1.1.1, g0, cl (by omega)]
  refine ⟨vp_in_nI (by omega) (by decide), fun M7 eM7 => ?_⟩
  have f7 : KF K M5 M7 := by rw [eM7]; exact KF.wH _
  have h7 : KI G M7 K (setK f m (f a)) := by rw [eM7]; exact h5.wtop c2 (by rw [setK_s]; exact Nat.le_refl _) (by omega)
  have s5 := h5.2 m c2
  rw [setK_s] at s5
  have sb7 := h7.2 b c3
  rw [setK_n f _ c6] at sb7
  generalize hAe : (f a).natAbs = A at *
  generalize hDe : (f b).natAbs = D at *
  have fr := f5.tr f7
  rw [nI_leI (by omega) (by omega)]
  refine ⟨fun z => ?_, fun z => ?_⟩
  · have hw0 : 0 < nl HB D := by
      rcases Nat.eq_zero_or_pos (nl HB D) with e | e
      · have := nlH0.mp e
        omega
      · exact e
    have hE : QE q m b (nl HB A) (nl HB D) D f := ⟨⟨c1, c2, c3, c4, c5, c6⟩, hDe, rfl, hD0, z, hna⟩
    have hX : KY G M7 K (QP q m) f := ⟨h7.1, fun r hr hp => by
      have := h7.2 r hr
      rw [setK_n f _ (fun e => hp (Or.inl e))] at this
      exact this⟩
    have hDg : HB ^ (nl HB D - 1) ≤ D := (nl_lt_iff HB1 (nl HB D - 1) D).mp (by omega)
    have hAl : A < HB ^ nl HB A := (nl_le HB1 _ A).mp (Nat.le_refl _)
    have hAD : A < D * HB ^ (nl HB A - nl HB D + 1) := by
      refine Nat.lt_of_lt_of_le hAl ?_
      have e : HB ^ nl HB A = HB ^ (nl HB D - 1) * HB ^ (nl HB A - nl HB D + 1) := by
        rw [← Nat.pow_add]
        congr 1
        omega
      rw [e]
      exact Nat.mul_le_mul_right _ hDg
    have hm : ∀ k, k < nl HB A + 1 → hd M7 K m k = hl A k := fun k hk => by
      by_cases e : k = nl HB A
      · rw [e, eM7, hd_wHs, hl_big (Nat.le_refl _)]; rfl
      · rw [eM7, hd_wH (by omega), s5.hl (by rw [hAe]; omega), hAe]
    have lp : ∀ dv, dv = lN (D / HB ^ (nl HB D - 2)) → ∀ x9 : Int32, x9 = nI (nl HB A) - nI (nl HB D) → ∃ n1, w_X11_quotient_108 G Q n1 (kO K) (nI q) (nI m) (nI b) (nI (nl HB A)) (nI (nl HB D)) dv x9 M7 := by
      intro dv hdv x9 ex9
      refine ⟨nl HB A - nl HB D + 1 + 1, ?_⟩
      have e9 : x9 = nI (nl HB A - nl HB D + 1) - 1 := by
        rw [ex9, nI_pred, nI_iZ, nI_iZ, iZ_sub, nI_iZ]
        congr 1
        omega
      rw [hdv, e9]
      refine qt_loop (A := A) hE ?_ (by omega) _ M7 (by omega) hX (fun k hk => by rw [hm k hk]; exact hl_lt _ _) (fun k h1 h2 => absurd h1 (by omega)) ?_ (fun t h1 h2 => absurd h1 (by omega)) (fun N fN hN => hQ N (fr.tr fN) hN)
      · rw [nl_le HB1, Nat.div_lt_iff_lt_mul hD0, Nat.mul_comm]
        exact hAD
      · rw [Nat.mod_eq_of_lt hAD, show nl HB A - nl HB D + 1 + nl HB D = nl HB A + 1 by omega, vl_congr (g := hl A) hm, vl_hl, modH_all (by omega)]
    rw [show (1 : Int32) = nI 1 from rfl, nI_leI (by omega) (by decide)]
    refine ⟨fun z1 => ?_, fun z1 => ?_⟩
    · have e1 : nl HB D = 1 := by omega
      rw [ixH0, h7.1.1.1, g0, cl (by omega)]
      refine ⟨vp_in_nI (by omega) (by decide), fun x7 ex7 x9 ex9 => lp x7 ?_ x9 ex9⟩
      have e2 := mA_hd (sb7.hl (i := 0) (by rw [hDe]; omega))
      have hDl : D < HB ^ 1 := (nl_le HB1 1 D).mp (by omega)
      have hDl2 : D < 65536 := hDl
      have e3 : hl D 0 = D := by
        unfold hl
        rw [Nat.pow_zero, Nat.div_one]
        exact Nat.mod_eq_of_lt hDl2
      rw [hDe, e3] at e2
      rw [ex7]
      have e4 : mA M7 (kH K) (260 * b) = nI D := e2
      rw [e4, nI_l (by omega), e1, Nat.pow_zero, Nat.div_one]
    · have e1 : nI (nl HB D) - nI 1 = nI (nl HB D - 1) := by
        rw [nI_iZ, nI_iZ, iZ_sub, nI_iZ]
        congr 1
        omega
      rw [e1]
      refine k_top h7.1 c3 (k := nl HB D - 1) (n := 2) (by omega) (by omega) (by decide) rfl (fun t ht => by rw [sb7.hl (by rw [hDe]; omega)]; exact hl_lt _ _) ?_
      refine fun x9 ex9 => lp _ (congrArg lN ?_) x9 ex9
      have e2 := sb7.2.1
      rw [hDe] at e2
      have hp := powHB_pos (nl HB D - 2)
      have l2 : vl HB (hd M7 K b) (nl HB D - 2) < HB ^ (nl HB D - 2) := vl_lt (fun t ht => sb7.2.2 t (by rw [hDe]; omega))
      have e3 : vl HB (hd M7 K b) (nl HB D - 2 + 2) = D := by
        rw [show nl HB D - 2 + 2 = nl HB D by omega]
        exact e2
      rw [vl_low] at e3
      have e4 := div_split hp e3 l2
      rw [e4]
      refine vl_congr (fun t ht => ?_)
      congr 1
  · have hAD : A < D := Nat.lt_of_not_le (fun q => z (nl_mono HB1 q))
    have r1 : A / D = 0 := Nat.div_eq_of_lt hAD
    have r2 : A % D = A := Nat.mod_eq_of_lt hAD
    rw [r1, r2] at hQ
    refine k_small h7 c1 (c := 0) (by decide) rfl (fun M37 f37 h37 => ?_)
    have fin : ∀ (i : Int32), i = iS A → ∀ P : MS, P = wA M37 (kS K) (upd (mA M37 (kS K)) m i) → Q P := by
      intro i hi P eP
      have h8 := h37.sg c2 (z := (A : Int)) (i := i) (by rw [setK_n _ _ c4.symm, setK_s, Int.natAbs_natCast, hAe]) hi
      rw [← eP] at h8
      refine hQ P ((fr.tr f37).tr (by rw [eP]; exact KF.wS _)) ?_
      have e : setK (setK (setK f m (f a)) q ((0 : Nat) : Int)) m (A : Int) = setK (setK f q ((0 : Nat) : Int)) m (A : Int) := funext fun r => by
        unfold setK
        by_cases h1 : r = m
        · rw [if_pos h1, if_pos h1]
        · rw [if_neg h1, if_neg h1, if_neg h1]
      rw [← e]
      exact h8
    rw [nI_eq0 (by omega), h37.1.1.2.2, g2, cl (by omega), nlH0]
    refine ⟨fun z2 => ⟨vp_in_nI c2 (by decide), fun P eP => fin 1 (iS_nat (by omega)) P eP⟩, fun z2 => ⟨vp_in_nI c2 (by decide), fun P eP => fin 0 ?_ P eP⟩⟩
    rw [z2]
    rfl
