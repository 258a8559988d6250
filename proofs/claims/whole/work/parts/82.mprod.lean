/-! product, top of the reference -/
theorem hdlt_any {M : MS} {K : KV} {d i n : Nat} {z : Int32} (h : ∀ j, j < n → hd M K d j < HB) (hz : u32 z < HB) : ∀ j, j < n → hd (wA M (kH K) (upd (mA M (kH K)) (260 * d + i) z)) K d j < HB := fun j hj => by
  by_cases e : j = i
  · rw [e, hd_wHs]; exact hz
  · rw [hd_wH (by omega)]; exact h j hj
theorem mulH_le {a b : Nat} (ha : a < 65536) (hb : b < 65536) : a * b ≤ 4294836225 := by
  have h1 : a * b ≤ 65535 * b := Nat.mul_le_mul_right b (by omega)
  omega
theorem maskH {n : Nat} (h : n < 18446744073709551616) : lN n &&& (65535 : Int64) = lN (n % 65536) := wb_mask (k := 16) h (by decide)
theorem shr_l16 {n : Nat} (h : n < 4611686018427387904) : lN n >>> ((16 : Int32).toInt64 &&& 63) = lN (n / 65536) := pf_shr (d := 16) rfl h
theorem k_pi_loop {G : SH} {Mi : MS} {K : KV} {d a b i c va vb : Nat} {f : Nat → Int} {v4 : Int32} (hd' : d < 40) (ha : a < 40) (hb : b < 40) (had : a ≠ d) (hbd : b ≠ d) (hva : (f a).natAbs = va) (hvb : (f b).natAbs = vb) (hi : i < nl HB va) (hc : i + nl HB vb < c) (hc2 : c ≤ 259) {K48 : Nat → Int32 → Int32 → Int32 → Int32 → Int32 → MS → Prop} {Q : MS → Prop}
    (hK : ∀ N, KF K Mi N → KX G N K d f → (∀ k, k < c → hd N K d k < HB) → (∀ k, i + nl HB vb + 1 ≤ k → hd N K d k = hd Mi K d k) → vl HB (hd N K d) (i + nl HB vb + 1) = vl HB (hd Mi K d) (i + nl HB vb) + hl va i * vb * HB ^ i → K48 (kO K) (nI d) (nI a) (nI b) v4 (nI (i + 1)) N) :
    ∀ (t j : Nat) (M : MS) (cy : Nat), j + t = nl HB vb → KF K Mi M → KX G M K d f → cy < 65536 → (∀ k, k < c → hd M K d k < HB) → vl HB (hd M K d) (i + j) + cy * HB ^ (i + j) = vl HB (hd Mi K d) (i + j) + hl va i * (vb % HB ^ j) * HB ^ i → (∀ k, i + j ≤ k → hd M K d k = hd Mi K d k) → w_X11_product_65 G K48 Q (t + 1) (kO K) (nI d) (nI a) (nI b) v4 (nI i) (lN cy) (nI j) M
  | 0, j, M, cy, hj, f1, hX, hcy, hlt, hv, hup => by
    obtain ⟨⟨e0, e1, e2⟩, ⟨g0, g1, g2⟩, n1, n2, n3⟩ := id hX.1
    have sb := hX.2 b hb hbd
    have b3 := sb.1.2.2
    rw [hvb] at b3
    obtain rfl : j = nl HB vb := by omega
    rw [w_X11_product_65, e1, e0, g1, g0, cl (c := b) (by omega), sb.1.1, hvb, nI_leI (by omega) (by omega), ixH, nI_add, lN_i, Nat.add_assoc]
    refine ⟨vp_in_nI hb (by decide), fun _ => ⟨vp_in_nI hb (by decide), vp_in_nI (by omega) (by decide), fun N eN x ex => ?_⟩, fun q => absurd (Nat.le_refl _) q⟩
    rw [cl (by omega)] at eN
    rw [ex, nI_1]
    have x1 : KX G N K d f := by rw [eN]; exact hX.wHx (by omega) _
    have f2 : KF K M N := by rw [eN]; exact KF.wH _
    refine hK N (f1.tr f2) x1 (by rw [eN]; exact hdlt_any hlt (by rw [u32_nI_lt (by omega)]; exact hcy)) (fun k hk => by rw [eN, hd_wH (by omega)]; exact hup k (by omega)) ?_
    rw [vl_s, eN, vlH_put (Nat.le_refl _), hd_wHs, u32_nI_lt (by omega), hv, modH_all (Nat.le_refl _)]
  | t + 1, j, M, cy, hj, f1, hX, hcy, hlt, hv, hup => by
    obtain ⟨⟨e0, e1, e2⟩, ⟨g0, g1, g2⟩, n1, n2, n3⟩ := id hX.1
    have sa := hX.2 a ha had
    have sb := hX.2 b hb hbd
    have a3 := sa.1.2.2
    have b3 := sb.1.2.2
    rw [hva] at a3
    rw [hvb] at b3
    have la := hl_lt va i
    have lb := hl_lt vb j
    have hab := mulH_le la lb
    have ldl : hd M K d (i + j) < 65536 := hlt (i + j) (by omega)
    have hdm := hup (i + j) (Nat.le_refl _)
    have ea := mA_hd (sa.hl (i := i) (by rw [hva]; exact hi))
    have eb := mA_hd (sb.hl (i := j) (by rw [hvb]; omega))
    have ed := mA_hd (M := M) (K := K) (r := d) (k := i + j) rfl
    rw [hva] at ea
    rw [hvb] at eb
    rw [w_X11_product_65, e1, e0, g1, g0, cl (c := b) (by omega), sb.1.1, hvb, nI_leI (by omega) (by omega), ixH, ixH, ixH, nI_add (260 * d + i) j, Nat.add_assoc (260 * d) i j, cl (c := 260 * a + i) (by omega), cl (c := 260 * b + j) (by omega), cl (c := 260 * d + (i + j)) (by omega), ea, eb, ed, nI_l (by omega), nI_l (by omega), nI_l (by omega), lN_mul, lN_add, lN_add]
    refine ⟨vp_in_nI hb (by decide), fun q => absurd q (by omega), fun _ => ⟨vp_in_nI (by omega) (by decide), vp_in_nI (by omega) (by decide), vp_in_nI (by omega) (by decide), fun y ey => ⟨vp_in_nI (by omega) (by decide), fun N eN z ez x ex => ?_⟩⟩⟩
    generalize hS : cy + (hl va i * hl vb j + hd M K d (i + j)) = S at ey
    rw [ey, maskH (by omega), lN_i] at eN
    rw [ey, shr_l16 (by omega)] at ez
    have x1 : KX G N K d f := by rw [eN]; exact hX.wHx (by omega) _
    have f2 : KF K M N := by rw [eN]; exact KF.wH _
    rw [ex, nI_1, ez]
    refine k_pi_loop hd' ha hb had hbd hva hvb hi hc hc2 hK t (j + 1) N (S / 65536) (by omega) (f1.tr f2) x1 (by omega) (by rw [eN]; exact hdlt_any hlt (by rw [u32_nI_lt (by omega)]; show S % 65536 < 65536; omega)) ?_ (fun k hk => by rw [eN, hd_wH (by omega)]; exact hup k (by omega))
    rw [← Nat.add_assoc, vl_s, vl_s, eN, vlH_put (Nat.le_refl _), hd_wHs, u32_nI_lt (by omega), mod_h, Nat.pow_succ]
    have hs2 : 65536 * (S / 65536) + S % 65536 = S := Nat.div_add_mod _ _
    have e : S % 65536 * HB ^ (i + j) + S / 65536 * (HB ^ (i + j) * HB) = S * HB ^ (i + j) := by
      calc S % 65536 * HB ^ (i + j) + S / 65536 * (HB ^ (i + j) * HB) = (65536 * (S / 65536) + S % 65536) * HB ^ (i + j) := by show _ + S / 65536 * (HB ^ (i + j) * 65536) = _; grind
        _ = S * HB ^ (i + j) := by rw [hs2]
    have e2 : S * HB ^ (i + j) = cy * HB ^ (i + j) + hl va i * hl vb j * HB ^ (i + j) + hd Mi K d (i + j) * HB ^ (i + j) := by rw [← hS, hdm]; grind
    have e3 : hl va i * (vb % HB ^ j + hl vb j * HB ^ j) * HB ^ i = hl va i * (vb % HB ^ j) * HB ^ i + hl va i * hl vb j * HB ^ (i + j) := by rw [Nat.pow_add]; grind
    omega
theorem k_po_loop {G : SH} {K : KV} {d a b c va vb : Nat} {f : Nat → Int} (hd' : d < 40) (ha : a < 40) (hb : b < 40) (had : a ≠ d) (hbd : b ≠ d) (hva : (f a).natAbs = va) (hvb : (f b).natAbs = vb) (hc : nl HB va + nl HB vb = c) (hc2 : c ≤ 258) {Q : MS → Prop} : ∀ (t i : Nat) (M : MS), i + t = nl HB va → KX G M K d f → (∀ k, k < c → hd M K d k < HB) → vl HB (hd M K d) (i + nl HB vb) = va % HB ^ i * vb → (∀ N, KF K M N → KI G N K (setK f d (f a * f b)) → Q N) → w_X11_product_48 G Q (t + 1) (kO K) (nI d) (nI a) (nI b) (nI c) (nI i) M
  | 0, i, M, hi, hX, hlt, hv, hQ => by
    obtain ⟨⟨e0, e1, e2⟩, ⟨g0, g1, g2⟩, n1, n2, n3⟩ := id hX.1
    have sa := hX.2 a ha had
    have sb := hX.2 b hb hbd
    have a3 := sa.1.2.2
    rw [hva] at a3
    rw [w_X11_product_48, e1, e2, g1, g2, cl (c := a) (by omega), cl (c := b) (by omega), sa.1.1, sa.1.2.1, sb.1.2.1, hva, nI_leI (by omega) (by omega), iS_mul]
    refine ⟨vp_in_nI ha (by decide), fun _ => ⟨vp_in_nI ha (by decide), vp_in_nI hb (by decide), ?_⟩, fun q => absurd (by omega) q⟩
    have hn : (f a * f b).natAbs = va * vb := by rw [Int.natAbs_mul, hva, hvb]
    obtain rfl : i = nl HB va := by omega
    rw [hc, modH_all (Nat.le_refl _)] at hv
    refine k_trim (f a * f b) hX hd' (c := c) (by omega) rfl ?_ (by rw [hn]; exact hv) (fun k hk => hlt k (by omega)) (fun _ => rfl) hQ
    rw [hn, ← hv]
    have := (nl_le HB1 c (vl HB (hd M K d) c)).mpr (vl_lt (fun k hk => hlt k (by omega)))
    omega
  | t + 1, i, M, hi, hX, hlt, hv, hQ => by
    obtain ⟨⟨e0, e1, e2⟩, ⟨g0, g1, g2⟩, n1, n2, n3⟩ := id hX.1
    have sa := hX.2 a ha had
    have a3 := sa.1.2.2
    rw [hva] at a3
    rw [w_X11_product_48, e1, g1, cl (c := a) (by omega), sa.1.1, hva, nI_leI (by omega) (by omega)]
    refine ⟨vp_in_nI ha (by decide), fun q => absurd q (by omega), fun _ => ⟨nl HB vb + 1, ?_⟩⟩
    have h0 : (0 : Int32) = nI 0 := rfl
    have h00 : (0 : Int64) = lN 0 := rfl
    rw [h0, h00]
    refine k_pi_loop (Mi := M) (c := c) hd' ha hb had hbd hva hvb (by omega) (by omega) (by omega) (fun N f1 x1 l1 u1 v1 => ?_) (nl HB vb) 0 M 0 (by omega) KF.rf hX (by decide) hlt (by rw [Nat.pow_zero, Nat.mod_one]; grind) (fun _ _ => rfl)
    refine k_po_loop hd' ha hb had hbd hva hvb hc hc2 t (i + 1) N (by omega) x1 l1 ?_ (fun P f2 hP => hQ P (f1.tr f2) hP)
    rw [show i + 1 + nl HB vb = i + nl HB vb + 1 by omega, v1, hv, mod_h]
    grind
theorem k_pz_loop {G : SH} {K : KV} {d a b c va vb : Nat} {f : Nat → Int} (hd' : d < 40) (ha : a < 40) (hb : b < 40) (had : a ≠ d) (hbd : b ≠ d) (hva : (f a).natAbs = va) (hvb : (f b).natAbs = vb) (hc : nl HB va + nl HB vb = c) (hc2 : c ≤ 258) {Q : MS → Prop} : ∀ (t i : Nat) (M : MS), i + t = c → KX G M K d f → (∀ k, k < i → hd M K d k = 0) → (∀ N, KF K M N → KI G N K (setK f d (f a * f b)) → Q N) → w_X11_product_18 G Q (t + 1) (kO K) (nI d) (nI a) (nI b) (nI c) (nI i) M
  | 0, i, M, hi, hX, hz, hQ => by
    obtain rfl : i = c := by omega
    rw [w_X11_product_18, nI_leI (by omega) (by omega)]
    refine ⟨fun _ => ⟨nl HB va + 1, ?_⟩, fun q => absurd (Nat.le_refl _) q⟩
    rw [← nI_0]
    refine k_po_loop hd' ha hb had hbd hva hvb hc hc2 _ 0 M (by omega) hX (fun k hk => by rw [hz k hk]; decide) ?_ hQ
    rw [Nat.zero_add, Nat.pow_zero, Nat.mod_one, Nat.zero_mul, vl_pad (m := 0) _ (Nat.zero_le _) (fun k _ hk => hz k (by omega)), vl_0]
  | t + 1, i, M, hi, hX, hz, hQ => by
    obtain ⟨⟨e0, e1, e2⟩, ⟨g0, g1, g2⟩, n1, n2, n3⟩ := id hX.1
    rw [w_X11_product_18, nI_leI (by omega) (by omega), ixH, e0, g0, cl (by omega)]
    refine ⟨fun q => absurd q (by omega), fun _ => ⟨vp_in_nI (by omega) (by decide), fun N eN x ex => ?_⟩⟩
    have x1 : KX G N K d f := by rw [eN]; exact hX.wHx (by omega) _
    have f1 : KF K M N := by rw [eN]; exact KF.wH _
    rw [ex, nI_1]
    refine k_pz_loop hd' ha hb had hbd hva hvb hc hc2 t (i + 1) N (by omega) x1 (fun k hk => ?_) (fun P f2 hP => hQ P (f1.tr f2) hP)
    by_cases e : k = i
    · rw [e, eN, hd_wHs]; rfl
    · rw [eN, hd_wH (by omega)]; exact hz k (by omega)
theorem k_product {G : SH} {M : MS} {K : KV} {d a b : Nat} {f : Nat → Int} (hI : KI G M K f) (hd' : d < 40) (ha : a < 40) (hb : b < 40) (had : a ≠ d) (hbd : b ≠ d) (hc : nl HB (f a).natAbs + nl HB (f b).natAbs ≤ 258) {Q : MS → Prop} (hQ : ∀ N, KF K M N → KI G N K (setK f d (f a * f b)) → Q N) : w_X11_product G (kO K) (nI d) (nI a) (nI b) M Q := by
  unfold w_X11_product
  obtain ⟨⟨e0, e1, e2⟩, ⟨g0, g1, g2⟩, n1, n2, n3⟩ := id hI.1
  rw [e1, g1, cl (by omega), cl (by omega), (hI.2 a ha).1.1, (hI.2 b hb).1.1, nI_add]
  refine ⟨vp_in_nI ha (by decide), vp_in_nI hb (by decide), fun x ex => ⟨nl HB (f a).natAbs + nl HB (f b).natAbs + 1, ?_⟩⟩
  rw [ex, ← nI_0]
  exact k_pz_loop hd' ha hb had hbd rfl rfl rfl hc _ 0 M (by omega) (hI.x d) (fun k hk => absurd hk (Nat.not_lt_zero _)) hQ
theorem shl_l16 (n : Nat) : lN n <<< ((16 : Int32).toInt64 &&& 63) = lN (n * 65536) := wb_shl n (k := 16) (by decide)
theorem k_top_loop {G : SH} {M : MS} {K : KV} {r k n : Nat} (hK : KM G M K) (hr : r < 40) (hk : k < 260) (hn : n ≤ k + 1) (hn3 : n ≤ 3) (hlt : ∀ t, t < k + 1 → hd M K r t < HB) {Q : Int64 → MS → Prop} (hQ : Q (lN (vl HB (fun t => hd M K r (k + 1 - n + t)) n)) M) : ∀ (t i : Nat), i + t = n → w_X11_top_6 G Q (t + 1) (kO K) (nI r) (nI k) (nI n) (lN (vl HB (fun t => hd M K r (k + 1 - i + t)) i)) (nI i) M
  | 0, i, hi => by
    obtain rfl : i = n := by omega
    rw [w_X11_top_6, nI_leI (by omega) (by omega)]
    exact ⟨fun _ => hQ, fun q => absurd (Nat.le_refl _) q⟩
  | t + 1, i, hi => by
    obtain ⟨⟨e0, e1, e2⟩, ⟨g0, g1, g2⟩, n1, n2, n3⟩ := id hK
    have hki : nI k - nI i = nI (k - i) := by
      rw [nI_iZ, nI_iZ, iZ_sub, nI_iZ]
      congr 1
      omega
    have hidx : nI (260 * r + k) - nI i = nI (260 * r + (k - i)) := by
      rw [nI_iZ, nI_iZ, iZ_sub, nI_iZ]
      congr 1
      omega
    have l1 : hd M K r (k - i) < 65536 := hlt (k - i) (by omega)
    have lv : vl HB (fun t => hd M K r (k + 1 - i + t)) i < HB ^ i := vl_lt (fun j hj => hlt _ (by omega))
    have lp : HB ^ i ≤ HB ^ 2 := Nat.pow_le_pow_right (by decide) (by omega)
    have lp2 : HB ^ 2 = 4294967296 := rfl
    rw [w_X11_top_6, nI_leI (by omega) (by omega), hki, ixH, hidx, e0, g0, cl (by omega), mA_hd (M := M) (K := K) (r := r) (k := k - i) rfl, nI_l (by omega)]
    refine ⟨fun q => absurd q (by omega), fun _ => ⟨fun q => absurd q (nI_lt0 (by omega)), fun _ => ⟨vp_in_nI (by omega) (by decide), fun y ey x ex => ?_⟩⟩⟩
    rw [shl_l16, g_or (k := 16) (by decide) l1 (by omega)] at ey
    have e : vl HB (fun t => hd M K r (k + 1 - i + t)) i * 65536 + hd M K r (k - i) = vl HB (fun t => hd M K r (k + 1 - (i + 1) + t)) (i + 1) := by
      rw [Nat.add_comm i 1, vl_low, vl_s, vl_0, Nat.pow_zero, Nat.pow_one, Nat.zero_add, Nat.mul_one]
      have e3 : (fun t => hd M K r (k + 1 - (1 + i) + (1 + t))) = (fun t => hd M K r (k + 1 - i + t)) := funext fun t => congrArg (hd M K r) (by omega)
      have e4 : k + 1 - (1 + i) + 0 = k - i := by omega
      rw [e3, e4]
      show _ * 65536 + _ = _ + 65536 * _
      omega
    rw [ex, nI_1, ey, e]
    exact k_top_loop hK hr hk hn hn3 hlt hQ t (i + 1) (by omega)
theorem k_top {G : SH} {M : MS} {K : KV} {r k n : Nat} {i : Int32} (hK : KM G M K) (hr : r < 40) (hk : k < 260) (hn : n ≤ k + 1) (hn3 : n ≤ 3) (hi : i = nI n) (hlt : ∀ t, t < k + 1 → hd M K r t < HB) {Q : Int64 → MS → Prop} (hQ : Q (lN (vl HB (fun t => hd M K r (k + 1 - n + t)) n)) M) : w_X11_top G (kO K) (nI r) (nI k) i M Q := by
  unfold w_X11_top
  refine ⟨n + 1, ?_⟩
  rw [hi]
  have := k_top_loop hK hr hk hn hn3 hlt hQ n 0 (by omega)
  exact this
