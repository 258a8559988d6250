/-! copy, sizes, sums of the reference -/
theorem wA_same {M : MS} {q : Nat} : wA M q (mA M q) = M := by
  have e : (fun b => if b = q then mA M q else M.2.2.2 b) = M.2.2.2 := funext fun b => by
    by_cases h : b = q
    · rw [if_pos h, h]; rfl
    · rw [if_neg h]
  unfold wA
  rw [e]
theorem k_copy_loop {G : SH} {K : KV} {d a : Nat} {f : Nat → Int} (hd' : d < 40) (ha : a < 40) (had : a ≠ d) {Q : MS → Prop} : ∀ (t i : Nat) (M : MS), i + t = nl HB (f a).natAbs → KX G M K d f → (∀ j, j < i → hd M K d j = hl (f a).natAbs j) → (∀ N, KF K M N → KI G N K (setK f d (f a)) → Q N) → w_X11_copy_2 G Q (t + 1) (kO K) (nI d) (nI a) (nI i) M
  | 0, i, M, hi, hX, hj, hQ => by
    obtain ⟨⟨e0, e1, e2⟩, ⟨g0, g1, g2⟩, n1, n2, n3⟩ := id hX.1
    obtain ⟨⟨a1, a2, a3⟩, a4, a5⟩ := id (hX.2 a ha had)
    rw [w_X11_copy_2, e1, g1, cl (c := a) (by omega), cl (c := d) (by omega), a1, nI_leI (by omega) (by omega)]
    refine ⟨vp_in_nI ha (by decide), fun _ => ⟨vp_in_nI ha (by decide), vp_in_nI hd' (by decide), fun N eN => ?_⟩, fun q => absurd (by omega) q⟩
    have x1 : KX G N K d f := by rw [eN]; exact hX.wNx _
    have f1 : KF K M N := by rw [eN]; exact KF.wN _
    rw [x1.1.1.2.2, g2, (x1.2 a ha had).1.2.1]
    refine ⟨vp_in_nI ha (by decide), vp_in_nI hd' (by decide), fun P eP => ?_⟩
    have x2 : KX G P K d f := by rw [eP]; exact x1.wSx _
    have f2 : KF K N P := by rw [eP]; exact KF.wS _
    have e : hd P K d = hd M K d := by
      unfold hd
      rw [eP, mA_wA_ne n2, eN, mA_wA_ne n1]
    refine hQ P (f1.tr f2) (KX_close x2 ⟨⟨?_, ?_, a3⟩, ?_, fun k hk => ?_⟩)
    · rw [eP, mA_wA_ne n3, eN, mA_wA, updS]
    · rw [eP, mA_wA, updS]
    · rw [e, vl_congr (g := hl (f a).natAbs) (fun j h => hj j (by omega)), vl_hl, modH_all (Nat.le_refl _)]
    · rw [e, hj k (by omega)]; exact hl_lt _ _
  | t + 1, i, M, hi, hX, hj, hQ => by
    obtain ⟨⟨e0, e1, e2⟩, ⟨g0, g1, g2⟩, n1, n2, n3⟩ := id hX.1
    have sa := hX.2 a ha had
    obtain ⟨⟨a1, a2, a3⟩, a4, a5⟩ := id sa
    rw [w_X11_copy_2, e1, e0, g1, g0, cl (c := a) (by omega), a1, nI_leI (by omega) (by omega), ixH, ixH]
    refine ⟨vp_in_nI ha (by decide), fun q => absurd q (by omega), fun _ => ⟨vp_in_nI (by omega) (by decide), vp_in_nI (by omega) (by decide), fun N eN x ex => ?_⟩⟩
    rw [cl (by omega), cl (by omega)] at eN
    have x1 : KX G N K d f := by rw [eN]; exact hX.wHx (by omega) _
    have f1 : KF K M N := by rw [eN]; exact KF.wH _
    rw [ex, nI_1]
    refine k_copy_loop hd' ha had t (i + 1) N (by omega) x1 (fun j h => ?_) (fun P f2 hP => hQ P (f1.tr f2) hP)
    by_cases e : j = i
    · rw [e, eN, hd_wHs]; exact sa.hl (by omega)
    · rw [eN, hd_wH (by omega)]; exact hj j (by omega)
theorem k_copy_self {G : SH} {M : MS} {K : KV} {d : Nat} {f : Nat → Int} (hd' : d < 40) (hI : KI G M K f) {Q : MS → Prop} (hQ : Q M) : ∀ (t i : Nat), i + t = nl HB (f d).natAbs → w_X11_copy_2 G Q (t + 1) (kO K) (nI d) (nI d) (nI i) M
  | 0, i, hi => by
    obtain ⟨⟨e0, e1, e2⟩, ⟨g0, g1, g2⟩, n1, n2, n3⟩ := id hI.1
    obtain ⟨⟨a1, a2, a3⟩, a4, a5⟩ := id (hI.2 d hd')
    rw [w_X11_copy_2, e1, g1, cl (c := d) (by omega), a1, nI_leI (by omega) (by omega)]
    refine ⟨vp_in_nI hd' (by decide), fun _ => ⟨vp_in_nI hd' (by decide), vp_in_nI hd' (by decide), fun N eN => ?_⟩, fun q => absurd (by omega) q⟩
    rw [fa_upd_same a1, wA_same] at eN
    subst eN
    rw [e2, g2]
    refine ⟨vp_in_nI hd' (by decide), vp_in_nI hd' (by decide), fun P eP => ?_⟩
    rw [fa_upd_same rfl, wA_same] at eP
    rw [eP]; exact hQ
  | t + 1, i, hi => by
    obtain ⟨⟨e0, e1, e2⟩, ⟨g0, g1, g2⟩, n1, n2, n3⟩ := id hI.1
    obtain ⟨⟨a1, a2, a3⟩, a4, a5⟩ := id (hI.2 d hd')
    rw [w_X11_copy_2, e1, e0, g1, g0, cl (c := d) (by omega), a1, nI_leI (by omega) (by omega), ixH]
    refine ⟨vp_in_nI hd' (by decide), fun q => absurd q (by omega), fun _ => ⟨vp_in_nI (by omega) (by decide), vp_in_nI (by omega) (by decide), fun N eN x ex => ?_⟩⟩
    rw [fa_upd_same rfl, wA_same] at eN
    rw [ex, nI_1, eN]
    exact k_copy_self hd' hI hQ t (i + 1) (by omega)
theorem k_copy {G : SH} {M : MS} {K : KV} {d a : Nat} {f : Nat → Int} (hI : KI G M K f) (hd' : d < 40) (ha : a < 40) {Q : MS → Prop} (hQ : ∀ N, KF K M N → KI G N K (setK f d (f a)) → Q N) : w_X11_copy G (kO K) (nI d) (nI a) M Q := by
  unfold w_X11_copy
  refine ⟨nl HB (f a).natAbs + 1, ?_⟩
  rw [← nI_0]
  by_cases had : a = d
  · subst had
    refine k_copy_self hd' hI (hQ M KF.rf ?_) _ 0 (by omega)
    exact KX_close (hI.x a) (hI.2 a hd')
  · exact k_copy_loop hd' ha had _ 0 M (by omega) (hI.x d) (fun j hj => absurd hj (Nat.not_lt_zero _)) hQ
theorem k_sizes_loop {G : SH} {M : MS} {K : KV} {a b : Nat} {x y : Int} (hK : KM G M K) (ha : a < 40) (hb : b < 40) (sa : Sl M K a x) (sb : Sl M K b y) (hn : nl HB x.natAbs = nl HB y.natAbs) {Q : Int32 → MS → Prop} (hQ : Q (cmpN x.natAbs y.natAbs) M) : ∀ (k : Nat), k ≤ nl HB x.natAbs → x.natAbs / HB ^ k = y.natAbs / HB ^ k → w_X11_sizes_45 G Q (k + 1) (kO K) (nI a) (nI b) (nI k - 1) M
  | 0, _, h => by
    rw [w_X11_sizes_45]
    refine ⟨fun _ => ?_, fun h2 => absurd (by decide) h2⟩
    rw [Nat.pow_zero, Nat.div_one, Nat.div_one] at h
    unfold cmpN at hQ
    rw [if_neg (by omega), if_pos h] at hQ
    exact hQ
  | k + 1, hk, h => by
    obtain ⟨⟨e0, e1, e2⟩, ⟨g0, g1, g2⟩, n1, n2, n3⟩ := id hK
    have a3 := sa.1.2.2
    have b3 := sb.1.2.2
    have la := sa.hl (i := k) (by omega)
    have lb := sb.hl (i := k) (by omega)
    have la2 := hl_lt x.natAbs k
    have lb2 := hl_lt y.natAbs k
    rw [nI_pred, w_X11_sizes_45, ixH, ixH, e0, g0, cl (by omega), cl (by omega), mA_hd la, mA_hd lb, nI_eq (by omega) (by omega), nI_leI (by omega) (by omega)]
    have da : x.natAbs / HB ^ k = HB * (x.natAbs / HB ^ (k + 1)) + hl x.natAbs k := by
      rw [Nat.pow_succ, ← Nat.div_div_eq_div_mul]
      exact (Nat.div_add_mod _ _).symm
    have db : y.natAbs / HB ^ k = HB * (y.natAbs / HB ^ (k + 1)) + hl y.natAbs k := by
      rw [Nat.pow_succ, ← Nat.div_div_eq_div_mul]
      exact (Nat.div_add_mod _ _).symm
    rw [h] at da
    have va1 := vp_in_nI (n := 260 * a + k) (N := 10400) (by omega) (by decide)
    have vb1 := vp_in_nI (n := 260 * b + k) (N := 10400) (by omega) (by decide)
    refine ⟨fun z => absurd z (nI_lt0 (by omega)), fun _ => ⟨va1, vb1, fun e z ez => ?_, fun e => ⟨va1, vb1, fun q => ?_, fun q => ?_⟩⟩⟩
    · rw [ez, show nI k + -1 = nI k - 1 from (Int32.sub_eq_add_neg ..).symm]
      exact k_sizes_loop hK ha hb sa sb hn hQ k (by omega) (by rw [da, db, e])
    · have : x.natAbs < y.natAbs := by
        have : x.natAbs / HB ^ k < y.natAbs / HB ^ k := by omega
        exact Nat.lt_of_not_le (fun q => absurd (Nat.div_le_div_right (c := HB ^ k) q) (by omega))
      unfold cmpN at hQ
      rw [if_neg (by omega), if_neg (by omega)] at hQ
      exact hQ
    · have : y.natAbs < x.natAbs := by
        have : y.natAbs / HB ^ k < x.natAbs / HB ^ k := by omega
        exact Nat.lt_of_not_le (fun q => absurd (Nat.div_le_div_right (c := HB ^ k) q) (by omega))
      unfold cmpN at hQ
      rw [if_pos this] at hQ
      exact hQ
theorem k_sizes {G : SH} {M : MS} {K : KV} {a b : Nat} {f : Nat → Int} (hI : KI G M K f) (ha : a < 40) (hb : b < 40) {Q : Int32 → MS → Prop} (hQ : Q (cmpN (f a).natAbs (f b).natAbs) M) : w_X11_sizes G (kO K) (nI a) (nI b) M Q := by
  unfold w_X11_sizes
  obtain ⟨⟨e0, e1, e2⟩, ⟨g0, g1, g2⟩, n1, n2, n3⟩ := id hI.1
  have sa := hI.2 a ha
  have sb := hI.2 b hb
  have a3 := sa.1.2.2
  have b3 := sb.1.2.2
  have va1 := vp_in_nI (n := a) (N := 40) (by omega) (by decide)
  have vb1 := vp_in_nI (n := b) (N := 40) (by omega) (by decide)
  rw [e1, g1, cl (by omega), cl (by omega), sa.1.1, sb.1.1, nI_eq (by omega) (by omega), nI_leI (by omega) (by omega)]
  refine ⟨va1, vb1, fun q => ⟨va1, fun x ex => ?_⟩, fun q => ⟨va1, vb1, fun q2 => ?_, fun q2 => ?_⟩⟩
  · rw [ex]
    refine ⟨_, k_sizes_loop hI.1 ha hb sa sb q hQ (nl HB (f a).natAbs) (Nat.le_refl _) ?_⟩
    rw [Nat.div_eq_of_lt ((nl_le HB1 _ _).mp (Nat.le_refl _)), Nat.div_eq_of_lt ((nl_le HB1 _ _).mp (by omega))]
  · have : (f a).natAbs < (f b).natAbs := Nat.lt_of_not_le (fun z => by have := nl_mono HB1 z; omega)
    unfold cmpN at hQ
    rw [if_neg (by omega), if_neg (by omega)] at hQ
    exact hQ
  · have : (f b).natAbs < (f a).natAbs := Nat.lt_of_not_le (fun z => by have := nl_mono HB1 z; omega)
    unfold cmpN at hQ
    rw [if_pos this] at hQ
    exact hQ
theorem shr16 {n : Nat} (h : n < 2147483648) : nI n >>> ((16 : Int32) &&& 31) = nI (n / 65536) := pk_shrN h _ 16 rfl
theorem vlH_put {M : MS} {K : KV} {d i n : Nat} {z : Int32} (h : n ≤ i) : vl HB (hd (wA M (kH K) (upd (mA M (kH K)) (260 * d + i) z)) K d) n = vl HB (hd M K d) n := vl_congr (fun j hj => hd_wH (by omega))
theorem hdlt_put {M : MS} {K : KV} {d i : Nat} {z : Int32} (h : ∀ j, j < i → hd M K d j < HB) (hz : u32 z < HB) : ∀ j, j < i + 1 → hd (wA M (kH K) (upd (mA M (kH K)) (260 * d + i) z)) K d j < HB := fun j hj => by
  by_cases e : j = i
  · rw [e, hd_wHs]; exact hz
  · rw [hd_wH (by omega)]; exact h j (by omega)
theorem k_ss_loop {G : SH} {K : KV} {d a b va vb c : Nat} {f : Nat → Int} {z : Int} {s : Int32} (hd' : d < 40) (ha : a < 40) (hb : b < 40) (ca : nl HB va ≤ c) (cb : nl HB vb ≤ c) (hc : c ≤ 259) (hz : z.natAbs = va + vb) (hz2 : nl HB z.natAbs ≤ 259) (hs : z ≠ 0 → s = iS z) {Q : MS → Prop} : ∀ (t i : Nat) (M : MS) (cy : Nat), i + t = c → KX G M K d f → cy ≤ 1 → Ku M K a va i → Ku M K b vb i → (∀ j, j < i → hd M K d j < HB) → vl HB (hd M K d) i + cy * HB ^ i = va % HB ^ i + vb % HB ^ i → (∀ N, KF K M N → KI G N K (setK f d z) → Q N) → w_X11_sizeSum_38 G Q (t + 1) (kO K) (nI d) (nI a) (nI b) s (nI c) (nI cy) (nI i) M
  | 0, i, M, cy, hi, hX, hcy, ua, ub, hl', hv, hQ => by
    obtain ⟨⟨e0, e1, e2⟩, ⟨g0, g1, g2⟩, n1, n2, n3⟩ := id hX.1
    obtain rfl : i = c := by omega
    rw [w_X11_sizeSum_38, nI_leI (by omega) (by omega), ixH, e0, g0, cl (by omega), nI_1]
    refine ⟨fun _ => ⟨vp_in_nI (by omega) (by decide), fun N eN => ?_⟩, fun h => absurd (Nat.le_refl _) h⟩
    have x1 : KX G N K d f := by rw [eN]; exact hX.wHx (by omega) _
    have f1 : KF K M N := by rw [eN]; exact KF.wH _
    refine k_trim z x1 hd' (c := i + 1) (by omega) rfl hz2 ?_ ?_ hs (fun P f2 hP => hQ P (f1.tr f2) hP)
    · rw [vl_s, eN, vlH_put (Nat.le_refl _), hd_wHs, u32_nI_lt (by omega), hv, modH_all ca, modH_all cb, hz]
    · rw [eN]
      exact hdlt_put hl' (by rw [u32_nI_lt (by omega)]; show cy < 65536; omega)
  | t + 1, i, M, cy, hi, hX, hcy, ua, ub, hl', hv, hQ => by
    obtain ⟨⟨e0, e1, e2⟩, ⟨g0, g1, g2⟩, n1, n2, n3⟩ := id hX.1
    have la := hl_lt va i
    have lb := hl_lt vb i
    rw [w_X11_sizeSum_38, nI_leI (by omega) (by omega)]
    refine ⟨fun h => absurd h (by omega), fun _ => ?_⟩
    refine k_get hX.1 ha ua (by omega) (Nat.le_refl _) (k_get hX.1 hb ub (by omega) (Nat.le_refl _) ?_)
    intro y ey
    rw [nI_add, nI_add] at ey
    generalize hs' : cy + (hl va i + hl vb i) = S at ey
    rw [ixH, e0, g0, cl (by omega)]
    refine ⟨vp_in_nI (by omega) (by decide), fun N eN w ew k ek => ?_⟩
    rw [ey, nx_mod] at eN
    rw [ey, shr16 (by omega)] at ew
    have x1 : KX G N K d f := by rw [eN]; exact hX.wHx (by omega) _
    have f1 : KF K M N := by rw [eN]; exact KF.wH _
    rw [ek, nI_1, ew]
    refine k_ss_loop hd' ha hb ca cb hc hz hz2 hs t (i + 1) N (S / 65536) (by omega) x1 (by omega) (by rw [eN]; exact ua.wH hX.1 (by omega)) (by rw [eN]; exact ub.wH hX.1 (by omega)) ?_ ?_ (fun P f2 hP => hQ P (f1.tr f2) hP)
    · rw [eN]
      exact hdlt_put hl' (by rw [u32_nI_lt (by omega)]; show S % 65536 < 65536; omega)
    · rw [vl_s, eN, vlH_put (Nat.le_refl _), hd_wHs, u32_nI_lt (by omega), mod_h, mod_h, Nat.pow_succ]
      have hs2 : 65536 * (S / 65536) + S % 65536 = S := Nat.div_add_mod _ _
      have e : S % 65536 * HB ^ i + S / 65536 * (HB ^ i * HB) = S * HB ^ i := by
        calc S % 65536 * HB ^ i + S / 65536 * (HB ^ i * HB) = (65536 * (S / 65536) + S % 65536) * HB ^ i := by show _ + S / 65536 * (HB ^ i * 65536) = _; grind
          _ = S * HB ^ i := by rw [hs2]
      have e2 : S * HB ^ i = cy * HB ^ i + hl va i * HB ^ i + hl vb i * HB ^ i := by rw [← hs']; grind
      omega
theorem k_sizeSum {G : SH} {M : MS} {K : KV} {d a b : Nat} {f : Nat → Int} (z : Int) {s : Int32} (hI : KI G M K f) (hd' : d < 40) (ha : a < 40) (hb : b < 40) (hz : z.natAbs = (f a).natAbs + (f b).natAbs) (hz2 : nl HB z.natAbs ≤ 259) (hs : z ≠ 0 → s = iS z) {Q : MS → Prop} (hQ : ∀ N, KF K M N → KI G N K (setK f d z) → Q N) : w_X11_sizeSum G (kO K) (nI d) (nI a) (nI b) s M Q := by
  unfold w_X11_sizeSum
  obtain ⟨⟨e0, e1, e2⟩, ⟨g0, g1, g2⟩, n1, n2, n3⟩ := id hI.1
  have sa := hI.2 a ha
  have sb := hI.2 b hb
  have a3 := sa.1.2.2
  have b3 := sb.1.2.2
  have va1 := vp_in_nI (n := a) (N := 40) (by omega) (by decide)
  have vb1 := vp_in_nI (n := b) (N := 40) (by omega) (by decide)
  rw [e1, g1, cl (by omega), cl (by omega), sa.1.1, sb.1.1, nI_leI (by omega) (by omega)]
  have go : ∀ c, nl HB (f a).natAbs ≤ c → nl HB (f b).natAbs ≤ c → c ≤ 259 → ∃ n1, w_X11_sizeSum_38 G Q n1 (kO K) (nI d) (nI a) (nI b) s (nI c) 0 0 M := fun c h1 h2 h3 => by
    refine ⟨c + 1, ?_⟩
    rw [← nI_0]
    exact k_ss_loop hd' ha hb h1 h2 h3 hz hz2 hs c 0 M 0 (by omega) (hI.x d) (by decide) (sa.ku 0) (sb.ku 0) (fun j hj => absurd hj (Nat.not_lt_zero _)) (by rw [vl_0, Nat.zero_mul, Nat.pow_zero, Nat.mod_one, Nat.mod_one]) hQ
  refine ⟨va1, vb1, fun q => ⟨vb1, fun x ex => ?_⟩, fun q => ⟨va1, fun x ex => ?_⟩⟩
  · rw [ex]; exact go _ q (Nat.le_refl _) b3
  · rw [ex]; exact go _ (Nat.le_refl _) (by omega) a3
theorem nI_iZ (n : Nat) : nI n = iZ n := Int32.ofInt_eq_ofNat.symm
theorem iZ_sub (a b : Int) : iZ a - iZ b = iZ (a - b) := (Int32.ofInt_sub a b).symm
theorem iZ_toInt {z : Int} (h1 : -2147483648 ≤ z) (h2 : z < 2147483648) : (iZ z).toInt = z := fb_ofI h1 h2
theorem iZ_mask (z : Int) : iZ z &&& 65535 = nI (z % 65536).toNat := by
  have h := u32_iZ z
  rw [← nI_u32 (iZ z), nx_mod]
  congr 1
  omega
theorem iZ_ge0 {z : Int} (h1 : -2147483648 ≤ z) (h2 : z < 2147483648) : 0 ≤ iZ z ↔ 0 ≤ z := by
  rw [fa_le, iZ_toInt h1 h2]
  rfl
theorem k_sl_loop {G : SH} {K : KV} {d a b va vb : Nat} {f : Nat → Int} {z : Int} {s : Int32} (hd' : d < 40) (ha : a < 40) (hb : b < 40) (hab : vb ≤ va) (ha3 : nl HB va ≤ 259) (hz : z.natAbs = va - vb) (hs : z ≠ 0 → s = iS z) {Q : MS → Prop} : ∀ (t i : Nat) (M : MS) (bo : Nat), i + t = nl HB va → KX G M K d f → bo ≤ 1 → Ku M K a va i → Ku M K b vb i → (∀ j, j < i → hd M K d j < HB) → vl HB (hd M K d) i + vb % HB ^ i = va % HB ^ i + bo * HB ^ i → (∀ N, KF K M N → KI G N K (setK f d z) → Q N) → w_X11_sizeLess_14 G Q (t + 1) (kO K) (nI d) (nI a) (nI b) s (nI (nl HB va)) (nI bo) (nI i) M
  | 0, i, M, bo, hi, hX, hbo, ua, ub, hl', hv, hQ => by
    obtain ⟨⟨e0, e1, e2⟩, ⟨g0, g1, g2⟩, n1, n2, n3⟩ := id hX.1
    obtain rfl : i = nl HB va := by omega
    rw [w_X11_sizeLess_14, nI_leI (by omega) (by omega)]
    refine ⟨fun _ => ?_, fun h => absurd (Nat.le_refl _) h⟩
    have hz3 : nl HB z.natAbs ≤ nl HB va := nl_mono HB1 (by omega)
    refine k_trim z hX hd' (c := nl HB va) (by omega) rfl (by omega) ?_ hl' hs hQ
    rw [modH_all (Nat.le_refl _), modH_all (nl_mono HB1 hab)] at hv
    have hlt := vl_lt hl'
    rcases Nat.eq_zero_or_pos bo with e | e
    · rw [e, Nat.zero_mul] at hv; omega
    · have e1 : bo = 1 := by omega
      rw [e1, Nat.one_mul] at hv
      omega
  | t + 1, i, M, bo, hi, hX, hbo, ua, ub, hl', hv, hQ => by
    obtain ⟨⟨e0, e1, e2⟩, ⟨g0, g1, g2⟩, n1, n2, n3⟩ := id hX.1
    have la := hl_lt va i
    have lb := hl_lt vb i
    rw [w_X11_sizeLess_14, nI_leI (by omega) (by omega)]
    refine ⟨fun h => absurd h (by omega), fun _ => ?_⟩
    refine k_get hX.1 ha ua (by omega) (Nat.le_refl _) (k_get hX.1 hb ub (by omega) (Nat.le_refl _) ?_)
    intro y ey
    rw [nI_iZ, nI_iZ, nI_iZ, iZ_sub, iZ_sub] at ey
    have go : ∀ (b' w : Nat), b' ≤ 1 → w + hl vb i + bo = hl va i + 65536 * b' → w < 65536 → y &&& 65535 = nI w → w_X11_sizeLess_51 G (w_X11_sizeLess_14 G Q (t + 1)) Q (kO K) (nI d) (nI a) (nI b) s (nI (nl HB va)) (nI i) y (nI b') M := by
      intro b' w hb' hw hw2 hy
      unfold w_X11_sizeLess_51
      rw [ixH, e0, g0, cl (by omega), hy]
      refine ⟨vp_in_nI (by omega) (by decide), fun N eN k ek => ?_⟩
      have x1 : KX G N K d f := by rw [eN]; exact hX.wHx (by omega) _
      have f1 : KF K M N := by rw [eN]; exact KF.wH _
      rw [ek, nI_1]
      refine k_sl_loop hd' ha hb hab ha3 hz hs t (i + 1) N b' (by omega) x1 hb' (by rw [eN]; exact ua.wH hX.1 (by omega)) (by rw [eN]; exact ub.wH hX.1 (by omega)) ?_ ?_ (fun P f2 hP => hQ P (f1.tr f2) hP)
      · rw [eN]
        exact hdlt_put hl' (by rw [u32_nI_lt (by omega)]; exact hw2)
      · rw [vl_s, eN, vlH_put (Nat.le_refl _), hd_wHs, u32_nI_lt (by omega), mod_h, mod_h, Nat.pow_succ]
        have e : (w + hl vb i + bo) * HB ^ i = (hl va i + 65536 * b') * HB ^ i := by rw [hw]
        have e3 : b' * (HB ^ i * HB) = 65536 * b' * HB ^ i := by show b' * (HB ^ i * 65536) = _; grind
        rw [Nat.add_mul, Nat.add_mul, Nat.add_mul] at e
        omega
    rw [ey, iZ_ge0 (by omega) (by omega)]
    rw [ey, iZ_mask] at go
    refine ⟨fun q => ?_, fun q => ?_⟩
    · refine go 0 (hl va i - hl vb i - bo) (by decide) (by omega) (by omega) (congrArg nI (by omega))
    · refine go 1 (hl va i + 65536 - hl vb i - bo) (by decide) (by omega) (by omega) (congrArg nI (by omega))
theorem k_sizeLess {G : SH} {M : MS} {K : KV} {d a b : Nat} {f : Nat → Int} (z : Int) {s : Int32} (hI : KI G M K f) (hd' : d < 40) (ha : a < 40) (hb : b < 40) (hab : (f b).natAbs ≤ (f a).natAbs) (hz : z.natAbs = (f a).natAbs - (f b).natAbs) (hs : z ≠ 0 → s = iS z) {Q : MS → Prop} (hQ : ∀ N, KF K M N → KI G N K (setK f d z) → Q N) : w_X11_sizeLess G (kO K) (nI d) (nI a) (nI b) s M Q := by
  unfold w_X11_sizeLess
  obtain ⟨⟨e0, e1, e2⟩, ⟨g0, g1, g2⟩, n1, n2, n3⟩ := id hI.1
  have sa := hI.2 a ha
  have sb := hI.2 b hb
  rw [e1, g1, cl (by omega), sa.1.1]
  refine ⟨vp_in_nI ha (by decide), fun x ex => ⟨nl HB (f a).natAbs + 1, ?_⟩⟩
  rw [ex, ← nI_0]
  exact k_sl_loop hd' ha hb hab sa.1.2.2 hz hs _ 0 M 0 (by omega) (hI.x d) (by decide) (sa.ku 0) (sb.ku 0) (fun j hj => absurd hj (Nat.not_lt_zero _)) (by rw [vl_0, Nat.zero_mul, Nat.pow_zero, Nat.mod_one, Nat.mod_one]) hQ
theorem KI.sg {G : SH} {M : MS} {K : KV} {d : Nat} {f : Nat → Int} {z : Int} {i : Int32} (hI : KI G M K f) (hd' : d < 40) (hz : z.natAbs = (f d).natAbs) (hi : i = iS z) : KI G (wA M (kS K) (upd (mA M (kS K)) d i)) K (setK f d z) := by
  obtain ⟨⟨a1, a2, a3⟩, a4, a5⟩ := id (hI.2 d hd')
  obtain ⟨-, -, n1, n2, n3⟩ := id hI.1
  have e : hd (wA M (kS K) (upd (mA M (kS K)) d i)) K d = hd M K d := by unfold hd; rw [mA_wA_ne n2]
  refine KX_close ((hI.x d).wSx _) ⟨⟨by rw [mA_wA_ne n3, hz]; exact a1, by rw [mA_wA, updS]; exact hi, by rw [hz]; exact a3⟩, by rw [e, hz]; exact a4, by rw [e, hz]; exact a5⟩
theorem iS_cases (z : Int) : (z < 0 ∧ iS z = -1) ∨ (z = 0 ∧ iS z = 0) ∨ (0 < z ∧ iS z = 1) := by
  rcases Int.lt_trichotomy z 0 with h | h | h
  · exact Or.inl ⟨h, iS_neg h⟩
  · exact Or.inr (Or.inl ⟨h, by rw [h]; rfl⟩)
  · exact Or.inr (Or.inr ⟨h, iS_pos h⟩)
theorem iS_mul (x y : Int) : iS x * iS y = iS (x * y) := by
  rcases iS_cases x with ⟨hx, ex⟩ | ⟨hx, ex⟩ | ⟨hx, ex⟩ <;> rcases iS_cases y with ⟨hy, ey⟩ | ⟨hy, ey⟩ | ⟨hy, ey⟩ <;> rw [ex, ey]
  · rw [iS_pos (Int.mul_pos_of_neg_of_neg hx hy)]; decide
  · rw [hy, Int.mul_zero]; decide
  · rw [iS_neg (Int.mul_neg_of_neg_of_pos hx hy)]; decide
  · rw [hx, Int.zero_mul]; decide
  · rw [hx, Int.zero_mul]; decide
  · rw [hx, Int.zero_mul]; decide
  · rw [iS_neg (Int.mul_neg_of_pos_of_neg hx hy)]; decide
  · rw [hy, Int.mul_zero]; decide
  · rw [iS_pos (Int.mul_pos hx hy)]; decide
theorem iS_inj {x y : Int} (h : iS x = iS y) : (x < 0 ↔ y < 0) ∧ (x = 0 ↔ y = 0) := by
  rcases iS_cases x with ⟨hx, ex⟩ | ⟨hx, ex⟩ | ⟨hx, ex⟩ <;> rcases iS_cases y with ⟨hy, ey⟩ | ⟨hy, ey⟩ | ⟨hy, ey⟩ <;> rw [ex, ey] at h
  · omega
  · exact absurd h (by decide)
  · exact absurd h (by decide)
  · exact absurd h (by decide)
  · omega
  · exact absurd h (by decide)
  · exact absurd h (by decide)
  · exact absurd h (by decide)
  · omega
theorem nlH_add {a b c : Nat} (ha : nl HB a ≤ c) (hb : nl HB b ≤ c) : nl HB (a + b) ≤ c + 1 := by
  rw [nl_le HB1] at ha hb ⊢
  rw [Nat.pow_succ]
  show _ < HB ^ c * 65536
  omega
theorem cmp_pos {a b : Nat} : cmpN a b ≤ 0 ↔ a ≤ b := cmp_le0
/-- y: what is added to the number of row a -/
theorem k_sum {G : SH} {M : MS} {K : KV} {d a b : Nat} {f : Nat → Int} (y : Int) {t : Int32} (hI : KI G M K f) (hd' : d < 40) (ha : a < 40) (hb : b < 40) (hy : (y = f b ∧ t = 1) ∨ (y = -f b ∧ t = -1)) (ca : nl HB (f a).natAbs ≤ 258) (cb : nl HB (f b).natAbs ≤ 258) {Q : MS → Prop} (hQ : ∀ N, KF K M N → KI G N K (setK f d (f a + y)) → Q N) : w_X11_sum G (kO K) (nI d) (nI a) (nI b) t M Q := by
  unfold w_X11_sum
  obtain ⟨⟨e0, e1, e2⟩, ⟨g0, g1, g2⟩, n1, n2, n3⟩ := id hI.1
  have sa := hI.2 a ha
  have sb := hI.2 b hb
  have va1 := vp_in_nI (n := a) (N := 40) (by omega) (by decide)
  have vb1 := vp_in_nI (n := b) (N := 40) (by omega) (by decide)
  have vd1 := vp_in_nI (n := d) (N := 40) (by omega) (by decide)
  have hyn : y.natAbs = (f b).natAbs := by omega
  have ht : iS (f b) * t = iS y := by
    rcases hy with ⟨h1, h2⟩ | ⟨h1, h2⟩
    · rw [h1, h2, show (1 : Int32) = iS 1 from rfl, iS_mul, Int.mul_one]
    · rw [h1, h2, show (-1 : Int32) = iS (-1) from rfl, iS_mul, Int.mul_neg, Int.mul_one]
  rw [e2, g2, cl (by omega), cl (by omega), sa.1.2.1, sb.1.2.1, ht]
  refine ⟨vb1, fun x ex => ?_⟩
  subst ex
  rw [iS_eq0, iS_eq0]
  refine ⟨fun q => ⟨va1, fun q2 => ⟨va1, fun q3 => ?_, fun q3 => ?_⟩, fun q2 => ?_⟩, fun q => ?_⟩
  · refine k_sizes hI ha hb ?_
    rw [cmp_eq0, cmp_le0, e2, g2, sa.1.2.1]
    have hne : ¬ ((f a < 0 ↔ y < 0) ∧ (f a = 0 ↔ y = 0)) := fun z => q3 (by
      unfold iS
      rw [if_neg q2, if_neg q]
      by_cases h : f a < 0
      · rw [if_pos h, if_pos (z.1.mp h)]
      · rw [if_neg h, if_neg (fun k => h (z.1.mpr k))])
    refine ⟨fun r => ⟨fun r2 => ?_, fun r2 => ⟨va1, ?_⟩⟩, fun r => ?_⟩
    · refine k_sizeLess (f a + y) hI hd' hb ha r2 (by omega) (fun _ => ?_) hQ
      unfold iS
      by_cases h : y < 0
      · rw [if_pos h, if_pos (by omega)]
      · rw [if_neg h, if_neg q, if_neg (by omega), if_neg (by omega)]
    · refine k_sizeLess (f a + y) hI hd' ha hb (by omega) (by omega) (fun _ => ?_) hQ
      unfold iS
      by_cases h : f a < 0
      · rw [if_pos h, if_pos (by omega)]
      · rw [if_neg h, if_neg q2, if_neg (by omega), if_neg (by omega)]
    · refine k_small hI hd' (c := 0) (by decide) rfl (fun N f1 h1 => hQ N f1 ?_)
      have : f a + y = ((0 : Nat) : Int) := by omega
      rw [this]; exact h1
  · have hq := iS_inj q3
    have e : (f a + y).natAbs = (f a).natAbs + (f b).natAbs := by omega
    refine k_sizeSum (f a + y) hI hd' ha hb e (by rw [e]; exact nlH_add ca cb) (fun _ => ?_) hQ
    unfold iS
    by_cases h : y < 0
    · rw [if_pos h, if_pos (by omega)]
    · rw [if_neg h, if_neg q, if_neg (by omega), if_neg (by omega)]
  · refine k_copy hI hd' hb (fun N f1 h1 => ?_)
    rw [h1.1.1.2.2, g2]
    refine ⟨vd1, fun P eP => ?_⟩
    rw [cl (by omega)] at eP
    have h2 := h1.sg hd' (z := y) (i := iS y) (by rw [setK_s]; exact hyn) rfl
    rw [← eP] at h2
    have f2 : KF K N P := by rw [eP]; exact KF.wS _
    refine hQ P (f1.tr f2) ?_
    have e : setK (setK f d (f b)) d y = setK f d (f a + y) := funext fun i => by
      unfold setK
      by_cases h : i = d
      · rw [if_pos h, if_pos h, q2, Int.zero_add]
      · rw [if_neg h, if_neg h, if_neg h]
    rw [← e]; exact h2
  · refine k_copy hI hd' ha (fun N f1 h1 => hQ N f1 ?_)
    rw [q, Int.add_zero]; exact h1
