/-! roots of the reference -/
theorem k_low_loop {G : SH} {K : KV} {r p k : Nat} (hr : 0 < r) (hk : k < 2147483648) (np : nl HB p ≤ 80) (nr : nl HB r ≤ 80) {Q : Int32 → MS → Prop} : ∀ (t i : Nat) (M : MS) (f : Nat → Int), i + t = k → KI G M K f → f 25 = ((r ^ i : Nat) : Int) → f 26 = (p : Int) → f 27 = (r : Int) → r ^ i ≤ p → (∀ (b : Bool) (N : MS) (g : Nat → Int), b = decide (r ^ k ≤ p) → KF K M N → (∀ t, t < 260 → hd N K 27 t = hd M K 27 t) → KI G N K g → (∀ x, x ≠ 19 → x ≠ 25 → g x = f x) → Q (if b then 1 else 0) N) → w_X11_isLow_9 G Q (t + 1) (kO K) (nI k) (nI i) M
  | 0, i, M, f, hi, hI, f25, f26, f27, hle, hQ => by
    obtain rfl : i = k := by omega
    rw [w_X11_isLow_9, nI_leI (by omega) (by omega)]
    refine ⟨fun _ => ?_, fun q => absurd (Nat.le_refl _) q⟩
    exact hQ true M f (decide_eq_true hle).symm KF.rf (fun _ _ => rfl) hI (fun _ _ _ => rfl)
  | t + 1, i, M, f, hi, hI, f25, f26, f27, hle, hQ => by
    have n1 : nl HB (r ^ i) ≤ 80 := Nat.le_trans (nl_mono HB1 hle) np
    rw [w_X11_isLow_9, nI_leI (by omega) (by omega)]
    refine ⟨fun q => absurd q (by omega), fun _ => ?_⟩
    refine q_product (d := 19) (a := 25) (b := 27) hI (by decide) (by decide) (by decide) (by decide) (by decide) (by rw [f25, f27, Int.natAbs_natCast, Int.natAbs_natCast]; omega) (fun N1 f1 h1 => ?_)
    rw [f25, f27, ← Int.natCast_mul, ← Nat.pow_succ] at h1
    refine k_sizes (a := 19) (b := 26) h1 (by decide) (by decide) ?_
    have e19 : setK f 19 ((r ^ (i + 1) : Nat) : Int) 19 = ((r ^ (i + 1) : Nat) : Int) := rfl
    have e26 : setK f 19 ((r ^ (i + 1) : Nat) : Int) 26 = (p : Int) := f26
    rw [e19, e26, Int.natAbs_natCast, Int.natAbs_natCast, cmp_le0]
    refine ⟨fun q => ?_, fun q => ?_⟩
    · refine q_copy (d := 25) (a := 19) h1 (by decide) (by decide) (fun N2 f2 h2 => ?_)
      intro x ex
      rw [ex, nI_1]
      refine k_low_loop hr hk np nr t (i + 1) N2 _ (by omega) h2 rfl f26 f27 q (fun b N g hb f3 r3 h3 q3 => hQ b N g hb ((f1.1.tr f2.1).tr f3) (fun t ht => by rw [r3 t ht, f2.2 27 t (by decide) ht, f1.2 27 t (by decide) ht]) h3 (fun x a b => by rw [q3 x a b, setK_n _ _ b, setK_n _ _ a]))
    · have hgt : ¬ r ^ k ≤ p := fun z => q (Nat.le_trans (Nat.pow_le_pow_right hr (by omega)) z)
      exact hQ false N1 _ (decide_eq_false hgt).symm f1.1 (fun t ht => f1.2 27 t (by decide) ht) h1 (fun x a b => setK_n _ _ a)
theorem k_isLow {G : SH} {M : MS} {K : KV} {r p k : Nat} {f : Nat → Int} (hI : KI G M K f) (hr : 0 < r) (hp : 0 < p) (hk : k < 2147483648) (np : nl HB p ≤ 80) (nr : nl HB r ≤ 80) (f26 : f 26 = (p : Int)) (f27 : f 27 = (r : Int)) {Q : Int32 → MS → Prop} (hQ : ∀ (b : Bool) (N : MS) (g : Nat → Int), b = decide (r ^ k ≤ p) → KF K M N → (∀ t, t < 260 → hd N K 27 t = hd M K 27 t) → KI G N K g → (∀ x, x ≠ 19 → x ≠ 25 → g x = f x) → Q (if b then 1 else 0) N) : w_X11_isLow G (kO K) (nI k) M Q := by
  unfold w_X11_isLow
  refine q_small hI (d := 25) (by decide) (c := 1) (by decide) rfl (fun N1 f1 h1 => ⟨k + 1, ?_⟩)
  rw [← nI_0]
  refine k_low_loop hr hk np nr k 0 N1 _ (by omega) h1 (by rw [Nat.pow_zero]; rfl) f26 f27 (by rw [Nat.pow_zero]; exact hp) (fun b N g hb f3 r3 h3 q3 => hQ b N g hb (f1.1.tr f3) (fun t ht => by rw [r3 t ht, f1.2 27 t (by decide) ht]) h3 (fun x a b => by rw [q3 x a b, setK_n _ _ b]))
theorem or_clear {x m : Int32} (h : x &&& m = 0) : (x ||| m) &&& (m ^^^ (-1)) = x := by
  apply b_ext
  intro i hi
  have h2 := congrArg (fun z => bt z i) h
  simp only [b_and, b_0] at h2
  rw [b_and, b_or, b_xor, b_m1 i hi]
  cases hx : bt x i <;> cases hm : bt m i <;> rw [hx, hm] at h2 <;> first | rfl | exact absurd h2 (by decide)
theorem low0 {a b : Nat} (h : a % 2 ^ (b + 1) = 0) (hb : b < 31) : nI a &&& nI (2 ^ b) = 0 := by
  rw [fa_bit hb, Nat.testBit_eq_decide_div_mod_eq]
  refine decide_eq_false (fun z => ?_)
  have e := Nat.mod_pow_succ (x := a) (b := 2) (k := b)
  have hp : 0 < 2 ^ b := Nat.pow_pos (by decide)
  rw [h, z] at e
  omega
theorem or_add {a b : Nat} (h : a % 2 ^ (b + 1) = 0) : nI a ||| nI (2 ^ b) = nI (a + 2 ^ b) := by
  have e : a = 2 ^ (b + 1) * (a / 2 ^ (b + 1)) := by
    have := Nat.div_add_mod a (2 ^ (b + 1))
    omega
  rw [e, fa_or_sum _ (Nat.pow_lt_pow_right (by decide) (Nat.lt_succ_self b))]
theorem vl_upd {f g : Nat → Nat} {c W x : Nat} (hW : W < c) (hg : ∀ t, t ≠ W → t < c → g t = f t) (hx : g W = f W + x) : ∀ n, W < n → n ≤ c → vl HB g n = vl HB f n + x * HB ^ W
  | 0, h, _ => absurd h (Nat.not_lt_zero _)
  | n + 1, h, hc => by
    rw [vl_s, vl_s]
    by_cases e : n = W
    · rw [e, hx, vl_congr (fun i hi => hg i (by omega) (by omega)), Nat.add_mul]
      omega
    · rw [vl_upd hW hg hx n (by omega) (by omega), hg n e (by omega)]
      omega
theorem mul_mod0 {V i : Nat} (h : V % 2 ^ (i + 1) = 0) : hl V (i / 16) % 2 ^ (i % 16 + 1) = 0 := by
  unfold hl
  have e : HB = 2 ^ (i % 16 + 1) * 2 ^ (15 - i % 16) := by
    rw [← Nat.pow_add]
    show 2 ^ 16 = _
    congr 1
    omega
  have e4 : ∀ y, y % HB % 2 ^ (i % 16 + 1) = y % 2 ^ (i % 16 + 1) := fun y => by
    conv => lhs; rw [e]
    exact Nat.mod_mul_right_mod _ _ _
  rw [e4]
  have e2 : 2 ^ (i + 1) = HB ^ (i / 16) * 2 ^ (i % 16 + 1) := by
    rw [HBp, ← Nat.pow_add]
    congr 1
    omega
  rw [e2] at h
  have := Nat.mod_mul_right_div_self V (HB ^ (i / 16)) (2 ^ (i % 16 + 1))
  rw [h, Nat.zero_div] at this
  exact this.symm
theorem k_rt_loop {G : SH} {K : KV} {p k n : Nat} (hp : 0 < p) (hk : k < 2147483648) (hk1 : 0 < k) (np : nl HB p ≤ 80) (hn : n ≤ 1280) (hn1 : 1 ≤ n) {Q : MS → Prop} : ∀ (J : Nat) (M : MS) (f : Nat → Int) (V : Nat), J ≤ n → KI G M K f → f 26 = (p : Int) → f 27 = (V : Int) → (∀ t, t < (n - 1) / 16 + 1 → hd M K 27 t < HB) → vl HB (hd M K 27) ((n - 1) / 16 + 1) = V → V % 2 ^ J = 0 → V ^ k ≤ p → p < (V + 2 ^ J) ^ k → (∀ (N : MS) (g : Nat → Int), KF K M N → KI G N K g → g 27 = (RT p k : Int) → (∀ x, x ≠ 19 → x ≠ 25 → x ≠ 27 → g x = f x) → Q N) → w_X11_rooted_79 G Q (J + 1) (kO K) (nI k) (nI n) (nI J - 1) M
  | 0, M, f, V, hJ, hI, f26, f27, hlt, hv, hm, h1, h2, hQ => by
    rw [w_X11_rooted_79]
    refine ⟨fun _ => ?_, fun q => absurd (by decide) q⟩
    have sp := RT_spec p hk1
    have e := root_one hk1 h1 h2 sp.1 sp.2
    exact hQ M f KF.rf hI (by rw [f27, e]) (fun _ _ _ _ => rfl)
  | i + 1, M, f, V, hJ, hI, f26, f27, hlt, hv, hm, h1, h2, hQ => by
    obtain ⟨⟨e0, e1, e2⟩, ⟨g0, g1, g2⟩, n1, n2, n3⟩ := id hI.1
    have hW : i / 16 < (n - 1) / 16 + 1 := by omega
    have hb : i % 16 < 16 := Nat.mod_lt _ (by decide)
    have ei : (7020 : Int32) + (nI i >>> ((4 : Int32) &&& 31)) = nI (260 * 27 + i / 16) := by
      rw [shr4 (by omega), show (7020 : Int32) = nI 7020 from rfl, nI_add]
    have es : (1 : Int32) <<< ((nI i &&& 15) &&& 31) = nI (2 ^ (i % 16)) := by
      rw [and15 (by omega), show (1 : Int32) = nI 1 from rfl, pk_shlN _ (i % 16) (s_l _ (by omega)) (by
        rw [Nat.one_mul]
        exact Nat.pow_lt_pow_right (by decide) (by omega)), Nat.one_mul]
    have ec : ((nI n - 1) >>> ((4 : Int32) &&& 31)) + 1 = nI ((n - 1) / 16 + 1) := by
      rw [show (1 : Int32) = nI 1 from rfl, pk_sub hn1, shr4 (by omega), nI_add]
    have hdW : hd M K 27 (i / 16) = hl V (i / 16) := by
      have := vl_dig (f := hd M K 27) (n := (n - 1) / 16 + 1) (i := i / 16) (by decide) hlt hW
      rw [hv] at this
      exact this.symm
    have ha0 := mul_mod0 hm
    have eA := mA_hd hdW
    have lA := hl_lt V (i / 16)
    have pw : 2 ^ (i % 16) * HB ^ (i / 16) = 2 ^ i := by
      rw [HBp, ← Nat.pow_add]
      congr 1
      omega
    have hsub : nI i + -1 = nI i - 1 := (Int32.sub_eq_add_neg ..).symm
    have pb1 : 2 ^ (i % 16) ≤ 2 ^ 15 := Nat.pow_le_pow_right (by decide) (by omega)
    have pb0 : 0 < 2 ^ (i % 16) := Nat.pow_pos (by decide)
    have lA2 : hl V (i / 16) + 2 ^ (i % 16) < 65536 := by
      have e : (65536 : Nat) = 2 ^ (i % 16 + 1) * 2 ^ (15 - i % 16) := by
        rw [← Nat.pow_add]
        show 2 ^ 16 = _
        congr 1
        omega
      have e3 : hl V (i / 16) = 2 ^ (i % 16 + 1) * (hl V (i / 16) / 2 ^ (i % 16 + 1)) := by
        have := Nat.div_add_mod (hl V (i / 16)) (2 ^ (i % 16 + 1))
        omega
      have e5 : hl V (i / 16) / 2 ^ (i % 16 + 1) < 2 ^ (15 - i % 16) := by
        rw [Nat.div_lt_iff_lt_mul (Nat.pow_pos (by decide)), Nat.mul_comm, ← e]
        exact lA
      have e6 : 2 ^ (i % 16 + 1) * (hl V (i / 16) / 2 ^ (i % 16 + 1) + 1) ≤ 2 ^ (i % 16 + 1) * 2 ^ (15 - i % 16) := Nat.mul_le_mul_left _ e5
      rw [← e, Nat.mul_add, ← e3, Nat.mul_one, Nat.pow_succ] at e6
      omega
    rw [nI_pred, w_X11_rooted_79, ei, es, e0, g0, cl (c := 260 * 27 + i / 16) (by omega), eA, or_add ha0, ec]
    refine ⟨fun q => absurd q (nI_lt0 (by omega)), fun _ => ⟨vp_in_nI (by omega) (by decide), vp_in_nI (by omega) (by decide), fun M8 eM8 => ?_⟩⟩
    have x8 : KX G M8 K 27 f := by rw [eM8]; exact (hI.x 27).wHx (by omega) _
    have f8 : KF K M M8 := by rw [eM8]; exact KF.wH _
    have d8 : ∀ t, t ≠ i / 16 → hd M8 K 27 t = hd M K 27 t := fun t ht => by rw [eM8, hd_wH (by omega)]
    have d8w : hd M8 K 27 (i / 16) = hd M K 27 (i / 16) + 2 ^ (i % 16) := by rw [eM8, hd_wHs, u32_nI_lt (by omega), hdW]
    have v8 : vl HB (hd M8 K 27) ((n - 1) / 16 + 1) = V + 2 ^ i := by
      rw [vl_upd hW (fun t a _ => d8 t a) d8w _ hW (Nat.le_refl _), hv, pw]
    have l8 : ∀ t, t < (n - 1) / 16 + 1 → hd M8 K 27 t < HB := fun t ht => by
      by_cases e : t = i / 16
      · rw [e, d8w, hdW]; exact lA2
      · rw [d8 t e]; exact hlt t ht
    have nV' : nl HB (V + 2 ^ i) ≤ (n - 1) / 16 + 1 := by
      rw [nl_le HB1, ← v8]
      exact vl_lt l8
    have hp2 : 0 < 2 ^ i := Nat.pow_pos (by decide)
    have fin : ∀ (N : MS) (g : Nat → Int) (V2 : Nat), KF K M N → KX G N K 27 g → g 26 = (p : Int) → (∀ x, x ≠ 19 → x ≠ 25 → x ≠ 27 → g x = f x) → (∀ t, t < (n - 1) / 16 + 1 → hd N K 27 t < HB) → vl HB (hd N K 27) ((n - 1) / 16 + 1) = V2 → V2 % 2 ^ i = 0 → V2 ^ k ≤ p → p < (V2 + 2 ^ i) ^ k → w_X11_rooted_149 G (w_X11_rooted_79 G Q (i + 1)) Q (kO K) (nI k) (nI n) (nI i) N := by
      intro N g V2 fN xN gN gx lN' vN mN a1 a2
      unfold w_X11_rooted_149
      rw [ec, hsub]
      have nV2 : nl HB V2 ≤ (n - 1) / 16 + 1 := by
        rw [nl_le HB1, ← vN]
        exact vl_lt lN'
      refine k_trimY (d := 27) (V2 : Int) xN rfl (by decide) (c := (n - 1) / 16 + 1) (by omega) rfl (by rw [Int.natAbs_natCast]; omega) (by rw [Int.natAbs_natCast]; exact vN) lN' iS_nat (fun P f1 hH h1 => ?_)
      have h2 : KI G P K (setK g 27 (V2 : Int)) := h1.ki (fun _ q => q.2 q.1)
      have eh : hd P K 27 = hd N K 27 := by unfold hd; rw [hH]
      intro x ex
      rw [ex]
      refine k_rt_loop hp hk hk1 np hn hn1 i P _ V2 (by omega) h2 gN rfl (by rw [eh]; exact lN') (by rw [eh]; exact vN) mN a1 a2 (fun S g' f2 h3 r1 r2 => hQ S g' ((fN.tr f1).tr f2) h3 r1 (fun x a b c => by rw [r2 x a b c, setK_n _ _ c]; exact gx x a b c))
    refine k_trimY (d := 27) (((V + 2 ^ i : Nat)) : Int) x8 rfl (by decide) (c := (n - 1) / 16 + 1) (by omega) rfl (by rw [Int.natAbs_natCast]; omega) (by rw [Int.natAbs_natCast]; exact v8) l8 iS_nat (fun M9 f9 hH h9' => ?_)
    have h9 : KI G M9 K (setK f 27 ((V + 2 ^ i : Nat) : Int)) := h9'.ki (fun _ q => q.2 q.1)
    have d9 : hd M9 K 27 = hd M8 K 27 := by unfold hd; rw [hH]
    refine k_isLow (r := V + 2 ^ i) (p := p) h9 (by omega) hp hk np (by omega) f26 rfl (fun b M10 g hb10 f10 r10 h10 q10 => ?_)
    have fr := (f8.tr f9).tr f10
    have g26 : g 26 = (p : Int) := (q10 26 (by decide) (by decide)).trans f26
    have gx : ∀ x, x ≠ 19 → x ≠ 25 → x ≠ 27 → g x = f x := fun x a b c => by rw [q10 x a b, setK_n _ _ c]
    have d10 : ∀ t, t < 260 → hd M10 K 27 t = hd M8 K 27 t := fun t ht => by rw [r10 t ht, d9]
    have p2 : 2 ^ (i + 1) = 2 ^ i * 2 := Nat.pow_succ _ _
    have hm2 : V % 2 ^ i = 0 := by
      have := Nat.mod_mul_right_mod V (2 ^ i) 2
      rw [← p2, hm, Nat.zero_mod] at this
      exact this.symm
    cases b with
    | true =>
      have hb2 : (V + 2 ^ i) ^ k ≤ p := of_decide_eq_true hb10.symm
      refine ⟨fun _ => ?_, fun q => absurd q (by decide)⟩
      refine fin M10 g (V + 2 ^ i) fr (h10.x 27) g26 gx (fun t ht => by rw [d10 t (by omega)]; exact l8 t ht) (by rw [vl_congr (fun t ht => d10 t (by omega))]; exact v8) (by rw [Nat.add_mod_right]; exact hm2) hb2 ?_
      rw [show V + 2 ^ i + 2 ^ i = V + 2 ^ (i + 1) by omega]
      exact h2
    | false =>
      have hb2 : ¬ (V + 2 ^ i) ^ k ≤ p := of_decide_eq_false hb10.symm
      refine ⟨fun q => absurd rfl q, fun _ => ?_⟩
      have eB : mA M10 (kH K) (260 * 27 + i / 16) = nI (hl V (i / 16)) ||| nI (2 ^ (i % 16)) := by
        rw [or_add ha0]
        refine mA_hd ?_
        rw [d10 _ (by omega), d8w, hdW]
      rw [h10.1.1.1, g0, eB, or_clear (low0 ha0 (by omega))]
      refine ⟨vp_in_nI (by omega) (by decide), vp_in_nI (by omega) (by decide), fun M14 eM14 => ?_⟩
      have x14 : KX G M14 K 27 g := by rw [eM14]; exact (h10.x 27).wHx (by omega) _
      have f14 : KF K M10 M14 := by rw [eM14]; exact KF.wH _
      have d14 : ∀ t, t < (n - 1) / 16 + 1 → hd M14 K 27 t = hd M K 27 t := fun t ht => by
        by_cases e : t = i / 16
        · rw [e, eM14, hd_wHs, u32_nI_lt (by omega), hdW]
        · rw [eM14, hd_wH (by omega), d10 t (by omega), d8 t e]
      exact fin M14 g V (fr.tr f14) x14 g26 gx (fun t ht => by rw [d14 t ht]; exact hlt t ht) (by rw [vl_congr d14]; exact hv) hm2 h1 (by omega)
theorem k_rz_loop {G : SH} {K : KV} {p k n : Nat} (hp : 0 < p) (hk : k < 2147483648) (hk1 : 0 < k) (np : nl HB p ≤ 80) (hn : n ≤ 1280) (hn1 : 1 ≤ n) (hpn : p < (2 ^ n) ^ k) {Q : MS → Prop} : ∀ (t i : Nat) (M : MS) (f : Nat → Int), i + t = 260 → KI G M K f → f 26 = (p : Int) → f 27 = ((0 : Nat) : Int) → (∀ j, j < i → hd M K 27 j = 0) → (∀ (N : MS) (g : Nat → Int), KF K M N → KI G N K g → g 27 = (RT p k : Int) → (∀ x, x ≠ 19 → x ≠ 25 → x ≠ 27 → g x = f x) → Q N) → w_X11_rooted_51 G Q (t + 1) (kO K) (nI k) (nI n) (nI i) M
  | 0, i, M, f, hi, hI, f26, f27, hz, hQ => by
    obtain rfl : i = 260 := by omega
    rw [w_X11_rooted_51, show (260 : Int32) = nI 260 from rfl, nI_leI (by decide) (by decide)]
    refine ⟨fun _ x ex => ⟨n + 1, ?_⟩, fun q => absurd (Nat.le_refl _) q⟩
    rw [ex]
    refine k_rt_loop hp hk hk1 np hn hn1 n M f 0 (Nat.le_refl _) hI f26 f27 (fun t ht => by rw [hz t (by omega)]; decide) (vl_pad (m := 0) _ (Nat.zero_le _) (fun t _ ht => hz t (by omega))) (Nat.zero_mod _) (by rw [Nat.zero_pow hk1]; exact Nat.zero_le _) (by rw [Nat.zero_add]; exact hpn) hQ
  | t + 1, i, M, f, hi, hI, f26, f27, hz, hQ => by
    obtain ⟨⟨e0, e1, e2⟩, ⟨g0, g1, g2⟩, n1, n2, n3⟩ := id hI.1
    have ei : (7020 : Int32) + nI i = nI (260 * 27 + i) := by rw [show (7020 : Int32) = nI 7020 from rfl, nI_add]
    rw [w_X11_rooted_51, show (260 : Int32) = nI 260 from rfl, nI_leI (by decide) (by omega), ei, e0, g0, cl (by omega)]
    refine ⟨fun q => absurd q (by omega), fun _ => ⟨vp_in_nI (by omega) (by decide), fun N eN x ex => ?_⟩⟩
    have h1 : KI G N K f := by
      rw [eN]
      exact hI.wtop (by decide) (by rw [f27, show (((0 : Nat) : Int)).natAbs = 0 from rfl, nl_0]; exact Nat.zero_le _) (by omega)
    have f1 : KF K M N := by rw [eN]; exact KF.wH _
    rw [ex, nI_1]
    refine k_rz_loop hp hk hk1 np hn hn1 hpn t (i + 1) N f (by omega) h1 f26 f27 (fun j hj => ?_) (fun P g f2 hP => hQ P g (f1.tr f2) hP)
    by_cases e : j = i
    · rw [e, eN, hd_wHs]; rfl
    · rw [eN, hd_wH (by omega)]; exact hz j (by omega)
theorem k_rooted {G : SH} {M : MS} {K : KV} {p k : Nat} {f : Nat → Int} {i : Int32} (hI : KI G M K f) (hi : i = nI k) (hk : k < 2147483648) (hk1 : 2 ≤ k) (np : nl HB p ≤ 80) (f26 : f 26 = (p : Int)) {Q : MS → Prop} (hQ : ∀ (N : MS) (g : Nat → Int), KF K M N → KI G N K g → g 27 = (RT p k : Int) → (∀ x, x ≠ 19 → x ≠ 25 → x ≠ 27 → g x = f x) → Q N) : w_X11_rooted G (kO K) i M Q := by
  unfold w_X11_rooted
  subst hi
  refine k_small hI (d := 27) (by decide) (c := 0) (by decide) rfl (fun N f1 h1 => ?_)
  obtain ⟨⟨e0, e1, e2⟩, ⟨g0, g1, g2⟩, -⟩ := id h1.1
  have s26 := (h1.2 26 (by decide)).1.1
  have c26 : setK f 27 ((0 : Nat) : Int) 26 = (p : Int) := f26
  rw [c26, Int.natAbs_natCast] at s26
  have sp := RT_spec p (show 0 < k by omega)
  have nb : nl 2 p ≤ 1280 := by
    rw [nl_le (by decide)]
    have := (nl_le HB1 80 p).mp np
    rw [HBp] at this
    exact this
  rw [e1, g1, show (26 : Int32).toNatClampNeg = 26 from rfl, s26, nI_eq0 (by omega), nlH0]
  refine ⟨vp_in_nI (n := 26) (by decide) (by decide), fun hp => ?_, fun hp => ?_⟩
  · have hp0 : 0 < p := by omega
    refine k_bits h1 (a := 26) (by decide) ?_
    rw [c26, Int.natAbs_natCast, nI_ltI hk (by omega)]
    refine ⟨fun q => ?_, fun q => ?_⟩
    · refine k_bits h1 (a := 26) (by decide) ⟨fun z => ?_, fun x ex => ⟨261, ?_⟩⟩
      · rw [nI_eq0 hk] at z
        omega
      · rw [c26, Int.natAbs_natCast, show (1 : Int32) = nI 1 from rfl, pk_sub (by omega), pk_div (by omega) (by omega) hk, nI_add] at ex
        have hdl : (nl 2 p - 1) / k ≤ nl 2 p - 1 := Nat.div_le_self _ _
        have hbig : nl 2 p ≤ ((nl 2 p - 1) / k + 1) * k := by
          have := Nat.div_add_mod (nl 2 p - 1) k
          have hm := Nat.mod_lt (nl 2 p - 1) (show 0 < k by omega)
          rw [Nat.add_mul, Nat.one_mul, Nat.mul_comm]
          omega
        rw [ex, ← nI_0]
        refine k_rz_loop hp0 hk (by omega) np (by omega) (Nat.le_add_left _ _) ?_ 260 0 N _ (by omega) h1 c26 rfl (fun j hj => absurd hj (Nat.not_lt_zero _)) (fun P g f2 h2 r1 r2 => hQ P g (f1.tr f2) h2 r1 (fun x a b c => by rw [r2 x a b c, setK_n _ _ c]))
        rw [← Nat.pow_mul]
        exact lt_pow_nl hbig
    · refine k_small h1 (d := 27) (by decide) (c := 1) (by decide) rfl (fun P f2 h2 => ?_)
      have e := root_one (show 0 < k by omega) (r := 1) (by rw [Nat.one_pow]; exact hp0) (lt_pow_nl (show nl 2 p ≤ k by omega)) sp.1 sp.2
      exact hQ P _ (f1.tr f2) h2 (by rw [setK_s, e]) (fun x a b c => by rw [setK_n _ _ c, setK_n _ _ c])
  · have e : RT p k = 0 := by
      have := RT_le p (show 0 < k by omega)
      omega
    exact hQ N _ f1 h1 (by rw [setK_s, e]) (fun x a b c => setK_n _ _ c)
theorem k_root {G : SH} {M : MS} {L : LV} {n w : Nat} {s : ST} {d a k : Int32} (h : KJ G M L n w s) {Q : Int32 → MS → Prop} (hQ : OQ G M L n w (oRoot n s d a k) Q) : w_X11_root G (kO L.1) d a k M Q := by
  unfold w_X11_root
  intro M1 e1
  obtain ⟨f, h1⟩ := h.go e1
  have hn := h1.n16
  unfold oRoot at hQ
  refine k_noA h1 (fun i hi ei => k_noB h1 (fun j hj ej => ?_) (fun z => ?_)) (fun z => ?_)
  · subst ei ej
    rw [if_pos ⟨isR_nI (by omega) hi, isR_nI (by omega) hj⟩, ix_nI (by omega), ix_nI (by omega), ← h1.rg hj] at hQ
    obtain ⟨⟨e0, e1, e2⟩, ⟨g0, g1, g2⟩, -⟩ := id h1.ki.1
    have nj := h1.nh hj
    rw [e2, g2, cl (by omega), (h1.ki.2 j (by omega)).1.2.1, iS_lt0]
    refine ⟨vp_in_nI (by omega) (by decide), fun hs => ?_, fun hs => ⟨fun hk => ?_, fun hk => ?_⟩⟩
    · rw [if_pos (Or.inl hs)] at hQ
      exact h1.same hQ
    · rw [if_neg (fun q => by rcases q with q | q; exact hs q; exact q hk)] at hQ
      obtain ⟨e, he, he0, rfl⟩ := one_le hk
      rw [ix_nI he] at hQ
      have fj : f j = (((f j).natAbs : Nat) : Int) := by omega
      have hbw : nl BB (((RT (f j).natAbs e : Nat) : Int)).natAbs ≤ w := by
        rw [Int.natAbs_natCast]
        refine Nat.le_trans (nl_mono BB1 (RT_le _ he0)) ?_
        rw [h1.rg hj]; exact h1.2.2.2.2.2 j hj
      refine k_copy h1.ki (d := 26) (by decide) (by omega) (fun N f2 h2 => ?_)
      rw [show (1 : Int32) = nI 1 from rfl, nI_eq he (by decide)]
      refine ⟨fun q => ?_, fun q => ?_⟩
      · refine k_rooted h2 rfl he (by omega) nj (by rw [setK_s]; exact fj) (fun N3 g f3 h3 r1 r2 => ?_)
        refine k_copy h3 (a := 27) (by omega) (by decide) (fun N4 f4 h4 => ?_)
        exact h1.set ((f2.tr f3).tr f4) h4 hi (by rw [setK_s]; exact r1) (fun x hx e => by rw [setK_n _ _ e, r2 x (by omega) (by omega) (by omega), setK_n _ _ (by omega)]) hbw hQ
      · subst q
        have sp := RT_spec (f j).natAbs (k := 1) (by decide)
        rw [Nat.pow_one, Nat.pow_one] at sp
        have er : RT (f j).natAbs 1 = (f j).natAbs := by omega
        refine k_copy h2 (d := 27) (a := 26) (by decide) (by decide) (fun N3 f3 h3 => ?_)
        refine k_copy h3 (a := 27) (by omega) (by decide) (fun N4 f4 h4 => ?_)
        refine h1.set ((f2.tr f3).tr f4) h4 hi ?_ (fun x hx e => by rw [setK_n _ _ e, setK_n _ _ (by omega), setK_n _ _ (by omega)]) hbw hQ
        rw [setK_s, er]
        exact fj
    · rw [if_pos (Or.inr hk)] at hQ
      exact h1.same hQ
  · rw [if_neg (fun q => z q.2)] at hQ
    exact h1.same hQ
  · rw [if_neg (fun q => z q.1)] at hQ
    exact h1.same hQ
theorem k_isq {G : SH} {M : MS} {L : LV} {n w : Nat} {s : ST} {a : Int32} (h : KJ G M L n w s) {Q : Int32 → MS → Prop} (hQ : OQ G M L n w (oIsq n s a) Q) : w_X11_isSquare G (kO L.1) a M Q := by
  unfold w_X11_isSquare
  intro M1 e1
  obtain ⟨f, h1⟩ := h.go e1
  have hn := h1.n16
  unfold oIsq at hQ
  refine k_noB h1 (fun j hj ej => ?_) (fun z => ?_)
  · subst ej
    rw [if_pos (isR_nI (by omega) hj), ix_nI (by omega), ← h1.rg hj] at hQ
    obtain ⟨⟨e0, e1, e2⟩, ⟨g0, g1, g2⟩, -⟩ := id h1.ki.1
    have nj := h1.nh hj
    rw [e2, g2, cl (by omega), (h1.ki.2 j (by omega)).1.2.1, iS_ge0]
    refine ⟨vp_in_nI (by omega) (by decide), fun hs => ?_, fun hs => ?_⟩
    · rw [if_neg (by omega)] at hQ
      have fj : f j = (((f j).natAbs : Nat) : Int) := by omega
      refine k_copy h1.ki (d := 26) (by decide) (by omega) (fun N f2 h2 => ?_)
      refine k_rooted (k := 2) h2 rfl (by decide) (by decide) nj (by rw [setK_s]; exact fj) (fun N3 g f3 h3 r1 r2 => ?_)
      have nR : nl HB (RT (f j).natAbs 2) ≤ 80 := Nat.le_trans (nl_mono HB1 (RT_le _ (by decide))) nj
      refine k_product (d := 19) (a := 27) (b := 27) h3 (by decide) (by decide) (by decide) (by decide) (by decide) (by rw [r1, Int.natAbs_natCast]; omega) (fun N4 f4 h4 => ?_)
      rw [r1, ← Int.natCast_mul] at h4
      have h5 := h1.up ((f2.tr f3).tr f4) h4 (fun x hx => by rw [setK_n _ _ (by omega), r2 x (by omega) (by omega) (by omega), setK_n _ _ (by omega)])
      refine k_sizes (a := 19) (b := 26) h4 (by decide) (by decide) ?_
      have e19 : setK g 19 ((RT (f j).natAbs 2 * RT (f j).natAbs 2 : Nat) : Int) 19 = ((RT (f j).natAbs 2 * RT (f j).natAbs 2 : Nat) : Int) := setK_s _ _ _
      have e26 : setK g 19 ((RT (f j).natAbs 2 * RT (f j).natAbs 2 : Nat) : Int) 26 = f j := by rw [setK_n _ _ (by decide), r2 26 (by decide) (by decide) (by decide), setK_s]
      rw [e19, e26, Int.natAbs_natCast, cmp_eq0]
      refine ⟨fun q => ?_, fun q => ?_⟩
      · rw [if_neg q] at hQ
        exact h5.same hQ
      · rw [if_pos q] at hQ
        exact h5.same hQ
    · rw [if_pos (by omega)] at hQ
      exact h1.same hQ
  · rw [if_neg z] at hQ
    exact h1.same hQ
