/-! Lehmer: combine, takeStep, divisor -/
theorem two_prod {X Y : Int} {a b : Nat} (hs : (0 ≤ X ∧ Y ≤ 0) ∨ (X ≤ 0 ∧ 0 ≤ Y)) (x1 : -2147483648 ≤ X) (x2 : X ≤ 2147483648) (y1 : -2147483648 ≤ Y) (y2 : Y ≤ 2147483648) (ha : a < 4294967296) (hb : b < 4294967296) : -9223372034707292160 ≤ X * a + Y * b ∧ X * a + Y * b ≤ 9223372034707292160 := by
  have k : ∀ (Z : Int) (c : Nat), 0 ≤ Z → Z ≤ 2147483648 → c < 4294967296 → 0 ≤ Z * c ∧ Z * c ≤ 9223372034707292160 := by
    intro Z c h1 h2 h3
    refine ⟨Int.mul_nonneg h1 (by omega), ?_⟩
    have e1 : Z * (c : Int) ≤ Z * 4294967295 := Int.mul_le_mul_of_nonneg_left (by omega) h1
    omega
  rcases hs with ⟨h1, h2⟩ | ⟨h1, h2⟩
  · have k1 := k X a h1 x2 ha
    have k2 := k (-Y) b (by omega) (by omega) hb
    rw [Int.neg_mul] at k2
    omega
  · have k1 := k (-X) a (by omega) (by omega) ha
    have k2 := k Y b h2 y2 hb
    rw [Int.neg_mul] at k1
    omega
theorem s_comb_loop {G : SH} {o s u v pu pv xv : Nat} {X Y : Int} (hx : (xv : Int) = X * pu + Y * pv) (hxl : xv < BB ^ nl BB pu) (hs : (0 ≤ X ∧ Y ≤ 0) ∨ (X ≤ 0 ∧ 0 ≤ Y)) (x1 : -2147483648 ≤ X) (x2 : X ≤ 2147483648) (y1 : -2147483648 ≤ Y) (y2 : Y ≤ 2147483648) (is : Is G 8 s) (iu : Is G 8 u) (iv : Is G 8 v) (us : u ≠ s) (vs : v ≠ s) (hvu : pv ≤ pu) {Q : MS → Prop} :
    ∀ (t i : Nat) (M : MS) (cy : Int), i + t = nl BB pu → Ok G M → mR M o 3 = u → mR M o 4 = v → nl BB pu ≤ rmw G M s → Wh G M u pu false → Wh G M v pv false → -2147483648 ≤ cy → cy < 2147483648 → (vl BB (dgt M s) i : Int) + cy * (BB ^ i : Nat) = X * (pu % BB ^ i : Nat) + Y * (pv % BB ^ i : Nat) → (∀ N, Fr G M N [s] → Wh G N s xv false → Q N) → ∃ n, w_X3_combine_23 G Q n o s (lZ X) (lZ Y) (nI (nl BB pu)) (lZ cy) (nI i) M
  | 0, i, M, cy, hi, hO, e3, e4, hc, wu, wv, c1, c2, hv, hQ => by
    refine ⟨1, ?_⟩
    have hr := hO.1 s is
    rw [w_X3_combine_23, nI_leI (by omega) (by omega)]
    refine ⟨fun _ => s_keep hO is rfl hc (fun P f1 _ f3 => hQ P f1 ?_), fun h => absurd (by omega) h⟩
    have e : vl BB (dgt M s) (nl BB pu) = xv := by
      have hi2 : i = nl BB pu := by omega
      subst hi2
      rw [mod_all (Nat.le_refl _), mod_all (nl_mono BB1 hvu), ← hx] at hv
      have hl := vl_lt (B := BB) (f := dgt M s) (n := nl BB pu) (fun j _ => dgt_lt M s j)
      generalize BB ^ nl BB pu = W at *
      have hz : cy = 0 := by
        rcases Int.lt_or_le 0 cy with q | q
        · have : 1 * (W : Int) ≤ cy * (W : Int) := Int.mul_le_mul_of_nonneg_right q (by omega)
          omega
        · rcases Int.lt_or_le cy 0 with q2 | q2
          · have : cy * (W : Int) ≤ (-1) * (W : Int) := Int.mul_le_mul_of_nonneg_right (by omega) (by omega)
            omega
          · omega
      subst hz
      omega
    rw [e] at f3
    exact f3
  | t + 1, i, M, cy, hi, hO, e3, e4, hc, wu, wv, c1, c2, hv, hQ => by
    have hr := hO.1 s is
    have la := lim_l pu i
    have lb := lim_l pv i
    have tp := two_prod hs x1 x2 y1 y2 la lb
    generalize hz : cy + (X * (lim pu i : Int) + Y * (lim pv i : Int)) = z
    have f0 : Fr G M (wA M (mR M s 0) (upd (mA M (mR M s 0)) i (iZ z))) [s] := Fr.wA is _
    obtain ⟨n, ih⟩ := s_comb_loop hx hxl hs x1 x2 y1 y2 is iu iv us vs hvu (Q := Q) t (i + 1) (wA M (mR M s 0) (upd (mA M (mR M s 0)) i (iZ z))) (z / 4294967296) (by omega) (f0.ok hO) e3 e4 (by rw [f0.room]; exact hc) (f0.wh hO iu (ni1 us) wu) (f0.wh hO iv (ni1 vs) wv) (by omega) (by omega)
      (by
        rw [vl_s, vl_put (Nat.le_refl _), dgt_put_s, mod_s, mod_s, Nat.pow_succ]
        have hu := u32_iZ z
        generalize u32 (iZ z) = w at hu
        have hs2 : 4294967296 * (z / 4294967296) + z % 4294967296 = z := Int.mul_ediv_add_emod z 4294967296
        rw [← hu] at hs2
        generalize z / 4294967296 = k at hs2
        generalize hX : BB ^ i = W at hv
        have e1 : ((vl BB (dgt M s) i + w * W : Nat) : Int) + k * ((W * BB : Nat) : Int) = (vl BB (dgt M s) i : Int) + (4294967296 * k + w) * (W : Int) := by
          rw [Int.natCast_add, Int.natCast_mul, Int.natCast_mul, show ((BB : Nat) : Int) = 4294967296 from rfl]
          grind
        have e2 : X * ((pu % W + lim pu i * W : Nat) : Int) + Y * ((pv % W + lim pv i * W : Nat) : Int) = X * ((pu % W : Nat) : Int) + Y * ((pv % W : Nat) : Int) + (X * (lim pu i : Int) + Y * (lim pv i : Int)) * (W : Int) := by
          rw [Int.natCast_add, Int.natCast_mul, Int.natCast_add, Int.natCast_mul]
          grind
        have e3 : z * (W : Int) = cy * (W : Int) + (X * (lim pu i : Int) + Y * (lim pv i : Int)) * (W : Int) := by rw [← hz]; grind
        rw [e1, e2, hs2, e3]
        omega)
      (fun N f1 f2 => hQ N (f0.tr1 f1) f2)
    refine ⟨n + 1, ?_⟩
    rw [w_X3_combine_23, nI_leI (by omega) (by omega), cl (c := i) (by omega), e3]
    refine ⟨fun h => absurd h (by omega), fun _ => ?_⟩
    refine s_limb hO iu wu rfl (by omega) ?_
    rw [e4]
    refine s_limb hO iv wv rfl (by omega) ?_
    intro y ey
    rw [lN_lZ, lN_lZ, lZ_mul, lZ_mul, lZ_add, lZ_add, hz] at ey
    refine ⟨vp_in_nI (by unfold rmw at hc; omega) (by unfold rmw at hr; omega), fun N eN z' ez w ew => ?_⟩
    rw [ey, lZ_i] at eN
    rw [ey, shr_lZ32 (by omega) (by omega)] at ez
    rw [ew, nI_1, ez, eN]
    exact ih
theorem s_combine {G : SH} {M : MS} {o s u v pu pv xv : Nat} {X Y : Int} {x y : Int64} (hO : Ok G M) (hx : (xv : Int) = X * pu + Y * pv) (hxl : xv ≤ pu) (hs : (0 ≤ X ∧ Y ≤ 0) ∨ (X ≤ 0 ∧ 0 ≤ Y)) (x1 : -2147483648 ≤ X) (x2 : X ≤ 2147483648) (y1 : -2147483648 ≤ Y) (y2 : Y ≤ 2147483648) (is : Is G 8 s) (iu : Is G 8 u) (iv : Is G 8 v) (us : u ≠ s) (vs : v ≠ s) (hvu : pv ≤ pu) (e3 : mR M o 3 = u) (e4 : mR M o 4 = v) (hc : nl BB pu ≤ rmw G M s) (wu : Wh G M u pu false) (wv : Wh G M v pv false) (ex : x = lZ X) (ey : y = lZ Y) {Q : MS → Prop}
    (hQ : ∀ N, Fr G M N [s] → Wh G N s xv false → Q N) : w_X3_combine G o s x y M Q := by
  unfold w_X3_combine
  intro z ez
  have hr := hO.1 s is
  have hu := hO.1 u iu
  have wu1 := wu.1
  rw [e3, wu.2.1, mnI (by omega) (by unfold rmw at hr; omega), Nat.min_eq_left (by unfold rmw at hc; exact hc)] at ez
  rw [ez, ex, ey]
  have hl := (nl_le BB1 (nl BB pu) pu).mp (Nat.le_refl _)
  have := s_comb_loop hx (by omega) hs x1 x2 y1 y2 is iu iv us vs hvu (Q := Q) (nl BB pu) 0 M 0 (by omega) hO e3 e4 hc wu wv (by decide) (by decide) (by rw [vl_0, Nat.pow_zero, Nat.mod_one, Nat.mod_one]; simp) hQ
  exact this
theorem Fr.io {G : SH} {M N : MS} {X : List Nat} {o : Nat} (f : Fr G M N X) (ho : G.2.1 o ≠ 8) (k : Nat) : mI N o k = mI M o k := f.2.2.2.1 o k (fun z => ho (f.1 o z).2)
theorem s_takeStep {G : SH} {M : MS} {o dv xd qd u v s t rm pu pv : Nat} {X : List Nat} (hX : ∀ y ∈ X, Is G 8 y) (hO : Ok G M) (ho : G.2.1 o ≠ 8) (hdo : dv ≠ o) (hR : LeR M o dv xd qd u v s t) (hmem : ∀ y ∈ [xd, qd, u, v, s, t], y ∈ X) (hnd : NDL [xd, qd, u, v, s, t]) (hroom : ∀ y ∈ X, rmw G M y = rm) (wu : Wh G M u pu false) (wv : Wh G M v pv false) (hpv : 0 < pv) (cu : nl BB pu < rm) (cv : nl BB pv < rm) {Q : MS → Prop}
    (hQ : ∀ N, Fs G M N X [o] → LeR N o dv xd qd v s u t → Wh G N v pv false → Wh G N s (pu % pv) false → mI N o 0 = mI M o 0 + 1 → Q N) : w_X3_takeStep G o M Q := by
  unfold w_X3_takeStep
  have I : ∀ (k y : Nat), [xd, qd, u, v, s, t][k]? = some y → y ∈ X := fun k y h => hmem y (List.mem_of_getElem? h)
  have ne : ∀ (i j : Nat) {a b : Nat}, [xd, qd, u, v, s, t][i]? = some a → [xd, qd, u, v, s, t][j]? = some b → i ≠ j → a ≠ b := fun i j {a b} h1 h2 h3 => hnd.ne i j h1 h2 h3
  have i0 := I 0 xd rfl
  have i1 := I 1 qd rfl
  have i2 := I 2 u rfl
  have i3 := I 3 v rfl
  have i4 := I 4 s rfl
  obtain ⟨e0, e1, e2, e3, e4, e5, e6⟩ := id hR
  rw [e0, e2, e5, e3, e4]
  have r1 := hroom qd i1
  have r4 := hroom s i4
  have r0 := hroom xd i0
  refine s_split hO (hX qd i1) (hX s i4) (hX xd i0) (hX u i2) (hX v i3) e1 (ne 1 4 rfl rfl (by decide)) (ne 0 1 rfl rfl (by decide)) (ne 0 4 rfl rfl (by decide)) (ne 0 2 rfl rfl (by decide)) (ne 0 3 rfl rfl (by decide)) (ne 2 1 rfl rfl (by decide)) (ne 2 4 rfl rfl (by decide)) (ne 3 1 rfl rfl (by decide)) (ne 3 4 rfl rfl (by decide)) wu wv hpv (by omega) (by omega) (by omega) (fun M6 f6 _ w6 => ?_)
  intro M9 e9 M11 e11 M12 e12 M13 e13
  have hO6 := f6.ok hO
  have r := f6.2.1
  have wv6 := f6.wh hO (hX v i3) (ni3 (ne 3 1 rfl rfl (by decide)) (ne 3 4 rfl rfl (by decide)) (ne 3 0 rfl rfl (by decide))) wv
  rw [r, e4] at e9
  rw [e9, mR_wR_k M6 _ (by decide), r, e5] at e11
  rw [r, e3] at e12
  have g1 : Fs G M6 M12 [] [o] := by
    rw [e12, e11]
    exact ((Fs.wR ho _ _).tr (Fs.wR ho _ _)).tr (Fs.wR ho _ _)
  have g2 : Fs G M12 M13 [] [o] := by rw [e13]; exact Fs.wIo ho _ _
  have g := g1.tr g2
  have fx : Fs G M M6 X [o] := f6.fs hX (all1 ho) (all3 i1 i4 i0)
  have fy : Fs G M6 M13 X [o] := g.mono hX (all1 ho) (by simp) (by simp)
  have rr : ∀ a k, mR M13 a k = mR M12 a k := fun a k => by rw [e13, mR_wI]
  refine hQ M13 (fx.tr fy) ⟨?_, ?_, ?_, ?_, ?_, ?_, ?_⟩ (g.wh hO6 (hX v i3) (by simp) wv6) (g.wh hO6 (hX s i4) (by simp) w6) ?_
  · rw [rr, e12, e11, mR_wR_k _ _ (by decide), mR_wR_k _ _ (by decide), mR_wR_k _ _ (by decide), r]; exact e0
  · rw [g.2.2.1 dv 0 (ni1 hdo), r]; exact e1
  · rw [rr, e12, e11, mR_wR_k _ _ (by decide), mR_wR_k _ _ (by decide), mR_wR_k _ _ (by decide), r]; exact e2
  · rw [rr, e12, e11, mR_wR_k _ _ (by decide), mR_wR_k _ _ (by decide), mR_wR_s]
  · rw [rr, e12, e11, mR_wR_k _ _ (by decide), mR_wR_s]
  · rw [rr, e12, mR_wR_s]
  · rw [rr, e12, e11, mR_wR_k _ _ (by decide), mR_wR_k _ _ (by decide), mR_wR_k _ _ (by decide), r]; exact e6
  · rw [e13, mI_wI_s, e12, mI_wR, e11, mI_wR, mI_wR, f6.io ho]
theorem s_combineBoth {G : SH} {M : MS} {o dv xd qd u v s t rm pu pv U0 V0 x y : Nat} {U V A B C D : Int} {X : List Nat} (hX : ∀ y ∈ X, Is G 8 y) (hO : Ok G M) (ho : G.2.1 o ≠ 8) (hdo : dv ≠ o) (hR : LeR M o dv xd qd u v s t) (hmem : ∀ y ∈ [xd, qd, u, v, s, t], y ∈ X) (hnd : NDL [xd, qd, u, v, s, t]) (hroom : ∀ y ∈ X, rmw G M y = rm) (wu : Wh G M u pu false) (wv : Wh G M v pv false) (hvu : pv ≤ pu) (cu : nl BB pu < rm) (hI : LI pu pv U0 V0 U V A B C D x y) (hB : B ≠ 0) (j7 : mJ M o 7 = lZ A) (j8 : mJ M o 8 = lZ B) (j9 : mJ M o 9 = lZ C) (j10 : mJ M o 10 = lZ D) {Q : MS → Prop}
    (hQ : ∀ N, Fs G M N X [o] → LeR N o dv xd qd s t u v → Wh G N s x false → Wh G N t y false → mI N o 0 = mI M o 0 → Q N) : w_X3_combineBoth G o M Q := by
  unfold w_X3_combineBoth
  have I : ∀ (k y : Nat), [xd, qd, u, v, s, t][k]? = some y → y ∈ X := fun k y h => hmem y (List.mem_of_getElem? h)
  have ne : ∀ (i j : Nat) {a b : Nat}, [xd, qd, u, v, s, t][i]? = some a → [xd, qd, u, v, s, t][j]? = some b → i ≠ j → a ≠ b := fun i j {a b} h1 h2 h3 => hnd.ne i j h1 h2 h3
  have i2 := I 2 u rfl
  have i3 := I 3 v rfl
  have i4 := I 4 s rfl
  have i5 := I 5 t rfl
  obtain ⟨e0, e1, e2, e3, e4, e5, e6⟩ := id hR
  obtain ⟨-, -, hs, -, ⟨b1, b2, b3, b4, b5, b6, b7, b8⟩, ⟨ex, ey⟩, -, hst, -⟩ := hI
  have hst2 : x ≤ pv ∧ y < x := by
    rcases hst with ⟨-, z, -, -⟩ | ⟨-, -, z1, z2⟩
    · exact absurd z hB
    · exact ⟨z1, z2⟩
  have r4 := hroom s i4
  have r5 := hroom t i5
  rw [e5]
  refine s_combine hO ex (by omega) (by omega) b1 b2 b3 b4 (hX s i4) (hX u i2) (hX v i3) (ne 2 4 rfl rfl (by decide)) (ne 3 4 rfl rfl (by decide)) hvu e3 e4 (by omega) wu wv j7 j8 (fun M2 f2 w2 => ?_)
  have hO2 := f2.ok hO
  have hR2 := f2.ler hR
  rw [hR2.2.2.2.2.2.2]
  refine s_combine hO2 ey (by omega) (by omega) b5 b6 b7 b8 (hX t i5) (hX u i2) (hX v i3) (ne 2 5 rfl rfl (by decide)) (ne 3 5 rfl rfl (by decide)) hvu hR2.2.2.2.1 hR2.2.2.2.2.1 (by rw [f2.room]; omega) (f2.wh hO (hX u i2) (ni1 (ne 2 4 rfl rfl (by decide))) wu) (f2.wh hO (hX v i3) (ni1 (ne 3 4 rfl rfl (by decide))) wv) (by rw [f2.2.2.1]; exact j9) (by rw [f2.2.2.1]; exact j10) (fun M4 f4 w4 => ?_)
  have hO4 := f4.ok hO2
  obtain ⟨d0, d1, d2, d3, d4, d5, d6⟩ := f4.ler hR2
  intro M8 e8 M10 e10 M11 e11 M12 e12
  rw [d5] at e8
  rw [e8, mR_wR_k M4 _ (by decide), d6] at e10
  rw [d3] at e11
  rw [d4] at e12
  have g1 : Fs G M4 M12 [] [o] := by
    rw [e12, e11, e10]
    exact (((Fs.wR ho _ _).tr (Fs.wR ho _ _)).tr (Fs.wR ho _ _)).tr (Fs.wR ho _ _)
  have fx : Fs G M M2 X [o] := f2.fs hX (all1 ho) (all1 i4)
  have fx2 : Fs G M2 M4 X [o] := f4.fs hX (all1 ho) (all1 i5)
  have fy : Fs G M4 M12 X [o] := g1.mono hX (all1 ho) (by simp) (by simp)
  refine hQ M12 ((fx.tr fx2).tr fy) ⟨?_, ?_, ?_, ?_, ?_, ?_, ?_⟩ (g1.wh hO4 (hX s i4) (by simp) (f4.wh hO2 (hX s i4) (ni1 (ne 4 5 rfl rfl (by decide))) w2)) (g1.wh hO4 (hX t i5) (by simp) w4) ?_
  · rw [e12, e11, e10, mR_wR_k _ _ (by decide), mR_wR_k _ _ (by decide), mR_wR_k _ _ (by decide), mR_wR_k _ _ (by decide)]; exact d0
  · rw [g1.2.2.1 dv 0 (ni1 hdo)]; exact d1
  · rw [e12, e11, e10, mR_wR_k _ _ (by decide), mR_wR_k _ _ (by decide), mR_wR_k _ _ (by decide), mR_wR_k _ _ (by decide)]; exact d2
  · rw [e12, e11, e10, mR_wR_k _ _ (by decide), mR_wR_k _ _ (by decide), mR_wR_k _ _ (by decide), mR_wR_s]
  · rw [e12, e11, e10, mR_wR_k _ _ (by decide), mR_wR_k _ _ (by decide), mR_wR_s]
  · rw [e12, e11, mR_wR_k _ _ (by decide), mR_wR_s]
  · rw [e12, mR_wR_s]
  · rw [e12, mI_wR, e11, mI_wR, e10, mI_wR, mI_wR, f4.io ho, f2.io ho]
theorem s_gcdL_loop {G : SH} {M : MS} {g : Nat} {Q : Int32 → MS → Prop} (hQ : Q (nI g) M) : ∀ (n r s t : Nat), r < 4294967296 → s < 4294967296 → Nat.gcd r s = g → EM r s < n → t + n ≤ 10000 → w_X3_divisorOfLimbs_9 G Q n (lN r) (lN s) (nI t) M
  | 0, r, s, t, _, _, _, hn, _ => absurd hn (Nat.not_lt_zero _)
  | n + 1, r, s, t, hr, hs, hg, hn, ht => by
    rw [w_X3_divisorOfLimbs_9, show (1000000 : Int32) = nI 1000000 from rfl, nI_leI (by decide) (by omega), lN_i, show (0 : Int64) = lN 0 from rfl, pk_lEQ (by omega) (by decide)]
    refine ⟨fun h => absurd h (by omega), fun _ => ⟨fun h => ?_, fun h => ⟨h, fun x ex y ey => ?_⟩⟩⟩
    · subst h
      rw [Nat.gcd_zero_right] at hg
      rw [hg]
      exact hQ
    · have hm := Nat.div_add_mod r s
      have hm2 := Nat.mod_lt r (show 0 < s by omega)
      rw [pk_lDiv (by omega) (by omega) (by omega), lN_lZ, lN_lZ, lN_lZ, lZ_mul, lZ_sub] at ex
      have e : (r : Int) - (r / s : Nat) * (s : Int) = (r % s : Nat) := by
        have : ((s * (r / s) + r % s : Nat) : Int) = r := by rw [hm]
        rw [Int.natCast_add, Int.natCast_mul] at this
        grind
      rw [e, ← lN_lZ] at ex
      rw [ex, ey, nI_1]
      have hEM := EM_lt (u := r) (v := s) (by omega)
      exact s_gcdL_loop hQ n s (r % s) (t + 1) hs (by omega) (by rw [← hg, Nat.gcd_comm r s, Nat.gcd_rec s r, Nat.gcd_comm]) (by omega) (by omega)
theorem s_divisorOfLimbs {G : SH} {M : MS} {r s : Nat} {Q : Int32 → MS → Prop} (hr : r < 4294967296) (hs : s < 4294967296) (hQ : Q (nI (Nat.gcd r s)) M) : w_X3_divisorOfLimbs G (lN r) (lN s) M Q := by
  unfold w_X3_divisorOfLimbs
  refine ⟨200, ?_⟩
  rw [← nI_0]
  have := EM_le (u := r) (v := s) (n := 1) ((nl_le BB1 1 r).mpr hr) ((nl_le BB1 1 s).mpr hs)
  exact s_gcdL_loop hQ 200 r s 0 hr hs rfl (by omega) (by decide)
